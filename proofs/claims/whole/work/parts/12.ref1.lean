set_option maxHeartbeats 4000000 in
set_option maxRecDepth 100000 in
theorem c_X3_in (l : Launch) (p0 : Int32) (p1 : Int32) (p2 : Int32) : Met l yX3_in wsX3_in ({ frames := 0, cells := 0, slots := 0, locals := 0 }) (va_Pc [.int p0, .int p1, .int p2] (fun _ => True)) (vp_Si (fun r : Int32 => r = zB (¬ (p0 < p1 ∨ p2 < p0)))) 0 0 (fun _ => False) := by
  refine Met.ofW (cc := cX3_in) (maxL := 3) (ret := (some .boolean)) (by decide) rfl ?_
  intro p e s m args below meth c s₁ B hml hv0
  obtain ⟨rfl, -⟩ := hv0
  have hx := B.exec
  have hb := B.bytes
  have hr := B.returns
  have hts := atoms_spec (ws := wsX3_in) B.pre
  have hown : s.vm.findClass RX3 = some m.cls := findClass_of_methodNamed B.named
  have hlocks := B.notSynchronized
  have hl := lv_entry ([.int p0, .int p1, .int p2]) (n := 3) (Nat.le_of_ble_eq_true rfl)
  rw [lg_entry_eq]
  generalize (lg_sl ([.int p0, .int p1, .int p2]) ++ List.replicate (3 - (lg_sl ([.int p0, .int p1, .int p2])).length) Slot.unset).toArray = ls at hl ⊢
  have hl : lv_has ls 3 [(0, .int p0), (1, .int p1), (2, .int p2)] := hl
  refine lv_iload_n hx hb dX3_in_0 rfl (lv_at hl 0 rfl) ?_
  refine lv_iload_n hx hb dX3_in_1 rfl (lv_at hl 1 rfl) ?_
  refine lv_icmp_lt (tgt := 14) hx hb dX3_in_2 (by decide) (fun c_1 => ?_) (fun c_1 => ?_)
  · refine lv_iconst (v := 0) hx hb dX3_in_14 (by decide) ?_
    exact W.zret (v := 0) (ty := .boolean) hx hb hr (rfl) (fun t9 ht hW => ⟨_, rfl, (by simp only [c_1, zB, not_true_eq_false, not_false_eq_true, and_self, and_true, true_and, and_false, false_and, or_self, or_true, true_or, or_false, false_or, if_true, if_false, ↓reduceIte, Bool.false_eq_true, iff_self, iff_true, iff_false, true_iff, false_iff, Nat.add_zero, Nat.or_zero]), ht⟩) (fun _ h => absurd h List.not_mem_nil) dX3_in_15
  · refine lv_iload_n hx hb dX3_in_5 rfl (lv_at hl 0 rfl) ?_
    refine lv_iload_n hx hb dX3_in_6 rfl (lv_at hl 2 rfl) ?_
    refine lv_icmp_gt (tgt := 14) hx hb dX3_in_7 (by decide) (fun c_2 => ?_) (fun c_2 => ?_)
    · refine lv_iconst (v := 0) hx hb dX3_in_14 (by decide) ?_
      exact W.zret (v := 0) (ty := .boolean) hx hb hr (rfl) (fun t9 ht hW => ⟨_, rfl, (by simp only [c_1, c_2, zB, not_true_eq_false, not_false_eq_true, and_self, and_true, true_and, and_false, false_and, or_self, or_true, true_or, or_false, false_or, if_true, if_false, ↓reduceIte, Bool.false_eq_true, iff_self, iff_true, iff_false, true_iff, false_iff, Nat.add_zero, Nat.or_zero]), ht⟩) (fun _ h => absurd h List.not_mem_nil) dX3_in_15
    · refine lv_iconst (v := 1) hx hb dX3_in_10 (by decide) ?_
      refine lv_goto (tgt := 15) hx hb dX3_in_11 (by decide) ?_
      exact W.zret (v := 1) (ty := .boolean) hx hb hr (rfl) (fun t9 ht hW => ⟨_, rfl, (by simp only [c_1, c_2, zB, not_true_eq_false, not_false_eq_true, and_self, and_true, true_and, and_false, false_and, or_self, or_true, true_or, or_false, false_or, if_true, if_false, ↓reduceIte, Bool.false_eq_true, iff_self, iff_true, iff_false, true_iff, false_iff, Nat.add_zero, Nat.or_zero]), ht⟩) (fun _ h => absurd h List.not_mem_nil) dX3_in_15
set_option maxHeartbeats 4000000 in
set_option maxRecDepth 100000 in
theorem c_X3_places (l : Launch) (D : va_G) (cI cZ : ClassId) (hs ta : Nat) (q : Nat → Nat) (a : ZA) (im : Nat → Int32) (kp : Nat → Int32) (lf : Nat → Int32) (rw : Nat → Int32) (fn : Nat → Int32) (kn : Nat) (hd : a.1 ≤ 4) : Met l yX3_places wsX3_places ({ frames := 0, cells := 0, slots := 0, locals := 0 }) (va_Pc [.ref (q 0)] (zPre D (zTy cI cZ) hs ta (zcM cI cZ q (zst a) im kp lf rw fn kn))) (vp_Si (fun r : Int32 => r = nI (2 ^ a.1))) 0 0 (fun _ => False) := by
  refine Met.ofW (cc := cX3_places) (maxL := 1) (ret := (some .int)) (by decide) rfl ?_
  intro p e s m args below meth c s₁ B hml hv0
  obtain ⟨rfl, hP, hD, hG⟩ := hv0
  have hx := B.exec
  have hb := B.bytes
  have hr := B.returns
  have hts := atoms_spec (ws := wsX3_places) B.pre
  have hown : s.vm.findClass RX3 = some m.cls := findClass_of_methodNamed B.named
  have hlocks := B.notSynchronized
  have hK := hG.1
  have hS : va_S (zA hs) s.heap s.heap [] := va_S.rf
  have hAz : ∀ q, zA hs q → hs ≤ q := fun _ h => h
  have hl := lv_entry ([.ref (q 0)]) (n := 1) (Nat.le_of_ble_eq_true rfl)
  rw [lg_entry_eq]
  generalize (lg_sl ([.ref (q 0)]) ++ List.replicate (1 - (lg_sl ([.ref (q 0)])).length) Slot.unset).toArray = ls at hl ⊢
  have hl : lv_has ls 1 [(0, .ref (q 0))] := hl
  have hf7 := hts (.fieldLink RX3 7 "FrozenBitsModel" "state" "[I") (List.mem_of_getElem? (i := 1) rfl)
  have hiX3 : ∀ w ∈ u_ws RX3 TX3 7, w ∈ wsX3_places := fun w h => List.mem_cons_of_mem _ (List.mem_append_right _ h)
  refine lv_iconst (v := 1) hx hb dX3_places_0 (by decide) ?_
  refine lv_aload_n hx hb dX3_places_1 rfl (lv_at hl 0 rfl) ?_
  refine va_get (ci := 3) (C := RX3) (T := TX3) (N := 7) hx hb hts hiX3 hown hK hP 0 rfl rfl 0 (by decide) hf7 (fun _ h9 => h9) rfl dX3_places_2 ?_
  refine lv_iconst (v := 0) hx hb dX3_places_5 (by decide) ?_
  refine zz_iald hx hb hK hP 1 0 rfl rfl (i := 0) (show (0 : Int32) = nI 0 from rfl) (by decide) (by decide) dX3_places_6 ?_
  refine zz_topi (nI (a.1)) rfl ?_
  refine lv_ishl hx hb dX3_places_7 ?_
  refine zz_topi (nI (2 ^ a.1)) (zz_shl1n rfl (by omega)) ?_
  exact W.iret (v := (nI (2 ^ a.1))) hx hb hr (fun t9 ht hW => ⟨_, rfl, (by rfl), ht⟩) (fun _ h => absurd h List.not_mem_nil) dX3_places_8
set_option maxHeartbeats 4000000 in
set_option maxRecDepth 100000 in
theorem c_X3_isPlace (l : Launch) (D : va_G) (cI cZ : ClassId) (hs ta : Nat) (q : Nat → Nat) (a : ZA) (im : Nat → Int32) (kp : Nat → Int32) (lf : Nat → Int32) (rw : Nat → Int32) (fn : Nat → Int32) (kn : Nat) (p0 : Int32) (hI : zInv a) : Met l yX3_isPlace wsX3_isPlace ({ frames := 1, cells := 0, slots := 0, locals := 22 }) (va_Pc [.ref (q 0), .int p0] (zPre D (zTy cI cZ) hs ta (zcM cI cZ q (zst a) im kp lf rw fn kn))) (vp_Si (fun r : Int32 => r = zB (¬ p0 < 0 ∧ p0 < nI (2 ^ a.1)))) 0 0 (fun _ => False) := by
  refine Met.ofW (cc := cX3_isPlace) (maxL := 2) (ret := (some .boolean)) (by decide) rfl ?_
  intro p e s m args below meth c s₁ B hml hv0
  obtain ⟨rfl, hP, hD, hG⟩ := hv0
  have hx := B.exec
  have hb := B.bytes
  have hr := B.returns
  have hts := atoms_spec (ws := wsX3_isPlace) B.pre
  have hown : s.vm.findClass RX3 = some m.cls := findClass_of_methodNamed B.named
  have hlocks := B.notSynchronized
  have hK := hG.1
  have hS : va_S (zA hs) s.heap s.heap [] := va_S.rf
  have hAz : ∀ q, zA hs q → hs ≤ q := fun _ h => h
  have hl := lv_entry ([.ref (q 0), .int p0]) (n := 2) (Nat.le_of_ble_eq_true rfl)
  rw [lg_entry_eq]
  generalize (lg_sl ([.ref (q 0), .int p0]) ++ List.replicate (2 - (lg_sl ([.ref (q 0), .int p0])).length) Slot.unset).toArray = ls at hl ⊢
  have hl : lv_has ls 2 [(0, .ref (q 0)), (1, .int p0)] := hl
  refine lv_iload_n hx hb dX3_isPlace_0 rfl (lv_at hl 1 rfl) ?_
  refine lv_iconst (v := 0) hx hb dX3_isPlace_1 (by decide) ?_
  refine lv_aload_n hx hb dX3_isPlace_2 rfl (lv_at hl 0 rfl) ?_
  refine zz_cVi (cs := zcM cI cZ q (zst a) im kp lf rw fn kn) (As := []) (rest := [.int 0, .int p0]) ⟨hx, hb, hml, hown, hts⟩ (c_X3_places l D cI cZ hs ta q a im kp lf rw fn kn hI.1.2) (cwV 0 hts gX3_isPlace_X3_places rfl rfl rfl (by decide +kernel) ⟨Nat.le_of_ble_eq_true rfl, Nat.le_of_ble_eq_true rfl⟩) (va_recv hK hP (ci := 3) (q0 := 0) rfl rfl) hP hD hG hS hAz rfl hl.1 rfl (Nat.le_of_ble_eq_true rfl) ⟨Nat.zero_le _, Nat.zero_le _⟩ dX3_isPlace_3 (fun r_1 er_1 => ?_)
  subst er_1
  refine lv_iconst (v := 1) hx hb dX3_isPlace_6 (by decide) ?_
  refine lv_isub hx hb dX3_isPlace_7 ?_
  refine zz_topi (nI ((2 ^ a.1) - 1)) (zz_subn rfl (show (1 : Int32) = nI 1 from rfl) (Nat.one_le_two_pow)) ?_
  refine zz_pSi (As := [.int p0, .int 0, .int (nI ((2 ^ a.1) - 1))]) (rest := []) ⟨hx, hb, hml, hown, hts⟩ (c_X3_in l p0 0 (nI ((2 ^ a.1) - 1))) (va_cwS 3 hts gX3_isPlace_X3_in rfl rfl rfl (by decide +kernel) ⟨Nat.le_of_ble_eq_true rfl, Nat.le_of_ble_eq_true rfl⟩) rfl hl.1 rfl (Nat.le_of_ble_eq_true rfl) ⟨Nat.zero_le _, Nat.zero_le _⟩ dX3_isPlace_8 (fun r_2 er_2 => ?_)
  exact W.zret (v := r_2) (ty := .boolean) hx hb hr (zB_nar er_2) (fun t9 ht hW => ⟨_, rfl, (by rw [er_2]; exact zB_cong (zin_iff (Nat.two_pow_pos _) (by have := zNp hI; omega))), ht⟩) (fun _ h => absurd h List.not_mem_nil) dX3_isPlace_11
set_option maxHeartbeats 4000000 in
set_option maxRecDepth 100000 in
theorem c_X3_isRow (l : Launch) (D : va_G) (cI cZ : ClassId) (hs ta : Nat) (q : Nat → Nat) (a : ZA) (im : Nat → Int32) (kp : Nat → Int32) (lf : Nat → Int32) (rw : Nat → Int32) (fn : Nat → Int32) (kn : Nat) (p0 : Int32) (hI : zInv a) : Met l yX3_isRow wsX3_isRow ({ frames := 1, cells := 0, slots := 0, locals := 22 }) (va_Pc [.ref (q 0), .int p0] (zPre D (zTy cI cZ) hs ta (zcM cI cZ q (zst a) im kp lf rw fn kn))) (vp_Si (fun r : Int32 => r = zB (¬ p0 < 0 ∧ p0 < nI (2 ^ 2 ^ a.1)))) 0 0 (fun _ => False) := by
  refine Met.ofW (cc := cX3_isRow) (maxL := 2) (ret := (some .boolean)) (by decide) rfl ?_
  intro p e s m args below meth c s₁ B hml hv0
  obtain ⟨rfl, hP, hD, hG⟩ := hv0
  have hx := B.exec
  have hb := B.bytes
  have hr := B.returns
  have hts := atoms_spec (ws := wsX3_isRow) B.pre
  have hown : s.vm.findClass RX3 = some m.cls := findClass_of_methodNamed B.named
  have hlocks := B.notSynchronized
  have hK := hG.1
  have hS : va_S (zA hs) s.heap s.heap [] := va_S.rf
  have hAz : ∀ q, zA hs q → hs ≤ q := fun _ h => h
  have hl := lv_entry ([.ref (q 0), .int p0]) (n := 2) (Nat.le_of_ble_eq_true rfl)
  rw [lg_entry_eq]
  generalize (lg_sl ([.ref (q 0), .int p0]) ++ List.replicate (2 - (lg_sl ([.ref (q 0), .int p0])).length) Slot.unset).toArray = ls at hl ⊢
  have hl : lv_has ls 2 [(0, .ref (q 0)), (1, .int p0)] := hl
  refine lv_iload_n hx hb dX3_isRow_0 rfl (lv_at hl 1 rfl) ?_
  refine lv_iconst (v := 0) hx hb dX3_isRow_1 (by decide) ?_
  refine lv_iconst (v := 1) hx hb dX3_isRow_2 (by decide) ?_
  refine lv_aload_n hx hb dX3_isRow_3 rfl (lv_at hl 0 rfl) ?_
  refine zz_cVi (cs := zcM cI cZ q (zst a) im kp lf rw fn kn) (As := []) (rest := [.int 1, .int 0, .int p0]) ⟨hx, hb, hml, hown, hts⟩ (c_X3_places l D cI cZ hs ta q a im kp lf rw fn kn hI.1.2) (cwV 0 hts gX3_isRow_X3_places rfl rfl rfl (by decide +kernel) ⟨Nat.le_of_ble_eq_true rfl, Nat.le_of_ble_eq_true rfl⟩) (va_recv hK hP (ci := 3) (q0 := 0) rfl rfl) hP hD hG hS hAz rfl hl.1 rfl (Nat.le_of_ble_eq_true rfl) ⟨Nat.zero_le _, Nat.zero_le _⟩ dX3_isRow_4 (fun r_1 er_1 => ?_)
  subst er_1
  refine lv_ishl hx hb dX3_isRow_7 ?_
  refine zz_topi (nI (2 ^ (2 ^ a.1))) (zz_shl1n rfl (by have := zNp hI; omega)) ?_
  refine lv_iconst (v := 1) hx hb dX3_isRow_8 (by decide) ?_
  refine lv_isub hx hb dX3_isRow_9 ?_
  refine zz_topi (nI ((2 ^ (2 ^ a.1)) - 1)) (zz_subn rfl (show (1 : Int32) = nI 1 from rfl) (Nat.one_le_two_pow)) ?_
  refine zz_pSi (As := [.int p0, .int 0, .int (nI ((2 ^ (2 ^ a.1)) - 1))]) (rest := []) ⟨hx, hb, hml, hown, hts⟩ (c_X3_in l p0 0 (nI ((2 ^ (2 ^ a.1)) - 1))) (va_cwS 3 hts gX3_isRow_X3_in rfl rfl rfl (by decide +kernel) ⟨Nat.le_of_ble_eq_true rfl, Nat.le_of_ble_eq_true rfl⟩) rfl hl.1 rfl (Nat.le_of_ble_eq_true rfl) ⟨Nat.zero_le _, Nat.zero_le _⟩ dX3_isRow_10 (fun r_2 er_2 => ?_)
  exact W.zret (v := r_2) (ty := .boolean) hx hb hr (zB_nar er_2) (fun t9 ht hW => ⟨_, rfl, (by rw [er_2]; exact zB_cong (zin_iff (Nat.two_pow_pos _) (by have := zNN hI; omega))), ht⟩) (fun _ h => absurd h List.not_mem_nil) dX3_isRow_13
set_option maxHeartbeats 4000000 in
set_option maxRecDepth 100000 in
theorem c_X3_size (l : Launch) (z : Nat) (hz : z < 65536) : Met l yX3_size wsX3_size ({ frames := 0, cells := 0, slots := 0, locals := 0 }) (va_Pc [.int (nI z)] (fun _ => True)) (vp_Si (fun r : Int32 => r = nI (zpc z))) 0 0 (fun _ => False) := by
  refine Met.ofW (cc := cX3_size) (maxL := 3) (ret := (some .int)) (by decide) rfl ?_
  intro p e s m args below meth c s₁ B hml hv0
  obtain ⟨rfl, -⟩ := hv0
  have hx := B.exec
  have hb := B.bytes
  have hr := B.returns
  have hts := atoms_spec (ws := wsX3_size) B.pre
  have hown : s.vm.findClass RX3 = some m.cls := findClass_of_methodNamed B.named
  have hlocks := B.notSynchronized
  have hl := lv_entry ([.int (nI z)]) (n := 3) (Nat.le_of_ble_eq_true rfl)
  rw [lg_entry_eq]
  generalize (lg_sl ([.int (nI z)]) ++ List.replicate (3 - (lg_sl ([.int (nI z)])).length) Slot.unset).toArray = ls at hl ⊢
  have hl : lv_has ls 3 [(0, .int (nI z))] := hl
  refine lv_iconst (v := 0) hx hb dX3_size_0 (by decide) ?_
  refine lv_istore_n (lv' := [(1, .int 0), (0, .int (nI z))]) hx hb dX3_size_1 rfl hl (by decide) rfl (fun ls hl => ?_)
  refine lv_iconst (v := 0) hx hb dX3_size_2 (by decide) ?_
  refine lv_istore_n (lv' := [(2, .int 0), (1, .int 0), (0, .int (nI z))]) hx hb dX3_size_3 rfl hl (by decide) rfl (fun ls hl => ?_)
  have hl : lv_has ls 3 [(2, .int (nI 0)), (1, .int (nI (zsz z 0))), (0, .int (nI z))] := hl
  refine zz_forJ (nL := 3) (16) (fun i => [(2, .int (nI i)), (1, .int (nI (zsz z i))), (0, .int (nI z))]) (J := fun _ => True) ?_ ?_ (trivial) (lv_sub hl [0, 1, 2] rfl)
  · intro hJ ls hl
    refine lv_iload_n hx hb dX3_size_4 rfl (lv_at hl 0 rfl) ?_
    refine lv_bipush (v := 16) hx hb dX3_size_5 (by decide) ?_
    refine lv_icmp_ge (tgt := 24) hx hb dX3_size_7 (by decide) (fun c_1 => ?_) (fun c_1 => ?_)
    · replace c_1 := Int32.not_lt.mpr c_1
      refine lv_iload_n hx hb dX3_size_24 rfl (lv_at hl 1 rfl) ?_
      exact W.iret (v := (nI (zsz z 16))) hx hb hr (fun t9 ht hW => ⟨_, rfl, (by rw [zsz_16]), ht⟩) (fun _ h => absurd h List.not_mem_nil) dX3_size_25
    · replace c_1 := Int32.not_le.mp c_1
      exact absurd c_1 (nI_nlt (Nat.le_refl _) (by decide))
  · intro i hi hJ ihi ls hl
    refine lv_iload_n hx hb dX3_size_4 rfl (lv_at hl 0 rfl) ?_
    refine lv_bipush (v := 16) hx hb dX3_size_5 (by decide) ?_
    refine lv_icmp_ge (tgt := 24) hx hb dX3_size_7 (by decide) (fun c_2 => ?_) (fun c_2 => ?_)
    · replace c_2 := Int32.not_lt.mpr c_2
      exact absurd (nI_lt hi (by decide)) c_2
    · replace c_2 := Int32.not_le.mp c_2
      refine lv_iload_n hx hb dX3_size_10 rfl (lv_at hl 1 rfl) ?_
      refine lv_iload_n hx hb dX3_size_11 rfl (lv_at hl 2 rfl) ?_
      refine lv_iload_n hx hb dX3_size_12 rfl (lv_at hl 0 rfl) ?_
      refine lv_ishr hx hb dX3_size_13 ?_
      refine zz_topi (nI (z >>> i)) (zz_shrn rfl rfl (by omega) (by omega)) ?_
      refine lv_iconst (v := 1) hx hb dX3_size_14 (by decide) ?_
      refine lv_iand hx hb dX3_size_15 ?_
      refine zz_topi (nI ((z >>> i) &&& 1)) (zz_andn rfl (show (1 : Int32) = nI 1 from rfl)) ?_
      refine lv_iadd hx hb dX3_size_16 ?_
      refine zz_topi (nI ((zsz z i) + ((z >>> i) &&& 1))) (zz_addn rfl rfl) ?_
      refine lv_istore_n (lv' := [(1, .int (nI ((zsz z i) + ((z >>> i) &&& 1)))), (2, .int (nI i)), (0, .int (nI z))]) hx hb dX3_size_17 rfl hl (by decide) rfl (fun ls hl => ?_)
      refine lv_iinc (v := (nI (i + 1))) (lv' := [(2, .int (nI (i + 1))), (1, .int (nI ((zsz z i) + ((z >>> i) &&& 1)))), (0, .int (nI z))]) hx hb dX3_size_18 hl (k := 1) rfl (zz_inc _) (by decide) rfl (fun ls hl => ?_)
      refine lv_goto (tgt := 4) hx hb dX3_size_21 (by decide) ?_
      rw [show ((nI ((zsz z i) + ((z >>> i) &&& 1))) : Int32) = (nI (zsz z (i + 1))) from congrArg nI (zsz_s z i)] at hl
      have hl : lv_has ls 3 [(2, .int (nI ((i + 1)))), (1, .int (nI (zsz z (i + 1)))), (0, .int (nI z))] := hl
      exact ihi (trivial) ls (lv_sub hl [0, 1, 2] rfl)
set_option maxHeartbeats 4000000 in
set_option maxRecDepth 100000 in
theorem c_X3_plain (l : Launch) (p0 : Int32) : Met l yX3_plain wsX3_plain ({ frames := 0, cells := 0, slots := 0, locals := 0 }) (va_Pc [.int p0] (fun _ => True)) (vp_Si (fun r : Int32 => r = zab p0)) 0 0 (fun _ => False) := by
  refine Met.ofW (cc := cX3_plain) (maxL := 1) (ret := (some .int)) (by decide) rfl ?_
  intro p e s m args below meth c s₁ B hml hv0
  obtain ⟨rfl, -⟩ := hv0
  have hx := B.exec
  have hb := B.bytes
  have hr := B.returns
  have hts := atoms_spec (ws := wsX3_plain) B.pre
  have hown : s.vm.findClass RX3 = some m.cls := findClass_of_methodNamed B.named
  have hlocks := B.notSynchronized
  have hl := lv_entry ([.int p0]) (n := 1) (Nat.le_of_ble_eq_true rfl)
  rw [lg_entry_eq]
  generalize (lg_sl ([.int p0]) ++ List.replicate (1 - (lg_sl ([.int p0])).length) Slot.unset).toArray = ls at hl ⊢
  have hl : lv_has ls 1 [(0, .int p0)] := hl
  refine lv_iload_n hx hb dX3_plain_0 rfl (lv_at hl 0 rfl) ?_
  refine lv_if_ge (tgt := 9) hx hb dX3_plain_1 (by decide) (fun c_1 => ?_) (fun c_1 => ?_)
  · replace c_1 := Int32.not_lt.mpr c_1
    refine lv_iload_n hx hb dX3_plain_9 rfl (lv_at hl 0 rfl) ?_
    exact W.iret (v := p0) hx hb hr (fun t9 ht hW => ⟨_, rfl, (by unfold zab; rw [if_pos (Int32.not_lt.mp c_1)]), ht⟩) (fun _ h => absurd h List.not_mem_nil) dX3_plain_10
  · replace c_1 := Int32.not_le.mp c_1
    refine lv_iload_n hx hb dX3_plain_4 rfl (lv_at hl 0 rfl) ?_
    refine lv_ineg hx hb dX3_plain_5 ?_
    refine lv_goto (tgt := 10) hx hb dX3_plain_6 (by decide) ?_
    exact W.iret (v := (-p0)) hx hb hr (fun t9 ht hW => ⟨_, rfl, (by unfold zab; rw [if_neg (Int32.not_le.mpr c_1), Int32.zero_sub]), ht⟩) (fun _ h => absurd h List.not_mem_nil) dX3_plain_10
set_option maxHeartbeats 4000000 in
set_option maxRecDepth 100000 in
theorem c_X3_free (l : Launch) (D : va_G) (cI cZ : ClassId) (hs ta : Nat) (q : Nat → Nat) (a : ZA) (im : Nat → Int32) (kp : Nat → Int32) (lf : Nat → Int32) (rw : Nat → Int32) (fn : Nat → Int32) (kn : Nat) (hI : zInv a) : Met l yX3_free wsX3_free ({ frames := 1, cells := 0, slots := 0, locals := 20 }) (va_Pc [.ref (q 0)] (zPre D (zTy cI cZ) hs ta (zcM cI cZ q (zst a) im kp lf rw fn kn))) (vp_Si (fun r : Int32 => r = nI (zfre a))) 0 0 (fun _ => False) := by
  refine Met.ofW (cc := cX3_free) (maxL := 1) (ret := (some .int)) (by decide) rfl ?_
  intro p e s m args below meth c s₁ B hml hv0
  obtain ⟨rfl, hP, hD, hG⟩ := hv0
  have hx := B.exec
  have hb := B.bytes
  have hr := B.returns
  have hts := atoms_spec (ws := wsX3_free) B.pre
  have hown : s.vm.findClass RX3 = some m.cls := findClass_of_methodNamed B.named
  have hlocks := B.notSynchronized
  have hK := hG.1
  have hS : va_S (zA hs) s.heap s.heap [] := va_S.rf
  have hAz : ∀ q, zA hs q → hs ≤ q := fun _ h => h
  have hl := lv_entry ([.ref (q 0)]) (n := 1) (Nat.le_of_ble_eq_true rfl)
  rw [lg_entry_eq]
  generalize (lg_sl ([.ref (q 0)]) ++ List.replicate (1 - (lg_sl ([.ref (q 0)])).length) Slot.unset).toArray = ls at hl ⊢
  have hl : lv_has ls 1 [(0, .ref (q 0))] := hl
  have hf7 := hts (.fieldLink RX3 7 "FrozenBitsModel" "state" "[I") (List.mem_of_getElem? (i := 1) rfl)
  have hiX3 : ∀ w ∈ u_ws RX3 TX3 7, w ∈ wsX3_free := fun w h => List.mem_cons_of_mem _ (List.mem_append_right _ h)
  refine lv_iconst (v := 1) hx hb dX3_free_0 (by decide) ?_
  refine lv_aload_n hx hb dX3_free_1 rfl (lv_at hl 0 rfl) ?_
  refine zz_cVi (cs := zcM cI cZ q (zst a) im kp lf rw fn kn) (As := []) (rest := [.int 1]) ⟨hx, hb, hml, hown, hts⟩ (c_X3_places l D cI cZ hs ta q a im kp lf rw fn kn hI.1.2) (cwV 0 hts gX3_free_X3_places rfl rfl rfl (by decide +kernel) ⟨Nat.le_of_ble_eq_true rfl, Nat.le_of_ble_eq_true rfl⟩) (va_recv hK hP (ci := 3) (q0 := 0) rfl rfl) hP hD hG hS hAz rfl hl.1 rfl (Nat.le_of_ble_eq_true rfl) ⟨Nat.zero_le _, Nat.zero_le _⟩ dX3_free_2 (fun r_1 er_1 => ?_)
  subst er_1
  refine lv_ishl hx hb dX3_free_5 ?_
  refine zz_topi (nI (2 ^ (2 ^ a.1))) (zz_shl1n rfl (by have := zNp hI; omega)) ?_
  refine lv_iconst (v := 1) hx hb dX3_free_6 (by decide) ?_
  refine lv_isub hx hb dX3_free_7 ?_
  refine zz_topi (nI ((2 ^ (2 ^ a.1)) - 1)) (zz_subn rfl (show (1 : Int32) = nI 1 from rfl) (Nat.one_le_two_pow)) ?_
  refine lv_aload_n hx hb dX3_free_8 rfl (lv_at hl 0 rfl) ?_
  refine va_get (ci := 3) (C := RX3) (T := TX3) (N := 7) hx hb hts hiX3 hown hK hP 0 rfl rfl 0 (by decide) hf7 (fun _ h9 => h9) rfl dX3_free_9 ?_
  refine lv_iconst (v := 3) hx hb dX3_free_12 (by decide) ?_
  refine zz_iald hx hb hK hP 1 0 rfl rfl (i := 3) (show (3 : Int32) = nI 3 from rfl) (by decide) (by decide) dX3_free_13 ?_
  refine zz_topi (nI (a.2.2.2.1)) rfl ?_
  refine lv_iconst (v := (-1)) hx hb dX3_free_14 (by decide) ?_
  refine lv_ixor hx hb dX3_free_15 ?_
  refine lv_iand hx hb dX3_free_16 ?_
  refine zz_topi (nI (zfre a)) (zn_andn (by have := zNN hI; have := Nat.two_pow_pos (2 ^ a.1); omega)) ?_
  exact W.iret (v := (nI (zfre a))) hx hb hr (fun t9 ht hW => ⟨_, rfl, (by rfl), ht⟩) (fun _ h => absurd h List.not_mem_nil) dX3_free_17
set_option maxHeartbeats 4000000 in
set_option maxRecDepth 100000 in
theorem c_X3_deep (l : Launch) (D : va_G) (cI cZ : ClassId) (hs ta : Nat) (sz : Nat) (q : Nat → Nat) (a : ZA) (im : Nat → Int32) (kp : Nat → Int32) (lf : Nat → Int32) (rw : Nat → Int32) (fn : Nat → Int32) (kn : Nat) (p0 : Int32) (hI : zInv a) : Met l yX3_deep wsX3_deep ({ frames := 1, cells := 0, slots := 0, locals := 22 }) (va_Pc [.ref (q 0), .int p0] (fun U => U.heap.size = sz ∧ zPre D (zTy cI cZ) hs ta (zcM cI cZ q (zst a) im kp lf rw fn kn) U)) (va_Qi (fun (r : Int32) (u : ZA) => (r, u) = zq_deep a p0) (fun (u : ZA) t9 => va_P D vwCl (zcM cI cZ q (zst u) im kp lf rw fn kn) t9.heap) (va_A (zcM cI cZ q (zst a) im kp lf rw fn kn) sz)) 0 0 (va_A (zcM cI cZ q (zst a) im kp lf rw fn kn) sz) := by
  refine Met.ofW (cc := cX3_deep) (maxL := 4) (ret := (some .int)) (by decide) rfl ?_
  intro p e s m args below meth c s₁ B hml hv0
  obtain ⟨rfl, hsz, hP, hD0, hG⟩ := hv0
  have hx := B.exec
  have hb := B.bytes
  have hr := B.returns
  have hts := atoms_spec (ws := wsX3_deep) B.pre
  have hown : s.vm.findClass RX3 = some m.cls := findClass_of_methodNamed B.named
  have hlocks := B.notSynchronized
  subst hsz
  have hD := hD0.self (sz := s.heap.size)
  have hAz0 : ∀ y9, va_A (zcM cI cZ q (zst a) im kp lf rw fn kn) s.heap.size y9 → hs ≤ y9 := zA_of hD0 (fun y9 h => Nat.le_trans hG.2.2.2.2 h) (va_S.rf (A := zA hs) (H0 := s.heap))
  generalize hAe : va_A (zcM cI cZ q (zst a) im kp lf rw fn kn) s.heap.size = A at hD hAz0 ⊢
  have hA : ∀ y9 : Nat, s.heap.size ≤ y9 → A y9 := fun y9 h => by rw [← hAe]; exact Or.inr h
  have hS : va_S A s.heap s.heap [] := va_S.rf
  have hAz : ∀ y9, A y9 → hs ≤ y9 := hAz0
  have hK := hG.1
  have hl := lv_entry ([.ref (q 0), .int p0]) (n := 4) (Nat.le_of_ble_eq_true rfl)
  rw [lg_entry_eq]
  generalize (lg_sl ([.ref (q 0), .int p0]) ++ List.replicate (4 - (lg_sl ([.ref (q 0), .int p0])).length) Slot.unset).toArray = ls at hl ⊢
  have hl : lv_has ls 4 [(0, .ref (q 0)), (1, .int p0)] := hl
  have hf7 := hts (.fieldLink RX3 7 "FrozenBitsModel" "state" "[I") (List.mem_of_getElem? (i := 1) rfl)
  have hiX3 : ∀ w ∈ u_ws RX3 TX3 7, w ∈ wsX3_deep := fun w h => List.mem_cons_of_mem _ (List.mem_append_right _ h)
  refine lv_iload_n hx hb dX3_deep_0 rfl (lv_at hl 1 rfl) ?_
  refine lv_iconst (v := 1) hx hb dX3_deep_1 (by decide) ?_
  refine lv_iconst (v := 4) hx hb dX3_deep_2 (by decide) ?_
  refine zz_pSi (As := [.int p0, .int 1, .int 4]) (rest := []) ⟨hx, hb, hml, hown, hts⟩ (c_X3_in l p0 1 4) (va_cwS 3 hts gX3_deep_X3_in rfl rfl rfl (by decide +kernel) ⟨Nat.le_of_ble_eq_true rfl, Nat.le_of_ble_eq_true rfl⟩) rfl hl.1 rfl (Nat.le_of_ble_eq_true rfl) ⟨Nat.zero_le _, Nat.zero_le _⟩ dX3_deep_3 (fun r_1 er_1 => ?_)
  refine lv_if_ne (tgt := 12) hx hb dX3_deep_6 (by decide) (fun c_2 => ?_) (fun c_2 => ?_)
  · replace c_2 := zB_t er_1 c_2
    obtain ⟨k0, hk0a, hk0b, rfl⟩ := zr1 (lo := 1) (hi := 4) (fun q => c_2 (Or.inl q)) (fun q => c_2 (Or.inr q)) (by omega) (by omega)
    refine lv_aload_n hx hb dX3_deep_12 rfl (lv_at hl 0 rfl) ?_
    refine va_get (ci := 3) (C := RX3) (T := TX3) (N := 7) hx hb hts hiX3 hown hK hP 0 rfl rfl 0 (by decide) hf7 (fun _ h9 => h9) rfl dX3_deep_13 ?_
    refine lv_iconst (v := 0) hx hb dX3_deep_16 (by decide) ?_
    refine zz_iald hx hb hK hP 1 0 rfl rfl (i := 0) (show (0 : Int32) = nI 0 from rfl) (by decide) (by decide) dX3_deep_17 ?_
    refine zz_topi (nI (a.1)) rfl ?_
    refine lv_istore_n (lv' := [(2, .int (nI (a.1))), (0, .ref (q 0)), (1, .int (nI k0))]) hx hb dX3_deep_18 rfl hl (by decide) rfl (fun ls hl => ?_)
    refine lv_aload_n hx hb dX3_deep_19 rfl (lv_at hl 1 rfl) ?_
    refine va_get (ci := 3) (C := RX3) (T := TX3) (N := 7) hx hb hts hiX3 hown hK hP 0 rfl rfl 0 (by decide) hf7 (fun _ h9 => h9) rfl dX3_deep_20 ?_
    refine lv_iconst (v := 0) hx hb dX3_deep_23 (by decide) ?_
    refine lv_iload_n hx hb dX3_deep_24 rfl (lv_at hl 2 rfl) ?_
    refine zz_iast hx hb hK hP hD hS 1 0 rfl rfl (i := 0) (show (0 : Int32) = nI 0 from rfl) (by decide) (by decide) dX3_deep_25 (fun H locs hP hD hS => ?_)
    have hP : va_P D vwCl (zcM cI cZ q (upd (zst a) 0 (nI k0)) im kp lf rw fn kn) H := hP
    have hD : va_D A (zcM cI cZ q (upd (zst a) 0 (nI k0)) im kp lf rw fn kn) := hD
    rw [zst_u0] at hP hD
    have hP : va_P D vwCl (zcM cI cZ q (zst (k0, a.2.1, a.2.2.1, a.2.2.2.1, a.2.2.2.2.1, a.2.2.2.2.2.1, a.2.2.2.2.2.2)) im kp lf rw fn kn) H := hP
    have hD : va_D A (zcM cI cZ q (zst (k0, a.2.1, a.2.2.1, a.2.2.2.1, a.2.2.2.2.1, a.2.2.2.2.2.1, a.2.2.2.2.2.2)) im kp lf rw fn kn) := hD
    refine lv_aload_n hx hb dX3_deep_26 rfl (lv_at hl 1 rfl) ?_
    refine va_get (ci := 3) (C := RX3) (T := TX3) (N := 7) hx hb hts hiX3 hown hK hP 0 rfl rfl 0 (by decide) hf7 (fun _ h9 => h9) rfl dX3_deep_27 ?_
    refine lv_iconst (v := 3) hx hb dX3_deep_30 (by decide) ?_
    refine lv_iconst (v := 0) hx hb dX3_deep_31 (by decide) ?_
    refine zz_iast hx hb hK hP hD hS 1 0 rfl rfl (i := 3) (show (3 : Int32) = nI 3 from rfl) (by decide) (by decide) dX3_deep_32 (fun H locs hP hD hS => ?_)
    have hP : va_P D vwCl (zcM cI cZ q (upd (zst (k0, a.2.1, a.2.2.1, a.2.2.2.1, a.2.2.2.2.1, a.2.2.2.2.2.1, a.2.2.2.2.2.2)) 3 0) im kp lf rw fn kn) H := hP
    have hD : va_D A (zcM cI cZ q (upd (zst (k0, a.2.1, a.2.2.1, a.2.2.2.1, a.2.2.2.2.1, a.2.2.2.2.2.1, a.2.2.2.2.2.2)) 3 0) im kp lf rw fn kn) := hD
    rw [show (0 : Int32) = nI 0 from rfl, zst_u3] at hP hD
    have hP : va_P D vwCl (zcM cI cZ q (zst (k0, a.2.1, a.2.2.1, 0, a.2.2.2.2.1, a.2.2.2.2.2.1, a.2.2.2.2.2.2)) im kp lf rw fn kn) H := hP
    have hD : va_D A (zcM cI cZ q (zst (k0, a.2.1, a.2.2.1, 0, a.2.2.2.2.1, a.2.2.2.2.2.1, a.2.2.2.2.2.2)) im kp lf rw fn kn) := hD
    refine lv_iconst (v := 5) hx hb dX3_deep_33 (by decide) ?_
    refine lv_istore_n (lv' := [(3, .int 5), (2, .int (nI (a.1))), (0, .ref (q 0)), (1, .int (nI k0))]) hx hb dX3_deep_34 rfl hl (by decide) rfl (fun ls hl => ?_)
    have hl : lv_has ls 4 [(3, .int (nI (5 + 0))), (2, .int (nI (a.1))), (0, .ref (q 0)), (1, .int (nI k0))] := hl
    refine zz_forHJ (P := fun H locs g => W p l e _ s m _ below meth c H locs _ _ _ g) (nL := 4) (19) (fun i => [(3, .int (nI (5 + i))), (2, .int (nI (a.1))), (0, .ref (q 0)), (1, .int (nI k0))]) (fun i H locs => va_P D vwCl (zcM cI cZ q (fb_put (zst (k0, a.2.1, a.2.2.1, 0, a.2.2.2.2.1, a.2.2.2.2.2.1, a.2.2.2.2.2.2)) (fun _ => 0) 5 i) im kp lf rw fn kn) H ∧ va_D A (zcM cI cZ q (fb_put (zst (k0, a.2.1, a.2.2.1, 0, a.2.2.2.2.1, a.2.2.2.2.2.1, a.2.2.2.2.2.2)) (fun _ => 0) 5 i) im kp lf rw fn kn) ∧ va_S A s.heap H locs) (J := fun _ => True) ?_ ?_ (⟨by rw [fb_put_0]; exact hP, by rw [fb_put_0]; exact hD, hS⟩) (trivial) ((lv_sub hl [0, 1, 2, 3] rfl))
    · intro H locs ls hJ hI0 hl
      obtain ⟨hP, hD, hS⟩ := hI0
      refine lv_iload_n hx hb dX3_deep_35 rfl (lv_at hl 0 rfl) ?_
      refine lv_bipush (v := 24) hx hb dX3_deep_36 (by decide) ?_
      refine lv_icmp_ge (tgt := 54) hx hb dX3_deep_38 (by decide) (fun c_3 => ?_) (fun c_3 => ?_)
      · replace c_3 := Int32.not_lt.mpr c_3
        replace hP := zP_arr hP (k := 1) (g := zst (k0, a.2.1, a.2.2.1, 0, a.2.2.2.2.1, (fun _ => 0), (fun _ => 0))) rfl (fun j hj => zdeep_z a k0 j hj)
        refine lv_iload_n hx hb dX3_deep_54 rfl (lv_at hl 1 rfl) ?_
        exact W.iret (v := (nI (a.1))) hx hb hr (fun t9 ht hW => ⟨⟨_, (k0, a.2.1, a.2.2.1, 0, a.2.2.2.2.1, (fun _ => 0), (fun _ => 0)), rfl, (by simp (decide := true) only [zq_deep, zwm, c_2, c_3, not_true_eq_false, not_false_eq_true, and_self, and_true, true_and, and_false, false_and, or_self, or_true, true_or, or_false, false_or, if_true, if_false, ↓reduceIte, Bool.false_eq_true, iff_self, iff_true, iff_false, true_iff, false_iff, Nat.add_zero, Nat.or_zero]; rw [zN_nI (by omega)]), zP_ht ht hP⟩, hS.F ht⟩) hS.2.2 dX3_deep_55
      · replace c_3 := Int32.not_le.mp c_3
        exact absurd c_3 (by decide)
    · intro i hi hJ ihi H locs ls hI0 hl
      obtain ⟨hP, hD, hS⟩ := hI0
      refine lv_iload_n hx hb dX3_deep_35 rfl (lv_at hl 0 rfl) ?_
      refine lv_bipush (v := 24) hx hb dX3_deep_36 (by decide) ?_
      refine lv_icmp_ge (tgt := 54) hx hb dX3_deep_38 (by decide) (fun c_4 => ?_) (fun c_4 => ?_)
      · replace c_4 := Int32.not_lt.mpr c_4
        exact absurd (nI_lt (show 5 + i < 24 by omega) (by decide)) c_4
      · replace c_4 := Int32.not_le.mp c_4
        refine lv_aload_n hx hb dX3_deep_41 rfl (lv_at hl 2 rfl) ?_
        refine va_get (ci := 3) (C := RX3) (T := TX3) (N := 7) hx hb hts hiX3 hown hK hP 0 rfl rfl 0 (by decide) hf7 (fun _ h9 => h9) rfl dX3_deep_42 ?_
        refine lv_iload_n hx hb dX3_deep_45 rfl (lv_at hl 0 rfl) ?_
        refine lv_iconst (v := 0) hx hb dX3_deep_46 (by decide) ?_
        refine zz_iast hx hb hK hP hD hS 1 0 rfl rfl (i := 5 + i) rfl (by omega) (by decide) dX3_deep_47 (fun H locs hP hD hS => ?_)
        have hP : va_P D vwCl (zcM cI cZ q (upd (fb_put (zst (k0, a.2.1, a.2.2.1, 0, a.2.2.2.2.1, a.2.2.2.2.2.1, a.2.2.2.2.2.2)) (fun _ => 0) 5 i) (5 + i) 0) im kp lf rw fn kn) H := hP
        have hD : va_D A (zcM cI cZ q (upd (fb_put (zst (k0, a.2.1, a.2.2.1, 0, a.2.2.2.2.1, a.2.2.2.2.2.1, a.2.2.2.2.2.2)) (fun _ => 0) 5 i) (5 + i) 0) im kp lf rw fn kn) := hD
        rw [fb_put_succ (zst (k0, a.2.1, a.2.2.1, 0, a.2.2.2.2.1, a.2.2.2.2.2.1, a.2.2.2.2.2.2)) (fun _ => 0)] at hP hD
        have hP : va_P D vwCl (zcM cI cZ q (fb_put (zst (k0, a.2.1, a.2.2.1, 0, a.2.2.2.2.1, a.2.2.2.2.2.1, a.2.2.2.2.2.2)) (fun _ => 0) 5 (i + 1)) im kp lf rw fn kn) H := hP
        have hD : va_D A (zcM cI cZ q (fb_put (zst (k0, a.2.1, a.2.2.1, 0, a.2.2.2.2.1, a.2.2.2.2.2.1, a.2.2.2.2.2.2)) (fun _ => 0) 5 (i + 1)) im kp lf rw fn kn) := hD
        refine lv_iinc (v := (nI ((5 + i) + 1))) (lv' := [(3, .int (nI ((5 + i) + 1))), (2, .int (nI (a.1))), (0, .ref (q 0)), (1, .int (nI k0))]) hx hb dX3_deep_48 hl (k := 0) rfl (zz_inc _) (by decide) rfl (fun ls hl => ?_)
        refine lv_goto (tgt := 35) hx hb dX3_deep_51 (by decide) ?_
        have hl : lv_has ls 4 [(3, .int (nI (5 + (i + 1)))), (2, .int (nI (a.1))), (0, .ref (q 0)), (1, .int (nI k0))] := hl
        exact ihi (trivial) _ _ ls (⟨hP, hD, hS⟩) (lv_sub hl [0, 1, 2, 3] rfl)
  · replace c_2 := Classical.not_not.mp (zB_f er_1 c_2)
    refine lv_bipush (v := (-2)) hx hb dX3_deep_9 (by decide) ?_
    exact W.iret (v := (-2)) hx hb hr (fun t9 ht hW => ⟨⟨_, a, rfl, (by simp (decide := true) only [zq_deep, zwm, c_2, not_true_eq_false, not_false_eq_true, and_self, and_true, true_and, and_false, false_and, or_self, or_true, true_or, or_false, false_or, if_true, if_false, ↓reduceIte, Bool.false_eq_true, iff_self, iff_true, iff_false, true_iff, false_iff, Nat.add_zero, Nat.or_zero]), zP_ht ht hP⟩, hS.F ht⟩) hS.2.2 dX3_deep_11
set_option maxHeartbeats 4000000 in
set_option maxRecDepth 100000 in
theorem c_X3_loss (l : Launch) (D : va_G) (cI cZ : ClassId) (hs ta : Nat) (sz : Nat) (q : Nat → Nat) (a : ZA) (im : Nat → Int32) (kp : Nat → Int32) (lf : Nat → Int32) (rw : Nat → Int32) (fn : Nat → Int32) (kn : Nat) (p0 : Int32) (p1 : Int32) (hI : zInv a) : Met l yX3_loss wsX3_loss ({ frames := 1, cells := 0, slots := 0, locals := 22 }) (va_Pc [.ref (q 0), .int p0, .int p1] (fun U => U.heap.size = sz ∧ zPre D (zTy cI cZ) hs ta (zcM cI cZ q (zst a) im kp lf rw fn kn) U)) (va_Qi (fun (r : Int32) (u : ZA) => (r, u) = zq_loss a p0 p1) (fun (u : ZA) t9 => va_P D vwCl (zcM cI cZ q (zst u) im kp lf rw fn kn) t9.heap) (va_A (zcM cI cZ q (zst a) im kp lf rw fn kn) sz)) 0 0 (va_A (zcM cI cZ q (zst a) im kp lf rw fn kn) sz) := by
  refine Met.ofW (cc := cX3_loss) (maxL := 4) (ret := (some .int)) (by decide) rfl ?_
  intro p e s m args below meth c s₁ B hml hv0
  obtain ⟨rfl, hsz, hP, hD0, hG⟩ := hv0
  have hx := B.exec
  have hb := B.bytes
  have hr := B.returns
  have hts := atoms_spec (ws := wsX3_loss) B.pre
  have hown : s.vm.findClass RX3 = some m.cls := findClass_of_methodNamed B.named
  have hlocks := B.notSynchronized
  subst hsz
  have hD := hD0.self (sz := s.heap.size)
  have hAz0 : ∀ y9, va_A (zcM cI cZ q (zst a) im kp lf rw fn kn) s.heap.size y9 → hs ≤ y9 := zA_of hD0 (fun y9 h => Nat.le_trans hG.2.2.2.2 h) (va_S.rf (A := zA hs) (H0 := s.heap))
  generalize hAe : va_A (zcM cI cZ q (zst a) im kp lf rw fn kn) s.heap.size = A at hD hAz0 ⊢
  have hA : ∀ y9 : Nat, s.heap.size ≤ y9 → A y9 := fun y9 h => by rw [← hAe]; exact Or.inr h
  have hS : va_S A s.heap s.heap [] := va_S.rf
  have hAz : ∀ y9, A y9 → hs ≤ y9 := hAz0
  have hK := hG.1
  have hl := lv_entry ([.ref (q 0), .int p0, .int p1]) (n := 4) (Nat.le_of_ble_eq_true rfl)
  rw [lg_entry_eq]
  generalize (lg_sl ([.ref (q 0), .int p0, .int p1]) ++ List.replicate (4 - (lg_sl ([.ref (q 0), .int p0, .int p1])).length) Slot.unset).toArray = ls at hl ⊢
  have hl : lv_has ls 4 [(0, .ref (q 0)), (1, .int p0), (2, .int p1)] := hl
  have hf7 := hts (.fieldLink RX3 7 "FrozenBitsModel" "state" "[I") (List.mem_of_getElem? (i := 1) rfl)
  have hiX3 : ∀ w ∈ u_ws RX3 TX3 7, w ∈ wsX3_loss := fun w h => List.mem_cons_of_mem _ (List.mem_append_right _ h)
  refine lv_iload_n hx hb dX3_loss_0 rfl (lv_at hl 2 rfl) ?_
  refine lv_iconst (v := 2) hx hb dX3_loss_1 (by decide) ?_
  refine lv_bipush (v := 10) hx hb dX3_loss_2 (by decide) ?_
  refine zz_pSi (As := [.int p1, .int 2, .int 10]) (rest := []) ⟨hx, hb, hml, hown, hts⟩ (c_X3_in l p1 2 10) (va_cwS 3 hts gX3_loss_X3_in rfl rfl rfl (by decide +kernel) ⟨Nat.le_of_ble_eq_true rfl, Nat.le_of_ble_eq_true rfl⟩) rfl hl.1 rfl (Nat.le_of_ble_eq_true rfl) ⟨Nat.zero_le _, Nat.zero_le _⟩ dX3_loss_4 (fun r_1 er_1 => ?_)
  refine lv_if_eq (tgt := 19) hx hb dX3_loss_7 (by decide) (fun c_2 => ?_) (fun c_2 => ?_)
  · replace c_2 := Classical.not_not.mp (zB_f er_1 c_2)
    refine lv_bipush (v := (-2)) hx hb dX3_loss_19 (by decide) ?_
    exact W.iret (v := (-2)) hx hb hr (fun t9 ht hW => ⟨⟨_, a, rfl, (zloss_no (Or.inl c_2)), zP_ht ht hP⟩, hS.F ht⟩) hS.2.2 dX3_loss_21
  · replace c_2 := zB_t er_1 c_2
    refine lv_iload_n hx hb dX3_loss_10 rfl (lv_at hl 1 rfl) ?_
    refine lv_iconst (v := 0) hx hb dX3_loss_11 (by decide) ?_
    refine lv_iload_n hx hb dX3_loss_12 rfl (lv_at hl 2 rfl) ?_
    refine zz_pSi (As := [.int p0, .int 0, .int p1]) (rest := []) ⟨hx, hb, hml, hown, hts⟩ (c_X3_in l p0 0 p1) (va_cwS 3 hts gX3_loss_X3_in rfl rfl rfl (by decide +kernel) ⟨Nat.le_of_ble_eq_true rfl, Nat.le_of_ble_eq_true rfl⟩) rfl hl.1 rfl (Nat.le_of_ble_eq_true rfl) ⟨Nat.zero_le _, Nat.zero_le _⟩ dX3_loss_13 (fun r_3 er_3 => ?_)
    refine lv_if_ne (tgt := 22) hx hb dX3_loss_16 (by decide) (fun c_4 => ?_) (fun c_4 => ?_)
    · replace c_4 := zB_t er_3 c_4
      obtain ⟨k1, hk1a, hk1b, rfl⟩ := zr1 (lo := 2) (hi := 10) (fun q => c_2 (Or.inl q)) (fun q => c_2 (Or.inr q)) (by omega) (by omega)
      obtain ⟨k0, hk0a, hk0b, rfl⟩ := zr1 (lo := 0) (hi := k1) (fun q => c_4 (Or.inl q)) (fun q => c_4 (Or.inr q)) (by omega) (by omega)
      refine lv_aload_n hx hb dX3_loss_22 rfl (lv_at hl 0 rfl) ?_
      refine va_get (ci := 3) (C := RX3) (T := TX3) (N := 7) hx hb hts hiX3 hown hK hP 0 rfl rfl 0 (by decide) hf7 (fun _ h9 => h9) rfl dX3_loss_23 ?_
      refine lv_iconst (v := 2) hx hb dX3_loss_26 (by decide) ?_
      refine zz_iald hx hb hK hP 1 0 rfl rfl (i := 2) (show (2 : Int32) = nI 2 from rfl) (by decide) (by decide) dX3_loss_27 ?_
      refine zz_topi (nI (a.2.2.1)) rfl ?_
      refine lv_istore_n (lv' := [(3, .int (nI (a.2.2.1))), (0, .ref (q 0)), (1, .int (nI k0)), (2, .int (nI k1))]) hx hb dX3_loss_28 rfl hl (by decide) rfl (fun ls hl => ?_)
      refine lv_aload_n hx hb dX3_loss_29 rfl (lv_at hl 1 rfl) ?_
      refine va_get (ci := 3) (C := RX3) (T := TX3) (N := 7) hx hb hts hiX3 hown hK hP 0 rfl rfl 0 (by decide) hf7 (fun _ h9 => h9) rfl dX3_loss_30 ?_
      refine lv_iconst (v := 1) hx hb dX3_loss_33 (by decide) ?_
      refine lv_iload_n hx hb dX3_loss_34 rfl (lv_at hl 2 rfl) ?_
      refine zz_iast hx hb hK hP hD hS 1 0 rfl rfl (i := 1) (show (1 : Int32) = nI 1 from rfl) (by decide) (by decide) dX3_loss_35 (fun H locs hP hD hS => ?_)
      have hP : va_P D vwCl (zcM cI cZ q (upd (zst a) 1 (nI k0)) im kp lf rw fn kn) H := hP
      have hD : va_D A (zcM cI cZ q (upd (zst a) 1 (nI k0)) im kp lf rw fn kn) := hD
      rw [zst_u1] at hP hD
      have hP : va_P D vwCl (zcM cI cZ q (zst (a.1, k0, a.2.2.1, a.2.2.2.1, a.2.2.2.2.1, a.2.2.2.2.2.1, a.2.2.2.2.2.2)) im kp lf rw fn kn) H := hP
      have hD : va_D A (zcM cI cZ q (zst (a.1, k0, a.2.2.1, a.2.2.2.1, a.2.2.2.2.1, a.2.2.2.2.2.1, a.2.2.2.2.2.2)) im kp lf rw fn kn) := hD
      refine lv_aload_n hx hb dX3_loss_36 rfl (lv_at hl 1 rfl) ?_
      refine va_get (ci := 3) (C := RX3) (T := TX3) (N := 7) hx hb hts hiX3 hown hK hP 0 rfl rfl 0 (by decide) hf7 (fun _ h9 => h9) rfl dX3_loss_37 ?_
      refine lv_iconst (v := 2) hx hb dX3_loss_40 (by decide) ?_
      refine lv_iload_n hx hb dX3_loss_41 rfl (lv_at hl 3 rfl) ?_
      refine zz_iast hx hb hK hP hD hS 1 0 rfl rfl (i := 2) (show (2 : Int32) = nI 2 from rfl) (by decide) (by decide) dX3_loss_42 (fun H locs hP hD hS => ?_)
      have hP : va_P D vwCl (zcM cI cZ q (upd (zst (a.1, k0, a.2.2.1, a.2.2.2.1, a.2.2.2.2.1, a.2.2.2.2.2.1, a.2.2.2.2.2.2)) 2 (nI k1)) im kp lf rw fn kn) H := hP
      have hD : va_D A (zcM cI cZ q (upd (zst (a.1, k0, a.2.2.1, a.2.2.2.1, a.2.2.2.2.1, a.2.2.2.2.2.1, a.2.2.2.2.2.2)) 2 (nI k1)) im kp lf rw fn kn) := hD
      rw [zst_u2] at hP hD
      have hP : va_P D vwCl (zcM cI cZ q (zst (a.1, k0, k1, a.2.2.2.1, a.2.2.2.2.1, a.2.2.2.2.2.1, a.2.2.2.2.2.2)) im kp lf rw fn kn) H := hP
      have hD : va_D A (zcM cI cZ q (zst (a.1, k0, k1, a.2.2.2.1, a.2.2.2.2.1, a.2.2.2.2.2.1, a.2.2.2.2.2.2)) im kp lf rw fn kn) := hD
      refine lv_iload_n hx hb dX3_loss_43 rfl (lv_at hl 0 rfl) ?_
      exact W.iret (v := (nI (a.2.2.1))) hx hb hr (fun t9 ht hW => ⟨⟨_, (a.1, k0, k1, a.2.2.2.1, a.2.2.2.2.1, a.2.2.2.2.2.1, a.2.2.2.2.2.2), rfl, (by rw [← zloss_ok c_2 c_4, zN_nI (by omega), zN_nI (by omega)]), zP_ht ht hP⟩, hS.F ht⟩) hS.2.2 dX3_loss_44
    · replace c_4 := Classical.not_not.mp (zB_f er_3 c_4)
      refine lv_bipush (v := (-2)) hx hb dX3_loss_19 (by decide) ?_
      exact W.iret (v := (-2)) hx hb hr (fun t9 ht hW => ⟨⟨_, a, rfl, (zloss_no (Or.inr c_4)), zP_ht ht hP⟩, hS.F ht⟩) hS.2.2 dX3_loss_21
set_option maxHeartbeats 4000000 in
set_option maxRecDepth 100000 in
theorem c_X3_lowOfAll (l : Launch) (D : va_G) (cI cZ : ClassId) (hs ta : Nat) (q : Nat → Nat) (a : ZA) (im : Nat → Int32) (kp : Nat → Int32) (lf : Nat → Int32) (rw : Nat → Int32) (fn : Nat → Int32) (kn : Nat) (hI : zInv a) : Met l yX3_lowOfAll wsX3_lowOfAll ({ frames := 0, cells := 0, slots := 0, locals := 0 }) (va_Pc [.ref (q 0)] (zPre D (zTy cI cZ) hs ta (zcM cI cZ q (zst a) im kp lf rw fn kn))) (vp_Sl (fun r : Int64 => r = lN (zlo a.2.2.1 a.1))) 0 0 (fun _ => False) := by
  refine Met.ofW (cc := cX3_lowOfAll) (maxL := 4) (ret := (some .long)) (by decide) rfl ?_
  intro p e s m args below meth c s₁ B hml hv0
  obtain ⟨rfl, hP, hD, hG⟩ := hv0
  have hx := B.exec
  have hb := B.bytes
  have hr := B.returns
  have hts := atoms_spec (ws := wsX3_lowOfAll) B.pre
  have hown : s.vm.findClass RX3 = some m.cls := findClass_of_methodNamed B.named
  have hlocks := B.notSynchronized
  have hK := hG.1
  have hS : va_S (zA hs) s.heap s.heap [] := va_S.rf
  have hAz : ∀ q, zA hs q → hs ≤ q := fun _ h => h
  have hl := lv_entry ([.ref (q 0)]) (n := 4) (Nat.le_of_ble_eq_true rfl)
  rw [lg_entry_eq]
  generalize (lg_sl ([.ref (q 0)]) ++ List.replicate (4 - (lg_sl ([.ref (q 0)])).length) Slot.unset).toArray = ls at hl ⊢
  have hl : lv_has ls 4 [(0, .ref (q 0))] := hl
  have hf7 := hts (.fieldLink RX3 7 "FrozenBitsModel" "state" "[I") (List.mem_of_getElem? (i := 1) rfl)
  have hiX3 : ∀ w ∈ u_ws RX3 TX3 7, w ∈ wsX3_lowOfAll := fun w h => List.mem_cons_of_mem _ (List.mem_append_right _ h)
  refine lv_aload_n hx hb dX3_lowOfAll_0 rfl (lv_at hl 0 rfl) ?_
  refine va_get (ci := 3) (C := RX3) (T := TX3) (N := 7) hx hb hts hiX3 hown hK hP 0 rfl rfl 0 (by decide) hf7 (fun _ h9 => h9) rfl dX3_lowOfAll_1 ?_
  refine lv_iconst (v := 2) hx hb dX3_lowOfAll_4 (by decide) ?_
  refine zz_iald hx hb hK hP 1 0 rfl rfl (i := 2) (show (2 : Int32) = nI 2 from rfl) (by decide) (by decide) dX3_lowOfAll_5 ?_
  refine zz_topi (nI (a.2.2.1)) rfl ?_
  refine lv_i2l hx hb dX3_lowOfAll_6 rfl ?_
  refine zz_topl (lN a.2.2.1) (nI_l (by have := hI.2.1; omega)) ?_
  refine lv_lstore_n (lv' := [(1, .long (lN a.2.2.1)), (0, .ref (q 0))]) hx hb dX3_lowOfAll_7 rfl hl (by decide) rfl (fun ls hl => ?_)
  refine lv_iconst (v := 0) hx hb dX3_lowOfAll_8 (by decide) ?_
  refine lv_istore_n (lv' := [(3, .int 0), (1, .long (lN a.2.2.1)), (0, .ref (q 0))]) hx hb dX3_lowOfAll_9 rfl hl (by decide) rfl (fun ls hl => ?_)
  have hl : lv_has ls 4 [(3, .int (nI 0)), (1, .long (lN (zlo a.2.2.1 0))), (0, .ref (q 0))] := hl
  refine zz_forJ (nL := 4) (a.1) (fun i => [(3, .int (nI i)), (1, .long (lN (zlo a.2.2.1 i))), (0, .ref (q 0))]) (J := fun _ => True) ?_ ?_ (trivial) (lv_sub hl [0, 1, 2] rfl)
  · intro hJ ls hl
    refine lv_iload_n hx hb dX3_lowOfAll_10 rfl (lv_at hl 0 rfl) ?_
    refine lv_aload_n hx hb dX3_lowOfAll_11 rfl (lv_at hl 2 rfl) ?_
    refine va_get (ci := 3) (C := RX3) (T := TX3) (N := 7) hx hb hts hiX3 hown hK hP 0 rfl rfl 0 (by decide) hf7 (fun _ h9 => h9) rfl dX3_lowOfAll_12 ?_
    refine lv_iconst (v := 0) hx hb dX3_lowOfAll_15 (by decide) ?_
    refine zz_iald hx hb hK hP 1 0 rfl rfl (i := 0) (show (0 : Int32) = nI 0 from rfl) (by decide) (by decide) dX3_lowOfAll_16 ?_
    refine zz_topi (nI (a.1)) rfl ?_
    refine lv_icmp_ge (tgt := 30) hx hb dX3_lowOfAll_17 (by decide) (fun c_1 => ?_) (fun c_1 => ?_)
    · replace c_1 := Int32.not_lt.mpr c_1
      refine lv_lload_n hx hb dX3_lowOfAll_30 rfl (lv_at hl 1 rfl) ?_
      exact W.lret (v := (lN (zlo a.2.2.1 a.1))) hx hb hr (fun t9 ht hW => ⟨_, rfl, (by rfl), ht⟩) (fun _ h => absurd h List.not_mem_nil) dX3_lowOfAll_31
    · replace c_1 := Int32.not_le.mp c_1
      exact absurd c_1 (nI_nlt (Nat.le_refl _) (by have := hI.1; omega))
  · intro i hi hJ ihi ls hl
    refine lv_iload_n hx hb dX3_lowOfAll_10 rfl (lv_at hl 0 rfl) ?_
    refine lv_aload_n hx hb dX3_lowOfAll_11 rfl (lv_at hl 2 rfl) ?_
    refine va_get (ci := 3) (C := RX3) (T := TX3) (N := 7) hx hb hts hiX3 hown hK hP 0 rfl rfl 0 (by decide) hf7 (fun _ h9 => h9) rfl dX3_lowOfAll_12 ?_
    refine lv_iconst (v := 0) hx hb dX3_lowOfAll_15 (by decide) ?_
    refine zz_iald hx hb hK hP 1 0 rfl rfl (i := 0) (show (0 : Int32) = nI 0 from rfl) (by decide) (by decide) dX3_lowOfAll_16 ?_
    refine zz_topi (nI (a.1)) rfl ?_
    refine lv_icmp_ge (tgt := 30) hx hb dX3_lowOfAll_17 (by decide) (fun c_2 => ?_) (fun c_2 => ?_)
    · replace c_2 := Int32.not_lt.mpr c_2
      exact absurd (nI_lt hi (by have := hI.1; omega)) c_2
    · replace c_2 := Int32.not_le.mp c_2
      refine lv_lload_n hx hb dX3_lowOfAll_20 rfl (lv_at hl 1 rfl) ?_
      refine lv_lload_n hx hb dX3_lowOfAll_21 rfl (lv_at hl 1 rfl) ?_
      refine lv_lmul hx hb dX3_lowOfAll_22 ?_
      refine zz_topl (lN (zlo a.2.2.1 i * zlo a.2.2.1 i)) (lN_mul _ _) ?_
      refine lv_lstore_n (lv' := [(1, .long (lN (zlo a.2.2.1 i * zlo a.2.2.1 i))), (3, .int (nI i)), (0, .ref (q 0))]) hx hb dX3_lowOfAll_23 rfl hl (by decide) rfl (fun ls hl => ?_)
      refine lv_iinc (v := (nI (i + 1))) (lv' := [(3, .int (nI (i + 1))), (1, .long (lN (zlo a.2.2.1 i * zlo a.2.2.1 i))), (0, .ref (q 0))]) hx hb dX3_lowOfAll_24 hl (k := 1) rfl (zz_inc _) (by decide) rfl (fun ls hl => ?_)
      refine lv_goto (tgt := 10) hx hb dX3_lowOfAll_27 (by decide) ?_
      have hl : lv_has ls 4 [(3, .int (nI ((i + 1)))), (1, .long (lN (zlo a.2.2.1 (i + 1)))), (0, .ref (q 0))] := hl
      exact ihi (trivial) ls (lv_sub hl [0, 1, 2] rfl)
set_option maxHeartbeats 4000000 in
set_option maxRecDepth 100000 in
theorem c_X3_upOf (l : Launch) (D : va_G) (cI cZ : ClassId) (hs ta : Nat) (q : Nat → Nat) (a : ZA) (im : Nat → Int32) (kp : Nat → Int32) (lf : Nat → Int32) (rw : Nat → Int32) (fn : Nat → Int32) (kn : Nat) (k : Nat) (hI : zInv a) (hk : k < 16) : Met l yX3_upOf wsX3_upOf ({ frames := 0, cells := 0, slots := 0, locals := 0 }) (va_Pc [.ref (q 0), .int (nI k)] (zPre D (zTy cI cZ) hs ta (zcM cI cZ q (zst a) im kp lf rw fn kn))) (vp_Sl (fun r : Int64 => r = lN (zlos a k))) 0 0 (fun _ => False) := by
  refine Met.ofW (cc := cX3_upOf) (maxL := 7) (ret := (some .long)) (by decide) rfl ?_
  intro p e s m args below meth c s₁ B hml hv0
  obtain ⟨rfl, hP, hD, hG⟩ := hv0
  have hx := B.exec
  have hb := B.bytes
  have hr := B.returns
  have hts := atoms_spec (ws := wsX3_upOf) B.pre
  have hown : s.vm.findClass RX3 = some m.cls := findClass_of_methodNamed B.named
  have hlocks := B.notSynchronized
  have hK := hG.1
  have hS : va_S (zA hs) s.heap s.heap [] := va_S.rf
  have hAz : ∀ q, zA hs q → hs ≤ q := fun _ h => h
  have hl := lv_entry ([.ref (q 0), .int (nI k)]) (n := 7) (Nat.le_of_ble_eq_true rfl)
  rw [lg_entry_eq]
  generalize (lg_sl ([.ref (q 0), .int (nI k)]) ++ List.replicate (7 - (lg_sl ([.ref (q 0), .int (nI k)])).length) Slot.unset).toArray = ls at hl ⊢
  have hl : lv_has ls 7 [(0, .ref (q 0)), (1, .int (nI k))] := hl
  have hf7 := hts (.fieldLink RX3 7 "FrozenBitsModel" "state" "[I") (List.mem_of_getElem? (i := 1) rfl)
  have hiX3 : ∀ w ∈ u_ws RX3 TX3 7, w ∈ wsX3_upOf := fun w h => List.mem_cons_of_mem _ (List.mem_append_right _ h)
  have hc37 := hts (.constantLong RX3 37 (2)) (List.mem_of_getElem? (i := 2) rfl)
  refine lv_aload_n hx hb dX3_upOf_0 rfl (lv_at hl 0 rfl) ?_
  refine va_get (ci := 3) (C := RX3) (T := TX3) (N := 7) hx hb hts hiX3 hown hK hP 0 rfl rfl 0 (by decide) hf7 (fun _ h9 => h9) rfl dX3_upOf_1 ?_
  refine lv_iconst (v := 1) hx hb dX3_upOf_4 (by decide) ?_
  refine zz_iald hx hb hK hP 1 0 rfl rfl (i := 1) (show (1 : Int32) = nI 1 from rfl) (by decide) (by decide) dX3_upOf_5 ?_
  refine zz_topi (nI (a.2.1)) rfl ?_
  refine lv_i2l hx hb dX3_upOf_6 rfl ?_
  refine zz_topl (lN a.2.1) (nI_l (by have := hI.2.1; omega)) ?_
  refine lv_lstore_n (lv' := [(2, .long (lN a.2.1)), (0, .ref (q 0)), (1, .int (nI k))]) hx hb dX3_upOf_7 rfl hl (by decide) rfl (fun ls hl => ?_)
  refine lv_aload_n hx hb dX3_upOf_8 rfl (lv_at hl 1 rfl) ?_
  refine va_get (ci := 3) (C := RX3) (T := TX3) (N := 7) hx hb hts hiX3 hown hK hP 0 rfl rfl 0 (by decide) hf7 (fun _ h9 => h9) rfl dX3_upOf_9 ?_
  refine lv_iconst (v := 2) hx hb dX3_upOf_12 (by decide) ?_
  refine zz_iald hx hb hK hP 1 0 rfl rfl (i := 2) (show (2 : Int32) = nI 2 from rfl) (by decide) (by decide) dX3_upOf_13 ?_
  refine zz_topi (nI (a.2.2.1)) rfl ?_
  refine lv_i2l hx hb dX3_upOf_14 rfl ?_
  refine zz_topl (lN a.2.2.1) (nI_l (by have := hI.2.1; omega)) ?_
  refine lv_lstore (lv' := [(4, .long (lN a.2.2.1)), (2, .long (lN a.2.1)), (0, .ref (q 0)), (1, .int (nI k))]) hx hb dX3_upOf_15 hl (by decide) rfl (fun ls hl => ?_)
  refine lv_aload_n hx hb dX3_upOf_17 rfl (lv_at hl 2 rfl) ?_
  refine va_get (ci := 3) (C := RX3) (T := TX3) (N := 7) hx hb hts hiX3 hown hK hP 0 rfl rfl 0 (by decide) hf7 (fun _ h9 => h9) rfl dX3_upOf_18 ?_
  refine lv_iconst (v := 0) hx hb dX3_upOf_21 (by decide) ?_
  refine zz_iald hx hb hK hP 1 0 rfl rfl (i := 0) (show (0 : Int32) = nI 0 from rfl) (by decide) (by decide) dX3_upOf_22 ?_
  refine zz_topi (nI (a.1)) rfl ?_
  refine lv_iconst (v := 1) hx hb dX3_upOf_23 (by decide) ?_
  refine lv_isub hx hb dX3_upOf_24 ?_
  refine lv_topi (fun v_1 ev_1 => ?_)
  refine lv_istore (lv' := [(6, .int v_1), (4, .long (lN a.2.2.1)), (2, .long (lN a.2.1)), (0, .ref (q 0)), (1, .int (nI k))]) hx hb dX3_upOf_25 hl (by decide) rfl (fun ls hl => ?_)
  obtain rfl : v_1 = (nI a.1 - 1 - nI 0) := by rw [ev_1, nI_0, Int32.sub_zero]
  have hl : lv_has ls 7 [(6, .int (nI a.1 - 1 - nI 0)), (4, .long (lN (zup a.2.1 a.2.2.1 a.1 k 0).2)), (2, .long (lN (zup a.2.1 a.2.2.1 a.1 k 0).1)), (0, .ref (q 0)), (1, .int (nI k))] := hl
  refine zz_forJ (nL := 7) (a.1) (fun i => [(6, .int (nI a.1 - 1 - nI i)), (2, .long (lN (zup a.2.1 a.2.2.1 a.1 k i).1)), (4, .long (lN (zup a.2.1 a.2.2.1 a.1 k i).2)), (0, .ref (q 0)), (1, .int (nI k))]) (J := fun _ => True) ?_ ?_ (trivial) (lv_sub hl [0, 2, 1, 3, 4] rfl)
  · intro hJ ls hl
    refine lv_iload hx hb dX3_upOf_27 (lv_at hl 0 rfl) ?_
    refine lv_if_lt (tgt := 73) hx hb dX3_upOf_29 (by decide) (fun c_2 => ?_) (fun c_2 => ?_)
    · refine lv_lload_n hx hb dX3_upOf_73 rfl (lv_at hl 1 rfl) ?_
      exact W.lret (v := (lN (zup a.2.1 a.2.2.1 a.1 k a.1).1)) hx hb hr (fun t9 ht hW => ⟨_, rfl, (by rfl), ht⟩) (fun _ h => absurd h List.not_mem_nil) dX3_upOf_74
    · exact absurd (zdn_e a.1) c_2
  · intro i hi hJ ihi ls hl
    rw [zdn hi] at hl
    refine lv_iload hx hb dX3_upOf_27 (lv_at hl 0 rfl) ?_
    refine lv_if_lt (tgt := 73) hx hb dX3_upOf_29 (by decide) (fun c_3 => ?_) (fun c_3 => ?_)
    · exact absurd c_3 (nI_pos (by have := hI.1; omega))
    · refine lv_iload_n hx hb dX3_upOf_32 rfl (lv_at hl 4 rfl) ?_
      refine lv_iload hx hb dX3_upOf_33 (lv_at hl 0 rfl) ?_
      refine lv_ishr hx hb dX3_upOf_35 ?_
      refine zz_topi (nI (k >>> (a.1 - 1 - i))) (zz_shrn rfl rfl (by omega) (by have := hI.1; omega)) ?_
      refine lv_iconst (v := 1) hx hb dX3_upOf_36 (by decide) ?_
      refine lv_iand hx hb dX3_upOf_37 ?_
      refine zz_topi (nI ((k >>> (a.1 - 1 - i)) &&& 1)) (zz_andn rfl (show (1 : Int32) = nI 1 from rfl)) ?_
      refine lv_if_ne (tgt := 56) hx hb dX3_upOf_38 (by decide) (fun c_4 => ?_) (fun c_4 => ?_)
      · replace c_4 := Classical.not_not.mp (fun q => zI_n0 c_4 (zbit_0.mpr q))
        refine lv_lload_n hx hb dX3_upOf_56 rfl (lv_at hl 1 rfl) ?_
        refine lv_lload_n hx hb dX3_upOf_57 rfl (lv_at hl 1 rfl) ?_
        refine lv_lmul hx hb dX3_upOf_58 ?_
        refine zz_topl (lN ((zup a.2.1 a.2.2.1 a.1 k i).1 * (zup a.2.1 a.2.2.1 a.1 k i).1)) (lN_mul _ _) ?_
        refine lv_lstore_n (lv' := [(2, .long (lN ((zup a.2.1 a.2.2.1 a.1 k i).1 * (zup a.2.1 a.2.2.1 a.1 k i).1))), (6, .int (nI (a.1 - 1 - i))), (4, .long (lN (zup a.2.1 a.2.2.1 a.1 k i).2)), (0, .ref (q 0)), (1, .int (nI k))]) hx hb dX3_upOf_59 rfl hl (by decide) rfl (fun ls hl => ?_)
        refine lv_lload hx hb dX3_upOf_60 (lv_at hl 2 rfl) ?_
        refine lv_lload hx hb dX3_upOf_62 (lv_at hl 2 rfl) ?_
        refine lv_lmul hx hb dX3_upOf_64 ?_
        refine zz_topl (lN ((zup a.2.1 a.2.2.1 a.1 k i).2 * (zup a.2.1 a.2.2.1 a.1 k i).2)) (lN_mul _ _) ?_
        refine lv_lstore (lv' := [(4, .long (lN ((zup a.2.1 a.2.2.1 a.1 k i).2 * (zup a.2.1 a.2.2.1 a.1 k i).2))), (2, .long (lN ((zup a.2.1 a.2.2.1 a.1 k i).1 * (zup a.2.1 a.2.2.1 a.1 k i).1))), (6, .int (nI (a.1 - 1 - i))), (0, .ref (q 0)), (1, .int (nI k))]) hx hb dX3_upOf_65 hl (by decide) rfl (fun ls hl => ?_)
        obtain ⟨v_5, ev_5⟩ : ∃ y : Int32, y = (nI (a.1 - 1 - i)) + (-1) := ⟨_, rfl⟩
        refine lv_iinc (v := v_5) (lv' := [(6, .int v_5), (4, .long (lN ((zup a.2.1 a.2.2.1 a.1 k i).2 * (zup a.2.1 a.2.2.1 a.1 k i).2))), (2, .long (lN ((zup a.2.1 a.2.2.1 a.1 k i).1 * (zup a.2.1 a.2.2.1 a.1 k i).1))), (0, .ref (q 0)), (1, .int (nI k))]) hx hb dX3_upOf_67 hl (k := 2) rfl (by rw [ev_5]; rfl) (by decide) rfl (fun ls hl => ?_)
        refine lv_goto (tgt := 27) hx hb dX3_upOf_70 (by decide) ?_
        obtain rfl : v_5 = (nI a.1 - 1 - nI (i + 1)) := by rw [ev_5]; exact zdn_s hi
        rw [show ((lN ((zup a.2.1 a.2.2.1 a.1 k i).1 * (zup a.2.1 a.2.2.1 a.1 k i).1)) : Int64) = (lN (zup a.2.1 a.2.2.1 a.1 k (i + 1)).1) from by simp only [zup, c_3, c_4, not_true_eq_false, not_false_eq_true, and_self, and_true, true_and, and_false, false_and, or_self, or_true, true_or, or_false, false_or, if_true, if_false, ↓reduceIte, Bool.false_eq_true, iff_self, iff_true, iff_false, true_iff, false_iff, Nat.add_zero, Nat.or_zero]] at hl
        have hl : lv_has ls 7 [(6, .int (nI a.1 - 1 - nI (i + 1))), (4, .long (lN (zup a.2.1 a.2.2.1 a.1 k (i + 1)).2)), (2, .long (lN (zup a.2.1 a.2.2.1 a.1 k (i + 1)).1)), (0, .ref (q 0)), (1, .int (nI k))] := hl
        exact ihi (trivial) ls (lv_sub hl [0, 2, 1, 3, 4] rfl)
      · replace c_4 := zbit_0.mp (zI_0 (zand1 _) c_4)
        refine lv_ldc2 hx hb hown hc37 dX3_upOf_41 ?_
        refine lv_lload_n hx hb dX3_upOf_44 rfl (lv_at hl 1 rfl) ?_
        refine lv_lmul hx hb dX3_upOf_45 ?_
        refine lv_lload hx hb dX3_upOf_46 (lv_at hl 2 rfl) ?_
        refine lv_lmul hx hb dX3_upOf_48 ?_
        refine lv_lload_n hx hb dX3_upOf_49 rfl (lv_at hl 1 rfl) ?_
        refine lv_lload_n hx hb dX3_upOf_50 rfl (lv_at hl 1 rfl) ?_
        refine lv_lmul hx hb dX3_upOf_51 ?_
        refine lv_lsub hx hb dX3_upOf_52 ?_
        refine lv_goto (tgt := 59) hx hb dX3_upOf_53 (by decide) ?_
        refine zz_topl (lN (2 * (zup a.2.1 a.2.2.1 a.1 k i).1 * (zup a.2.1 a.2.2.1 a.1 k i).2 - (zup a.2.1 a.2.2.1 a.1 k i).1 * (zup a.2.1 a.2.2.1 a.1 k i).1)) (zup_f (zup_le a.1 k hI.2.1.1 i)) ?_
        refine lv_lstore_n (lv' := [(2, .long (lN (2 * (zup a.2.1 a.2.2.1 a.1 k i).1 * (zup a.2.1 a.2.2.1 a.1 k i).2 - (zup a.2.1 a.2.2.1 a.1 k i).1 * (zup a.2.1 a.2.2.1 a.1 k i).1))), (6, .int (nI (a.1 - 1 - i))), (4, .long (lN (zup a.2.1 a.2.2.1 a.1 k i).2)), (0, .ref (q 0)), (1, .int (nI k))]) hx hb dX3_upOf_59 rfl hl (by decide) rfl (fun ls hl => ?_)
        refine lv_lload hx hb dX3_upOf_60 (lv_at hl 2 rfl) ?_
        refine lv_lload hx hb dX3_upOf_62 (lv_at hl 2 rfl) ?_
        refine lv_lmul hx hb dX3_upOf_64 ?_
        refine zz_topl (lN ((zup a.2.1 a.2.2.1 a.1 k i).2 * (zup a.2.1 a.2.2.1 a.1 k i).2)) (lN_mul _ _) ?_
        refine lv_lstore (lv' := [(4, .long (lN ((zup a.2.1 a.2.2.1 a.1 k i).2 * (zup a.2.1 a.2.2.1 a.1 k i).2))), (2, .long (lN (2 * (zup a.2.1 a.2.2.1 a.1 k i).1 * (zup a.2.1 a.2.2.1 a.1 k i).2 - (zup a.2.1 a.2.2.1 a.1 k i).1 * (zup a.2.1 a.2.2.1 a.1 k i).1))), (6, .int (nI (a.1 - 1 - i))), (0, .ref (q 0)), (1, .int (nI k))]) hx hb dX3_upOf_65 hl (by decide) rfl (fun ls hl => ?_)
        obtain ⟨v_6, ev_6⟩ : ∃ y : Int32, y = (nI (a.1 - 1 - i)) + (-1) := ⟨_, rfl⟩
        refine lv_iinc (v := v_6) (lv' := [(6, .int v_6), (4, .long (lN ((zup a.2.1 a.2.2.1 a.1 k i).2 * (zup a.2.1 a.2.2.1 a.1 k i).2))), (2, .long (lN (2 * (zup a.2.1 a.2.2.1 a.1 k i).1 * (zup a.2.1 a.2.2.1 a.1 k i).2 - (zup a.2.1 a.2.2.1 a.1 k i).1 * (zup a.2.1 a.2.2.1 a.1 k i).1))), (0, .ref (q 0)), (1, .int (nI k))]) hx hb dX3_upOf_67 hl (k := 2) rfl (by rw [ev_6]; rfl) (by decide) rfl (fun ls hl => ?_)
        refine lv_goto (tgt := 27) hx hb dX3_upOf_70 (by decide) ?_
        obtain rfl : v_6 = (nI a.1 - 1 - nI (i + 1)) := by rw [ev_6]; exact zdn_s hi
        rw [show ((lN (2 * (zup a.2.1 a.2.2.1 a.1 k i).1 * (zup a.2.1 a.2.2.1 a.1 k i).2 - (zup a.2.1 a.2.2.1 a.1 k i).1 * (zup a.2.1 a.2.2.1 a.1 k i).1)) : Int64) = (lN (zup a.2.1 a.2.2.1 a.1 k (i + 1)).1) from by simp only [zup, c_3, c_4, not_true_eq_false, not_false_eq_true, and_self, and_true, true_and, and_false, false_and, or_self, or_true, true_or, or_false, false_or, if_true, if_false, ↓reduceIte, Bool.false_eq_true, iff_self, iff_true, iff_false, true_iff, false_iff, Nat.add_zero, Nat.or_zero]] at hl
        have hl : lv_has ls 7 [(6, .int (nI a.1 - 1 - nI (i + 1))), (4, .long (lN (zup a.2.1 a.2.2.1 a.1 k (i + 1)).2)), (2, .long (lN (zup a.2.1 a.2.2.1 a.1 k (i + 1)).1)), (0, .ref (q 0)), (1, .int (nI k))] := hl
        exact ihi (trivial) ls (lv_sub hl [0, 2, 1, 3, 4] rfl)
set_option maxHeartbeats 4000000 in
set_option maxRecDepth 100000 in
theorem c_X3_common (l : Launch) (x : Nat) (y : Nat) (K : Nat) (hx0 : x < 2 ^ 63) (hy0 : y < 2 ^ 63) (hK1 : ∀ j, j < K → (zeu x y j).2 ≠ 0) (hK2 : (zeu x y K).2 = 0) : Met l yX3_common wsX3_common ({ frames := 0, cells := 0, slots := 0, locals := 0 }) (va_Pc [.long (lN x), .long (lN y)] (fun _ => True)) (vp_Sl (fun r : Int64 => r = lN (zeu x y K).1)) 0 0 (fun _ => False) := by
  refine Met.ofW (cc := cX3_common) (maxL := 10) (ret := (some .long)) (by decide) rfl ?_
  intro p e s m args below meth c s₁ B hml hv0
  obtain ⟨rfl, -⟩ := hv0
  have hx := B.exec
  have hb := B.bytes
  have hr := B.returns
  have hts := atoms_spec (ws := wsX3_common) B.pre
  have hown : s.vm.findClass RX3 = some m.cls := findClass_of_methodNamed B.named
  have hlocks := B.notSynchronized
  have hl := lv_entry ([.long (lN x), .long (lN y)]) (n := 10) (Nat.le_of_ble_eq_true rfl)
  rw [lg_entry_eq]
  generalize (lg_sl ([.long (lN x), .long (lN y)]) ++ List.replicate (10 - (lg_sl ([.long (lN x), .long (lN y)])).length) Slot.unset).toArray = ls at hl ⊢
  have hl : lv_has ls 10 [(0, .long (lN x)), (2, .long (lN y))] := hl
  refine lv_lload_n hx hb dX3_common_0 rfl (lv_at hl 0 rfl) ?_
  refine lv_lstore (lv' := [(4, .long (lN x)), (0, .long (lN x)), (2, .long (lN y))]) hx hb dX3_common_1 hl (by decide) rfl (fun ls hl => ?_)
  refine lv_lload_n hx hb dX3_common_3 rfl (lv_at hl 2 rfl) ?_
  refine lv_lstore (lv' := [(6, .long (lN y)), (4, .long (lN x)), (0, .long (lN x)), (2, .long (lN y))]) hx hb dX3_common_4 hl (by decide) rfl (fun ls hl => ?_)
  have hl : lv_has ls 10 [(6, .long (lN (zeu x y 0).2)), (4, .long (lN (zeu x y 0).1)), (0, .long (lN x)), (2, .long (lN y))] := hl
  refine zz_forJ (nL := 10) (K) (fun i => [(4, .long (lN (zeu x y i).1)), (6, .long (lN (zeu x y i).2)), (0, .long (lN x)), (2, .long (lN y))]) (J := fun _ => True) ?_ ?_ (trivial) (lv_sub hl [1, 0, 2, 3] rfl)
  · intro hJ ls hl
    refine lv_lload hx hb dX3_common_6 (lv_at hl 1 rfl) ?_
    refine lv_lconst (v := 0) hx hb dX3_common_8 (by decide) ?_
    refine W.lcmp hx hb dX3_common_9 ?_
    refine lv_if_eq (tgt := 31) hx hb dX3_common_10 (by decide) (fun c_1 => ?_) (fun c_1 => ?_)
    · refine lv_lload hx hb dX3_common_31 (lv_at hl 0 rfl) ?_
      exact W.lret (v := (lN (zeu x y K).1)) hx hb hr (fun t9 ht hW => ⟨_, rfl, (by rfl), ht⟩) (fun _ h => absurd h List.not_mem_nil) dX3_common_33
    · exact absurd ((zcmp0 (zeu_lt hx0 hy0 K).2).mpr hK2) c_1
  · intro i hi hJ ihi ls hl
    refine lv_lload hx hb dX3_common_6 (lv_at hl 1 rfl) ?_
    refine lv_lconst (v := 0) hx hb dX3_common_8 (by decide) ?_
    refine W.lcmp hx hb dX3_common_9 ?_
    refine lv_if_eq (tgt := 31) hx hb dX3_common_10 (by decide) (fun c_2 => ?_) (fun c_2 => ?_)
    · exact absurd ((zcmp0 (zeu_lt hx0 hy0 i).2).mp c_2) (hK1 i hi)
    · refine lv_lload hx hb dX3_common_13 (lv_at hl 0 rfl) ?_
      refine lv_lload hx hb dX3_common_15 (lv_at hl 1 rfl) ?_
      refine lv_lrem hx hb dX3_common_17 (fun q => hK1 i hi ((pk_lEQ (zeu_lt hx0 hy0 i).2 (by decide)).mp q)) ?_
      refine zz_topl (lN ((zeu x y i).1 % (zeu x y i).2)) (pk_lRem (zeu_lt hx0 hy0 i).1 (Nat.pos_of_ne_zero (hK1 i hi)) (zeu_lt hx0 hy0 i).2) ?_
      refine lv_lstore (lv' := [(8, .long (lN ((zeu x y i).1 % (zeu x y i).2))), (4, .long (lN (zeu x y i).1)), (6, .long (lN (zeu x y i).2)), (0, .long (lN x)), (2, .long (lN y))]) hx hb dX3_common_18 hl (by decide) rfl (fun ls hl => ?_)
      refine lv_lload hx hb dX3_common_20 (lv_at hl 2 rfl) ?_
      refine lv_lstore (lv' := [(4, .long (lN (zeu x y i).2)), (8, .long (lN ((zeu x y i).1 % (zeu x y i).2))), (6, .long (lN (zeu x y i).2)), (0, .long (lN x)), (2, .long (lN y))]) hx hb dX3_common_22 hl (by decide) rfl (fun ls hl => ?_)
      refine lv_lload hx hb dX3_common_24 (lv_at hl 1 rfl) ?_
      refine lv_lstore (lv' := [(6, .long (lN ((zeu x y i).1 % (zeu x y i).2))), (4, .long (lN (zeu x y i).2)), (8, .long (lN ((zeu x y i).1 % (zeu x y i).2))), (0, .long (lN x)), (2, .long (lN y))]) hx hb dX3_common_26 hl (by decide) rfl (fun ls hl => ?_)
      refine lv_goto (tgt := 6) hx hb dX3_common_28 (by decide) ?_
      have hl : lv_has ls 10 [(6, .long (lN (zeu x y (i + 1)).2)), (4, .long (lN (zeu x y (i + 1)).1)), (8, .long (lN ((zeu x y i).1 % (zeu x y i).2))), (0, .long (lN x)), (2, .long (lN y))] := hl
      exact ihi (trivial) ls (lv_sub hl [1, 0, 3, 4] rfl)
set_option maxHeartbeats 4000000 in
set_option maxRecDepth 100000 in
theorem c_X3_split (l : Launch) (D : va_G) (cI cZ : ClassId) (hs ta : Nat) (q : Nat → Nat) (a : ZA) (im : Nat → Int32) (kp : Nat → Int32) (lf : Nat → Int32) (rw : Nat → Int32) (fn : Nat → Int32) (kn : Nat) (p0 : Int32) (p1 : Int32) (hI : zInv a) : Met l yX3_split wsX3_split ({ frames := 2, cells := 0, slots := 0, locals := 43 }) (va_Pc [.ref (q 0), .int p0, .int p1] (zPre D (zTy cI cZ) hs ta (zcM cI cZ q (zst a) im kp lf rw fn kn))) (vp_Sl (fun r : Int64 => r = zq_split a p0 p1)) 0 0 (fun _ => False) := by
  refine Met.ofW (cc := cX3_split) (maxL := 9) (ret := (some .long)) (by decide) rfl ?_
  intro p e s m args below meth c s₁ B hml hv0
  obtain ⟨rfl, hP, hD, hG⟩ := hv0
  have hx := B.exec
  have hb := B.bytes
  have hr := B.returns
  have hts := atoms_spec (ws := wsX3_split) B.pre
  have hown : s.vm.findClass RX3 = some m.cls := findClass_of_methodNamed B.named
  have hlocks := B.notSynchronized
  have hK := hG.1
  have hS : va_S (zA hs) s.heap s.heap [] := va_S.rf
  have hAz : ∀ q, zA hs q → hs ≤ q := fun _ h => h
  have hl := lv_entry ([.ref (q 0), .int p0, .int p1]) (n := 9) (Nat.le_of_ble_eq_true rfl)
  rw [lg_entry_eq]
  generalize (lg_sl ([.ref (q 0), .int p0, .int p1]) ++ List.replicate (9 - (lg_sl ([.ref (q 0), .int p0, .int p1])).length) Slot.unset).toArray = ls at hl ⊢
  have hl : lv_has ls 9 [(0, .ref (q 0)), (1, .int p0), (2, .int p1)] := hl
  have hc45 := hts (.constantLong RX3 45 (-2)) (List.mem_of_getElem? (i := 2) rfl)
  have hc43 := hts (.constantLong RX3 43 (-1)) (List.mem_of_getElem? (i := 1) rfl)
  refine lv_aload_n hx hb dX3_split_0 rfl (lv_at hl 0 rfl) ?_
  refine lv_iload_n hx hb dX3_split_1 rfl (lv_at hl 1 rfl) ?_
  refine zz_cVi (cs := zcM cI cZ q (zst a) im kp lf rw fn kn) (As := [.int p0]) (rest := []) ⟨hx, hb, hml, hown, hts⟩ (c_X3_isPlace l D cI cZ hs ta q a im kp lf rw fn kn p0 hI) (cwV 1 hts gX3_split_X3_isPlace rfl rfl rfl (by decide +kernel) ⟨Nat.le_of_ble_eq_true rfl, Nat.le_of_ble_eq_true rfl⟩) (va_recv hK hP (ci := 3) (q0 := 0) rfl rfl) hP hD hG hS hAz rfl hl.1 rfl (Nat.le_of_ble_eq_true rfl) ⟨Nat.zero_le _, Nat.zero_le _⟩ dX3_split_2 (fun r_1 er_1 => ?_)
  refine lv_if_ne (tgt := 12) hx hb dX3_split_5 (by decide) (fun c_2 => ?_) (fun c_2 => ?_)
  · replace c_2 := zB_t er_1 c_2
    refine lv_iload_n hx hb dX3_split_12 rfl (lv_at hl 2 rfl) ?_
    refine lv_iconst (v := 0) hx hb dX3_split_13 (by decide) ?_
    refine lv_iconst (v := 1) hx hb dX3_split_14 (by decide) ?_
    refine zz_pSi (As := [.int p1, .int 0, .int 1]) (rest := []) ⟨hx, hb, hml, hown, hts⟩ (c_X3_in l p1 0 1) (va_cwS 3 hts gX3_split_X3_in rfl rfl rfl (by decide +kernel) ⟨Nat.le_of_ble_eq_true rfl, Nat.le_of_ble_eq_true rfl⟩) rfl hl.1 rfl (Nat.le_of_ble_eq_true rfl) ⟨Nat.zero_le _, Nat.zero_le _⟩ dX3_split_15 (fun r_3 er_3 => ?_)
    refine lv_if_ne (tgt := 25) hx hb dX3_split_18 (by decide) (fun c_4 => ?_) (fun c_4 => ?_)
    · replace c_4 := zB_t er_3 c_4
      obtain ⟨k0, hk0, rfl⟩ := zr0 c_2 (by have := zNp hI; omega)
      obtain ⟨K, hK0, hK1, hK2, hK3, hK4, hK5⟩ := zeu_K hI k0
      refine lv_aload_n hx hb dX3_split_25 rfl (lv_at hl 0 rfl) ?_
      refine lv_iload_n hx hb dX3_split_26 rfl (lv_at hl 1 rfl) ?_
      refine zz_cVl (cs := zcM cI cZ q (zst a) im kp lf rw fn kn) (As := [.int (nI k0)]) (rest := []) ⟨hx, hb, hml, hown, hts⟩ (c_X3_upOf l D cI cZ hs ta q a im kp lf rw fn kn k0 hI (by have := zNp hI; omega)) (cwV 1 hts gX3_split_X3_upOf rfl rfl rfl (by decide +kernel) ⟨Nat.le_of_ble_eq_true rfl, Nat.le_of_ble_eq_true rfl⟩) (va_recv hK hP (ci := 3) (q0 := 0) rfl rfl) hP hD hG hS hAz rfl hl.1 rfl (Nat.le_of_ble_eq_true rfl) ⟨Nat.zero_le _, Nat.zero_le _⟩ dX3_split_27 (fun r_5 er_5 => ?_)
      subst er_5
      refine lv_lstore_n (lv' := [(3, .long (lN (zlos a k0))), (0, .ref (q 0)), (1, .int (nI k0)), (2, .int p1)]) hx hb dX3_split_30 rfl hl (by decide) rfl (fun ls hl => ?_)
      refine lv_aload_n hx hb dX3_split_31 rfl (lv_at hl 1 rfl) ?_
      refine zz_cVl (cs := zcM cI cZ q (zst a) im kp lf rw fn kn) (As := []) (rest := []) ⟨hx, hb, hml, hown, hts⟩ (c_X3_lowOfAll l D cI cZ hs ta q a im kp lf rw fn kn hI) (cwV 0 hts gX3_split_X3_lowOfAll rfl rfl rfl (by decide +kernel) ⟨Nat.le_of_ble_eq_true rfl, Nat.le_of_ble_eq_true rfl⟩) (va_recv hK hP (ci := 3) (q0 := 0) rfl rfl) hP hD hG hS hAz rfl hl.1 rfl (Nat.le_of_ble_eq_true rfl) ⟨Nat.zero_le _, Nat.zero_le _⟩ dX3_split_32 (fun r_6 er_6 => ?_)
      subst er_6
      refine lv_lstore (lv' := [(5, .long (lN (zlo a.2.2.1 a.1))), (3, .long (lN (zlos a k0))), (0, .ref (q 0)), (1, .int (nI k0)), (2, .int p1)]) hx hb dX3_split_35 hl (by decide) rfl (fun ls hl => ?_)
      refine lv_lload hx hb dX3_split_37 (lv_at hl 0 rfl) ?_
      refine lv_lload_n hx hb dX3_split_39 rfl (lv_at hl 1 rfl) ?_
      refine zz_pSl (As := [.long (lN (zlo a.2.2.1 a.1)), .long (lN (zlos a k0))]) (rest := []) ⟨hx, hb, hml, hown, hts⟩ (c_X3_common l (zlo a.2.2.1 a.1) (zlos a k0) K (zlo_lt hI a.1 (Nat.le_refl _)) (zlos_lt hI k0) hK1 hK2) (va_cwS 2 hts gX3_split_X3_common rfl rfl rfl (by decide +kernel) ⟨Nat.le_of_ble_eq_true rfl, Nat.le_of_ble_eq_true rfl⟩) rfl hl.1 rfl (Nat.le_of_ble_eq_true rfl) ⟨Nat.zero_le _, Nat.zero_le _⟩ dX3_split_40 (fun r_7 er_7 => ?_)
      subst er_7
      refine zz_topl (lN (zgc a k0)) (by rw [hK3]) ?_
      refine lv_lstore (lv' := [(7, .long (lN (zgc a k0))), (5, .long (lN (zlo a.2.2.1 a.1))), (3, .long (lN (zlos a k0))), (0, .ref (q 0)), (1, .int (nI k0)), (2, .int p1)]) hx hb dX3_split_43 hl (by decide) rfl (fun ls hl => ?_)
      refine lv_iload_n hx hb dX3_split_45 rfl (lv_at hl 5 rfl) ?_
      refine lv_if_ne (tgt := 56) hx hb dX3_split_46 (by decide) (fun c_8 => ?_) (fun c_8 => ?_)
      · refine lv_lload hx hb dX3_split_56 (lv_at hl 1 rfl) ?_
        refine lv_lload hx hb dX3_split_58 (lv_at hl 0 rfl) ?_
        refine lv_ldiv hx hb dX3_split_60 (fun q => absurd ((pk_lEQ (b := 0) hK5 (by decide)).mp q) (by omega)) ?_
        refine zz_topl (lN (zlo a.2.2.1 a.1 / zgc a k0)) (pk_lDiv (zlo_lt hI a.1 (Nat.le_refl _)) (by omega) hK5) ?_
        exact W.lret (v := (lN (zlo a.2.2.1 a.1 / zgc a k0))) hx hb hr (fun t9 ht hW => ⟨_, rfl, (by simp (decide := true) only [zq_split, zwm, c_2, c_4, c_8, not_true_eq_false, not_false_eq_true, and_self, and_true, true_and, and_false, false_and, or_self, or_true, true_or, or_false, false_or, if_true, if_false, ↓reduceIte, Bool.false_eq_true, iff_self, iff_true, iff_false, true_iff, false_iff, Nat.add_zero, Nat.or_zero]; rw [zN_nI (by have := zNp hI; omega)]), ht⟩) (fun _ h => absurd h List.not_mem_nil) dX3_split_61
      · refine lv_lload_n hx hb dX3_split_49 rfl (lv_at hl 2 rfl) ?_
        refine lv_lload hx hb dX3_split_50 (lv_at hl 0 rfl) ?_
        refine lv_ldiv hx hb dX3_split_52 (fun q => absurd ((pk_lEQ (b := 0) hK5 (by decide)).mp q) (by omega)) ?_
        refine zz_topl (lN (zlos a k0 / zgc a k0)) (pk_lDiv (zlos_lt hI k0) (by omega) hK5) ?_
        refine lv_goto (tgt := 61) hx hb dX3_split_53 (by decide) ?_
        exact W.lret (v := (lN (zlos a k0 / zgc a k0))) hx hb hr (fun t9 ht hW => ⟨_, rfl, (by simp (decide := true) only [zq_split, zwm, c_2, c_4, c_8, not_true_eq_false, not_false_eq_true, and_self, and_true, true_and, and_false, false_and, or_self, or_true, true_or, or_false, false_or, if_true, if_false, ↓reduceIte, Bool.false_eq_true, iff_self, iff_true, iff_false, true_iff, false_iff, Nat.add_zero, Nat.or_zero]; rw [zN_nI (by have := zNp hI; omega)]), ht⟩) (fun _ h => absurd h List.not_mem_nil) dX3_split_61
    · replace c_4 := Classical.not_not.mp (zB_f er_3 c_4)
      refine lv_ldc2 hx hb hown hc45 dX3_split_21 ?_
      exact W.lret (v := (-2)) hx hb hr (fun t9 ht hW => ⟨_, rfl, (by simp (decide := true) only [zq_split, zwm, c_2, c_4, not_true_eq_false, not_false_eq_true, and_self, and_true, true_and, and_false, false_and, or_self, or_true, true_or, or_false, false_or, if_true, if_false, ↓reduceIte, Bool.false_eq_true, iff_self, iff_true, iff_false, true_iff, false_iff, Nat.add_zero, Nat.or_zero]), ht⟩) (fun _ h => absurd h List.not_mem_nil) dX3_split_24
  · replace c_2 := zB_f er_1 c_2
    refine lv_ldc2 hx hb hown hc43 dX3_split_8 ?_
    exact W.lret (v := (-1)) hx hb hr (fun t9 ht hW => ⟨_, rfl, (by simp (decide := true) only [zq_split, zwm, c_2, not_true_eq_false, not_false_eq_true, and_self, and_true, true_and, and_false, false_and, or_self, or_true, true_or, or_false, false_or, if_true, if_false, ↓reduceIte, Bool.false_eq_true, iff_self, iff_true, iff_false, true_iff, false_iff, Nat.add_zero, Nat.or_zero]), ht⟩) (fun _ h => absurd h List.not_mem_nil) dX3_split_11
set_option maxHeartbeats 4000000 in
set_option maxRecDepth 100000 in
theorem c_X3_aheadOf (l : Launch) (D : va_G) (cI cZ : ClassId) (hs ta : Nat) (q : Nat → Nat) (a : ZA) (im : Nat → Int32) (kp : Nat → Int32) (lf : Nat → Int32) (rw : Nat → Int32) (fn : Nat → Int32) (kn : Nat) (k : Nat) (hI : zInv a) (hk : k < 16) : Met l yX3_aheadOf wsX3_aheadOf ({ frames := 1, cells := 0, slots := 0, locals := 26 }) (va_Pc [.ref (q 0), .int (nI k)] (zPre D (zTy cI cZ) hs ta (zcM cI cZ q (zst a) im kp lf rw fn kn))) (vp_Si (fun r : Int32 => r = nI (zrk a k))) 0 0 (fun _ => False) := by
  refine Met.ofW (cc := cX3_aheadOf) (maxL := 4) (ret := (some .int)) (by decide) rfl ?_
  intro p e s m args below meth c s₁ B hml hv0
  obtain ⟨rfl, hP, hD, hG⟩ := hv0
  have hx := B.exec
  have hb := B.bytes
  have hr := B.returns
  have hts := atoms_spec (ws := wsX3_aheadOf) B.pre
  have hown : s.vm.findClass RX3 = some m.cls := findClass_of_methodNamed B.named
  have hlocks := B.notSynchronized
  have hK := hG.1
  have hS : va_S (zA hs) s.heap s.heap [] := va_S.rf
  have hAz : ∀ q, zA hs q → hs ≤ q := fun _ h => h
  have hl := lv_entry ([.ref (q 0), .int (nI k)]) (n := 4) (Nat.le_of_ble_eq_true rfl)
  rw [lg_entry_eq]
  generalize (lg_sl ([.ref (q 0), .int (nI k)]) ++ List.replicate (4 - (lg_sl ([.ref (q 0), .int (nI k)])).length) Slot.unset).toArray = ls at hl ⊢
  have hl : lv_has ls 4 [(0, .ref (q 0)), (1, .int (nI k))] := hl
  refine lv_iconst (v := 0) hx hb dX3_aheadOf_0 (by decide) ?_
  refine lv_istore_n (lv' := [(2, .int 0), (0, .ref (q 0)), (1, .int (nI k))]) hx hb dX3_aheadOf_1 rfl hl (by decide) rfl (fun ls hl => ?_)
  refine lv_iconst (v := 0) hx hb dX3_aheadOf_2 (by decide) ?_
  refine lv_istore_n (lv' := [(3, .int 0), (2, .int 0), (0, .ref (q 0)), (1, .int (nI k))]) hx hb dX3_aheadOf_3 rfl hl (by decide) rfl (fun ls hl => ?_)
  have hl : lv_has ls 4 [(3, .int (nI 0)), (2, .int (nI (zct (zbt a k) 0))), (0, .ref (q 0)), (1, .int (nI k))] := hl
  refine zz_forJ (nL := 4) (2 ^ a.1) (fun i => [(3, .int (nI i)), (2, .int (nI (zct (zbt a k) i))), (0, .ref (q 0)), (1, .int (nI k))]) (J := fun _ => True) ?_ ?_ (trivial) (lv_sub hl [0, 1, 2, 3] rfl)
  · intro hJ ls hl
    refine lv_iload_n hx hb dX3_aheadOf_4 rfl (lv_at hl 0 rfl) ?_
    refine lv_aload_n hx hb dX3_aheadOf_5 rfl (lv_at hl 2 rfl) ?_
    refine zz_cVi (cs := zcM cI cZ q (zst a) im kp lf rw fn kn) (As := []) (rest := [.int (nI ((2 ^ a.1)))]) ⟨hx, hb, hml, hown, hts⟩ (c_X3_places l D cI cZ hs ta q a im kp lf rw fn kn hI.1.2) (cwV 0 hts gX3_aheadOf_X3_places rfl rfl rfl (by decide +kernel) ⟨Nat.le_of_ble_eq_true rfl, Nat.le_of_ble_eq_true rfl⟩) (va_recv hK hP (ci := 3) (q0 := 0) rfl rfl) hP hD hG hS hAz rfl hl.1 rfl (Nat.le_of_ble_eq_true rfl) ⟨Nat.zero_le _, Nat.zero_le _⟩ dX3_aheadOf_6 (fun r_1 er_1 => ?_)
    subst er_1
    refine lv_icmp_ge (tgt := 59) hx hb dX3_aheadOf_9 (by decide) (fun c_2 => ?_) (fun c_2 => ?_)
    · replace c_2 := Int32.not_lt.mpr c_2
      refine lv_iload_n hx hb dX3_aheadOf_59 rfl (lv_at hl 1 rfl) ?_
      exact W.iret (v := (nI (zct (zbt a k) (2 ^ a.1)))) hx hb hr (fun t9 ht hW => ⟨_, rfl, (by rfl), ht⟩) (fun _ h => absurd h List.not_mem_nil) dX3_aheadOf_60
    · replace c_2 := Int32.not_le.mp c_2
      exact absurd c_2 (nI_nlt (Nat.le_refl _) (by have := zNp hI; omega))
  · intro i hi hJ ihi ls hl
    refine lv_iload_n hx hb dX3_aheadOf_4 rfl (lv_at hl 0 rfl) ?_
    refine lv_aload_n hx hb dX3_aheadOf_5 rfl (lv_at hl 2 rfl) ?_
    refine zz_cVi (cs := zcM cI cZ q (zst a) im kp lf rw fn kn) (As := []) (rest := [.int (nI i)]) ⟨hx, hb, hml, hown, hts⟩ (c_X3_places l D cI cZ hs ta q a im kp lf rw fn kn hI.1.2) (cwV 0 hts gX3_aheadOf_X3_places rfl rfl rfl (by decide +kernel) ⟨Nat.le_of_ble_eq_true rfl, Nat.le_of_ble_eq_true rfl⟩) (va_recv hK hP (ci := 3) (q0 := 0) rfl rfl) hP hD hG hS hAz rfl hl.1 rfl (Nat.le_of_ble_eq_true rfl) ⟨Nat.zero_le _, Nat.zero_le _⟩ dX3_aheadOf_6 (fun r_3 er_3 => ?_)
    subst er_3
    refine lv_icmp_ge (tgt := 59) hx hb dX3_aheadOf_9 (by decide) (fun c_4 => ?_) (fun c_4 => ?_)
    · replace c_4 := Int32.not_lt.mpr c_4
      exact absurd (nI_lt hi (by have := zNp hI; omega)) c_4
    · replace c_4 := Int32.not_le.mp c_4
      refine lv_iload_n hx hb dX3_aheadOf_12 rfl (lv_at hl 1 rfl) ?_
      refine lv_aload_n hx hb dX3_aheadOf_13 rfl (lv_at hl 2 rfl) ?_
      refine lv_iload_n hx hb dX3_aheadOf_14 rfl (lv_at hl 0 rfl) ?_
      refine zz_cVl (cs := zcM cI cZ q (zst a) im kp lf rw fn kn) (As := [.int (nI i)]) (rest := [.int (nI (zct (zbt a k) i))]) ⟨hx, hb, hml, hown, hts⟩ (c_X3_upOf l D cI cZ hs ta q a im kp lf rw fn kn i hI (by have := zNp hI; omega)) (cwV 1 hts gX3_aheadOf_X3_upOf rfl rfl rfl (by decide +kernel) ⟨Nat.le_of_ble_eq_true rfl, Nat.le_of_ble_eq_true rfl⟩) (va_recv hK hP (ci := 3) (q0 := 0) rfl rfl) hP hD hG hS hAz rfl hl.1 rfl (Nat.le_of_ble_eq_true rfl) ⟨Nat.zero_le _, Nat.zero_le _⟩ dX3_aheadOf_15 (fun r_5 er_5 => ?_)
      subst er_5
      refine lv_aload_n hx hb dX3_aheadOf_18 rfl (lv_at hl 2 rfl) ?_
      refine lv_iload_n hx hb dX3_aheadOf_19 rfl (lv_at hl 3 rfl) ?_
      refine zz_cVl (cs := zcM cI cZ q (zst a) im kp lf rw fn kn) (As := [.int (nI k)]) (rest := [.long (lN (zlos a i)), .int (nI (zct (zbt a k) i))]) ⟨hx, hb, hml, hown, hts⟩ (c_X3_upOf l D cI cZ hs ta q a im kp lf rw fn kn k hI hk) (cwV 1 hts gX3_aheadOf_X3_upOf rfl rfl rfl (by decide +kernel) ⟨Nat.le_of_ble_eq_true rfl, Nat.le_of_ble_eq_true rfl⟩) (va_recv hK hP (ci := 3) (q0 := 0) rfl rfl) hP hD hG hS hAz rfl hl.1 rfl (Nat.le_of_ble_eq_true rfl) ⟨Nat.zero_le _, Nat.zero_le _⟩ dX3_aheadOf_20 (fun r_6 er_6 => ?_)
      subst er_6
      refine W.lcmp hx hb dX3_aheadOf_23 ?_
      refine lv_if_lt (tgt := 46) hx hb dX3_aheadOf_24 (by decide) (fun c_7 => ?_) (fun c_7 => ?_)
      · replace c_7 := (zcmp_lt (zlos_lt hI i) (zlos_lt hI k)).mp c_7
        refine lv_iconst (v := 1) hx hb dX3_aheadOf_46 (by decide) ?_
        refine lv_goto (tgt := 51) hx hb dX3_aheadOf_47 (by decide) ?_
        refine lv_iadd hx hb dX3_aheadOf_51 ?_
        refine zz_topi (nI ((zct (zbt a k) i) + 1)) (zz_addn rfl (show (1 : Int32) = nI 1 from rfl)) ?_
        refine lv_istore_n (lv' := [(2, .int (nI ((zct (zbt a k) i) + 1))), (3, .int (nI i)), (0, .ref (q 0)), (1, .int (nI k))]) hx hb dX3_aheadOf_52 rfl hl (by decide) rfl (fun ls hl => ?_)
        refine lv_iinc (v := (nI (i + 1))) (lv' := [(3, .int (nI (i + 1))), (2, .int (nI ((zct (zbt a k) i) + 1))), (0, .ref (q 0)), (1, .int (nI k))]) hx hb dX3_aheadOf_53 hl (k := 1) rfl (zz_inc _) (by decide) rfl (fun ls hl => ?_)
        refine lv_goto (tgt := 4) hx hb dX3_aheadOf_56 (by decide) ?_
        rw [show ((nI ((zct (zbt a k) i) + 1)) : Int32) = (nI (zct (zbt a k) (i + 1))) from congrArg nI (by simp only [zct, zbt, decide_eq_true_eq]; split <;> omega)] at hl
        have hl : lv_has ls 4 [(3, .int (nI ((i + 1)))), (2, .int (nI (zct (zbt a k) (i + 1)))), (0, .ref (q 0)), (1, .int (nI k))] := hl
        exact ihi (trivial) ls (lv_sub hl [0, 1, 2, 3] rfl)
      · replace c_7 := (not_congr (zcmp_lt (zlos_lt hI i) (zlos_lt hI k))).mp c_7
        refine lv_aload_n hx hb dX3_aheadOf_27 rfl (lv_at hl 2 rfl) ?_
        refine lv_iload_n hx hb dX3_aheadOf_28 rfl (lv_at hl 0 rfl) ?_
        refine zz_cVl (cs := zcM cI cZ q (zst a) im kp lf rw fn kn) (As := [.int (nI i)]) (rest := [.int (nI (zct (zbt a k) i))]) ⟨hx, hb, hml, hown, hts⟩ (c_X3_upOf l D cI cZ hs ta q a im kp lf rw fn kn i hI (by have := zNp hI; omega)) (cwV 1 hts gX3_aheadOf_X3_upOf rfl rfl rfl (by decide +kernel) ⟨Nat.le_of_ble_eq_true rfl, Nat.le_of_ble_eq_true rfl⟩) (va_recv hK hP (ci := 3) (q0 := 0) rfl rfl) hP hD hG hS hAz rfl hl.1 rfl (Nat.le_of_ble_eq_true rfl) ⟨Nat.zero_le _, Nat.zero_le _⟩ dX3_aheadOf_29 (fun r_8 er_8 => ?_)
        subst er_8
        refine lv_aload_n hx hb dX3_aheadOf_32 rfl (lv_at hl 2 rfl) ?_
        refine lv_iload_n hx hb dX3_aheadOf_33 rfl (lv_at hl 3 rfl) ?_
        refine zz_cVl (cs := zcM cI cZ q (zst a) im kp lf rw fn kn) (As := [.int (nI k)]) (rest := [.long (lN (zlos a i)), .int (nI (zct (zbt a k) i))]) ⟨hx, hb, hml, hown, hts⟩ (c_X3_upOf l D cI cZ hs ta q a im kp lf rw fn kn k hI hk) (cwV 1 hts gX3_aheadOf_X3_upOf rfl rfl rfl (by decide +kernel) ⟨Nat.le_of_ble_eq_true rfl, Nat.le_of_ble_eq_true rfl⟩) (va_recv hK hP (ci := 3) (q0 := 0) rfl rfl) hP hD hG hS hAz rfl hl.1 rfl (Nat.le_of_ble_eq_true rfl) ⟨Nat.zero_le _, Nat.zero_le _⟩ dX3_aheadOf_34 (fun r_9 er_9 => ?_)
        subst er_9
        refine W.lcmp hx hb dX3_aheadOf_37 ?_
        refine lv_if_ne (tgt := 50) hx hb dX3_aheadOf_38 (by decide) (fun c_10 => ?_) (fun c_10 => ?_)
        · replace c_10 := (not_congr (zcmp_eq (zlos_lt hI i) (zlos_lt hI k))).mp c_10
          refine lv_iconst (v := 0) hx hb dX3_aheadOf_50 (by decide) ?_
          refine lv_iadd hx hb dX3_aheadOf_51 ?_
          refine zz_topi (nI ((zct (zbt a k) i) + 0)) (zz_addn rfl (show (0 : Int32) = nI 0 from rfl)) ?_
          refine lv_istore_n (lv' := [(2, .int (nI ((zct (zbt a k) i) + 0))), (3, .int (nI i)), (0, .ref (q 0)), (1, .int (nI k))]) hx hb dX3_aheadOf_52 rfl hl (by decide) rfl (fun ls hl => ?_)
          refine lv_iinc (v := (nI (i + 1))) (lv' := [(3, .int (nI (i + 1))), (2, .int (nI ((zct (zbt a k) i) + 0))), (0, .ref (q 0)), (1, .int (nI k))]) hx hb dX3_aheadOf_53 hl (k := 1) rfl (zz_inc _) (by decide) rfl (fun ls hl => ?_)
          refine lv_goto (tgt := 4) hx hb dX3_aheadOf_56 (by decide) ?_
          rw [show ((nI ((zct (zbt a k) i) + 0)) : Int32) = (nI (zct (zbt a k) (i + 1))) from congrArg nI (by simp only [zct, zbt, decide_eq_true_eq]; split <;> omega)] at hl
          have hl : lv_has ls 4 [(3, .int (nI ((i + 1)))), (2, .int (nI (zct (zbt a k) (i + 1)))), (0, .ref (q 0)), (1, .int (nI k))] := hl
          exact ihi (trivial) ls (lv_sub hl [0, 1, 2, 3] rfl)
        · replace c_10 := (zcmp_eq (zlos_lt hI i) (zlos_lt hI k)).mp c_10
          refine lv_iload_n hx hb dX3_aheadOf_41 rfl (lv_at hl 0 rfl) ?_
          refine lv_iload_n hx hb dX3_aheadOf_42 rfl (lv_at hl 3 rfl) ?_
          refine lv_icmp_le (tgt := 50) hx hb dX3_aheadOf_43 (by decide) (fun c_11 => ?_) (fun c_11 => ?_)
          · replace c_11 := Int32.not_lt.mpr c_11
            replace c_11 : ¬ k < i := fun q => c_11 (nI_lt q (by have := zNp hI; omega))
            refine lv_iconst (v := 0) hx hb dX3_aheadOf_50 (by decide) ?_
            refine lv_iadd hx hb dX3_aheadOf_51 ?_
            refine zz_topi (nI ((zct (zbt a k) i) + 0)) (zz_addn rfl (show (0 : Int32) = nI 0 from rfl)) ?_
            refine lv_istore_n (lv' := [(2, .int (nI ((zct (zbt a k) i) + 0))), (3, .int (nI i)), (0, .ref (q 0)), (1, .int (nI k))]) hx hb dX3_aheadOf_52 rfl hl (by decide) rfl (fun ls hl => ?_)
            refine lv_iinc (v := (nI (i + 1))) (lv' := [(3, .int (nI (i + 1))), (2, .int (nI ((zct (zbt a k) i) + 0))), (0, .ref (q 0)), (1, .int (nI k))]) hx hb dX3_aheadOf_53 hl (k := 1) rfl (zz_inc _) (by decide) rfl (fun ls hl => ?_)
            refine lv_goto (tgt := 4) hx hb dX3_aheadOf_56 (by decide) ?_
            rw [show ((nI ((zct (zbt a k) i) + 0)) : Int32) = (nI (zct (zbt a k) (i + 1))) from congrArg nI (by simp only [zct, zbt, decide_eq_true_eq]; split <;> omega)] at hl
            have hl : lv_has ls 4 [(3, .int (nI ((i + 1)))), (2, .int (nI (zct (zbt a k) (i + 1)))), (0, .ref (q 0)), (1, .int (nI k))] := hl
            exact ihi (trivial) ls (lv_sub hl [0, 1, 2, 3] rfl)
          · replace c_11 := Int32.not_le.mp c_11
            replace c_11 : k < i := (nI_ltI (by omega) (by have := zNp hI; omega)).mp c_11
            refine lv_iconst (v := 1) hx hb dX3_aheadOf_46 (by decide) ?_
            refine lv_goto (tgt := 51) hx hb dX3_aheadOf_47 (by decide) ?_
            refine lv_iadd hx hb dX3_aheadOf_51 ?_
            refine zz_topi (nI ((zct (zbt a k) i) + 1)) (zz_addn rfl (show (1 : Int32) = nI 1 from rfl)) ?_
            refine lv_istore_n (lv' := [(2, .int (nI ((zct (zbt a k) i) + 1))), (3, .int (nI i)), (0, .ref (q 0)), (1, .int (nI k))]) hx hb dX3_aheadOf_52 rfl hl (by decide) rfl (fun ls hl => ?_)
            refine lv_iinc (v := (nI (i + 1))) (lv' := [(3, .int (nI (i + 1))), (2, .int (nI ((zct (zbt a k) i) + 1))), (0, .ref (q 0)), (1, .int (nI k))]) hx hb dX3_aheadOf_53 hl (k := 1) rfl (zz_inc _) (by decide) rfl (fun ls hl => ?_)
            refine lv_goto (tgt := 4) hx hb dX3_aheadOf_56 (by decide) ?_
            rw [show ((nI ((zct (zbt a k) i) + 1)) : Int32) = (nI (zct (zbt a k) (i + 1))) from congrArg nI (by simp only [zct, zbt, decide_eq_true_eq]; split <;> omega)] at hl
            have hl : lv_has ls 4 [(3, .int (nI ((i + 1)))), (2, .int (nI (zct (zbt a k) (i + 1)))), (0, .ref (q 0)), (1, .int (nI k))] := hl
            exact ihi (trivial) ls (lv_sub hl [0, 1, 2, 3] rfl)
set_option maxHeartbeats 4000000 in
set_option maxRecDepth 100000 in
theorem c_X3_bestAt (l : Launch) (D : va_G) (cI cZ : ClassId) (hs ta : Nat) (q : Nat → Nat) (a : ZA) (im : Nat → Int32) (kp : Nat → Int32) (lf : Nat → Int32) (rw : Nat → Int32) (fn : Nat → Int32) (kn : Nat) (k : Nat) (m0 : Nat) (hI : zInv a) (hk : k < 16) (hm : m0 < 2 ^ a.1) (hm1 : zrk a m0 = k) (hm2 : ∀ j, j < m0 → zrk a j ≠ k) : Met l yX3_bestAt wsX3_bestAt ({ frames := 2, cells := 0, slots := 0, locals := 49 }) (va_Pc [.ref (q 0), .int (nI k)] (zPre D (zTy cI cZ) hs ta (zcM cI cZ q (zst a) im kp lf rw fn kn))) (vp_Si (fun r : Int32 => r = nI m0)) 0 0 (fun _ => False) := by
  refine Met.ofW (cc := cX3_bestAt) (maxL := 3) (ret := (some .int)) (by decide) rfl ?_
  intro p e s m args below meth c s₁ B hml hv0
  obtain ⟨rfl, hP, hD, hG⟩ := hv0
  have hx := B.exec
  have hb := B.bytes
  have hr := B.returns
  have hts := atoms_spec (ws := wsX3_bestAt) B.pre
  have hown : s.vm.findClass RX3 = some m.cls := findClass_of_methodNamed B.named
  have hlocks := B.notSynchronized
  have hK := hG.1
  have hS : va_S (zA hs) s.heap s.heap [] := va_S.rf
  have hAz : ∀ q, zA hs q → hs ≤ q := fun _ h => h
  have hl := lv_entry ([.ref (q 0), .int (nI k)]) (n := 3) (Nat.le_of_ble_eq_true rfl)
  rw [lg_entry_eq]
  generalize (lg_sl ([.ref (q 0), .int (nI k)]) ++ List.replicate (3 - (lg_sl ([.ref (q 0), .int (nI k)])).length) Slot.unset).toArray = ls at hl ⊢
  have hl : lv_has ls 3 [(0, .ref (q 0)), (1, .int (nI k))] := hl
  refine lv_iconst (v := 0) hx hb dX3_bestAt_0 (by decide) ?_
  refine lv_istore_n (lv' := [(2, .int 0), (0, .ref (q 0)), (1, .int (nI k))]) hx hb dX3_bestAt_1 rfl hl (by decide) rfl (fun ls hl => ?_)
  have hl : lv_has ls 3 [(2, .int (nI 0)), (0, .ref (q 0)), (1, .int (nI k))] := hl
  refine zz_forJ (nL := 3) (m0) (fun i => [(2, .int (nI i)), (0, .ref (q 0)), (1, .int (nI k))]) (J := fun _ => True) ?_ ?_ (trivial) (lv_sub hl [0, 1, 2] rfl)
  · intro hJ ls hl
    refine lv_aload_n hx hb dX3_bestAt_2 rfl (lv_at hl 1 rfl) ?_
    refine lv_iload_n hx hb dX3_bestAt_3 rfl (lv_at hl 0 rfl) ?_
    refine zz_cVi (cs := zcM cI cZ q (zst a) im kp lf rw fn kn) (As := [.int (nI m0)]) (rest := []) ⟨hx, hb, hml, hown, hts⟩ (c_X3_aheadOf l D cI cZ hs ta q a im kp lf rw fn kn m0 hI (by have := zNp hI; omega)) (cwV 1 hts gX3_bestAt_X3_aheadOf rfl rfl rfl (by decide +kernel) ⟨Nat.le_of_ble_eq_true rfl, Nat.le_of_ble_eq_true rfl⟩) (va_recv hK hP (ci := 3) (q0 := 0) rfl rfl) hP hD hG hS hAz rfl hl.1 rfl (Nat.le_of_ble_eq_true rfl) ⟨Nat.zero_le _, Nat.zero_le _⟩ dX3_bestAt_4 (fun r_1 er_1 => ?_)
    subst er_1
    refine lv_iload_n hx hb dX3_bestAt_7 rfl (lv_at hl 2 rfl) ?_
    refine lv_icmp_eq (tgt := 17) hx hb dX3_bestAt_8 (by decide) (fun c_2 => ?_) (fun c_2 => ?_)
    · refine lv_iload_n hx hb dX3_bestAt_17 rfl (lv_at hl 0 rfl) ?_
      exact W.iret (v := (nI m0)) hx hb hr (fun t9 ht hW => ⟨_, rfl, (by rfl), ht⟩) (fun _ h => absurd h List.not_mem_nil) dX3_bestAt_18
    · exact absurd (by rw [hm1]) c_2
  · intro i hi hJ ihi ls hl
    refine lv_aload_n hx hb dX3_bestAt_2 rfl (lv_at hl 1 rfl) ?_
    refine lv_iload_n hx hb dX3_bestAt_3 rfl (lv_at hl 0 rfl) ?_
    refine zz_cVi (cs := zcM cI cZ q (zst a) im kp lf rw fn kn) (As := [.int (nI i)]) (rest := []) ⟨hx, hb, hml, hown, hts⟩ (c_X3_aheadOf l D cI cZ hs ta q a im kp lf rw fn kn i hI (by have := zNp hI; omega)) (cwV 1 hts gX3_bestAt_X3_aheadOf rfl rfl rfl (by decide +kernel) ⟨Nat.le_of_ble_eq_true rfl, Nat.le_of_ble_eq_true rfl⟩) (va_recv hK hP (ci := 3) (q0 := 0) rfl rfl) hP hD hG hS hAz rfl hl.1 rfl (Nat.le_of_ble_eq_true rfl) ⟨Nat.zero_le _, Nat.zero_le _⟩ dX3_bestAt_4 (fun r_3 er_3 => ?_)
    subst er_3
    refine lv_iload_n hx hb dX3_bestAt_7 rfl (lv_at hl 2 rfl) ?_
    refine lv_icmp_eq (tgt := 17) hx hb dX3_bestAt_8 (by decide) (fun c_4 => ?_) (fun c_4 => ?_)
    · exact absurd ((nI_eq (by have := zct_le (zbt a i) (2 ^ a.1); have := zNp hI; unfold zrk; omega) (by omega)).mp c_4) (hm2 i hi)
    · refine lv_iinc (v := (nI (i + 1))) (lv' := [(2, .int (nI (i + 1))), (0, .ref (q 0)), (1, .int (nI k))]) hx hb dX3_bestAt_11 hl (k := 0) rfl (zz_inc _) (by decide) rfl (fun ls hl => ?_)
      refine lv_goto (tgt := 2) hx hb dX3_bestAt_14 (by decide) ?_
      have hl : lv_has ls 3 [(2, .int (nI ((i + 1)))), (0, .ref (q 0)), (1, .int (nI k))] := hl
      exact ihi (trivial) ls (lv_sub hl [0, 1, 2] rfl)
set_option maxHeartbeats 4000000 in
set_option maxRecDepth 100000 in
theorem c_X3_rank (l : Launch) (D : va_G) (cI cZ : ClassId) (hs ta : Nat) (q : Nat → Nat) (a : ZA) (im : Nat → Int32) (kp : Nat → Int32) (lf : Nat → Int32) (rw : Nat → Int32) (fn : Nat → Int32) (kn : Nat) (p0 : Int32) (p1 : Int32) (hI : zInv a) : Met l yX3_rank wsX3_rank ({ frames := 3, cells := 0, slots := 0, locals := 71 }) (va_Pc [.ref (q 0), .int p0, .int p1] (zPre D (zTy cI cZ) hs ta (zcM cI cZ q (zst a) im kp lf rw fn kn))) (vp_Si (fun r : Int32 => r = zq_rank a p0 p1)) 0 0 (fun _ => False) := by
  refine Met.ofW (cc := cX3_rank) (maxL := 3) (ret := (some .int)) (by decide) rfl ?_
  intro p e s m args below meth c s₁ B hml hv0
  obtain ⟨rfl, hP, hD, hG⟩ := hv0
  have hx := B.exec
  have hb := B.bytes
  have hr := B.returns
  have hts := atoms_spec (ws := wsX3_rank) B.pre
  have hown : s.vm.findClass RX3 = some m.cls := findClass_of_methodNamed B.named
  have hlocks := B.notSynchronized
  have hK := hG.1
  have hS : va_S (zA hs) s.heap s.heap [] := va_S.rf
  have hAz : ∀ q, zA hs q → hs ≤ q := fun _ h => h
  have hl := lv_entry ([.ref (q 0), .int p0, .int p1]) (n := 3) (Nat.le_of_ble_eq_true rfl)
  rw [lg_entry_eq]
  generalize (lg_sl ([.ref (q 0), .int p0, .int p1]) ++ List.replicate (3 - (lg_sl ([.ref (q 0), .int p0, .int p1])).length) Slot.unset).toArray = ls at hl ⊢
  have hl : lv_has ls 3 [(0, .ref (q 0)), (1, .int p0), (2, .int p1)] := hl
  refine lv_aload_n hx hb dX3_rank_0 rfl (lv_at hl 0 rfl) ?_
  refine lv_iload_n hx hb dX3_rank_1 rfl (lv_at hl 1 rfl) ?_
  refine zz_cVi (cs := zcM cI cZ q (zst a) im kp lf rw fn kn) (As := [.int p0]) (rest := []) ⟨hx, hb, hml, hown, hts⟩ (c_X3_isPlace l D cI cZ hs ta q a im kp lf rw fn kn p0 hI) (cwV 1 hts gX3_rank_X3_isPlace rfl rfl rfl (by decide +kernel) ⟨Nat.le_of_ble_eq_true rfl, Nat.le_of_ble_eq_true rfl⟩) (va_recv hK hP (ci := 3) (q0 := 0) rfl rfl) hP hD hG hS hAz rfl hl.1 rfl (Nat.le_of_ble_eq_true rfl) ⟨Nat.zero_le _, Nat.zero_le _⟩ dX3_rank_2 (fun r_1 er_1 => ?_)
  refine lv_if_ne (tgt := 10) hx hb dX3_rank_5 (by decide) (fun c_2 => ?_) (fun c_2 => ?_)
  · replace c_2 := zB_t er_1 c_2
    obtain ⟨k0, hk0, rfl⟩ := zr0 c_2 (by have := zNp hI; omega)
    have hb0 := zbr_spec hI hk0
    refine lv_iload_n hx hb dX3_rank_10 rfl (lv_at hl 2 rfl) ?_
    refine lv_if_ne (tgt := 22) hx hb dX3_rank_11 (by decide) (fun c_3 => ?_) (fun c_3 => ?_)
    · refine lv_iload_n hx hb dX3_rank_22 rfl (lv_at hl 2 rfl) ?_
      refine lv_iconst (v := 1) hx hb dX3_rank_23 (by decide) ?_
      refine lv_icmp_ne (tgt := 35) hx hb dX3_rank_24 (by decide) (fun c_4 => ?_) (fun c_4 => ?_)
      · replace c_4 := zw01 c_3 c_4
        refine lv_bipush (v := (-2)) hx hb dX3_rank_35 (by decide) ?_
        exact W.iret (v := (-2)) hx hb hr (fun t9 ht hW => ⟨_, rfl, (by simp (decide := true) only [zq_rank, zwm, c_2, c_3, c_4, not_true_eq_false, not_false_eq_true, and_self, and_true, true_and, and_false, false_and, or_self, or_true, true_or, or_false, false_or, if_true, if_false, ↓reduceIte, Bool.false_eq_true, iff_self, iff_true, iff_false, true_iff, false_iff, Nat.add_zero, Nat.or_zero]), ht⟩) (fun _ h => absurd h List.not_mem_nil) dX3_rank_37
      · refine lv_aload_n hx hb dX3_rank_27 rfl (lv_at hl 0 rfl) ?_
        refine lv_iload_n hx hb dX3_rank_28 rfl (lv_at hl 1 rfl) ?_
        refine zz_cVi (cs := zcM cI cZ q (zst a) im kp lf rw fn kn) (As := [.int (nI k0)]) (rest := []) ⟨hx, hb, hml, hown, hts⟩ (c_X3_aheadOf l D cI cZ hs ta q a im kp lf rw fn kn k0 hI (by have := zNp hI; omega)) (cwV 1 hts gX3_rank_X3_aheadOf rfl rfl rfl (by decide +kernel) ⟨Nat.le_of_ble_eq_true rfl, Nat.le_of_ble_eq_true rfl⟩) (va_recv hK hP (ci := 3) (q0 := 0) rfl rfl) hP hD hG hS hAz rfl hl.1 rfl (Nat.le_of_ble_eq_true rfl) ⟨Nat.zero_le _, Nat.zero_le _⟩ dX3_rank_29 (fun r_5 er_5 => ?_)
        subst er_5
        refine lv_goto (tgt := 37) hx hb dX3_rank_32 (by decide) ?_
        exact W.iret (v := (nI (zrk a k0))) hx hb hr (fun t9 ht hW => ⟨_, rfl, (by simp (decide := true) only [zq_rank, zwm, c_2, c_3, c_4, not_true_eq_false, not_false_eq_true, and_self, and_true, true_and, and_false, false_and, or_self, or_true, true_or, or_false, false_or, if_true, if_false, ↓reduceIte, Bool.false_eq_true, iff_self, iff_true, iff_false, true_iff, false_iff, Nat.add_zero, Nat.or_zero]; rw [zN_nI (by have := zNp hI; omega)]), ht⟩) (fun _ h => absurd h List.not_mem_nil) dX3_rank_37
    · refine lv_aload_n hx hb dX3_rank_14 rfl (lv_at hl 0 rfl) ?_
      refine lv_iload_n hx hb dX3_rank_15 rfl (lv_at hl 1 rfl) ?_
      refine zz_cVi (cs := zcM cI cZ q (zst a) im kp lf rw fn kn) (As := [.int (nI k0)]) (rest := []) ⟨hx, hb, hml, hown, hts⟩ (c_X3_bestAt l D cI cZ hs ta q a im kp lf rw fn kn k0 (zbr a k0) hI (by have := zNp hI; omega) hb0.1 hb0.2.1 hb0.2.2) (cwV 1 hts gX3_rank_X3_bestAt rfl rfl rfl (by decide +kernel) ⟨Nat.le_of_ble_eq_true rfl, Nat.le_of_ble_eq_true rfl⟩) (va_recv hK hP (ci := 3) (q0 := 0) rfl rfl) hP hD hG hS hAz rfl hl.1 rfl (Nat.le_of_ble_eq_true rfl) ⟨Nat.zero_le _, Nat.zero_le _⟩ dX3_rank_16 (fun r_6 er_6 => ?_)
      subst er_6
      refine lv_goto (tgt := 37) hx hb dX3_rank_19 (by decide) ?_
      exact W.iret (v := (nI (zbr a k0))) hx hb hr (fun t9 ht hW => ⟨_, rfl, (by simp (decide := true) only [zq_rank, zwm, c_2, c_3, not_true_eq_false, not_false_eq_true, and_self, and_true, true_and, and_false, false_and, or_self, or_true, true_or, or_false, false_or, if_true, if_false, ↓reduceIte, Bool.false_eq_true, iff_self, iff_true, iff_false, true_iff, false_iff, Nat.add_zero, Nat.or_zero]; rw [zN_nI (by have := zNp hI; omega)]), ht⟩) (fun _ h => absurd h List.not_mem_nil) dX3_rank_37
  · replace c_2 := zB_f er_1 c_2
    refine lv_iconst (v := (-1)) hx hb dX3_rank_8 (by decide) ?_
    exact W.iret (v := (-1)) hx hb hr (fun t9 ht hW => ⟨_, rfl, (by simp (decide := true) only [zq_rank, zwm, c_2, not_true_eq_false, not_false_eq_true, and_self, and_true, true_and, and_false, false_and, or_self, or_true, true_or, or_false, false_or, if_true, if_false, ↓reduceIte, Bool.false_eq_true, iff_self, iff_true, iff_false, true_iff, false_iff, Nat.add_zero, Nat.or_zero]), ht⟩) (fun _ h => absurd h List.not_mem_nil) dX3_rank_9
set_option maxHeartbeats 4000000 in
set_option maxRecDepth 100000 in
theorem c_X3_freeze (l : Launch) (D : va_G) (cI cZ : ClassId) (hs ta : Nat) (sz : Nat) (q : Nat → Nat) (a : ZA) (im : Nat → Int32) (kp : Nat → Int32) (lf : Nat → Int32) (rw : Nat → Int32) (fn : Nat → Int32) (kn : Nat) (p0 : Int32) (hI : zInv a) : Met l yX3_freeze wsX3_freeze ({ frames := 2, cells := 0, slots := 0, locals := 43 }) (va_Pc [.ref (q 0), .int p0] (fun U => U.heap.size = sz ∧ zPre D (zTy cI cZ) hs ta (zcM cI cZ q (zst a) im kp lf rw fn kn) U)) (va_Qi (fun (r : Int32) (u : ZA) => (r, u) = zq_freeze a p0) (fun (u : ZA) t9 => va_P D vwCl (zcM cI cZ q (zst u) im kp lf rw fn kn) t9.heap) (va_A (zcM cI cZ q (zst a) im kp lf rw fn kn) sz)) 0 0 (va_A (zcM cI cZ q (zst a) im kp lf rw fn kn) sz) := by
  refine Met.ofW (cc := cX3_freeze) (maxL := 2) (ret := (some .int)) (by decide) rfl ?_
  intro p e s m args below meth c s₁ B hml hv0
  obtain ⟨rfl, hsz, hP, hD0, hG⟩ := hv0
  have hx := B.exec
  have hb := B.bytes
  have hr := B.returns
  have hts := atoms_spec (ws := wsX3_freeze) B.pre
  have hown : s.vm.findClass RX3 = some m.cls := findClass_of_methodNamed B.named
  have hlocks := B.notSynchronized
  subst hsz
  have hD := hD0.self (sz := s.heap.size)
  have hAz0 : ∀ y9, va_A (zcM cI cZ q (zst a) im kp lf rw fn kn) s.heap.size y9 → hs ≤ y9 := zA_of hD0 (fun y9 h => Nat.le_trans hG.2.2.2.2 h) (va_S.rf (A := zA hs) (H0 := s.heap))
  generalize hAe : va_A (zcM cI cZ q (zst a) im kp lf rw fn kn) s.heap.size = A at hD hAz0 ⊢
  have hA : ∀ y9 : Nat, s.heap.size ≤ y9 → A y9 := fun y9 h => by rw [← hAe]; exact Or.inr h
  have hS : va_S A s.heap s.heap [] := va_S.rf
  have hAz : ∀ y9, A y9 → hs ≤ y9 := hAz0
  have hK := hG.1
  have hl := lv_entry ([.ref (q 0), .int p0]) (n := 2) (Nat.le_of_ble_eq_true rfl)
  rw [lg_entry_eq]
  generalize (lg_sl ([.ref (q 0), .int p0]) ++ List.replicate (2 - (lg_sl ([.ref (q 0), .int p0])).length) Slot.unset).toArray = ls at hl ⊢
  have hl : lv_has ls 2 [(0, .ref (q 0)), (1, .int p0)] := hl
  have hf7 := hts (.fieldLink RX3 7 "FrozenBitsModel" "state" "[I") (List.mem_of_getElem? (i := 1) rfl)
  have hiX3 : ∀ w ∈ u_ws RX3 TX3 7, w ∈ wsX3_freeze := fun w h => List.mem_cons_of_mem _ (List.mem_append_right _ h)
  refine lv_aload_n hx hb dX3_freeze_0 rfl (lv_at hl 0 rfl) ?_
  refine lv_iload_n hx hb dX3_freeze_1 rfl (lv_at hl 1 rfl) ?_
  refine zz_cVi (cs := zcM cI cZ q (zst a) im kp lf rw fn kn) (As := [.int p0]) (rest := []) ⟨hx, hb, hml, hown, hts⟩ (c_X3_isRow l D cI cZ hs ta q a im kp lf rw fn kn p0 hI) (cwV 1 hts gX3_freeze_X3_isRow rfl rfl rfl (by decide +kernel) ⟨Nat.le_of_ble_eq_true rfl, Nat.le_of_ble_eq_true rfl⟩) (va_recv hK hP (ci := 3) (q0 := 0) rfl rfl) hP hD hG hS hAz rfl hl.1 rfl (Nat.le_of_ble_eq_true rfl) ⟨Nat.zero_le _, Nat.zero_le _⟩ dX3_freeze_2 (fun r_1 er_1 => ?_)
  refine lv_if_ne (tgt := 11) hx hb dX3_freeze_5 (by decide) (fun c_2 => ?_) (fun c_2 => ?_)
  · replace c_2 := zB_t er_1 c_2
    obtain ⟨k0, hk0, rfl⟩ := zr0 c_2 (by have := zNN hI; omega)
    refine lv_aload_n hx hb dX3_freeze_11 rfl (lv_at hl 0 rfl) ?_
    refine va_get (ci := 3) (C := RX3) (T := TX3) (N := 7) hx hb hts hiX3 hown hK hP 0 rfl rfl 0 (by decide) hf7 (fun _ h9 => h9) rfl dX3_freeze_12 ?_
    refine lv_iconst (v := 3) hx hb dX3_freeze_15 (by decide) ?_
    refine lv_iload_n hx hb dX3_freeze_16 rfl (lv_at hl 1 rfl) ?_
    refine zz_iast hx hb hK hP hD hS 1 0 rfl rfl (i := 3) (show (3 : Int32) = nI 3 from rfl) (by decide) (by decide) dX3_freeze_17 (fun H locs hP hD hS => ?_)
    have hP : va_P D vwCl (zcM cI cZ q (upd (zst a) 3 (nI k0)) im kp lf rw fn kn) H := hP
    have hD : va_D A (zcM cI cZ q (upd (zst a) 3 (nI k0)) im kp lf rw fn kn) := hD
    rw [zst_u3] at hP hD
    have hP : va_P D vwCl (zcM cI cZ q (zst (a.1, a.2.1, a.2.2.1, k0, a.2.2.2.2.1, a.2.2.2.2.2.1, a.2.2.2.2.2.2)) im kp lf rw fn kn) H := hP
    have hD : va_D A (zcM cI cZ q (zst (a.1, a.2.1, a.2.2.1, k0, a.2.2.2.2.1, a.2.2.2.2.2.1, a.2.2.2.2.2.2)) im kp lf rw fn kn) := hD
    refine lv_aload_n hx hb dX3_freeze_18 rfl (lv_at hl 0 rfl) ?_
    refine zz_cVi (cs := zcM cI cZ q (zst (a.1, a.2.1, a.2.2.1, k0, a.2.2.2.2.1, a.2.2.2.2.2.1, a.2.2.2.2.2.2)) im kp lf rw fn kn) (As := []) (rest := []) ⟨hx, hb, hml, hown, hts⟩ (c_X3_free l D cI cZ hs ta q (a.1, a.2.1, a.2.2.1, k0, a.2.2.2.2.1, a.2.2.2.2.2.1, a.2.2.2.2.2.2) im kp lf rw fn kn (zInv_fz hI hk0)) (cwV 0 hts gX3_freeze_X3_free rfl rfl rfl (by decide +kernel) ⟨Nat.le_of_ble_eq_true rfl, Nat.le_of_ble_eq_true rfl⟩) (va_recv hK hP (ci := 3) (q0 := 0) rfl rfl) hP hD hG hS hAz rfl hl.1 rfl (Nat.le_of_ble_eq_true rfl) ⟨Nat.zero_le _, Nat.zero_le _⟩ dX3_freeze_19 (fun r_3 er_3 => ?_)
    subst er_3
    refine zz_pSi (As := [.int (nI (zfre ((a.1, a.2.1, a.2.2.1, k0, a.2.2.2.2.1, a.2.2.2.2.2.1, a.2.2.2.2.2.2))))]) (rest := []) ⟨hx, hb, hml, hown, hts⟩ (c_X3_size l (zfre ((a.1, a.2.1, a.2.2.1, k0, a.2.2.2.2.1, a.2.2.2.2.2.1, a.2.2.2.2.2.2))) (zfre_lt (zInv_fz hI hk0))) (va_cwS 1 hts gX3_freeze_X3_size rfl rfl rfl (by decide +kernel) ⟨Nat.le_of_ble_eq_true rfl, Nat.le_of_ble_eq_true rfl⟩) rfl hl.1 rfl (Nat.le_of_ble_eq_true rfl) ⟨Nat.zero_le _, Nat.zero_le _⟩ dX3_freeze_22 (fun r_4 er_4 => ?_)
    subst er_4
    exact W.iret (v := (nI (zpc (zfre ((a.1, a.2.1, a.2.2.1, k0, a.2.2.2.2.1, a.2.2.2.2.2.1, a.2.2.2.2.2.2)))))) hx hb hr (fun t9 ht hW => ⟨⟨_, (a.1, a.2.1, a.2.2.1, k0, a.2.2.2.2.1, a.2.2.2.2.2.1, a.2.2.2.2.2.2), rfl, (by simp (decide := true) only [zq_freeze, zwm, c_2, not_true_eq_false, not_false_eq_true, and_self, and_true, true_and, and_false, false_and, or_self, or_true, true_or, or_false, false_or, if_true, if_false, ↓reduceIte, Bool.false_eq_true, iff_self, iff_true, iff_false, true_iff, false_iff, Nat.add_zero, Nat.or_zero]; rw [zN_nI (by have := zNN hI; omega), zpc_fre (zInv_fz hI hk0)]), zP_ht ht hP⟩, hS.F ht⟩) hS.2.2 dX3_freeze_25
  · replace c_2 := zB_f er_1 c_2
    refine lv_bipush (v := (-2)) hx hb dX3_freeze_8 (by decide) ?_
    exact W.iret (v := (-2)) hx hb hr (fun t9 ht hW => ⟨⟨_, a, rfl, (by simp (decide := true) only [zq_freeze, zwm, c_2, not_true_eq_false, not_false_eq_true, and_self, and_true, true_and, and_false, false_and, or_self, or_true, true_or, or_false, false_or, if_true, if_false, ↓reduceIte, Bool.false_eq_true, iff_self, iff_true, iff_false, true_iff, false_iff, Nat.add_zero, Nat.or_zero]), zP_ht ht hP⟩, hS.F ht⟩) hS.2.2 dX3_freeze_10
set_option maxHeartbeats 4000000 in
set_option maxRecDepth 100000 in
theorem c_X3_best (l : Launch) (D : va_G) (cI cZ : ClassId) (hs ta : Nat) (sz : Nat) (q : Nat → Nat) (a : ZA) (im : Nat → Int32) (kp : Nat → Int32) (lf : Nat → Int32) (rw : Nat → Int32) (fn : Nat → Int32) (kn : Nat) (p0 : Int32) (hI : zInv a) : Met l yX3_best wsX3_best ({ frames := 3, cells := 0, slots := 0, locals := 71 }) (va_Pc [.ref (q 0), .int p0] (fun U => U.heap.size = sz ∧ zPre D (zTy cI cZ) hs ta (zcM cI cZ q (zst a) im kp lf rw fn kn) U)) (va_Qi (fun (r : Int32) (u : ZA) => (r, u) = zq_best a p0) (fun (u : ZA) t9 => va_P D vwCl (zcM cI cZ q (zst u) im kp lf rw fn kn) t9.heap) (va_A (zcM cI cZ q (zst a) im kp lf rw fn kn) sz)) 0 0 (va_A (zcM cI cZ q (zst a) im kp lf rw fn kn) sz) := by
  refine Met.ofW (cc := cX3_best) (maxL := 4) (ret := (some .int)) (by decide) rfl ?_
  intro p e s m args below meth c s₁ B hml hv0
  obtain ⟨rfl, hsz, hP, hD0, hG⟩ := hv0
  have hx := B.exec
  have hb := B.bytes
  have hr := B.returns
  have hts := atoms_spec (ws := wsX3_best) B.pre
  have hown : s.vm.findClass RX3 = some m.cls := findClass_of_methodNamed B.named
  have hlocks := B.notSynchronized
  subst hsz
  have hD := hD0.self (sz := s.heap.size)
  have hAz0 : ∀ y9, va_A (zcM cI cZ q (zst a) im kp lf rw fn kn) s.heap.size y9 → hs ≤ y9 := zA_of hD0 (fun y9 h => Nat.le_trans hG.2.2.2.2 h) (va_S.rf (A := zA hs) (H0 := s.heap))
  generalize hAe : va_A (zcM cI cZ q (zst a) im kp lf rw fn kn) s.heap.size = A at hD hAz0 ⊢
  have hA : ∀ y9 : Nat, s.heap.size ≤ y9 → A y9 := fun y9 h => by rw [← hAe]; exact Or.inr h
  have hS : va_S A s.heap s.heap [] := va_S.rf
  have hAz : ∀ y9, A y9 → hs ≤ y9 := hAz0
  have hK := hG.1
  have hl := lv_entry ([.ref (q 0), .int p0]) (n := 4) (Nat.le_of_ble_eq_true rfl)
  rw [lg_entry_eq]
  generalize (lg_sl ([.ref (q 0), .int p0]) ++ List.replicate (4 - (lg_sl ([.ref (q 0), .int p0])).length) Slot.unset).toArray = ls at hl ⊢
  have hl : lv_has ls 4 [(0, .ref (q 0)), (1, .int p0)] := hl
  have hf7 := hts (.fieldLink RX3 7 "FrozenBitsModel" "state" "[I") (List.mem_of_getElem? (i := 1) rfl)
  have hiX3 : ∀ w ∈ u_ws RX3 TX3 7, w ∈ wsX3_best := fun w h => List.mem_cons_of_mem _ (List.mem_append_right _ h)
  refine lv_iload_n hx hb dX3_best_0 rfl (lv_at hl 1 rfl) ?_
  refine lv_iconst (v := 0) hx hb dX3_best_1 (by decide) ?_
  refine lv_aload_n hx hb dX3_best_2 rfl (lv_at hl 0 rfl) ?_
  refine zz_cVi (cs := zcM cI cZ q (zst a) im kp lf rw fn kn) (As := []) (rest := [.int 0, .int p0]) ⟨hx, hb, hml, hown, hts⟩ (c_X3_places l D cI cZ hs ta q a im kp lf rw fn kn hI.1.2) (cwV 0 hts gX3_best_X3_places rfl rfl rfl (by decide +kernel) ⟨Nat.le_of_ble_eq_true rfl, Nat.le_of_ble_eq_true rfl⟩) (va_recv hK hP (ci := 3) (q0 := 0) rfl rfl) hP hD hG hS hAz rfl hl.1 rfl (Nat.le_of_ble_eq_true rfl) ⟨Nat.zero_le _, Nat.zero_le _⟩ dX3_best_3 (fun r_1 er_1 => ?_)
  subst er_1
  refine zz_pSi (As := [.int p0, .int 0, .int (nI (2 ^ a.1))]) (rest := []) ⟨hx, hb, hml, hown, hts⟩ (c_X3_in l p0 0 (nI (2 ^ a.1))) (va_cwS 3 hts gX3_best_X3_in rfl rfl rfl (by decide +kernel) ⟨Nat.le_of_ble_eq_true rfl, Nat.le_of_ble_eq_true rfl⟩) rfl hl.1 rfl (Nat.le_of_ble_eq_true rfl) ⟨Nat.zero_le _, Nat.zero_le _⟩ dX3_best_6 (fun r_2 er_2 => ?_)
  refine lv_if_ne (tgt := 15) hx hb dX3_best_9 (by decide) (fun c_3 => ?_) (fun c_3 => ?_)
  · replace c_3 := zB_t er_2 c_3
    obtain ⟨k0, hk0a, hk0b, rfl⟩ := zr1 (lo := 0) (hi := 2 ^ a.1) (fun q => c_3 (Or.inl q)) (fun q => c_3 (Or.inr q)) (by have := zNp hI; omega) (by decide)
    refine lv_iconst (v := 1) hx hb dX3_best_15 (by decide) ?_
    refine lv_aload_n hx hb dX3_best_16 rfl (lv_at hl 0 rfl) ?_
    refine zz_cVi (cs := zcM cI cZ q (zst a) im kp lf rw fn kn) (As := []) (rest := [.int 1]) ⟨hx, hb, hml, hown, hts⟩ (c_X3_places l D cI cZ hs ta q a im kp lf rw fn kn hI.1.2) (cwV 0 hts gX3_best_X3_places rfl rfl rfl (by decide +kernel) ⟨Nat.le_of_ble_eq_true rfl, Nat.le_of_ble_eq_true rfl⟩) (va_recv hK hP (ci := 3) (q0 := 0) rfl rfl) hP hD hG hS hAz rfl hl.1 rfl (Nat.le_of_ble_eq_true rfl) ⟨Nat.zero_le _, Nat.zero_le _⟩ dX3_best_17 (fun r_4 er_4 => ?_)
    subst er_4
    refine lv_ishl hx hb dX3_best_20 ?_
    refine zz_topi (nI (2 ^ (2 ^ a.1))) (zz_shl1n rfl (by have := zNp hI; omega)) ?_
    refine lv_iconst (v := 1) hx hb dX3_best_21 (by decide) ?_
    refine lv_isub hx hb dX3_best_22 ?_
    refine zz_topi (nI ((2 ^ (2 ^ a.1)) - 1)) (zz_subn rfl (show (1 : Int32) = nI 1 from rfl) (Nat.one_le_two_pow)) ?_
    refine lv_istore_n (lv' := [(2, .int (nI ((2 ^ (2 ^ a.1)) - 1))), (0, .ref (q 0)), (1, .int (nI k0))]) hx hb dX3_best_23 rfl hl (by decide) rfl (fun ls hl => ?_)
    refine lv_iconst (v := 0) hx hb dX3_best_24 (by decide) ?_
    refine lv_istore_n (lv' := [(3, .int 0), (2, .int (nI ((2 ^ (2 ^ a.1)) - 1))), (0, .ref (q 0)), (1, .int (nI k0))]) hx hb dX3_best_25 rfl hl (by decide) rfl (fun ls hl => ?_)
    have hl : lv_has ls 4 [(3, .int (nI 0)), (2, .int (nI (zbs a 0))), (0, .ref (q 0)), (1, .int (nI k0))] := hl
    refine zz_forJ (nL := 4) (k0) (fun i => [(3, .int (nI i)), (2, .int (nI (zbs a i))), (0, .ref (q 0)), (1, .int (nI k0))]) (J := fun _ => True) ?_ ?_ (trivial) (lv_sub hl [0, 1, 2, 3] rfl)
    · intro hJ ls hl
      refine lv_iload_n hx hb dX3_best_26 rfl (lv_at hl 0 rfl) ?_
      refine lv_iload_n hx hb dX3_best_27 rfl (lv_at hl 3 rfl) ?_
      refine lv_icmp_ge (tgt := 49) hx hb dX3_best_28 (by decide) (fun c_5 => ?_) (fun c_5 => ?_)
      · replace c_5 := Int32.not_lt.mpr c_5
        refine lv_aload_n hx hb dX3_best_49 rfl (lv_at hl 2 rfl) ?_
        refine va_get (ci := 3) (C := RX3) (T := TX3) (N := 7) hx hb hts hiX3 hown hK hP 0 rfl rfl 0 (by decide) hf7 (fun _ h9 => h9) rfl dX3_best_50 ?_
        refine lv_iconst (v := 3) hx hb dX3_best_53 (by decide) ?_
        refine lv_iload_n hx hb dX3_best_54 rfl (lv_at hl 1 rfl) ?_
        refine zz_iast hx hb hK hP hD hS 1 0 rfl rfl (i := 3) (show (3 : Int32) = nI 3 from rfl) (by decide) (by decide) dX3_best_55 (fun H locs hP hD hS => ?_)
        have hP : va_P D vwCl (zcM cI cZ q (upd (zst a) 3 (nI (zbs a k0))) im kp lf rw fn kn) H := hP
        have hD : va_D A (zcM cI cZ q (upd (zst a) 3 (nI (zbs a k0))) im kp lf rw fn kn) := hD
        rw [zst_u3] at hP hD
        have hP : va_P D vwCl (zcM cI cZ q (zst (a.1, a.2.1, a.2.2.1, zbs a k0, a.2.2.2.2.1, a.2.2.2.2.2.1, a.2.2.2.2.2.2)) im kp lf rw fn kn) H := hP
        have hD : va_D A (zcM cI cZ q (zst (a.1, a.2.1, a.2.2.1, zbs a k0, a.2.2.2.2.1, a.2.2.2.2.2.1, a.2.2.2.2.2.2)) im kp lf rw fn kn) := hD
        refine lv_iload_n hx hb dX3_best_56 rfl (lv_at hl 1 rfl) ?_
        exact W.iret (v := (nI (zbs a k0))) hx hb hr (fun t9 ht hW => ⟨⟨_, (a.1, a.2.1, a.2.2.1, zbs a k0, a.2.2.2.2.1, a.2.2.2.2.2.1, a.2.2.2.2.2.2), rfl, (by simp (decide := true) only [zq_best, zwm, c_3, c_5, not_true_eq_false, not_false_eq_true, and_self, and_true, true_and, and_false, false_and, or_self, or_true, true_or, or_false, false_or, if_true, if_false, ↓reduceIte, Bool.false_eq_true, iff_self, iff_true, iff_false, true_iff, false_iff, Nat.add_zero, Nat.or_zero]; rw [zN_nI (by have := zNp hI; omega), zbs_eq hI hk0b]), zP_ht ht hP⟩, hS.F ht⟩) hS.2.2 dX3_best_57
      · replace c_5 := Int32.not_le.mp c_5
        exact absurd c_5 (nI_nlt (Nat.le_refl _) (by have := zNp hI; omega))
    · intro i hi hJ ihi ls hl
      have hb0 := zbr_spec hI (show i < 2 ^ a.1 by omega)
      refine lv_iload_n hx hb dX3_best_26 rfl (lv_at hl 0 rfl) ?_
      refine lv_iload_n hx hb dX3_best_27 rfl (lv_at hl 3 rfl) ?_
      refine lv_icmp_ge (tgt := 49) hx hb dX3_best_28 (by decide) (fun c_6 => ?_) (fun c_6 => ?_)
      · replace c_6 := Int32.not_lt.mpr c_6
        exact absurd (nI_lt hi (by have := zNp hI; omega)) c_6
      · replace c_6 := Int32.not_le.mp c_6
        refine lv_iload_n hx hb dX3_best_31 rfl (lv_at hl 1 rfl) ?_
        refine lv_iconst (v := 1) hx hb dX3_best_32 (by decide) ?_
        refine lv_aload_n hx hb dX3_best_33 rfl (lv_at hl 2 rfl) ?_
        refine lv_iload_n hx hb dX3_best_34 rfl (lv_at hl 0 rfl) ?_
        refine zz_cVi (cs := zcM cI cZ q (zst a) im kp lf rw fn kn) (As := [.int (nI i)]) (rest := [.int 1, .int (nI (zbs a i))]) ⟨hx, hb, hml, hown, hts⟩ (c_X3_bestAt l D cI cZ hs ta q a im kp lf rw fn kn i (zbr a i) hI (by have := zNp hI; omega) hb0.1 hb0.2.1 hb0.2.2) (cwV 1 hts gX3_best_X3_bestAt rfl rfl rfl (by decide +kernel) ⟨Nat.le_of_ble_eq_true rfl, Nat.le_of_ble_eq_true rfl⟩) (va_recv hK hP (ci := 3) (q0 := 0) rfl rfl) hP hD hG hS hAz rfl hl.1 rfl (Nat.le_of_ble_eq_true rfl) ⟨Nat.zero_le _, Nat.zero_le _⟩ dX3_best_35 (fun r_7 er_7 => ?_)
        subst er_7
        refine lv_ishl hx hb dX3_best_38 ?_
        refine zz_topi (nI (2 ^ (zbr a i))) (zz_shl1n rfl (by have := hb0.1; have := zNp hI; omega)) ?_
        refine lv_iconst (v := (-1)) hx hb dX3_best_39 (by decide) ?_
        refine lv_ixor hx hb dX3_best_40 ?_
        refine lv_iand hx hb dX3_best_41 ?_
        refine zz_topi (nI (zbs a i &&& (2 ^ zbr a i ^^^ 65535))) (zn_andn (zbs_lt hI i)) ?_
        refine lv_istore_n (lv' := [(2, .int (nI (zbs a i &&& (2 ^ zbr a i ^^^ 65535)))), (3, .int (nI i)), (0, .ref (q 0)), (1, .int (nI k0))]) hx hb dX3_best_42 rfl hl (by decide) rfl (fun ls hl => ?_)
        refine lv_iinc (v := (nI (i + 1))) (lv' := [(3, .int (nI (i + 1))), (2, .int (nI (zbs a i &&& (2 ^ zbr a i ^^^ 65535)))), (0, .ref (q 0)), (1, .int (nI k0))]) hx hb dX3_best_43 hl (k := 1) rfl (zz_inc _) (by decide) rfl (fun ls hl => ?_)
        refine lv_goto (tgt := 26) hx hb dX3_best_46 (by decide) ?_
        have hl : lv_has ls 4 [(3, .int (nI ((i + 1)))), (2, .int (nI (zbs a (i + 1)))), (0, .ref (q 0)), (1, .int (nI k0))] := hl
        exact ihi (trivial) ls (lv_sub hl [0, 1, 2, 3] rfl)
  · replace c_3 := Classical.not_not.mp (zB_f er_2 c_3)
    refine lv_bipush (v := (-2)) hx hb dX3_best_12 (by decide) ?_
    exact W.iret (v := (-2)) hx hb hr (fun t9 ht hW => ⟨⟨_, a, rfl, (by simp (decide := true) only [zq_best, zwm, c_3, not_true_eq_false, not_false_eq_true, and_self, and_true, true_and, and_false, false_and, or_self, or_true, true_or, or_false, false_or, if_true, if_false, ↓reduceIte, Bool.false_eq_true, iff_self, iff_true, iff_false, true_iff, false_iff, Nat.add_zero, Nat.or_zero]), zP_ht ht hP⟩, hS.F ht⟩) hS.2.2 dX3_best_14
set_option maxHeartbeats 4000000 in
set_option maxRecDepth 100000 in
theorem c_X3_codedOf (l : Launch) (v : Nat) (f : Nat) (mm : Nat) (e0 : Nat) (he : mm = 2 ^ e0) (he4 : e0 ≤ 4) (hv : v < 65536) (hf : f < 32) : Met l yX3_codedOf wsX3_codedOf ({ frames := 0, cells := 0, slots := 0, locals := 0 }) (va_Pc [.int (nI v), .int (nI f), .int (nI mm)] (fun _ => True)) (vp_Si (fun r : Int32 => r = nI (zcod ((v >>> f) &&& (2 ^ mm - 1))))) 0 0 (fun _ => False) := by
  refine Met.ofW (cc := cX3_codedOf) (maxL := 8) (ret := (some .int)) (by decide) rfl ?_
  intro p e s m args below meth c s₁ B hml hv0
  obtain ⟨rfl, -⟩ := hv0
  have hx := B.exec
  have hb := B.bytes
  have hr := B.returns
  have hts := atoms_spec (ws := wsX3_codedOf) B.pre
  have hown : s.vm.findClass RX3 = some m.cls := findClass_of_methodNamed B.named
  have hlocks := B.notSynchronized
  have hl := lv_entry ([.int (nI v), .int (nI f), .int (nI mm)]) (n := 8) (Nat.le_of_ble_eq_true rfl)
  rw [lg_entry_eq]
  generalize (lg_sl ([.int (nI v), .int (nI f), .int (nI mm)]) ++ List.replicate (8 - (lg_sl ([.int (nI v), .int (nI f), .int (nI mm)])).length) Slot.unset).toArray = ls at hl ⊢
  have hl : lv_has ls 8 [(0, .int (nI v)), (1, .int (nI f)), (2, .int (nI mm))] := hl
  have hm16 : mm ≤ 16 := by rw [he]; exact zp4_16 he4
  have hX : ∀ j, zcl ((v >>> f) &&& (2 ^ mm - 1)) j < 65536 := fun j => Nat.lt_of_lt_of_le (zcl_ltm (zand_lt (v >>> f) mm) j) (zp2_le hm16)
  refine lv_iload_n hx hb dX3_codedOf_0 rfl (lv_at hl 0 rfl) ?_
  refine lv_iload_n hx hb dX3_codedOf_1 rfl (lv_at hl 1 rfl) ?_
  refine lv_ishr hx hb dX3_codedOf_2 ?_
  refine zz_topi (nI (v >>> f)) (zz_shrn rfl rfl (by omega) (hf)) ?_
  refine lv_iconst (v := 1) hx hb dX3_codedOf_3 (by decide) ?_
  refine lv_iload_n hx hb dX3_codedOf_4 rfl (lv_at hl 2 rfl) ?_
  refine lv_ishl hx hb dX3_codedOf_5 ?_
  refine zz_topi (nI (2 ^ mm)) (zz_shl1n rfl (by omega)) ?_
  refine lv_iconst (v := 1) hx hb dX3_codedOf_6 (by decide) ?_
  refine lv_isub hx hb dX3_codedOf_7 ?_
  refine zz_topi (nI ((2 ^ mm) - 1)) (zz_subn rfl (show (1 : Int32) = nI 1 from rfl) (Nat.one_le_two_pow)) ?_
  refine lv_iand hx hb dX3_codedOf_8 ?_
  refine zz_topi (nI ((v >>> f) &&& ((2 ^ mm) - 1))) (zz_andn rfl rfl) ?_
  refine lv_istore_n (lv' := [(3, .int (nI ((v >>> f) &&& ((2 ^ mm) - 1)))), (0, .int (nI v)), (1, .int (nI f)), (2, .int (nI mm))]) hx hb dX3_codedOf_9 rfl hl (by decide) rfl (fun ls hl => ?_)
  refine lv_iconst (v := 1) hx hb dX3_codedOf_10 (by decide) ?_
  refine lv_istore (lv' := [(4, .int 1), (3, .int (nI ((v >>> f) &&& ((2 ^ mm) - 1)))), (0, .int (nI v)), (1, .int (nI f)), (2, .int (nI mm))]) hx hb dX3_codedOf_11 hl (by decide) rfl (fun ls hl => ?_)
  have hl : lv_has ls 8 [(4, .int (nI (2 ^ 0))), (3, .int (nI (zcl ((v >>> f) &&& (2 ^ mm - 1)) 0))), (0, .int (nI v)), (1, .int (nI f)), (2, .int (nI mm))] := hl
  refine zz_forJ (nL := 8) (e0) (fun j => [(4, .int (nI (2 ^ j))), (3, .int (nI (zcl ((v >>> f) &&& (2 ^ mm - 1)) j))), (0, .int (nI v)), (1, .int (nI f)), (2, .int (nI mm))]) (J := fun _ => True) ?_ ?_ (trivial) (lv_sub hl [0, 1, 2, 3, 4] rfl)
  · intro hJ ls hl
    refine lv_iload hx hb dX3_codedOf_13 (lv_at hl 0 rfl) ?_
    refine lv_iload_n hx hb dX3_codedOf_15 rfl (lv_at hl 4 rfl) ?_
    refine lv_icmp_ge (tgt := 92) hx hb dX3_codedOf_16 (by decide) (fun c_1 => ?_) (fun c_1 => ?_)
    · replace c_1 := Int32.not_lt.mpr c_1
      refine lv_iload_n hx hb dX3_codedOf_92 rfl (lv_at hl 1 rfl) ?_
      exact W.iret (v := (nI (zcl ((v >>> f) &&& (2 ^ mm - 1)) e0))) hx hb hr (fun t9 ht hW => ⟨_, rfl, (congrArg nI (zcl_top (e := e0) (by rw [← he]; exact zand_lt _ _) 4 he4).symm), ht⟩) (fun _ h => absurd h List.not_mem_nil) dX3_codedOf_93
    · replace c_1 := Int32.not_le.mp c_1
      exact absurd c_1 (nI_nlt (Nat.le_of_eq he) (by have := zp4_16 he4; omega))
  · intro j hj hJ ihj ls hl
    have hj4 : j < 4 := by omega
    refine lv_iload hx hb dX3_codedOf_13 (lv_at hl 0 rfl) ?_
    refine lv_iload_n hx hb dX3_codedOf_15 rfl (lv_at hl 4 rfl) ?_
    refine lv_icmp_ge (tgt := 92) hx hb dX3_codedOf_16 (by decide) (fun c_2 => ?_) (fun c_2 => ?_)
    · replace c_2 := Int32.not_lt.mpr c_2
      exact absurd (nI_lt (show 2 ^ j < mm by rw [he]; exact Nat.pow_lt_pow_right (by omega) hj) (by omega)) c_2
    · replace c_2 := Int32.not_le.mp c_2
      refine lv_iconst (v := 0) hx hb dX3_codedOf_19 (by decide) ?_
      refine lv_istore (lv' := [(5, .int 0), (4, .int (nI (2 ^ j))), (3, .int (nI (zcl ((v >>> f) &&& (2 ^ mm - 1)) j))), (0, .int (nI v)), (1, .int (nI f)), (2, .int (nI mm))]) hx hb dX3_codedOf_20 hl (by decide) rfl (fun ls hl => ?_)
      refine lv_iconst (v := 0) hx hb dX3_codedOf_22 (by decide) ?_
      refine lv_istore (lv' := [(6, .int 0), (5, .int 0), (4, .int (nI (2 ^ j))), (3, .int (nI (zcl ((v >>> f) &&& (2 ^ mm - 1)) j))), (0, .int (nI v)), (1, .int (nI f)), (2, .int (nI mm))]) hx hb dX3_codedOf_23 hl (by decide) rfl (fun ls hl => ?_)
      have hl : lv_has ls 8 [(6, .int (nI 0)), (5, .int (nI (zcn (zcl ((v >>> f) &&& (2 ^ mm - 1)) j) j 0))), (4, .int (nI (2 ^ j))), (3, .int (nI (zcl ((v >>> f) &&& (2 ^ mm - 1)) j))), (0, .int (nI v)), (1, .int (nI f)), (2, .int (nI mm))] := hl
      refine zz_forJ (nL := 8) (mm) (fun i => [(6, .int (nI i)), (5, .int (nI (zcn (zcl ((v >>> f) &&& (2 ^ mm - 1)) j) j i))), (4, .int (nI (2 ^ j))), (3, .int (nI (zcl ((v >>> f) &&& (2 ^ mm - 1)) j))), (0, .int (nI v)), (1, .int (nI f)), (2, .int (nI mm))]) (J := fun _ => True) ?_ ?_ (trivial) (lv_sub hl [0, 1, 2, 3, 4, 5, 6] rfl)
      · intro hJ ls hl
        refine lv_iload hx hb dX3_codedOf_25 (lv_at hl 0 rfl) ?_
        refine lv_iload_n hx hb dX3_codedOf_27 rfl (lv_at hl 6 rfl) ?_
        refine lv_icmp_ge (tgt := 80) hx hb dX3_codedOf_28 (by decide) (fun c_3 => ?_) (fun c_3 => ?_)
        · replace c_3 := Int32.not_lt.mpr c_3
          refine lv_iload hx hb dX3_codedOf_80 (lv_at hl 1 rfl) ?_
          refine lv_istore_n (lv' := [(3, .int (nI (zcn (zcl ((v >>> f) &&& (2 ^ mm - 1)) j) j mm))), (6, .int (nI mm)), (5, .int (nI (zcn (zcl ((v >>> f) &&& (2 ^ mm - 1)) j) j mm))), (4, .int (nI (2 ^ j))), (0, .int (nI v)), (1, .int (nI f)), (2, .int (nI mm))]) hx hb dX3_codedOf_82 rfl hl (by decide) rfl (fun ls hl => ?_)
          refine lv_iload hx hb dX3_codedOf_83 (lv_at hl 3 rfl) ?_
          refine lv_iconst (v := 2) hx hb dX3_codedOf_85 (by decide) ?_
          refine lv_imul hx hb dX3_codedOf_86 ?_
          refine zz_topi (nI ((2 ^ j) * 2)) (zz_muln rfl (show (2 : Int32) = nI 2 from rfl)) ?_
          refine lv_istore (lv' := [(4, .int (nI ((2 ^ j) * 2))), (3, .int (nI (zcn (zcl ((v >>> f) &&& (2 ^ mm - 1)) j) j mm))), (6, .int (nI mm)), (5, .int (nI (zcn (zcl ((v >>> f) &&& (2 ^ mm - 1)) j) j mm))), (0, .int (nI v)), (1, .int (nI f)), (2, .int (nI mm))]) hx hb dX3_codedOf_87 hl (by decide) rfl (fun ls hl => ?_)
          refine lv_goto (tgt := 13) hx hb dX3_codedOf_89 (by decide) ?_
          rw [show ((nI ((2 ^ j) * 2)) : Int32) = (nI (2 ^ (j + 1))) from congrArg nI (Nat.pow_succ 2 j).symm] at hl
          rw [show ((nI (zcn (zcl ((v >>> f) &&& (2 ^ mm - 1)) j) j mm)) : Int32) = (nI (zcl ((v >>> f) &&& (2 ^ mm - 1)) (j + 1))) from congrArg nI (zcn_eq (zcl_ltm (zand_lt (v >>> f) mm) j) hm16 hj4)] at hl
          exact ihj (trivial) ls (lv_sub hl [0, 1, 4, 5, 6] rfl)
        · replace c_3 := Int32.not_le.mp c_3
          exact absurd c_3 (nI_nlt (Nat.le_refl _) (by omega))
      · intro i hi hJ ihi ls hl
        refine lv_iload hx hb dX3_codedOf_25 (lv_at hl 0 rfl) ?_
        refine lv_iload_n hx hb dX3_codedOf_27 rfl (lv_at hl 6 rfl) ?_
        refine lv_icmp_ge (tgt := 80) hx hb dX3_codedOf_28 (by decide) (fun c_4 => ?_) (fun c_4 => ?_)
        · replace c_4 := Int32.not_lt.mpr c_4
          exact absurd (nI_lt hi (by omega)) c_4
        · replace c_4 := Int32.not_le.mp c_4
          refine lv_iload_n hx hb dX3_codedOf_31 rfl (lv_at hl 3 rfl) ?_
          refine lv_iload hx hb dX3_codedOf_32 (lv_at hl 0 rfl) ?_
          refine lv_ishr hx hb dX3_codedOf_34 ?_
          refine zz_topi (nI ((zcl ((v >>> f) &&& (2 ^ mm - 1)) j) >>> i)) (zz_shrn rfl rfl (by have := hX j; omega) (by omega)) ?_
          refine lv_iconst (v := 1) hx hb dX3_codedOf_35 (by decide) ?_
          refine lv_iand hx hb dX3_codedOf_36 ?_
          refine zz_topi (nI (((zcl ((v >>> f) &&& (2 ^ mm - 1)) j) >>> i) &&& 1)) (zz_andn rfl (show (1 : Int32) = nI 1 from rfl)) ?_
          refine lv_istore (lv' := [(7, .int (nI (((zcl ((v >>> f) &&& (2 ^ mm - 1)) j) >>> i) &&& 1))), (6, .int (nI i)), (5, .int (nI (zcn (zcl ((v >>> f) &&& (2 ^ mm - 1)) j) j i))), (4, .int (nI (2 ^ j))), (3, .int (nI (zcl ((v >>> f) &&& (2 ^ mm - 1)) j))), (0, .int (nI v)), (1, .int (nI f)), (2, .int (nI mm))]) hx hb dX3_codedOf_37 hl (by decide) rfl (fun ls hl => ?_)
          refine lv_iload hx hb dX3_codedOf_39 (lv_at hl 2 rfl) ?_
          refine lv_iload hx hb dX3_codedOf_41 (lv_at hl 1 rfl) ?_
          refine lv_iload hx hb dX3_codedOf_43 (lv_at hl 3 rfl) ?_
          refine lv_idiv hx hb dX3_codedOf_45 (nI_ne0 (Nat.two_pow_pos j) (by have := zpow4 hj4; omega)) ?_
          refine zz_topi (nI (i / (2 ^ j))) (zz_divn rfl rfl (by omega) (Nat.two_pow_pos j) (by have := zpow4 hj4; omega)) ?_
          refine lv_iconst (v := 2) hx hb dX3_codedOf_46 (by decide) ?_
          refine lv_irem hx hb dX3_codedOf_47 (by decide) ?_
          refine zz_topi (nI ((i / (2 ^ j)) % 2)) (zz_remn rfl (show (2 : Int32) = nI 2 from rfl) (Nat.lt_of_le_of_lt (Nat.div_le_self _ _) (by omega)) (by decide) (by decide)) ?_
          refine lv_if_ne (tgt := 66) hx hb dX3_codedOf_48 (by decide) (fun c_5 => ?_) (fun c_5 => ?_)
          · replace c_5 := zI_n0 c_5
            refine lv_iload hx hb dX3_codedOf_66 (lv_at hl 0 rfl) ?_
            refine zz_topi (nI (zcb (zcl ((v >>> f) &&& (2 ^ mm - 1)) j) j i)) (by rw [zcb, if_neg c_5]) ?_
            refine lv_iload hx hb dX3_codedOf_68 (lv_at hl 1 rfl) ?_
            refine lv_ishl hx hb dX3_codedOf_70 ?_
            refine zz_topi (nI ((zcb (zcl ((v >>> f) &&& (2 ^ mm - 1)) j) j i) <<< i)) (zz_shln rfl rfl (by omega) (zb_shl (zcb_le _ _ _) (by omega))) ?_
            refine lv_ior hx hb dX3_codedOf_71 ?_
            refine zz_topi (nI ((zcn (zcl ((v >>> f) &&& (2 ^ mm - 1)) j) j i) ||| ((zcb (zcl ((v >>> f) &&& (2 ^ mm - 1)) j) j i) <<< i))) (zz_orn rfl rfl) ?_
            refine lv_istore (lv' := [(5, .int (nI ((zcn (zcl ((v >>> f) &&& (2 ^ mm - 1)) j) j i) ||| ((zcb (zcl ((v >>> f) &&& (2 ^ mm - 1)) j) j i) <<< i)))), (7, .int (nI (((zcl ((v >>> f) &&& (2 ^ mm - 1)) j) >>> i) &&& 1))), (6, .int (nI i)), (4, .int (nI (2 ^ j))), (3, .int (nI (zcl ((v >>> f) &&& (2 ^ mm - 1)) j))), (0, .int (nI v)), (1, .int (nI f)), (2, .int (nI mm))]) hx hb dX3_codedOf_72 hl (by decide) rfl (fun ls hl => ?_)
            refine lv_iinc (v := (nI (i + 1))) (lv' := [(6, .int (nI (i + 1))), (5, .int (nI ((zcn (zcl ((v >>> f) &&& (2 ^ mm - 1)) j) j i) ||| ((zcb (zcl ((v >>> f) &&& (2 ^ mm - 1)) j) j i) <<< i)))), (7, .int (nI (((zcl ((v >>> f) &&& (2 ^ mm - 1)) j) >>> i) &&& 1))), (4, .int (nI (2 ^ j))), (3, .int (nI (zcl ((v >>> f) &&& (2 ^ mm - 1)) j))), (0, .int (nI v)), (1, .int (nI f)), (2, .int (nI mm))]) hx hb dX3_codedOf_74 hl (k := 2) rfl (zz_inc _) (by decide) rfl (fun ls hl => ?_)
            refine lv_goto (tgt := 25) hx hb dX3_codedOf_77 (by decide) ?_
            have hl : lv_has ls 8 [(6, .int (nI ((i + 1)))), (5, .int (nI (zcn (zcl ((v >>> f) &&& (2 ^ mm - 1)) j) j (i + 1)))), (7, .int (nI (((zcl ((v >>> f) &&& (2 ^ mm - 1)) j) >>> i) &&& 1))), (4, .int (nI (2 ^ j))), (3, .int (nI (zcl ((v >>> f) &&& (2 ^ mm - 1)) j))), (0, .int (nI v)), (1, .int (nI f)), (2, .int (nI mm))] := hl
            exact ihi (trivial) ls (lv_sub hl [0, 1, 3, 4, 5, 6, 7] rfl)
          · replace c_5 := zI_0 (Nat.lt_of_lt_of_le (Nat.mod_lt _ (by decide)) (by decide)) c_5
            refine lv_iload hx hb dX3_codedOf_51 (lv_at hl 0 rfl) ?_
            refine lv_iload_n hx hb dX3_codedOf_53 rfl (lv_at hl 4 rfl) ?_
            refine lv_iload hx hb dX3_codedOf_54 (lv_at hl 1 rfl) ?_
            refine lv_iload hx hb dX3_codedOf_56 (lv_at hl 3 rfl) ?_
            refine lv_iadd hx hb dX3_codedOf_58 ?_
            refine zz_topi (nI (i + (2 ^ j))) (zz_addn rfl rfl) ?_
            refine lv_ishr hx hb dX3_codedOf_59 ?_
            refine zz_topi (nI ((zcl ((v >>> f) &&& (2 ^ mm - 1)) j) >>> (i + (2 ^ j)))) (zz_shrn rfl rfl (by have := hX j; omega) (by have := zpow4 hj4; omega)) ?_
            refine lv_iconst (v := 1) hx hb dX3_codedOf_60 (by decide) ?_
            refine lv_iand hx hb dX3_codedOf_61 ?_
            refine zz_topi (nI (((zcl ((v >>> f) &&& (2 ^ mm - 1)) j) >>> (i + (2 ^ j))) &&& 1)) (zz_andn rfl (show (1 : Int32) = nI 1 from rfl)) ?_
            refine lv_ixor hx hb dX3_codedOf_62 ?_
            refine zz_topi (nI (zcb (zcl ((v >>> f) &&& (2 ^ mm - 1)) j) j i)) (by rw [zcb, if_pos c_5, fb_xorI]) ?_
            refine lv_goto (tgt := 68) hx hb dX3_codedOf_63 (by decide) ?_
            refine lv_iload hx hb dX3_codedOf_68 (lv_at hl 1 rfl) ?_
            refine lv_ishl hx hb dX3_codedOf_70 ?_
            refine zz_topi (nI ((zcb (zcl ((v >>> f) &&& (2 ^ mm - 1)) j) j i) <<< i)) (zz_shln rfl rfl (by omega) (zb_shl (zcb_le _ _ _) (by omega))) ?_
            refine lv_ior hx hb dX3_codedOf_71 ?_
            refine zz_topi (nI ((zcn (zcl ((v >>> f) &&& (2 ^ mm - 1)) j) j i) ||| ((zcb (zcl ((v >>> f) &&& (2 ^ mm - 1)) j) j i) <<< i))) (zz_orn rfl rfl) ?_
            refine lv_istore (lv' := [(5, .int (nI ((zcn (zcl ((v >>> f) &&& (2 ^ mm - 1)) j) j i) ||| ((zcb (zcl ((v >>> f) &&& (2 ^ mm - 1)) j) j i) <<< i)))), (7, .int (nI (((zcl ((v >>> f) &&& (2 ^ mm - 1)) j) >>> i) &&& 1))), (6, .int (nI i)), (4, .int (nI (2 ^ j))), (3, .int (nI (zcl ((v >>> f) &&& (2 ^ mm - 1)) j))), (0, .int (nI v)), (1, .int (nI f)), (2, .int (nI mm))]) hx hb dX3_codedOf_72 hl (by decide) rfl (fun ls hl => ?_)
            refine lv_iinc (v := (nI (i + 1))) (lv' := [(6, .int (nI (i + 1))), (5, .int (nI ((zcn (zcl ((v >>> f) &&& (2 ^ mm - 1)) j) j i) ||| ((zcb (zcl ((v >>> f) &&& (2 ^ mm - 1)) j) j i) <<< i)))), (7, .int (nI (((zcl ((v >>> f) &&& (2 ^ mm - 1)) j) >>> i) &&& 1))), (4, .int (nI (2 ^ j))), (3, .int (nI (zcl ((v >>> f) &&& (2 ^ mm - 1)) j))), (0, .int (nI v)), (1, .int (nI f)), (2, .int (nI mm))]) hx hb dX3_codedOf_74 hl (k := 2) rfl (zz_inc _) (by decide) rfl (fun ls hl => ?_)
            refine lv_goto (tgt := 25) hx hb dX3_codedOf_77 (by decide) ?_
            have hl : lv_has ls 8 [(6, .int (nI ((i + 1)))), (5, .int (nI (zcn (zcl ((v >>> f) &&& (2 ^ mm - 1)) j) j (i + 1)))), (7, .int (nI (((zcl ((v >>> f) &&& (2 ^ mm - 1)) j) >>> i) &&& 1))), (4, .int (nI (2 ^ j))), (3, .int (nI (zcl ((v >>> f) &&& (2 ^ mm - 1)) j))), (0, .int (nI v)), (1, .int (nI f)), (2, .int (nI mm))] := hl
            exact ihi (trivial) ls (lv_sub hl [0, 1, 3, 4, 5, 6, 7] rfl)
set_option maxHeartbeats 4000000 in
set_option maxRecDepth 100000 in
theorem c_X3_codedAll (l : Launch) (D : va_G) (cI cZ : ClassId) (hs ta : Nat) (q : Nat → Nat) (a : ZA) (im : Nat → Int32) (kp : Nat → Int32) (lf : Nat → Int32) (rw : Nat → Int32) (fn : Nat → Int32) (kn : Nat) (v : Nat) (hI : zInv a) (hv : v < 2 ^ 2 ^ a.1) : Met l yX3_codedAll wsX3_codedAll ({ frames := 1, cells := 0, slots := 0, locals := 27 }) (va_Pc [.ref (q 0), .int (nI v)] (zPre D (zTy cI cZ) hs ta (zcM cI cZ q (zst a) im kp lf rw fn kn))) (vp_Si (fun r : Int32 => r = nI (zcod v))) 0 0 (fun _ => False) := by
  refine Met.ofW (cc := cX3_codedAll) (maxL := 2) (ret := (some .int)) (by decide) rfl ?_
  intro p e s m args below meth c s₁ B hml hv0
  obtain ⟨rfl, hP, hD, hG⟩ := hv0
  have hx := B.exec
  have hb := B.bytes
  have hr := B.returns
  have hts := atoms_spec (ws := wsX3_codedAll) B.pre
  have hown : s.vm.findClass RX3 = some m.cls := findClass_of_methodNamed B.named
  have hlocks := B.notSynchronized
  have hK := hG.1
  have hS : va_S (zA hs) s.heap s.heap [] := va_S.rf
  have hAz : ∀ q, zA hs q → hs ≤ q := fun _ h => h
  have hl := lv_entry ([.ref (q 0), .int (nI v)]) (n := 2) (Nat.le_of_ble_eq_true rfl)
  rw [lg_entry_eq]
  generalize (lg_sl ([.ref (q 0), .int (nI v)]) ++ List.replicate (2 - (lg_sl ([.ref (q 0), .int (nI v)])).length) Slot.unset).toArray = ls at hl ⊢
  have hl : lv_has ls 2 [(0, .ref (q 0)), (1, .int (nI v))] := hl
  refine lv_iload_n hx hb dX3_codedAll_0 rfl (lv_at hl 1 rfl) ?_
  refine lv_iconst (v := 0) hx hb dX3_codedAll_1 (by decide) ?_
  refine lv_aload_n hx hb dX3_codedAll_2 rfl (lv_at hl 0 rfl) ?_
  refine zz_cVi (cs := zcM cI cZ q (zst a) im kp lf rw fn kn) (As := []) (rest := [.int 0, .int (nI v)]) ⟨hx, hb, hml, hown, hts⟩ (c_X3_places l D cI cZ hs ta q a im kp lf rw fn kn hI.1.2) (cwV 0 hts gX3_codedAll_X3_places rfl rfl rfl (by decide +kernel) ⟨Nat.le_of_ble_eq_true rfl, Nat.le_of_ble_eq_true rfl⟩) (va_recv hK hP (ci := 3) (q0 := 0) rfl rfl) hP hD hG hS hAz rfl hl.1 rfl (Nat.le_of_ble_eq_true rfl) ⟨Nat.zero_le _, Nat.zero_le _⟩ dX3_codedAll_3 (fun r_1 er_1 => ?_)
  subst er_1
  refine zz_pSi (As := [.int (nI v), .int 0, .int (nI (2 ^ a.1))]) (rest := []) ⟨hx, hb, hml, hown, hts⟩ (c_X3_codedOf l v 0 (2 ^ a.1) a.1 rfl hI.1.2 (Nat.lt_of_lt_of_le hv (zNN hI)) (by decide)) (va_cwS 3 hts gX3_codedAll_X3_codedOf rfl rfl rfl (by decide +kernel) ⟨Nat.le_of_ble_eq_true rfl, Nat.le_of_ble_eq_true rfl⟩) rfl hl.1 rfl (Nat.le_of_ble_eq_true rfl) ⟨Nat.zero_le _, Nat.zero_le _⟩ dX3_codedAll_6 (fun r_2 er_2 => ?_)
  subst er_2
  refine zz_topi (nI (zcod v)) (by rw [Nat.shiftRight_zero, Nat.and_two_pow_sub_one_of_lt_two_pow hv]) ?_
  exact W.iret (v := (nI (zcod v))) hx hb hr (fun t9 ht hW => ⟨_, rfl, (by rfl), ht⟩) (fun _ h => absurd h List.not_mem_nil) dX3_codedAll_9
set_option maxHeartbeats 4000000 in
set_option maxRecDepth 100000 in
theorem c_X3_coded (l : Launch) (D : va_G) (cI cZ : ClassId) (hs ta : Nat) (q : Nat → Nat) (a : ZA) (im : Nat → Int32) (kp : Nat → Int32) (lf : Nat → Int32) (rw : Nat → Int32) (fn : Nat → Int32) (kn : Nat) (p0 : Int32) (hI : zInv a) : Met l yX3_coded wsX3_coded ({ frames := 2, cells := 0, slots := 0, locals := 48 }) (va_Pc [.ref (q 0), .int p0] (zPre D (zTy cI cZ) hs ta (zcM cI cZ q (zst a) im kp lf rw fn kn))) (vp_Si (fun r : Int32 => r = zq_coded a p0)) 0 0 (fun _ => False) := by
  refine Met.ofW (cc := cX3_coded) (maxL := 2) (ret := (some .int)) (by decide) rfl ?_
  intro p e s m args below meth c s₁ B hml hv0
  obtain ⟨rfl, hP, hD, hG⟩ := hv0
  have hx := B.exec
  have hb := B.bytes
  have hr := B.returns
  have hts := atoms_spec (ws := wsX3_coded) B.pre
  have hown : s.vm.findClass RX3 = some m.cls := findClass_of_methodNamed B.named
  have hlocks := B.notSynchronized
  have hK := hG.1
  have hS : va_S (zA hs) s.heap s.heap [] := va_S.rf
  have hAz : ∀ q, zA hs q → hs ≤ q := fun _ h => h
  have hl := lv_entry ([.ref (q 0), .int p0]) (n := 2) (Nat.le_of_ble_eq_true rfl)
  rw [lg_entry_eq]
  generalize (lg_sl ([.ref (q 0), .int p0]) ++ List.replicate (2 - (lg_sl ([.ref (q 0), .int p0])).length) Slot.unset).toArray = ls at hl ⊢
  have hl : lv_has ls 2 [(0, .ref (q 0)), (1, .int p0)] := hl
  refine lv_aload_n hx hb dX3_coded_0 rfl (lv_at hl 0 rfl) ?_
  refine lv_iload_n hx hb dX3_coded_1 rfl (lv_at hl 1 rfl) ?_
  refine zz_cVi (cs := zcM cI cZ q (zst a) im kp lf rw fn kn) (As := [.int p0]) (rest := []) ⟨hx, hb, hml, hown, hts⟩ (c_X3_isRow l D cI cZ hs ta q a im kp lf rw fn kn p0 hI) (cwV 1 hts gX3_coded_X3_isRow rfl rfl rfl (by decide +kernel) ⟨Nat.le_of_ble_eq_true rfl, Nat.le_of_ble_eq_true rfl⟩) (va_recv hK hP (ci := 3) (q0 := 0) rfl rfl) hP hD hG hS hAz rfl hl.1 rfl (Nat.le_of_ble_eq_true rfl) ⟨Nat.zero_le _, Nat.zero_le _⟩ dX3_coded_2 (fun r_1 er_1 => ?_)
  refine lv_if_eq (tgt := 16) hx hb dX3_coded_5 (by decide) (fun c_2 => ?_) (fun c_2 => ?_)
  · replace c_2 := zB_f er_1 c_2
    refine lv_bipush (v := (-2)) hx hb dX3_coded_16 (by decide) ?_
    exact W.iret (v := (-2)) hx hb hr (fun t9 ht hW => ⟨_, rfl, (by simp (decide := true) only [zq_coded, zwm, c_2, not_true_eq_false, not_false_eq_true, and_self, and_true, true_and, and_false, false_and, or_self, or_true, true_or, or_false, false_or, if_true, if_false, ↓reduceIte, Bool.false_eq_true, iff_self, iff_true, iff_false, true_iff, false_iff, Nat.add_zero, Nat.or_zero]), ht⟩) (fun _ h => absurd h List.not_mem_nil) dX3_coded_18
  · replace c_2 := zB_t er_1 c_2
    obtain ⟨k0, hk0, rfl⟩ := zr0 c_2 (by have := zNN hI; omega)
    refine lv_aload_n hx hb dX3_coded_8 rfl (lv_at hl 0 rfl) ?_
    refine lv_iload_n hx hb dX3_coded_9 rfl (lv_at hl 1 rfl) ?_
    refine zz_cVi (cs := zcM cI cZ q (zst a) im kp lf rw fn kn) (As := [.int (nI k0)]) (rest := []) ⟨hx, hb, hml, hown, hts⟩ (c_X3_codedAll l D cI cZ hs ta q a im kp lf rw fn kn k0 hI hk0) (cwV 1 hts gX3_coded_X3_codedAll rfl rfl rfl (by decide +kernel) ⟨Nat.le_of_ble_eq_true rfl, Nat.le_of_ble_eq_true rfl⟩) (va_recv hK hP (ci := 3) (q0 := 0) rfl rfl) hP hD hG hS hAz rfl hl.1 rfl (Nat.le_of_ble_eq_true rfl) ⟨Nat.zero_le _, Nat.zero_le _⟩ dX3_coded_10 (fun r_3 er_3 => ?_)
    subst er_3
    refine lv_goto (tgt := 18) hx hb dX3_coded_13 (by decide) ?_
    exact W.iret (v := (nI (zcod k0))) hx hb hr (fun t9 ht hW => ⟨_, rfl, (by simp (decide := true) only [zq_coded, zwm, c_2, not_true_eq_false, not_false_eq_true, and_self, and_true, true_and, and_false, false_and, or_self, or_true, true_or, or_false, false_or, if_true, if_false, ↓reduceIte, Bool.false_eq_true, iff_self, iff_true, iff_false, true_iff, false_iff, Nat.add_zero, Nat.or_zero]; rw [zN_nI (by have := zNN hI; omega)]), ht⟩) (fun _ h => absurd h List.not_mem_nil) dX3_coded_18
set_option maxHeartbeats 4000000 in
set_option maxRecDepth 100000 in
theorem c_X3_wordOf (l : Launch) (D : va_G) (cI cZ : ClassId) (hs ta : Nat) (q : Nat → Nat) (a : ZA) (im : Nat → Int32) (kp : Nat → Int32) (lf : Nat → Int32) (rw : Nat → Int32) (fn : Nat → Int32) (kn : Nat) (v : Nat) (hI : zInv a) (hv : v < 65536) : Met l yX3_wordOf wsX3_wordOf ({ frames := 2, cells := 0, slots := 0, locals := 40 }) (va_Pc [.ref (q 0), .int (nI v)] (zPre D (zTy cI cZ) hs ta (zcM cI cZ q (zst a) im kp lf rw fn kn))) (vp_Si (fun r : Int32 => r = nI (zwd a.2.2.2.1 v (2 ^ a.1)).1)) 0 0 (fun _ => False) := by
  refine Met.ofW (cc := cX3_wordOf) (maxL := 5) (ret := (some .int)) (by decide) rfl ?_
  intro p e s m args below meth c s₁ B hml hv0
  obtain ⟨rfl, hP, hD, hG⟩ := hv0
  have hx := B.exec
  have hb := B.bytes
  have hr := B.returns
  have hts := atoms_spec (ws := wsX3_wordOf) B.pre
  have hown : s.vm.findClass RX3 = some m.cls := findClass_of_methodNamed B.named
  have hlocks := B.notSynchronized
  have hK := hG.1
  have hS : va_S (zA hs) s.heap s.heap [] := va_S.rf
  have hAz : ∀ q, zA hs q → hs ≤ q := fun _ h => h
  have hl := lv_entry ([.ref (q 0), .int (nI v)]) (n := 5) (Nat.le_of_ble_eq_true rfl)
  rw [lg_entry_eq]
  generalize (lg_sl ([.ref (q 0), .int (nI v)]) ++ List.replicate (5 - (lg_sl ([.ref (q 0), .int (nI v)])).length) Slot.unset).toArray = ls at hl ⊢
  have hl : lv_has ls 5 [(0, .ref (q 0)), (1, .int (nI v))] := hl
  refine lv_iconst (v := 0) hx hb dX3_wordOf_0 (by decide) ?_
  refine lv_istore_n (lv' := [(2, .int 0), (0, .ref (q 0)), (1, .int (nI v))]) hx hb dX3_wordOf_1 rfl hl (by decide) rfl (fun ls hl => ?_)
  refine lv_iload_n hx hb dX3_wordOf_2 rfl (lv_at hl 2 rfl) ?_
  refine lv_istore_n (lv' := [(3, .int (nI v)), (2, .int 0), (0, .ref (q 0)), (1, .int (nI v))]) hx hb dX3_wordOf_3 rfl hl (by decide) rfl (fun ls hl => ?_)
  refine lv_iconst (v := 0) hx hb dX3_wordOf_4 (by decide) ?_
  refine lv_istore (lv' := [(4, .int 0), (3, .int (nI v)), (2, .int 0), (0, .ref (q 0)), (1, .int (nI v))]) hx hb dX3_wordOf_5 hl (by decide) rfl (fun ls hl => ?_)
  have hl : lv_has ls 5 [(4, .int (nI 0)), (3, .int (nI ((zwd a.2.2.2.1 v 0).2))), (2, .int (nI ((zwd a.2.2.2.1 v 0).1))), (0, .ref (q 0)), (1, .int (nI v))] := hl
  refine zz_forJ (nL := 5) (2 ^ a.1) (fun i => [(4, .int (nI i)), (2, .int (nI ((zwd a.2.2.2.1 v i).1))), (3, .int (nI ((zwd a.2.2.2.1 v i).2))), (0, .ref (q 0)), (1, .int (nI v))]) (J := fun _ => True) ?_ ?_ (trivial) (lv_sub hl [0, 2, 1, 3, 4] rfl)
  · intro hJ ls hl
    refine lv_iload hx hb dX3_wordOf_7 (lv_at hl 0 rfl) ?_
    refine lv_aload_n hx hb dX3_wordOf_9 rfl (lv_at hl 3 rfl) ?_
    refine zz_cVi (cs := zcM cI cZ q (zst a) im kp lf rw fn kn) (As := []) (rest := [.int (nI ((2 ^ a.1)))]) ⟨hx, hb, hml, hown, hts⟩ (c_X3_places l D cI cZ hs ta q a im kp lf rw fn kn hI.1.2) (cwV 0 hts gX3_wordOf_X3_places rfl rfl rfl (by decide +kernel) ⟨Nat.le_of_ble_eq_true rfl, Nat.le_of_ble_eq_true rfl⟩) (va_recv hK hP (ci := 3) (q0 := 0) rfl rfl) hP hD hG hS hAz rfl hl.1 rfl (Nat.le_of_ble_eq_true rfl) ⟨Nat.zero_le _, Nat.zero_le _⟩ dX3_wordOf_10 (fun r_1 er_1 => ?_)
    subst er_1
    refine lv_icmp_ge (tgt := 48) hx hb dX3_wordOf_13 (by decide) (fun c_2 => ?_) (fun c_2 => ?_)
    · replace c_2 := Int32.not_lt.mpr c_2
      refine lv_iload_n hx hb dX3_wordOf_48 rfl (lv_at hl 1 rfl) ?_
      exact W.iret (v := (nI ((zwd a.2.2.2.1 v (2 ^ a.1)).1))) hx hb hr (fun t9 ht hW => ⟨_, rfl, (by rfl), ht⟩) (fun _ h => absurd h List.not_mem_nil) dX3_wordOf_49
    · replace c_2 := Int32.not_le.mp c_2
      exact absurd c_2 (nI_nlt (Nat.le_refl _) (by have := zNp hI; omega))
  · intro i hi hJ ihi ls hl
    refine lv_iload hx hb dX3_wordOf_7 (lv_at hl 0 rfl) ?_
    refine lv_aload_n hx hb dX3_wordOf_9 rfl (lv_at hl 3 rfl) ?_
    refine zz_cVi (cs := zcM cI cZ q (zst a) im kp lf rw fn kn) (As := []) (rest := [.int (nI i)]) ⟨hx, hb, hml, hown, hts⟩ (c_X3_places l D cI cZ hs ta q a im kp lf rw fn kn hI.1.2) (cwV 0 hts gX3_wordOf_X3_places rfl rfl rfl (by decide +kernel) ⟨Nat.le_of_ble_eq_true rfl, Nat.le_of_ble_eq_true rfl⟩) (va_recv hK hP (ci := 3) (q0 := 0) rfl rfl) hP hD hG hS hAz rfl hl.1 rfl (Nat.le_of_ble_eq_true rfl) ⟨Nat.zero_le _, Nat.zero_le _⟩ dX3_wordOf_10 (fun r_3 er_3 => ?_)
    subst er_3
    refine lv_icmp_ge (tgt := 48) hx hb dX3_wordOf_13 (by decide) (fun c_4 => ?_) (fun c_4 => ?_)
    · replace c_4 := Int32.not_lt.mpr c_4
      exact absurd (nI_lt hi (by have := zNp hI; omega)) c_4
    · replace c_4 := Int32.not_le.mp c_4
      refine lv_aload_n hx hb dX3_wordOf_16 rfl (lv_at hl 3 rfl) ?_
      refine zz_cVi (cs := zcM cI cZ q (zst a) im kp lf rw fn kn) (As := []) (rest := []) ⟨hx, hb, hml, hown, hts⟩ (c_X3_free l D cI cZ hs ta q a im kp lf rw fn kn hI) (cwV 0 hts gX3_wordOf_X3_free rfl rfl rfl (by decide +kernel) ⟨Nat.le_of_ble_eq_true rfl, Nat.le_of_ble_eq_true rfl⟩) (va_recv hK hP (ci := 3) (q0 := 0) rfl rfl) hP hD hG hS hAz rfl hl.1 rfl (Nat.le_of_ble_eq_true rfl) ⟨Nat.zero_le _, Nat.zero_le _⟩ dX3_wordOf_17 (fun r_5 er_5 => ?_)
      subst er_5
      refine lv_iload hx hb dX3_wordOf_20 (lv_at hl 0 rfl) ?_
      refine lv_ishr hx hb dX3_wordOf_22 ?_
      refine zz_topi (nI ((zfre a) >>> i)) (zz_shrn rfl rfl (by have := zfre_lt hI; omega) (by have := zNp hI; omega)) ?_
      refine lv_iconst (v := 1) hx hb dX3_wordOf_23 (by decide) ?_
      refine lv_iand hx hb dX3_wordOf_24 ?_
      refine zz_topi (nI (((zfre a) >>> i) &&& 1)) (zz_andn rfl (show (1 : Int32) = nI 1 from rfl)) ?_
      refine lv_iconst (v := 1) hx hb dX3_wordOf_25 (by decide) ?_
      refine lv_icmp_ne (tgt := 42) hx hb dX3_wordOf_26 (by decide) (fun c_6 => ?_) (fun c_6 => ?_)
      · replace c_6 := Classical.not_not.mp (fun q => c_6 ((zI_1 (zand1 _)).mpr ((zfre_1 hI hi).mpr q)))
        refine lv_iinc (v := (nI (i + 1))) (lv' := [(4, .int (nI (i + 1))), (2, .int (nI ((zwd a.2.2.2.1 v i).1))), (3, .int (nI ((zwd a.2.2.2.1 v i).2))), (0, .ref (q 0)), (1, .int (nI v))]) hx hb dX3_wordOf_42 hl (k := 0) rfl (zz_inc _) (by decide) rfl (fun ls hl => ?_)
        refine lv_goto (tgt := 7) hx hb dX3_wordOf_45 (by decide) ?_
        rw [show ((nI ((zwd a.2.2.2.1 v i).1)) : Int32) = (nI ((zwd a.2.2.2.1 v (i + 1)).1)) from by simp only [zwd, c_4, c_6, not_true_eq_false, not_false_eq_true, and_self, and_true, true_and, and_false, false_and, or_self, or_true, true_or, or_false, false_or, if_true, if_false, ↓reduceIte, Bool.false_eq_true, iff_self, iff_true, iff_false, true_iff, false_iff, Nat.add_zero, Nat.or_zero]] at hl
        rw [show ((nI ((zwd a.2.2.2.1 v i).2)) : Int32) = (nI ((zwd a.2.2.2.1 v (i + 1)).2)) from by simp only [zwd, c_4, c_6, not_true_eq_false, not_false_eq_true, and_self, and_true, true_and, and_false, false_and, or_self, or_true, true_or, or_false, false_or, if_true, if_false, ↓reduceIte, Bool.false_eq_true, iff_self, iff_true, iff_false, true_iff, false_iff, Nat.add_zero, Nat.or_zero]] at hl
        have hl : lv_has ls 5 [(4, .int (nI ((i + 1)))), (2, .int (nI ((zwd a.2.2.2.1 v (i + 1)).1))), (3, .int (nI ((zwd a.2.2.2.1 v (i + 1)).2))), (0, .ref (q 0)), (1, .int (nI v))] := hl
        exact ihi (trivial) ls (lv_sub hl [0, 1, 2, 3, 4] rfl)
      · replace c_6 := (zfre_1 hI hi).mp ((zI_1 (zand1 _)).mp c_6)
        refine lv_iload_n hx hb dX3_wordOf_29 rfl (lv_at hl 1 rfl) ?_
        refine lv_iload_n hx hb dX3_wordOf_30 rfl (lv_at hl 2 rfl) ?_
        refine lv_iconst (v := 1) hx hb dX3_wordOf_31 (by decide) ?_
        refine lv_iand hx hb dX3_wordOf_32 ?_
        refine zz_topi (nI (((zwd a.2.2.2.1 v i).2) &&& 1)) (zz_andn rfl (show (1 : Int32) = nI 1 from rfl)) ?_
        refine lv_iload hx hb dX3_wordOf_33 (lv_at hl 0 rfl) ?_
        refine lv_ishl hx hb dX3_wordOf_35 ?_
        refine zz_topi (nI ((((zwd a.2.2.2.1 v i).2) &&& 1) <<< i)) (zz_shln rfl rfl (by have := zNp hI; omega) (zb_shl Nat.and_le_right (by have := zNp hI; omega))) ?_
        refine lv_ior hx hb dX3_wordOf_36 ?_
        refine zz_topi (nI (((zwd a.2.2.2.1 v i).1) ||| ((((zwd a.2.2.2.1 v i).2) &&& 1) <<< i))) (zz_orn rfl rfl) ?_
        refine lv_istore_n (lv' := [(2, .int (nI (((zwd a.2.2.2.1 v i).1) ||| ((((zwd a.2.2.2.1 v i).2) &&& 1) <<< i)))), (4, .int (nI i)), (3, .int (nI ((zwd a.2.2.2.1 v i).2))), (0, .ref (q 0)), (1, .int (nI v))]) hx hb dX3_wordOf_37 rfl hl (by decide) rfl (fun ls hl => ?_)
        refine lv_iload_n hx hb dX3_wordOf_38 rfl (lv_at hl 2 rfl) ?_
        refine lv_iconst (v := 1) hx hb dX3_wordOf_39 (by decide) ?_
        refine lv_ishr hx hb dX3_wordOf_40 ?_
        refine zz_topi (nI (((zwd a.2.2.2.1 v i).2) >>> 1)) (zz_shrn rfl (show (1 : Int32) = nI 1 from rfl) (by have := zwd_2 a.2.2.2.1 v i; omega) (by decide)) ?_
        refine lv_istore_n (lv' := [(3, .int (nI (((zwd a.2.2.2.1 v i).2) >>> 1))), (2, .int (nI (((zwd a.2.2.2.1 v i).1) ||| ((((zwd a.2.2.2.1 v i).2) &&& 1) <<< i)))), (4, .int (nI i)), (0, .ref (q 0)), (1, .int (nI v))]) hx hb dX3_wordOf_41 rfl hl (by decide) rfl (fun ls hl => ?_)
        refine lv_iinc (v := (nI (i + 1))) (lv' := [(4, .int (nI (i + 1))), (3, .int (nI (((zwd a.2.2.2.1 v i).2) >>> 1))), (2, .int (nI (((zwd a.2.2.2.1 v i).1) ||| ((((zwd a.2.2.2.1 v i).2) &&& 1) <<< i)))), (0, .ref (q 0)), (1, .int (nI v))]) hx hb dX3_wordOf_42 hl (k := 2) rfl (zz_inc _) (by decide) rfl (fun ls hl => ?_)
        refine lv_goto (tgt := 7) hx hb dX3_wordOf_45 (by decide) ?_
        rw [show ((nI (((zwd a.2.2.2.1 v i).1) ||| ((((zwd a.2.2.2.1 v i).2) &&& 1) <<< i))) : Int32) = (nI ((zwd a.2.2.2.1 v (i + 1)).1)) from by simp only [zwd, c_4, c_6, not_true_eq_false, not_false_eq_true, and_self, and_true, true_and, and_false, false_and, or_self, or_true, true_or, or_false, false_or, if_true, if_false, ↓reduceIte, Bool.false_eq_true, iff_self, iff_true, iff_false, true_iff, false_iff, Nat.add_zero, Nat.or_zero]] at hl
        rw [show ((nI (((zwd a.2.2.2.1 v i).2) >>> 1)) : Int32) = (nI ((zwd a.2.2.2.1 v (i + 1)).2)) from by simp only [zwd, c_4, c_6, not_true_eq_false, not_false_eq_true, and_self, and_true, true_and, and_false, false_and, or_self, or_true, true_or, or_false, false_or, if_true, if_false, ↓reduceIte, Bool.false_eq_true, iff_self, iff_true, iff_false, true_iff, false_iff, Nat.add_zero, Nat.or_zero]] at hl
        have hl : lv_has ls 5 [(4, .int (nI ((i + 1)))), (3, .int (nI ((zwd a.2.2.2.1 v (i + 1)).2))), (2, .int (nI ((zwd a.2.2.2.1 v (i + 1)).1))), (0, .ref (q 0)), (1, .int (nI v))] := hl
        exact ihi (trivial) ls (lv_sub hl [0, 2, 1, 3, 4] rfl)
set_option maxHeartbeats 4000000 in
set_option maxRecDepth 100000 in
theorem c_X3_word (l : Launch) (D : va_G) (cI cZ : ClassId) (hs ta : Nat) (q : Nat → Nat) (a : ZA) (im : Nat → Int32) (kp : Nat → Int32) (lf : Nat → Int32) (rw : Nat → Int32) (fn : Nat → Int32) (kn : Nat) (p0 : Int32) (hI : zInv a) : Met l yX3_word wsX3_word ({ frames := 3, cells := 0, slots := 0, locals := 64 }) (va_Pc [.ref (q 0), .int p0] (zPre D (zTy cI cZ) hs ta (zcM cI cZ q (zst a) im kp lf rw fn kn))) (vp_Si (fun r : Int32 => r = zq_word a p0)) 0 0 (fun _ => False) := by
  refine Met.ofW (cc := cX3_word) (maxL := 2) (ret := (some .int)) (by decide) rfl ?_
  intro p e s m args below meth c s₁ B hml hv0
  obtain ⟨rfl, hP, hD, hG⟩ := hv0
  have hx := B.exec
  have hb := B.bytes
  have hr := B.returns
  have hts := atoms_spec (ws := wsX3_word) B.pre
  have hown : s.vm.findClass RX3 = some m.cls := findClass_of_methodNamed B.named
  have hlocks := B.notSynchronized
  have hK := hG.1
  have hS : va_S (zA hs) s.heap s.heap [] := va_S.rf
  have hAz : ∀ q, zA hs q → hs ≤ q := fun _ h => h
  have hl := lv_entry ([.ref (q 0), .int p0]) (n := 2) (Nat.le_of_ble_eq_true rfl)
  rw [lg_entry_eq]
  generalize (lg_sl ([.ref (q 0), .int p0]) ++ List.replicate (2 - (lg_sl ([.ref (q 0), .int p0])).length) Slot.unset).toArray = ls at hl ⊢
  have hl : lv_has ls 2 [(0, .ref (q 0)), (1, .int p0)] := hl
  refine lv_iload_n hx hb dX3_word_0 rfl (lv_at hl 1 rfl) ?_
  refine lv_iconst (v := 0) hx hb dX3_word_1 (by decide) ?_
  refine lv_iconst (v := 1) hx hb dX3_word_2 (by decide) ?_
  refine lv_aload_n hx hb dX3_word_3 rfl (lv_at hl 0 rfl) ?_
  refine zz_cVi (cs := zcM cI cZ q (zst a) im kp lf rw fn kn) (As := []) (rest := [.int 1, .int 0, .int p0]) ⟨hx, hb, hml, hown, hts⟩ (c_X3_free l D cI cZ hs ta q a im kp lf rw fn kn hI) (cwV 0 hts gX3_word_X3_free rfl rfl rfl (by decide +kernel) ⟨Nat.le_of_ble_eq_true rfl, Nat.le_of_ble_eq_true rfl⟩) (va_recv hK hP (ci := 3) (q0 := 0) rfl rfl) hP hD hG hS hAz rfl hl.1 rfl (Nat.le_of_ble_eq_true rfl) ⟨Nat.zero_le _, Nat.zero_le _⟩ dX3_word_4 (fun r_1 er_1 => ?_)
  subst er_1
  refine zz_pSi (As := [.int (nI (zfre a))]) (rest := [.int 1, .int 0, .int p0]) ⟨hx, hb, hml, hown, hts⟩ (c_X3_size l (zfre a) (zfre_lt hI)) (va_cwS 1 hts gX3_word_X3_size rfl rfl rfl (by decide +kernel) ⟨Nat.le_of_ble_eq_true rfl, Nat.le_of_ble_eq_true rfl⟩) rfl hl.1 rfl (Nat.le_of_ble_eq_true rfl) ⟨Nat.zero_le _, Nat.zero_le _⟩ dX3_word_7 (fun r_2 er_2 => ?_)
  subst er_2
  refine lv_ishl hx hb dX3_word_10 ?_
  refine zz_topi (nI (2 ^ (zpc (zfre a)))) (zz_shl1n rfl (by have := zpc_le (zfre a); omega)) ?_
  refine lv_iconst (v := 1) hx hb dX3_word_11 (by decide) ?_
  refine lv_isub hx hb dX3_word_12 ?_
  refine zz_topi (nI ((2 ^ (zpc (zfre a))) - 1)) (zz_subn rfl (show (1 : Int32) = nI 1 from rfl) (Nat.one_le_two_pow)) ?_
  refine zz_pSi (As := [.int p0, .int 0, .int (nI ((2 ^ (zpc (zfre a))) - 1))]) (rest := []) ⟨hx, hb, hml, hown, hts⟩ (c_X3_in l p0 0 (nI ((2 ^ (zpc (zfre a))) - 1))) (va_cwS 3 hts gX3_word_X3_in rfl rfl rfl (by decide +kernel) ⟨Nat.le_of_ble_eq_true rfl, Nat.le_of_ble_eq_true rfl⟩) rfl hl.1 rfl (Nat.le_of_ble_eq_true rfl) ⟨Nat.zero_le _, Nat.zero_le _⟩ dX3_word_13 (fun r_3 er_3 => ?_)
  refine lv_if_eq (tgt := 27) hx hb dX3_word_16 (by decide) (fun c_4 => ?_) (fun c_4 => ?_)
  · replace c_4 := Classical.not_not.mp (zB_f er_3 c_4)
    have hz : p0 < 0 ∨ ¬ p0 < nI (2 ^ (2 ^ a.1 - zpc a.2.2.2.1)) := by rw [← zpc_fre hI]; exact Classical.or_iff_not_imp_left.mpr (fun q q2 => (zin_iff (Nat.two_pow_pos _) (by have := zp2_le (zpc_le (zfre a)); omega)).mpr ⟨q, q2⟩ c_4)
    refine lv_bipush (v := (-2)) hx hb dX3_word_27 (by decide) ?_
    exact W.iret (v := (-2)) hx hb hr (fun t9 ht hW => ⟨_, rfl, (by simp only [zq_word, hz, not_true_eq_false, not_false_eq_true, and_self, and_true, true_and, and_false, false_and, or_self, or_true, true_or, or_false, false_or, if_true, if_false, ↓reduceIte, Bool.false_eq_true, iff_self, iff_true, iff_false, true_iff, false_iff, Nat.add_zero, Nat.or_zero]), ht⟩) (fun _ h => absurd h List.not_mem_nil) dX3_word_29
  · replace c_4 := zB_t er_3 c_4
    rw [zin_iff (Nat.two_pow_pos _) (by have := zp2_le (zpc_le (zfre a)); omega), zpc_fre hI] at c_4
    have hz : ¬ (p0 < 0 ∨ ¬ p0 < nI (2 ^ (2 ^ a.1 - zpc a.2.2.2.1))) := fun q => q.elim c_4.1 (fun q => q c_4.2)
    obtain ⟨k0, hk0, rfl⟩ := zr0 c_4 (by rw [← zpc_fre hI]; have := zp2_le (zpc_le (zfre a)); omega)
    refine lv_aload_n hx hb dX3_word_19 rfl (lv_at hl 0 rfl) ?_
    refine lv_iload_n hx hb dX3_word_20 rfl (lv_at hl 1 rfl) ?_
    refine zz_cVi (cs := zcM cI cZ q (zst a) im kp lf rw fn kn) (As := [.int (nI k0)]) (rest := []) ⟨hx, hb, hml, hown, hts⟩ (c_X3_wordOf l D cI cZ hs ta q a im kp lf rw fn kn k0 hI (by rw [← zpc_fre hI] at hk0; have := zp2_le (zpc_le (zfre a)); omega)) (cwV 1 hts gX3_word_X3_wordOf rfl rfl rfl (by decide +kernel) ⟨Nat.le_of_ble_eq_true rfl, Nat.le_of_ble_eq_true rfl⟩) (va_recv hK hP (ci := 3) (q0 := 0) rfl rfl) hP hD hG hS hAz rfl hl.1 rfl (Nat.le_of_ble_eq_true rfl) ⟨Nat.zero_le _, Nat.zero_le _⟩ dX3_word_21 (fun r_5 er_5 => ?_)
    subst er_5
    refine lv_goto (tgt := 29) hx hb dX3_word_24 (by decide) ?_
    exact W.iret (v := (nI ((zwd a.2.2.2.1 k0 (2 ^ a.1)).1))) hx hb hr (fun t9 ht hW => ⟨_, rfl, (by simp only [zq_word, hz, not_true_eq_false, not_false_eq_true, and_self, and_true, true_and, and_false, false_and, or_self, or_true, true_or, or_false, false_or, if_true, if_false, ↓reduceIte, Bool.false_eq_true, iff_self, iff_true, iff_false, true_iff, false_iff, Nat.add_zero, Nat.or_zero]; rw [zN_nI (by rw [← zpc_fre hI] at hk0; have := zp2_le (zpc_le (zfre a)); omega)]), ht⟩) (fun _ h => absurd h List.not_mem_nil) dX3_word_29
set_option maxHeartbeats 4000000 in
set_option maxRecDepth 100000 in
theorem c_X3_light (l : Launch) (D : va_G) (cI cZ : ClassId) (hs ta : Nat) (q : Nat → Nat) (a : ZA) (im : Nat → Int32) (kp : Nat → Int32) (lf : Nat → Int32) (rw : Nat → Int32) (fn : Nat → Int32) (kn : Nat) (p0 : Int32) (hI : zInv a) : Met l yX3_light wsX3_light ({ frames := 3, cells := 0, slots := 0, locals := 64 }) (va_Pc [.ref (q 0), .int p0] (zPre D (zTy cI cZ) hs ta (zcM cI cZ q (zst a) im kp lf rw fn kn))) (vp_Si (fun r : Int32 => r = zq_light a p0)) 0 0 (fun _ => False) := by
  refine Met.ofW (cc := cX3_light) (maxL := 6) (ret := (some .int)) (by decide) rfl ?_
  intro p e s m args below meth c s₁ B hml hv0
  obtain ⟨rfl, hP, hD, hG⟩ := hv0
  have hx := B.exec
  have hb := B.bytes
  have hr := B.returns
  have hts := atoms_spec (ws := wsX3_light) B.pre
  have hown : s.vm.findClass RX3 = some m.cls := findClass_of_methodNamed B.named
  have hlocks := B.notSynchronized
  have hK := hG.1
  have hS : va_S (zA hs) s.heap s.heap [] := va_S.rf
  have hAz : ∀ q, zA hs q → hs ≤ q := fun _ h => h
  have hl := lv_entry ([.ref (q 0), .int p0]) (n := 6) (Nat.le_of_ble_eq_true rfl)
  rw [lg_entry_eq]
  generalize (lg_sl ([.ref (q 0), .int p0]) ++ List.replicate (6 - (lg_sl ([.ref (q 0), .int p0])).length) Slot.unset).toArray = ls at hl ⊢
  have hl : lv_has ls 6 [(0, .ref (q 0)), (1, .int p0)] := hl
  refine lv_iload_n hx hb dX3_light_0 rfl (lv_at hl 1 rfl) ?_
  refine lv_iconst (v := 0) hx hb dX3_light_1 (by decide) ?_
  refine lv_iconst (v := 1) hx hb dX3_light_2 (by decide) ?_
  refine zz_pSi (As := [.int p0, .int 0, .int 1]) (rest := []) ⟨hx, hb, hml, hown, hts⟩ (c_X3_in l p0 0 1) (va_cwS 3 hts gX3_light_X3_in rfl rfl rfl (by decide +kernel) ⟨Nat.le_of_ble_eq_true rfl, Nat.le_of_ble_eq_true rfl⟩) rfl hl.1 rfl (Nat.le_of_ble_eq_true rfl) ⟨Nat.zero_le _, Nat.zero_le _⟩ dX3_light_3 (fun r_1 er_1 => ?_)
  refine lv_if_ne (tgt := 12) hx hb dX3_light_6 (by decide) (fun c_2 => ?_) (fun c_2 => ?_)
  · replace c_2 := zB_t er_1 c_2
    refine lv_bipush (v := (-6)) hx hb dX3_light_12 (by decide) ?_
    refine lv_istore_n (lv' := [(2, .int (-6)), (0, .ref (q 0)), (1, .int p0)]) hx hb dX3_light_14 rfl hl (by decide) rfl (fun ls hl => ?_)
    refine lv_iconst (v := 0) hx hb dX3_light_15 (by decide) ?_
    refine lv_istore_n (lv' := [(3, .int 0), (2, .int (-6)), (0, .ref (q 0)), (1, .int p0)]) hx hb dX3_light_16 rfl hl (by decide) rfl (fun ls hl => ?_)
    refine lv_iconst (v := 1) hx hb dX3_light_17 (by decide) ?_
    refine lv_istore (lv' := [(4, .int 1), (3, .int 0), (2, .int (-6)), (0, .ref (q 0)), (1, .int p0)]) hx hb dX3_light_18 hl (by decide) rfl (fun ls hl => ?_)
    have hl : lv_has ls 6 [(4, .int (nI (1 + 0))), (3, .int (nI (zlC (zls (zow a) 0)))), (2, .int (zlI (zls (zow a) 0))), (0, .ref (q 0)), (1, .int p0)] := hl
    refine zz_forJ (nL := 6) (2 ^ zpc (zfre a) - 1) (fun i => [(4, .int (nI (1 + i))), (2, .int (zlI (zls (zow a) i))), (3, .int (nI (zlC (zls (zow a) i)))), (0, .ref (q 0)), (1, .int p0)]) (J := fun _ => True) ?_ ?_ (trivial) (lv_sub hl [0, 2, 1, 3, 4] rfl)
    · intro hJ ls hl
      refine lv_iload hx hb dX3_light_20 (lv_at hl 0 rfl) ?_
      refine lv_iconst (v := 1) hx hb dX3_light_22 (by decide) ?_
      refine lv_aload_n hx hb dX3_light_23 rfl (lv_at hl 3 rfl) ?_
      refine zz_cVi (cs := zcM cI cZ q (zst a) im kp lf rw fn kn) (As := []) (rest := [.int 1, .int (nI (1 + (2 ^ zpc (zfre a) - 1)))]) ⟨hx, hb, hml, hown, hts⟩ (c_X3_free l D cI cZ hs ta q a im kp lf rw fn kn hI) (cwV 0 hts gX3_light_X3_free rfl rfl rfl (by decide +kernel) ⟨Nat.le_of_ble_eq_true rfl, Nat.le_of_ble_eq_true rfl⟩) (va_recv hK hP (ci := 3) (q0 := 0) rfl rfl) hP hD hG hS hAz rfl hl.1 rfl (Nat.le_of_ble_eq_true rfl) ⟨Nat.zero_le _, Nat.zero_le _⟩ dX3_light_24 (fun r_3 er_3 => ?_)
      subst er_3
      refine zz_pSi (As := [.int (nI (zfre a))]) (rest := [.int 1, .int (nI (1 + (2 ^ zpc (zfre a) - 1)))]) ⟨hx, hb, hml, hown, hts⟩ (c_X3_size l (zfre a) (zfre_lt hI)) (va_cwS 1 hts gX3_light_X3_size rfl rfl rfl (by decide +kernel) ⟨Nat.le_of_ble_eq_true rfl, Nat.le_of_ble_eq_true rfl⟩) rfl hl.1 rfl (Nat.le_of_ble_eq_true rfl) ⟨Nat.zero_le _, Nat.zero_le _⟩ dX3_light_27 (fun r_4 er_4 => ?_)
      subst er_4
      refine lv_ishl hx hb dX3_light_30 ?_
      refine zz_topi (nI (2 ^ (zpc (zfre a)))) (zz_shl1n rfl (by have := zpc_le (zfre a); omega)) ?_
      refine lv_icmp_ge (tgt := 102) hx hb dX3_light_31 (by decide) (fun c_5 => ?_) (fun c_5 => ?_)
      · replace c_5 := Int32.not_lt.mpr c_5
        rcases zlight_ref hI with ⟨hF, hO⟩ | ⟨hF, hO⟩
        · rw [hO] at hl
          have hl : lv_has ls 6 [(4, .int (nI (1 + (2 ^ zpc (zfre a) - 1)))), (2, .int (-6)), (3, .int (nI 0)), (0, .ref (q 0)), (1, .int p0)] := hl
          refine lv_iload_n hx hb dX3_light_102 rfl (lv_at hl 1 rfl) ?_
          refine lv_if_lt (tgt := 110) hx hb dX3_light_103 (by decide) (fun c_6 => ?_) (fun c_6 => ?_)
          · refine lv_iload_n hx hb dX3_light_110 rfl (lv_at hl 1 rfl) ?_
            refine lv_goto (tgt := 115) hx hb dX3_light_111 (by decide) ?_
            exact W.iret (v := (-6)) hx hb hr (fun t9 ht hW => ⟨_, rfl, (by simp (decide := true) only [zq_light, hF, zwm, c_2, c_5, c_6, not_true_eq_false, not_false_eq_true, and_self, and_true, true_and, and_false, false_and, or_self, or_true, true_or, or_false, false_or, if_true, if_false, ↓reduceIte, Bool.false_eq_true, iff_self, iff_true, iff_false, true_iff, false_iff, Nat.add_zero, Nat.or_zero]), ht⟩) (fun _ h => absurd h List.not_mem_nil) dX3_light_115
          · exact absurd c_6 (by decide)
        · rw [hO] at hl
          have hl : lv_has ls 6 [(4, .int (nI (1 + (2 ^ zpc (zfre a) - 1)))), (2, .int (nI (zlw a.2.2.2.1 (2 ^ a.1)))), (3, .int (nI (zlc a (zlw a.2.2.2.1 (2 ^ a.1))))), (0, .ref (q 0)), (1, .int p0)] := hl
          refine lv_iload_n hx hb dX3_light_102 rfl (lv_at hl 1 rfl) ?_
          refine lv_if_lt (tgt := 110) hx hb dX3_light_103 (by decide) (fun c_7 => ?_) (fun c_7 => ?_)
          · exact absurd c_7 (nI_pos (by have := zlw_le a.2.2.2.1 (2 ^ a.1); omega))
          · refine lv_iload_n hx hb dX3_light_106 rfl (lv_at hl 4 rfl) ?_
            refine lv_if_ne (tgt := 114) hx hb dX3_light_107 (by decide) (fun c_8 => ?_) (fun c_8 => ?_)
            · refine lv_iload_n hx hb dX3_light_114 rfl (lv_at hl 2 rfl) ?_
              exact W.iret (v := (nI (zlc a (zlw a.2.2.2.1 (2 ^ a.1))))) hx hb hr (fun t9 ht hW => ⟨_, rfl, (by simp (decide := true) only [zq_light, hF, zwm, c_2, c_5, c_7, c_8, not_true_eq_false, not_false_eq_true, and_self, and_true, true_and, and_false, false_and, or_self, or_true, true_or, or_false, false_or, if_true, if_false, ↓reduceIte, Bool.false_eq_true, iff_self, iff_true, iff_false, true_iff, false_iff, Nat.add_zero, Nat.or_zero]), ht⟩) (fun _ h => absurd h List.not_mem_nil) dX3_light_115
            · refine lv_iload_n hx hb dX3_light_110 rfl (lv_at hl 1 rfl) ?_
              refine lv_goto (tgt := 115) hx hb dX3_light_111 (by decide) ?_
              exact W.iret (v := (nI (zlw a.2.2.2.1 (2 ^ a.1)))) hx hb hr (fun t9 ht hW => ⟨_, rfl, (by simp (decide := true) only [zq_light, hF, zwm, c_2, c_5, c_7, c_8, not_true_eq_false, not_false_eq_true, and_self, and_true, true_and, and_false, false_and, or_self, or_true, true_or, or_false, false_or, if_true, if_false, ↓reduceIte, Bool.false_eq_true, iff_self, iff_true, iff_false, true_iff, false_iff, Nat.add_zero, Nat.or_zero]), ht⟩) (fun _ h => absurd h List.not_mem_nil) dX3_light_115
      · replace c_5 := Int32.not_le.mp c_5
        exact absurd c_5 (nI_nlt (by have := Nat.two_pow_pos (zpc (zfre a)); omega) (by have := zp2_le (zpc_le (zfre a)); omega))
    · intro i hi hJ ihi ls hl
      refine lv_iload hx hb dX3_light_20 (lv_at hl 0 rfl) ?_
      refine lv_iconst (v := 1) hx hb dX3_light_22 (by decide) ?_
      refine lv_aload_n hx hb dX3_light_23 rfl (lv_at hl 3 rfl) ?_
      refine zz_cVi (cs := zcM cI cZ q (zst a) im kp lf rw fn kn) (As := []) (rest := [.int 1, .int (nI (1 + i))]) ⟨hx, hb, hml, hown, hts⟩ (c_X3_free l D cI cZ hs ta q a im kp lf rw fn kn hI) (cwV 0 hts gX3_light_X3_free rfl rfl rfl (by decide +kernel) ⟨Nat.le_of_ble_eq_true rfl, Nat.le_of_ble_eq_true rfl⟩) (va_recv hK hP (ci := 3) (q0 := 0) rfl rfl) hP hD hG hS hAz rfl hl.1 rfl (Nat.le_of_ble_eq_true rfl) ⟨Nat.zero_le _, Nat.zero_le _⟩ dX3_light_24 (fun r_9 er_9 => ?_)
      subst er_9
      refine zz_pSi (As := [.int (nI (zfre a))]) (rest := [.int 1, .int (nI (1 + i))]) ⟨hx, hb, hml, hown, hts⟩ (c_X3_size l (zfre a) (zfre_lt hI)) (va_cwS 1 hts gX3_light_X3_size rfl rfl rfl (by decide +kernel) ⟨Nat.le_of_ble_eq_true rfl, Nat.le_of_ble_eq_true rfl⟩) rfl hl.1 rfl (Nat.le_of_ble_eq_true rfl) ⟨Nat.zero_le _, Nat.zero_le _⟩ dX3_light_27 (fun r_10 er_10 => ?_)
      subst er_10
      refine lv_ishl hx hb dX3_light_30 ?_
      refine zz_topi (nI (2 ^ (zpc (zfre a)))) (zz_shl1n rfl (by have := zpc_le (zfre a); omega)) ?_
      refine lv_icmp_ge (tgt := 102) hx hb dX3_light_31 (by decide) (fun c_11 => ?_) (fun c_11 => ?_)
      · replace c_11 := Int32.not_lt.mpr c_11
        exact absurd (nI_lt (show 1 + i < 2 ^ zpc (zfre a) by omega) (by have := zp2_le (zpc_le (zfre a)); omega)) c_11
      · replace c_11 := Int32.not_le.mp c_11
        refine lv_aload_n hx hb dX3_light_34 rfl (lv_at hl 3 rfl) ?_
        refine lv_aload_n hx hb dX3_light_35 rfl (lv_at hl 3 rfl) ?_
        refine lv_iload hx hb dX3_light_36 (lv_at hl 0 rfl) ?_
        refine zz_cVi (cs := zcM cI cZ q (zst a) im kp lf rw fn kn) (As := [.int (nI (1 + i))]) (rest := [.ref (q 0)]) ⟨hx, hb, hml, hown, hts⟩ (c_X3_wordOf l D cI cZ hs ta q a im kp lf rw fn kn (1 + i) hI (by have := zp2_le (zpc_le (zfre a)); omega)) (cwV 1 hts gX3_light_X3_wordOf rfl rfl rfl (by decide +kernel) ⟨Nat.le_of_ble_eq_true rfl, Nat.le_of_ble_eq_true rfl⟩) (va_recv hK hP (ci := 3) (q0 := 0) rfl rfl) hP hD hG hS hAz rfl hl.1 rfl (Nat.le_of_ble_eq_true rfl) ⟨Nat.zero_le _, Nat.zero_le _⟩ dX3_light_38 (fun r_12 er_12 => ?_)
        subst er_12
        refine zz_cVi (cs := zcM cI cZ q (zst a) im kp lf rw fn kn) (As := [.int (nI ((zwd a.2.2.2.1 (1 + i) (2 ^ a.1)).1))]) (rest := []) ⟨hx, hb, hml, hown, hts⟩ (c_X3_codedAll l D cI cZ hs ta q a im kp lf rw fn kn ((zwd a.2.2.2.1 (1 + i) (2 ^ a.1)).1) hI (zwd_1 _ _ _)) (cwV 1 hts gX3_light_X3_codedAll rfl rfl rfl (by decide +kernel) ⟨Nat.le_of_ble_eq_true rfl, Nat.le_of_ble_eq_true rfl⟩) (va_recv hK hP (ci := 3) (q0 := 0) rfl rfl) hP hD hG hS hAz rfl hl.1 rfl (Nat.le_of_ble_eq_true rfl) ⟨Nat.zero_le _, Nat.zero_le _⟩ dX3_light_41 (fun r_13 er_13 => ?_)
        subst er_13
        refine zz_pSi (As := [.int (nI (zcod ((zwd a.2.2.2.1 (1 + i) (2 ^ a.1)).1)))]) (rest := []) ⟨hx, hb, hml, hown, hts⟩ (c_X3_size l (zcod ((zwd a.2.2.2.1 (1 + i) (2 ^ a.1)).1)) (zcod_lt (Nat.lt_of_lt_of_le (zwd_1 _ _ _) (zNN hI)))) (va_cwS 1 hts gX3_light_X3_size rfl rfl rfl (by decide +kernel) ⟨Nat.le_of_ble_eq_true rfl, Nat.le_of_ble_eq_true rfl⟩) rfl hl.1 rfl (Nat.le_of_ble_eq_true rfl) ⟨Nat.zero_le _, Nat.zero_le _⟩ dX3_light_44 (fun r_14 er_14 => ?_)
        subst er_14
        refine zz_topi (nI (zow a (1 + i))) (rfl) ?_
        refine lv_istore (lv' := [(5, .int (nI (zow a (1 + i)))), (4, .int (nI (1 + i))), (2, .int (zlI (zls (zow a) i))), (3, .int (nI (zlC (zls (zow a) i)))), (0, .ref (q 0)), (1, .int p0)]) hx hb dX3_light_47 hl (by decide) rfl (fun ls hl => ?_)
        refine lv_iload_n hx hb dX3_light_49 rfl (lv_at hl 2 rfl) ?_
        refine lv_if_lt (tgt := 59) hx hb dX3_light_50 (by decide) (fun c_15 => ?_) (fun c_15 => ?_)
        · refine lv_iconst (v := 0) hx hb dX3_light_59 (by decide) ?_
          refine lv_goto (tgt := 64) hx hb dX3_light_60 (by decide) ?_
          refine lv_istore_n (lv' := [(3, .int 0), (5, .int (nI (zow a (1 + i)))), (4, .int (nI (1 + i))), (2, .int (zlI (zls (zow a) i))), (0, .ref (q 0)), (1, .int p0)]) hx hb dX3_light_64 rfl hl (by decide) rfl (fun ls hl => ?_)
          refine lv_iload_n hx hb dX3_light_65 rfl (lv_at hl 3 rfl) ?_
          refine lv_if_lt (tgt := 75) hx hb dX3_light_66 (by decide) (fun c_16 => ?_) (fun c_16 => ?_)
          · refine lv_iload hx hb dX3_light_75 (lv_at hl 1 rfl) ?_
            refine lv_goto (tgt := 81) hx hb dX3_light_77 (by decide) ?_
            refine zz_topi (nI (zow a (1 + i))) (rfl) ?_
            refine lv_istore_n (lv' := [(2, .int (nI (zow a (1 + i)))), (3, .int 0), (5, .int (nI (zow a (1 + i)))), (4, .int (nI (1 + i))), (0, .ref (q 0)), (1, .int p0)]) hx hb dX3_light_81 rfl hl (by decide) rfl (fun ls hl => ?_)
            refine lv_iload_n hx hb dX3_light_82 rfl (lv_at hl 1 rfl) ?_
            refine lv_iload hx hb dX3_light_83 (lv_at hl 2 rfl) ?_
            refine lv_iload_n hx hb dX3_light_85 rfl (lv_at hl 0 rfl) ?_
            refine lv_icmp_ne (tgt := 93) hx hb dX3_light_86 (by decide) (fun c_17 => ?_) (fun c_17 => ?_)
            · exact absurd rfl c_17
            · refine lv_iconst (v := 1) hx hb dX3_light_89 (by decide) ?_
              refine lv_goto (tgt := 94) hx hb dX3_light_90 (by decide) ?_
              refine lv_iadd hx hb dX3_light_94 ?_
              refine lv_topi (fun v_18 ev_18 => ?_)
              refine lv_istore_n (lv' := [(3, .int v_18), (2, .int (nI (zow a (1 + i)))), (5, .int (nI (zow a (1 + i)))), (4, .int (nI (1 + i))), (0, .ref (q 0)), (1, .int p0)]) hx hb dX3_light_95 rfl hl (by decide) rfl (fun ls hl => ?_)
              refine lv_iinc (v := (nI ((1 + i) + 1))) (lv' := [(4, .int (nI ((1 + i) + 1))), (3, .int v_18), (2, .int (nI (zow a (1 + i)))), (5, .int (nI (zow a (1 + i)))), (0, .ref (q 0)), (1, .int p0)]) hx hb dX3_light_96 hl (k := 3) rfl (zz_inc _) (by decide) rfl (fun ls hl => ?_)
              refine lv_goto (tgt := 20) hx hb dX3_light_99 (by decide) ?_
              rw [show ((nI (zow a (1 + i))) : Int32) = (zlI (zls (zow a) (i + 1))) from by rw [zls_neg (zow_le a) c_15]; rfl] at hl
              obtain rfl : v_18 = (nI (zlC (zls (zow a) (i + 1)))) := by rw [ev_18, zls_neg (zow_le a) c_15]; rfl
              have hl : lv_has ls 6 [(4, .int (nI (1 + (i + 1)))), (3, .int (nI (zlC (zls (zow a) (i + 1))))), (2, .int (zlI (zls (zow a) (i + 1)))), (5, .int (zlI (zls (zow a) (i + 1)))), (0, .ref (q 0)), (1, .int p0)] := hl
              exact ihi (trivial) ls (lv_sub hl [0, 2, 1, 4, 5] rfl)
          · exact absurd c_15 c_16
        · refine lv_iload hx hb dX3_light_53 (lv_at hl 0 rfl) ?_
          refine lv_iload_n hx hb dX3_light_55 rfl (lv_at hl 2 rfl) ?_
          refine lv_icmp_ge (tgt := 63) hx hb dX3_light_56 (by decide) (fun c_19 => ?_) (fun c_19 => ?_)
          · replace c_19 := Int32.not_lt.mpr c_19
            refine lv_iload_n hx hb dX3_light_63 rfl (lv_at hl 3 rfl) ?_
            refine lv_istore_n (lv' := [(3, .int (nI (zlC (zls (zow a) i)))), (5, .int (nI (zow a (1 + i)))), (4, .int (nI (1 + i))), (2, .int (zlI (zls (zow a) i))), (0, .ref (q 0)), (1, .int p0)]) hx hb dX3_light_64 rfl hl (by decide) rfl (fun ls hl => ?_)
            refine lv_iload_n hx hb dX3_light_65 rfl (lv_at hl 3 rfl) ?_
            refine lv_if_lt (tgt := 75) hx hb dX3_light_66 (by decide) (fun c_20 => ?_) (fun c_20 => ?_)
            · exact absurd c_20 c_15
            · refine lv_iload hx hb dX3_light_69 (lv_at hl 1 rfl) ?_
              refine lv_iload_n hx hb dX3_light_71 rfl (lv_at hl 3 rfl) ?_
              refine lv_icmp_ge (tgt := 80) hx hb dX3_light_72 (by decide) (fun c_21 => ?_) (fun c_21 => ?_)
              · replace c_21 := Int32.not_lt.mpr c_21
                refine lv_iload_n hx hb dX3_light_80 rfl (lv_at hl 3 rfl) ?_
                refine zz_topi (zlI (zls (zow a) i)) (rfl) ?_
                refine lv_istore_n (lv' := [(2, .int (zlI (zls (zow a) i))), (3, .int (nI (zlC (zls (zow a) i)))), (5, .int (nI (zow a (1 + i)))), (4, .int (nI (1 + i))), (0, .ref (q 0)), (1, .int p0)]) hx hb dX3_light_81 rfl hl (by decide) rfl (fun ls hl => ?_)
                refine lv_iload_n hx hb dX3_light_82 rfl (lv_at hl 1 rfl) ?_
                refine lv_iload hx hb dX3_light_83 (lv_at hl 2 rfl) ?_
                refine lv_iload_n hx hb dX3_light_85 rfl (lv_at hl 0 rfl) ?_
                refine lv_icmp_ne (tgt := 93) hx hb dX3_light_86 (by decide) (fun c_22 => ?_) (fun c_22 => ?_)
                · refine lv_iconst (v := 0) hx hb dX3_light_93 (by decide) ?_
                  refine lv_iadd hx hb dX3_light_94 ?_
                  refine zz_topi (nI ((zlC (zls (zow a) i)) + 0)) (zz_addn rfl (show (0 : Int32) = nI 0 from rfl)) ?_
                  refine lv_istore_n (lv' := [(3, .int (nI ((zlC (zls (zow a) i)) + 0))), (2, .int (zlI (zls (zow a) i))), (5, .int (nI (zow a (1 + i)))), (4, .int (nI (1 + i))), (0, .ref (q 0)), (1, .int p0)]) hx hb dX3_light_95 rfl hl (by decide) rfl (fun ls hl => ?_)
                  refine lv_iinc (v := (nI ((1 + i) + 1))) (lv' := [(4, .int (nI ((1 + i) + 1))), (3, .int (nI ((zlC (zls (zow a) i)) + 0))), (2, .int (zlI (zls (zow a) i))), (5, .int (nI (zow a (1 + i)))), (0, .ref (q 0)), (1, .int p0)]) hx hb dX3_light_96 hl (k := 3) rfl (zz_inc _) (by decide) rfl (fun ls hl => ?_)
                  refine lv_goto (tgt := 20) hx hb dX3_light_99 (by decide) ?_
                  rw [show ((zlI (zls (zow a) i)) : Int32) = (zlI (zls (zow a) (i + 1))) from by rw [zls_gt (zow_le a) c_15 c_19 c_22]] at hl
                  rw [show ((nI ((zlC (zls (zow a) i)) + 0)) : Int32) = (nI (zlC (zls (zow a) (i + 1)))) from by rw [zls_gt (zow_le a) c_15 c_19 c_22, Nat.add_zero]] at hl
                  have hl : lv_has ls 6 [(4, .int (nI (1 + (i + 1)))), (3, .int (nI (zlC (zls (zow a) (i + 1))))), (2, .int (zlI (zls (zow a) (i + 1)))), (5, .int (nI (zow a (1 + i)))), (0, .ref (q 0)), (1, .int p0)] := hl
                  exact ihi (trivial) ls (lv_sub hl [0, 2, 1, 4, 5] rfl)
                · refine lv_iconst (v := 1) hx hb dX3_light_89 (by decide) ?_
                  refine lv_goto (tgt := 94) hx hb dX3_light_90 (by decide) ?_
                  refine lv_iadd hx hb dX3_light_94 ?_
                  refine zz_topi (nI ((zlC (zls (zow a) i)) + 1)) (zz_addn rfl (show (1 : Int32) = nI 1 from rfl)) ?_
                  refine lv_istore_n (lv' := [(3, .int (nI ((zlC (zls (zow a) i)) + 1))), (2, .int (zlI (zls (zow a) i))), (5, .int (nI (zow a (1 + i)))), (4, .int (nI (1 + i))), (0, .ref (q 0)), (1, .int p0)]) hx hb dX3_light_95 rfl hl (by decide) rfl (fun ls hl => ?_)
                  refine lv_iinc (v := (nI ((1 + i) + 1))) (lv' := [(4, .int (nI ((1 + i) + 1))), (3, .int (nI ((zlC (zls (zow a) i)) + 1))), (2, .int (zlI (zls (zow a) i))), (5, .int (nI (zow a (1 + i)))), (0, .ref (q 0)), (1, .int p0)]) hx hb dX3_light_96 hl (k := 3) rfl (zz_inc _) (by decide) rfl (fun ls hl => ?_)
                  refine lv_goto (tgt := 20) hx hb dX3_light_99 (by decide) ?_
                  rw [show ((zlI (zls (zow a) i)) : Int32) = (zlI (zls (zow a) (i + 1))) from (zls_eq (zow_le a) c_15 c_22).1] at hl
                  rw [show ((nI ((zlC (zls (zow a) i)) + 1)) : Int32) = (nI (zlC (zls (zow a) (i + 1)))) from congrArg nI (zls_eq (zow_le a) c_15 c_22).2] at hl
                  have hl : lv_has ls 6 [(4, .int (nI (1 + (i + 1)))), (3, .int (nI (zlC (zls (zow a) (i + 1))))), (2, .int (zlI (zls (zow a) (i + 1)))), (5, .int (nI (zow a (1 + i)))), (0, .ref (q 0)), (1, .int p0)] := hl
                  exact ihi (trivial) ls (lv_sub hl [0, 2, 1, 4, 5] rfl)
              · replace c_21 := Int32.not_le.mp c_21
                exact absurd c_21 c_19
          · replace c_19 := Int32.not_le.mp c_19
            refine lv_iconst (v := 0) hx hb dX3_light_59 (by decide) ?_
            refine lv_goto (tgt := 64) hx hb dX3_light_60 (by decide) ?_
            refine lv_istore_n (lv' := [(3, .int 0), (5, .int (nI (zow a (1 + i)))), (4, .int (nI (1 + i))), (2, .int (zlI (zls (zow a) i))), (0, .ref (q 0)), (1, .int p0)]) hx hb dX3_light_64 rfl hl (by decide) rfl (fun ls hl => ?_)
            refine lv_iload_n hx hb dX3_light_65 rfl (lv_at hl 3 rfl) ?_
            refine lv_if_lt (tgt := 75) hx hb dX3_light_66 (by decide) (fun c_23 => ?_) (fun c_23 => ?_)
            · exact absurd c_23 c_15
            · refine lv_iload hx hb dX3_light_69 (lv_at hl 1 rfl) ?_
              refine lv_iload_n hx hb dX3_light_71 rfl (lv_at hl 3 rfl) ?_
              refine lv_icmp_ge (tgt := 80) hx hb dX3_light_72 (by decide) (fun c_24 => ?_) (fun c_24 => ?_)
              · replace c_24 := Int32.not_lt.mpr c_24
                exact absurd c_19 c_24
              · replace c_24 := Int32.not_le.mp c_24
                refine lv_iload hx hb dX3_light_75 (lv_at hl 1 rfl) ?_
                refine lv_goto (tgt := 81) hx hb dX3_light_77 (by decide) ?_
                refine zz_topi (nI (zow a (1 + i))) (rfl) ?_
                refine lv_istore_n (lv' := [(2, .int (nI (zow a (1 + i)))), (3, .int 0), (5, .int (nI (zow a (1 + i)))), (4, .int (nI (1 + i))), (0, .ref (q 0)), (1, .int p0)]) hx hb dX3_light_81 rfl hl (by decide) rfl (fun ls hl => ?_)
                refine lv_iload_n hx hb dX3_light_82 rfl (lv_at hl 1 rfl) ?_
                refine lv_iload hx hb dX3_light_83 (lv_at hl 2 rfl) ?_
                refine lv_iload_n hx hb dX3_light_85 rfl (lv_at hl 0 rfl) ?_
                refine lv_icmp_ne (tgt := 93) hx hb dX3_light_86 (by decide) (fun c_25 => ?_) (fun c_25 => ?_)
                · exact absurd rfl c_25
                · refine lv_iconst (v := 1) hx hb dX3_light_89 (by decide) ?_
                  refine lv_goto (tgt := 94) hx hb dX3_light_90 (by decide) ?_
                  refine lv_iadd hx hb dX3_light_94 ?_
                  refine lv_topi (fun v_26 ev_26 => ?_)
                  refine lv_istore_n (lv' := [(3, .int v_26), (2, .int (nI (zow a (1 + i)))), (5, .int (nI (zow a (1 + i)))), (4, .int (nI (1 + i))), (0, .ref (q 0)), (1, .int p0)]) hx hb dX3_light_95 rfl hl (by decide) rfl (fun ls hl => ?_)
                  refine lv_iinc (v := (nI ((1 + i) + 1))) (lv' := [(4, .int (nI ((1 + i) + 1))), (3, .int v_26), (2, .int (nI (zow a (1 + i)))), (5, .int (nI (zow a (1 + i)))), (0, .ref (q 0)), (1, .int p0)]) hx hb dX3_light_96 hl (k := 3) rfl (zz_inc _) (by decide) rfl (fun ls hl => ?_)
                  refine lv_goto (tgt := 20) hx hb dX3_light_99 (by decide) ?_
                  rw [show ((nI (zow a (1 + i))) : Int32) = (zlI (zls (zow a) (i + 1))) from by rw [zls_lt (zow_le a) c_15 c_19]; rfl] at hl
                  obtain rfl : v_26 = (nI (zlC (zls (zow a) (i + 1)))) := by rw [ev_26, zls_lt (zow_le a) c_15 c_19]; rfl
                  have hl : lv_has ls 6 [(4, .int (nI (1 + (i + 1)))), (3, .int (nI (zlC (zls (zow a) (i + 1))))), (2, .int (zlI (zls (zow a) (i + 1)))), (5, .int (zlI (zls (zow a) (i + 1)))), (0, .ref (q 0)), (1, .int p0)] := hl
                  exact ihi (trivial) ls (lv_sub hl [0, 2, 1, 4, 5] rfl)
  · replace c_2 := Classical.not_not.mp (zB_f er_1 c_2)
    refine lv_bipush (v := (-2)) hx hb dX3_light_9 (by decide) ?_
    exact W.iret (v := (-2)) hx hb hr (fun t9 ht hW => ⟨_, rfl, (by simp (decide := true) only [zq_light, zwm, c_2, not_true_eq_false, not_false_eq_true, and_self, and_true, true_and, and_false, false_and, or_self, or_true, true_or, or_false, false_or, if_true, if_false, ↓reduceIte, Bool.false_eq_true, iff_self, iff_true, iff_false, true_iff, false_iff, Nat.add_zero, Nat.or_zero]), ht⟩) (fun _ h => absurd h List.not_mem_nil) dX3_light_11
