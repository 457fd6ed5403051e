set_option maxHeartbeats 4000000 in
set_option maxRecDepth 100000 in
theorem c_X2_places (l : Launch) (D : va_G) (cI cZ : ClassId) (hs ta : Nat) (q : Nat → Nat) (a : ZA) (b0 : ZA) (b1 : ZA) (ik : Nat) (ha : Nat → Int32) (t : ZR) (g : ZR) (hd : a.1 ≤ 4) : Met l yX2_places wsX2_places ({ frames := 0, cells := 0, slots := 0, locals := 0 }) (va_Pc [.ref (q 0)] (zPre D (zTy cI cZ) hs ta (zcX cI q a b0 b1 ik ha t g))) (vp_Si (fun r : Int32 => r = nI (2 ^ a.1))) 0 0 (fun _ => False) := by
  refine Met.ofW (cc := cX2_places) (maxL := 1) (ret := (some .int)) (by decide) rfl ?_
  intro p e s m args below meth c s₁ B hml hv0
  obtain ⟨rfl, hP, hD, hG⟩ := hv0
  have hx := B.exec
  have hb := B.bytes
  have hr := B.returns
  have hts := atoms_spec (ws := wsX2_places) B.pre
  have hown : s.vm.findClass RX2 = some m.cls := findClass_of_methodNamed B.named
  have hlocks := B.notSynchronized
  have hK := hG.1
  have hS : va_S (zA hs) s.heap s.heap [] := va_S.rf
  have hAz : ∀ q, zA hs q → hs ≤ q := fun _ h => h
  have hl := lv_entry ([.ref (q 0)]) (n := 1) (Nat.le_of_ble_eq_true rfl)
  rw [lg_entry_eq]
  generalize (lg_sl ([.ref (q 0)]) ++ List.replicate (1 - (lg_sl ([.ref (q 0)])).length) Slot.unset).toArray = ls at hl ⊢
  have hl : lv_has ls 1 [(0, .ref (q 0))] := hl
  have hf10 := hts (.fieldLink RX2 10 "FrozenBits" "now" "LFrozenBits$Facts;") (List.mem_of_getElem? (i := 1) rfl)
  have hiX2 : ∀ w ∈ u_ws RX2 TX2 7, w ∈ wsX2_places := fun w h => List.mem_cons_of_mem _ (List.mem_append_left _ (List.mem_append_right _ h))
  have hn40 := hG.2.1 (.fieldLinkNest "FrozenBits" 40 "FrozenBits$Facts" "deep" "I" "FrozenBits") (List.mem_of_getElem? (i := 0) rfl)
  have hiX0 : ∀ w ∈ u_ws RX0 TX0 7, w ∈ wsX2_places := fun w h => List.mem_cons_of_mem _ (List.mem_append_right _ h)
  refine lv_iconst (v := 1) hx hb dX2_places_0 (by decide) ?_
  refine lv_aload_n hx hb dX2_places_1 rfl (lv_at hl 0 rfl) ?_
  refine va_get (ci := 2) (C := RX2) (T := TX2) (N := 7) hx hb hts hiX2 hown hK hP 0 rfl rfl 0 (by decide) hf10 (fun _ h9 => h9) rfl dX2_places_2 ?_
  refine va_getN (ci := 0) (C := RX0) (T := TX0) (N := 7) hx hb hts hiX0 hown hK hP 1 rfl rfl 0 (by decide) (va_Nw.use rfl hn40) (fun _ h9 => h9) rfl dX2_places_5 ?_
  refine lv_ishl hx hb dX2_places_8 ?_
  refine zz_topi (nI (2 ^ a.1)) (zz_shl1n rfl (by omega)) ?_
  exact W.iret (v := (nI (2 ^ a.1))) hx hb hr (fun t9 ht hW => ⟨_, rfl, (by rfl), ht⟩) (fun _ h => absurd h List.not_mem_nil) dX2_places_9
set_option maxHeartbeats 4000000 in
set_option maxRecDepth 100000 in
theorem c_X2_isPlace (l : Launch) (D : va_G) (cI cZ : ClassId) (hs ta : Nat) (q : Nat → Nat) (a : ZA) (b0 : ZA) (b1 : ZA) (ik : Nat) (ha : Nat → Int32) (t : ZR) (g : ZR) (p0 : Int32) (hI : zInv a) : Met l yX2_isPlace wsX2_isPlace ({ frames := 1, cells := 0, slots := 0, locals := 20 }) (va_Pc [.ref (q 0), .int p0] (zPre D (zTy cI cZ) hs ta (zcX cI q a b0 b1 ik ha t g))) (vp_Si (fun r : Int32 => r = zB (¬ p0 < 0 ∧ p0 < nI (2 ^ a.1)))) 0 0 (fun _ => False) := by
  refine Met.ofW (cc := cX2_isPlace) (maxL := 2) (ret := (some .boolean)) (by decide) rfl ?_
  intro p e s m args below meth c s₁ B hml hv0
  obtain ⟨rfl, hP, hD, hG⟩ := hv0
  have hx := B.exec
  have hb := B.bytes
  have hr := B.returns
  have hts := atoms_spec (ws := wsX2_isPlace) B.pre
  have hown : s.vm.findClass RX2 = some m.cls := findClass_of_methodNamed B.named
  have hlocks := B.notSynchronized
  have hK := hG.1
  have hS : va_S (zA hs) s.heap s.heap [] := va_S.rf
  have hAz : ∀ q, zA hs q → hs ≤ q := fun _ h => h
  have hl := lv_entry ([.ref (q 0), .int p0]) (n := 2) (Nat.le_of_ble_eq_true rfl)
  rw [lg_entry_eq]
  generalize (lg_sl ([.ref (q 0), .int p0]) ++ List.replicate (2 - (lg_sl ([.ref (q 0), .int p0])).length) Slot.unset).toArray = ls at hl ⊢
  have hl : lv_has ls 2 [(0, .ref (q 0)), (1, .int p0)] := hl
  refine lv_iload_n hx hb dX2_isPlace_0 rfl (lv_at hl 1 rfl) ?_
  refine lv_if_lt (tgt := 16) hx hb dX2_isPlace_1 (by decide) (fun c_1 => ?_) (fun c_1 => ?_)
  · refine lv_iconst (v := 0) hx hb dX2_isPlace_16 (by decide) ?_
    exact W.zret (v := 0) (ty := .boolean) hx hb hr (rfl) (fun t9 ht hW => ⟨_, rfl, (by simp only [c_1, zB, not_true_eq_false, not_false_eq_true, and_self, and_true, true_and, and_false, false_and, or_self, or_true, true_or, or_false, false_or, if_true, if_false, ↓reduceIte, Bool.false_eq_true, iff_self, iff_true, iff_false, true_iff, false_iff, Nat.add_zero]), ht⟩) (fun _ h => absurd h List.not_mem_nil) dX2_isPlace_17
  · refine lv_iload_n hx hb dX2_isPlace_4 rfl (lv_at hl 1 rfl) ?_
    refine lv_aload_n hx hb dX2_isPlace_5 rfl (lv_at hl 0 rfl) ?_
    refine zz_cVi (cs := zcX cI q a b0 b1 ik ha t g) (As := []) (rest := [.int p0]) ⟨hx, hb, hml, hown, hts⟩ (c_X2_places l D cI cZ hs ta q a b0 b1 ik ha t g hI.1.2) (cwV 0 hts gX2_isPlace_X2_places rfl rfl rfl (by decide +kernel) ⟨Nat.le_of_ble_eq_true rfl, Nat.le_of_ble_eq_true rfl⟩) (va_recv hK hP (ci := 2) (q0 := 0) rfl rfl) hP hD hG hS hAz rfl hl.1 rfl (Nat.le_of_ble_eq_true rfl) ⟨Nat.zero_le _, Nat.zero_le _⟩ dX2_isPlace_6 (fun r_2 er_2 => ?_)
    subst er_2
    refine lv_icmp_ge (tgt := 16) hx hb dX2_isPlace_9 (by decide) (fun c_3 => ?_) (fun c_3 => ?_)
    · replace c_3 := Int32.not_lt.mpr c_3
      refine lv_iconst (v := 0) hx hb dX2_isPlace_16 (by decide) ?_
      exact W.zret (v := 0) (ty := .boolean) hx hb hr (rfl) (fun t9 ht hW => ⟨_, rfl, (by simp only [c_1, c_3, zB, not_true_eq_false, not_false_eq_true, and_self, and_true, true_and, and_false, false_and, or_self, or_true, true_or, or_false, false_or, if_true, if_false, ↓reduceIte, Bool.false_eq_true, iff_self, iff_true, iff_false, true_iff, false_iff, Nat.add_zero]), ht⟩) (fun _ h => absurd h List.not_mem_nil) dX2_isPlace_17
    · replace c_3 := Int32.not_le.mp c_3
      refine lv_iconst (v := 1) hx hb dX2_isPlace_12 (by decide) ?_
      refine lv_goto (tgt := 17) hx hb dX2_isPlace_13 (by decide) ?_
      exact W.zret (v := 1) (ty := .boolean) hx hb hr (rfl) (fun t9 ht hW => ⟨_, rfl, (by simp only [c_1, c_3, zB, not_true_eq_false, not_false_eq_true, and_self, and_true, true_and, and_false, false_and, or_self, or_true, true_or, or_false, false_or, if_true, if_false, ↓reduceIte, Bool.false_eq_true, iff_self, iff_true, iff_false, true_iff, false_iff, Nat.add_zero]), ht⟩) (fun _ h => absurd h List.not_mem_nil) dX2_isPlace_17
set_option maxHeartbeats 4000000 in
set_option maxRecDepth 100000 in
theorem c_X2_isSet (l : Launch) (D : va_G) (cI cZ : ClassId) (hs ta : Nat) (q : Nat → Nat) (a : ZA) (b0 : ZA) (b1 : ZA) (ik : Nat) (ha : Nat → Int32) (t : ZR) (g : ZR) (p0 : Int32) (hI : zInv a) : Met l yX2_isSet wsX2_isSet ({ frames := 1, cells := 0, slots := 0, locals := 20 }) (va_Pc [.ref (q 0), .int p0] (zPre D (zTy cI cZ) hs ta (zcX cI q a b0 b1 ik ha t g))) (vp_Si (fun r : Int32 => r = zB (¬ p0 < 0 ∧ p0 < nI (2 ^ 2 ^ a.1)))) 0 0 (fun _ => False) := by
  refine Met.ofW (cc := cX2_isSet) (maxL := 2) (ret := (some .boolean)) (by decide) rfl ?_
  intro p e s m args below meth c s₁ B hml hv0
  obtain ⟨rfl, hP, hD, hG⟩ := hv0
  have hx := B.exec
  have hb := B.bytes
  have hr := B.returns
  have hts := atoms_spec (ws := wsX2_isSet) B.pre
  have hown : s.vm.findClass RX2 = some m.cls := findClass_of_methodNamed B.named
  have hlocks := B.notSynchronized
  have hK := hG.1
  have hS : va_S (zA hs) s.heap s.heap [] := va_S.rf
  have hAz : ∀ q, zA hs q → hs ≤ q := fun _ h => h
  have hl := lv_entry ([.ref (q 0), .int p0]) (n := 2) (Nat.le_of_ble_eq_true rfl)
  rw [lg_entry_eq]
  generalize (lg_sl ([.ref (q 0), .int p0]) ++ List.replicate (2 - (lg_sl ([.ref (q 0), .int p0])).length) Slot.unset).toArray = ls at hl ⊢
  have hl : lv_has ls 2 [(0, .ref (q 0)), (1, .int p0)] := hl
  refine lv_iload_n hx hb dX2_isSet_0 rfl (lv_at hl 1 rfl) ?_
  refine lv_if_lt (tgt := 18) hx hb dX2_isSet_1 (by decide) (fun c_1 => ?_) (fun c_1 => ?_)
  · refine lv_iconst (v := 0) hx hb dX2_isSet_18 (by decide) ?_
    exact W.zret (v := 0) (ty := .boolean) hx hb hr (rfl) (fun t9 ht hW => ⟨_, rfl, (by simp only [c_1, zB, not_true_eq_false, not_false_eq_true, and_self, and_true, true_and, and_false, false_and, or_self, or_true, true_or, or_false, false_or, if_true, if_false, ↓reduceIte, Bool.false_eq_true, iff_self, iff_true, iff_false, true_iff, false_iff, Nat.add_zero]), ht⟩) (fun _ h => absurd h List.not_mem_nil) dX2_isSet_19
  · refine lv_iload_n hx hb dX2_isSet_4 rfl (lv_at hl 1 rfl) ?_
    refine lv_iconst (v := 1) hx hb dX2_isSet_5 (by decide) ?_
    refine lv_aload_n hx hb dX2_isSet_6 rfl (lv_at hl 0 rfl) ?_
    refine zz_cVi (cs := zcX cI q a b0 b1 ik ha t g) (As := []) (rest := [.int 1, .int p0]) ⟨hx, hb, hml, hown, hts⟩ (c_X2_places l D cI cZ hs ta q a b0 b1 ik ha t g hI.1.2) (cwV 0 hts gX2_isSet_X2_places rfl rfl rfl (by decide +kernel) ⟨Nat.le_of_ble_eq_true rfl, Nat.le_of_ble_eq_true rfl⟩) (va_recv hK hP (ci := 2) (q0 := 0) rfl rfl) hP hD hG hS hAz rfl hl.1 rfl (Nat.le_of_ble_eq_true rfl) ⟨Nat.zero_le _, Nat.zero_le _⟩ dX2_isSet_7 (fun r_2 er_2 => ?_)
    subst er_2
    refine lv_ishl hx hb dX2_isSet_10 ?_
    refine zz_topi (nI (2 ^ (2 ^ a.1))) (zz_shl1n rfl (by have := zNp hI; omega)) ?_
    refine lv_icmp_ge (tgt := 18) hx hb dX2_isSet_11 (by decide) (fun c_3 => ?_) (fun c_3 => ?_)
    · replace c_3 := Int32.not_lt.mpr c_3
      refine lv_iconst (v := 0) hx hb dX2_isSet_18 (by decide) ?_
      exact W.zret (v := 0) (ty := .boolean) hx hb hr (rfl) (fun t9 ht hW => ⟨_, rfl, (by simp only [c_1, c_3, zB, not_true_eq_false, not_false_eq_true, and_self, and_true, true_and, and_false, false_and, or_self, or_true, true_or, or_false, false_or, if_true, if_false, ↓reduceIte, Bool.false_eq_true, iff_self, iff_true, iff_false, true_iff, false_iff, Nat.add_zero]), ht⟩) (fun _ h => absurd h List.not_mem_nil) dX2_isSet_19
    · replace c_3 := Int32.not_le.mp c_3
      refine lv_iconst (v := 1) hx hb dX2_isSet_14 (by decide) ?_
      refine lv_goto (tgt := 19) hx hb dX2_isSet_15 (by decide) ?_
      exact W.zret (v := 1) (ty := .boolean) hx hb hr (rfl) (fun t9 ht hW => ⟨_, rfl, (by simp only [c_1, c_3, zB, not_true_eq_false, not_false_eq_true, and_self, and_true, true_and, and_false, false_and, or_self, or_true, true_or, or_false, false_or, if_true, if_false, ↓reduceIte, Bool.false_eq_true, iff_self, iff_true, iff_false, true_iff, false_iff, Nat.add_zero]), ht⟩) (fun _ h => absurd h List.not_mem_nil) dX2_isSet_19
set_option maxHeartbeats 4000000 in
set_option maxRecDepth 100000 in
theorem c_X2_has (l : Launch) (z : Nat) (k : Nat) (hz : z < 2 ^ 31) (hk : k < 32) : Met l yX2_has wsX2_has ({ frames := 0, cells := 0, slots := 0, locals := 0 }) (va_Pc [.int (nI z), .int (nI k)] (fun _ => True)) (vp_Si (fun r : Int32 => r = zB (Nat.testBit z k = true))) 0 0 (fun _ => False) := by
  refine Met.ofW (cc := cX2_has) (maxL := 2) (ret := (some .boolean)) (by decide) rfl ?_
  intro p e s m args below meth c s₁ B hml hv0
  obtain ⟨rfl, -⟩ := hv0
  have hx := B.exec
  have hb := B.bytes
  have hr := B.returns
  have hts := atoms_spec (ws := wsX2_has) B.pre
  have hown : s.vm.findClass RX2 = some m.cls := findClass_of_methodNamed B.named
  have hlocks := B.notSynchronized
  have hl := lv_entry ([.int (nI z), .int (nI k)]) (n := 2) (Nat.le_of_ble_eq_true rfl)
  rw [lg_entry_eq]
  generalize (lg_sl ([.int (nI z), .int (nI k)]) ++ List.replicate (2 - (lg_sl ([.int (nI z), .int (nI k)])).length) Slot.unset).toArray = ls at hl ⊢
  have hl : lv_has ls 2 [(0, .int (nI z)), (1, .int (nI k))] := hl
  refine lv_iload_n hx hb dX2_has_0 rfl (lv_at hl 0 rfl) ?_
  refine lv_iload_n hx hb dX2_has_1 rfl (lv_at hl 1 rfl) ?_
  refine lv_ishr hx hb dX2_has_2 ?_
  refine lv_iconst (v := 1) hx hb dX2_has_3 (by decide) ?_
  refine lv_iand hx hb dX2_has_4 ?_
  refine lv_iconst (v := 1) hx hb dX2_has_5 (by decide) ?_
  refine lv_icmp_ne (tgt := 13) hx hb dX2_has_6 (by decide) (fun c_1 => ?_) (fun c_1 => ?_)
  · rw [zn_tb hz hk] at c_1
    refine lv_iconst (v := 0) hx hb dX2_has_13 (by decide) ?_
    exact W.zret (v := 0) (ty := .boolean) hx hb hr (rfl) (fun t9 ht hW => ⟨_, rfl, (by simp only [c_1, zB, not_true_eq_false, not_false_eq_true, and_self, and_true, true_and, and_false, false_and, or_self, or_true, true_or, or_false, false_or, if_true, if_false, ↓reduceIte, Bool.false_eq_true, iff_self, iff_true, iff_false, true_iff, false_iff, Nat.add_zero]), ht⟩) (fun _ h => absurd h List.not_mem_nil) dX2_has_14
  · rw [zn_tb hz hk] at c_1
    refine lv_iconst (v := 1) hx hb dX2_has_9 (by decide) ?_
    refine lv_goto (tgt := 14) hx hb dX2_has_10 (by decide) ?_
    exact W.zret (v := 1) (ty := .boolean) hx hb hr (rfl) (fun t9 ht hW => ⟨_, rfl, (by simp only [c_1, zB, not_true_eq_false, not_false_eq_true, and_self, and_true, true_and, and_false, false_and, or_self, or_true, true_or, or_false, false_or, if_true, if_false, ↓reduceIte, Bool.false_eq_true, iff_self, iff_true, iff_false, true_iff, false_iff, Nat.add_zero]), ht⟩) (fun _ h => absurd h List.not_mem_nil) dX2_has_14
set_option maxHeartbeats 4000000 in
set_option maxRecDepth 100000 in
theorem c_J6_bitCount_0f7a4 (l : Launch) (z : Nat) (hz : z < 65536) : Met l yJ6_bitCount_0f7a4 wsJ6_bitCount_0f7a4 ({ frames := 0, cells := 0, slots := 0, locals := 0 }) (va_Pc [.int (nI z)] (fun _ => True)) (vp_Si (fun r : Int32 => r = nI (zpc z))) 0 0 (fun _ => False) := by
  refine Met.ofW (cc := cJ6_bitCount_0f7a4) (maxL := 1) (ret := (some .int)) (by decide) rfl ?_
  intro p e s m args below meth c s₁ B hml hv0
  obtain ⟨rfl, -⟩ := hv0
  have hx := B.exec
  have hb := B.bytes
  have hr := B.returns
  have hts := atoms_spec (ws := wsJ6_bitCount_0f7a4) B.pre
  have hown : s.vm.findClass RJ6 = some m.cls := findClass_of_methodNamed B.named
  have hlocks := B.notSynchronized
  have hl := lv_entry ([.int (nI z)]) (n := 1) (Nat.le_of_ble_eq_true rfl)
  rw [lg_entry_eq]
  generalize (lg_sl ([.int (nI z)]) ++ List.replicate (1 - (lg_sl ([.int (nI z)])).length) Slot.unset).toArray = ls at hl ⊢
  have hl : lv_has ls 1 [(0, .int (nI z))] := hl
  have hc265 := hts (.constant RJ6 265 (1431655765)) (List.mem_of_getElem? (i := 1) rfl)
  have hc266 := hts (.constant RJ6 266 (858993459)) (List.mem_of_getElem? (i := 2) rfl)
  have hc267 := hts (.constant RJ6 267 (252645135)) (List.mem_of_getElem? (i := 3) rfl)
  refine lv_iload_n hx hb dJ6_bitCount_0f7a4_0 rfl (lv_at hl 0 rfl) ?_
  refine lv_iload_n hx hb dJ6_bitCount_0f7a4_1 rfl (lv_at hl 0 rfl) ?_
  refine lv_iconst (v := 1) hx hb dJ6_bitCount_0f7a4_2 (by decide) ?_
  refine lv_iushr hx hb dJ6_bitCount_0f7a4_3 rfl ?_
  refine zz_topi (nI (z / 2 ^ 1)) (pk_ushrN (by omega) 1 1 (by decide)) ?_
  refine lv_ldcw hx hb hown hc265 dJ6_bitCount_0f7a4_4 ?_
  refine lv_iand hx hb dJ6_bitCount_0f7a4_7 ?_
  refine zz_topi (nI ((z / 2 ^ 1) &&& 1431655765)) (zz_andn rfl (show (1431655765 : Int32) = nI 1431655765 from rfl)) ?_
  refine lv_isub hx hb dJ6_bitCount_0f7a4_8 ?_
  refine zz_topi (nI (z - ((z / 2 ^ 1) &&& 1431655765))) (zz_subn rfl rfl (Nat.le_trans Nat.and_le_left (Nat.div_le_self _ _))) ?_
  refine zz_topi (nI (zbc1 z)) (rfl) ?_
  refine lv_istore_n (lv' := [(0, .int (nI (zbc1 z)))]) hx hb dJ6_bitCount_0f7a4_9 rfl hl (by decide) rfl (fun ls hl => ?_)
  refine lv_iload_n hx hb dJ6_bitCount_0f7a4_10 rfl (lv_at hl 0 rfl) ?_
  refine lv_ldcw hx hb hown hc266 dJ6_bitCount_0f7a4_11 ?_
  refine lv_iand hx hb dJ6_bitCount_0f7a4_14 ?_
  refine zz_topi (nI ((zbc1 z) &&& 858993459)) (zz_andn rfl (show (858993459 : Int32) = nI 858993459 from rfl)) ?_
  refine lv_iload_n hx hb dJ6_bitCount_0f7a4_15 rfl (lv_at hl 0 rfl) ?_
  refine lv_iconst (v := 2) hx hb dJ6_bitCount_0f7a4_16 (by decide) ?_
  refine lv_iushr hx hb dJ6_bitCount_0f7a4_17 rfl ?_
  refine zz_topi (nI (zbc1 z / 2 ^ 2)) (pk_ushrN (by have := zbc1_le z; omega) 2 2 (by decide)) ?_
  refine lv_ldcw hx hb hown hc266 dJ6_bitCount_0f7a4_18 ?_
  refine lv_iand hx hb dJ6_bitCount_0f7a4_21 ?_
  refine zz_topi (nI ((zbc1 z / 2 ^ 2) &&& 858993459)) (zz_andn rfl (show (858993459 : Int32) = nI 858993459 from rfl)) ?_
  refine lv_iadd hx hb dJ6_bitCount_0f7a4_22 ?_
  refine zz_topi (nI (((zbc1 z) &&& 858993459) + ((zbc1 z / 2 ^ 2) &&& 858993459))) (zz_addn rfl rfl) ?_
  refine zz_topi (nI (zbc2 z)) (rfl) ?_
  refine lv_istore_n (lv' := [(0, .int (nI (zbc2 z)))]) hx hb dJ6_bitCount_0f7a4_23 rfl hl (by decide) rfl (fun ls hl => ?_)
  refine lv_iload_n hx hb dJ6_bitCount_0f7a4_24 rfl (lv_at hl 0 rfl) ?_
  refine lv_iload_n hx hb dJ6_bitCount_0f7a4_25 rfl (lv_at hl 0 rfl) ?_
  refine lv_iconst (v := 4) hx hb dJ6_bitCount_0f7a4_26 (by decide) ?_
  refine lv_iushr hx hb dJ6_bitCount_0f7a4_27 rfl ?_
  refine zz_topi (nI (zbc2 z / 2 ^ 4)) (pk_ushrN (by have := zbc2_le z; omega) 4 4 (by decide)) ?_
  refine lv_iadd hx hb dJ6_bitCount_0f7a4_28 ?_
  refine zz_topi (nI ((zbc2 z) + (zbc2 z / 2 ^ 4))) (zz_addn rfl rfl) ?_
  refine lv_ldcw hx hb hown hc267 dJ6_bitCount_0f7a4_29 ?_
  refine lv_iand hx hb dJ6_bitCount_0f7a4_32 ?_
  refine zz_topi (nI (((zbc2 z) + (zbc2 z / 2 ^ 4)) &&& 252645135)) (zz_andn rfl (show (252645135 : Int32) = nI 252645135 from rfl)) ?_
  refine zz_topi (nI (zbc3 z)) (rfl) ?_
  refine lv_istore_n (lv' := [(0, .int (nI (zbc3 z)))]) hx hb dJ6_bitCount_0f7a4_33 rfl hl (by decide) rfl (fun ls hl => ?_)
  refine lv_iload_n hx hb dJ6_bitCount_0f7a4_34 rfl (lv_at hl 0 rfl) ?_
  refine lv_iload_n hx hb dJ6_bitCount_0f7a4_35 rfl (lv_at hl 0 rfl) ?_
  refine lv_bipush (v := 8) hx hb dJ6_bitCount_0f7a4_36 (by decide) ?_
  refine lv_iushr hx hb dJ6_bitCount_0f7a4_38 rfl ?_
  refine zz_topi (nI (zbc3 z / 2 ^ 8)) (pk_ushrN (by have := zbc3_le z; omega) 8 8 (by decide)) ?_
  refine lv_iadd hx hb dJ6_bitCount_0f7a4_39 ?_
  refine zz_topi (nI ((zbc3 z) + (zbc3 z / 2 ^ 8))) (zz_addn rfl rfl) ?_
  refine zz_topi (nI (zbc4 z)) (rfl) ?_
  refine lv_istore_n (lv' := [(0, .int (nI (zbc4 z)))]) hx hb dJ6_bitCount_0f7a4_40 rfl hl (by decide) rfl (fun ls hl => ?_)
  refine lv_iload_n hx hb dJ6_bitCount_0f7a4_41 rfl (lv_at hl 0 rfl) ?_
  refine lv_iload_n hx hb dJ6_bitCount_0f7a4_42 rfl (lv_at hl 0 rfl) ?_
  refine lv_bipush (v := 16) hx hb dJ6_bitCount_0f7a4_43 (by decide) ?_
  refine lv_iushr hx hb dJ6_bitCount_0f7a4_45 rfl ?_
  refine zz_topi (nI (zbc4 z / 2 ^ 16)) (pk_ushrN (by have := zbc4_le z; omega) 16 16 (by decide)) ?_
  refine lv_iadd hx hb dJ6_bitCount_0f7a4_46 ?_
  refine zz_topi (nI ((zbc4 z) + (zbc4 z / 2 ^ 16))) (zz_addn rfl rfl) ?_
  refine zz_topi (nI (zbc5 z)) (rfl) ?_
  refine lv_istore_n (lv' := [(0, .int (nI (zbc5 z)))]) hx hb dJ6_bitCount_0f7a4_47 rfl hl (by decide) rfl (fun ls hl => ?_)
  refine lv_iload_n hx hb dJ6_bitCount_0f7a4_48 rfl (lv_at hl 0 rfl) ?_
  refine lv_bipush (v := 63) hx hb dJ6_bitCount_0f7a4_49 (by decide) ?_
  refine lv_iand hx hb dJ6_bitCount_0f7a4_51 ?_
  refine zz_topi (nI ((zbc5 z) &&& 63)) (zz_andn rfl (show (63 : Int32) = nI 63 from rfl)) ?_
  exact W.iret (v := (nI ((zbc5 z) &&& 63))) hx hb hr (fun t9 ht hW => ⟨_, rfl, (by rw [zbc_pc hz]), ht⟩) (fun _ h => absurd h List.not_mem_nil) dJ6_bitCount_0f7a4_52
set_option maxHeartbeats 4000000 in
set_option maxRecDepth 100000 in
theorem c_X2_isFree (l : Launch) (D : va_G) (cI cZ : ClassId) (hs ta : Nat) (q : Nat → Nat) (a : ZA) (b0 : ZA) (b1 : ZA) (ik : Nat) (ha : Nat → Int32) (t : ZR) (g : ZR) (k : Nat) (hI : zInv a) (hk : k < 16) : Met l yX2_isFree wsX2_isFree ({ frames := 1, cells := 0, slots := 0, locals := 21 }) (va_Pc [.ref (q 0), .int (nI k)] (zPre D (zTy cI cZ) hs ta (zcX cI q a b0 b1 ik ha t g))) (vp_Si (fun r : Int32 => r = zB (¬ Nat.testBit a.2.2.2.1 k = true))) 0 0 (fun _ => False) := by
  refine Met.ofW (cc := cX2_isFree) (maxL := 2) (ret := (some .boolean)) (by decide) rfl ?_
  intro p e s m args below meth c s₁ B hml hv0
  obtain ⟨rfl, hP, hD, hG⟩ := hv0
  have hx := B.exec
  have hb := B.bytes
  have hr := B.returns
  have hts := atoms_spec (ws := wsX2_isFree) B.pre
  have hown : s.vm.findClass RX2 = some m.cls := findClass_of_methodNamed B.named
  have hlocks := B.notSynchronized
  have hK := hG.1
  have hS : va_S (zA hs) s.heap s.heap [] := va_S.rf
  have hAz : ∀ q, zA hs q → hs ≤ q := fun _ h => h
  have hl := lv_entry ([.ref (q 0), .int (nI k)]) (n := 2) (Nat.le_of_ble_eq_true rfl)
  rw [lg_entry_eq]
  generalize (lg_sl ([.ref (q 0), .int (nI k)]) ++ List.replicate (2 - (lg_sl ([.ref (q 0), .int (nI k)])).length) Slot.unset).toArray = ls at hl ⊢
  have hl : lv_has ls 2 [(0, .ref (q 0)), (1, .int (nI k))] := hl
  have hf10 := hts (.fieldLink RX2 10 "FrozenBits" "now" "LFrozenBits$Facts;") (List.mem_of_getElem? (i := 1) rfl)
  have hiX2 : ∀ w ∈ u_ws RX2 TX2 7, w ∈ wsX2_isFree := fun w h => List.mem_cons_of_mem _ (List.mem_append_left _ (List.mem_append_right _ h))
  have hn83 := hG.2.1 (.fieldLinkNest "FrozenBits" 83 "FrozenBits$Facts" "frozen" "I" "FrozenBits") (List.mem_of_getElem? (i := 3) rfl)
  have hiX0 : ∀ w ∈ u_ws RX0 TX0 7, w ∈ wsX2_isFree := fun w h => List.mem_cons_of_mem _ (List.mem_append_right _ h)
  refine lv_aload_n hx hb dX2_isFree_0 rfl (lv_at hl 0 rfl) ?_
  refine va_get (ci := 2) (C := RX2) (T := TX2) (N := 7) hx hb hts hiX2 hown hK hP 0 rfl rfl 0 (by decide) hf10 (fun _ h9 => h9) rfl dX2_isFree_1 ?_
  refine va_getN (ci := 0) (C := RX0) (T := TX0) (N := 7) hx hb hts hiX0 hown hK hP 1 rfl rfl 3 (by decide) (va_Nw.use rfl hn83) (fun _ h9 => h9) rfl dX2_isFree_4 ?_
  refine lv_iload_n hx hb dX2_isFree_7 rfl (lv_at hl 1 rfl) ?_
  refine zz_pSi (As := [.int (nI (a.2.2.2.1)), .int (nI k)]) (rest := []) ⟨hx, hb, hml, hown, hts⟩ (c_X2_has l a.2.2.2.1 k (by have := zfz16 hI; omega) (by omega)) (va_cwS 2 hts gX2_isFree_X2_has rfl rfl rfl (by decide +kernel) ⟨Nat.le_of_ble_eq_true rfl, Nat.le_of_ble_eq_true rfl⟩) rfl hl.1 rfl (Nat.le_of_ble_eq_true rfl) ⟨Nat.zero_le _, Nat.zero_le _⟩ dX2_isFree_8 (fun r_1 er_1 => ?_)
  refine lv_if_ne (tgt := 18) hx hb dX2_isFree_11 (by decide) (fun c_2 => ?_) (fun c_2 => ?_)
  · replace c_2 := zB_t er_1 c_2
    refine lv_iconst (v := 0) hx hb dX2_isFree_18 (by decide) ?_
    exact W.zret (v := 0) (ty := .boolean) hx hb hr (rfl) (fun t9 ht hW => ⟨_, rfl, (by simp only [c_2, zB, not_true_eq_false, not_false_eq_true, and_self, and_true, true_and, and_false, false_and, or_self, or_true, true_or, or_false, false_or, if_true, if_false, ↓reduceIte, Bool.false_eq_true, iff_self, iff_true, iff_false, true_iff, false_iff, Nat.add_zero]), ht⟩) (fun _ h => absurd h List.not_mem_nil) dX2_isFree_19
  · replace c_2 := zB_f er_1 c_2
    refine lv_iconst (v := 1) hx hb dX2_isFree_14 (by decide) ?_
    refine lv_goto (tgt := 19) hx hb dX2_isFree_15 (by decide) ?_
    exact W.zret (v := 1) (ty := .boolean) hx hb hr (rfl) (fun t9 ht hW => ⟨_, rfl, (by simp only [c_2, zB, not_true_eq_false, not_false_eq_true, and_self, and_true, true_and, and_false, false_and, or_self, or_true, true_or, or_false, false_or, if_true, if_false, ↓reduceIte, Bool.false_eq_true, iff_self, iff_true, iff_false, true_iff, false_iff, Nat.add_zero]), ht⟩) (fun _ h => absurd h List.not_mem_nil) dX2_isFree_19
set_option maxHeartbeats 4000000 in
set_option maxRecDepth 100000 in
theorem c_X2_howManyFree (l : Launch) (D : va_G) (cI cZ : ClassId) (hs ta : Nat) (q : Nat → Nat) (a : ZA) (b0 : ZA) (b1 : ZA) (ik : Nat) (ha : Nat → Int32) (t : ZR) (g : ZR) (hI : zInv a) : Met l yX2_howManyFree wsX2_howManyFree ({ frames := 1, cells := 0, slots := 0, locals := 20 }) (va_Pc [.ref (q 0)] (zPre D (zTy cI cZ) hs ta (zcX cI q a b0 b1 ik ha t g))) (vp_Si (fun r : Int32 => r = nI (2 ^ a.1 - zpc a.2.2.2.1))) 0 0 (fun _ => False) := by
  refine Met.ofW (cc := cX2_howManyFree) (maxL := 1) (ret := (some .int)) (by decide) rfl ?_
  intro p e s m args below meth c s₁ B hml hv0
  obtain ⟨rfl, hP, hD, hG⟩ := hv0
  have hx := B.exec
  have hb := B.bytes
  have hr := B.returns
  have hts := atoms_spec (ws := wsX2_howManyFree) B.pre
  have hown : s.vm.findClass RX2 = some m.cls := findClass_of_methodNamed B.named
  have hlocks := B.notSynchronized
  have hK := hG.1
  have hS : va_S (zA hs) s.heap s.heap [] := va_S.rf
  have hAz : ∀ q, zA hs q → hs ≤ q := fun _ h => h
  have hl := lv_entry ([.ref (q 0)]) (n := 1) (Nat.le_of_ble_eq_true rfl)
  rw [lg_entry_eq]
  generalize (lg_sl ([.ref (q 0)]) ++ List.replicate (1 - (lg_sl ([.ref (q 0)])).length) Slot.unset).toArray = ls at hl ⊢
  have hl : lv_has ls 1 [(0, .ref (q 0))] := hl
  have hf10 := hts (.fieldLink RX2 10 "FrozenBits" "now" "LFrozenBits$Facts;") (List.mem_of_getElem? (i := 1) rfl)
  have hiX2 : ∀ w ∈ u_ws RX2 TX2 7, w ∈ wsX2_howManyFree := fun w h => List.mem_cons_of_mem _ (List.mem_append_left _ (List.mem_append_right _ h))
  have hn83 := hG.2.1 (.fieldLinkNest "FrozenBits" 83 "FrozenBits$Facts" "frozen" "I" "FrozenBits") (List.mem_of_getElem? (i := 3) rfl)
  have hiX0 : ∀ w ∈ u_ws RX0 TX0 7, w ∈ wsX2_howManyFree := fun w h => List.mem_cons_of_mem _ (List.mem_append_right _ h)
  refine lv_aload_n hx hb dX2_howManyFree_0 rfl (lv_at hl 0 rfl) ?_
  refine zz_cVi (cs := zcX cI q a b0 b1 ik ha t g) (As := []) (rest := []) ⟨hx, hb, hml, hown, hts⟩ (c_X2_places l D cI cZ hs ta q a b0 b1 ik ha t g hI.1.2) (cwV 0 hts gX2_howManyFree_X2_places rfl rfl rfl (by decide +kernel) ⟨Nat.le_of_ble_eq_true rfl, Nat.le_of_ble_eq_true rfl⟩) (va_recv hK hP (ci := 2) (q0 := 0) rfl rfl) hP hD hG hS hAz rfl hl.1 rfl (Nat.le_of_ble_eq_true rfl) ⟨Nat.zero_le _, Nat.zero_le _⟩ dX2_howManyFree_1 (fun r_1 er_1 => ?_)
  subst er_1
  refine lv_aload_n hx hb dX2_howManyFree_4 rfl (lv_at hl 0 rfl) ?_
  refine va_get (ci := 2) (C := RX2) (T := TX2) (N := 7) hx hb hts hiX2 hown hK hP 0 rfl rfl 0 (by decide) hf10 (fun _ h9 => h9) rfl dX2_howManyFree_5 ?_
  refine va_getN (ci := 0) (C := RX0) (T := TX0) (N := 7) hx hb hts hiX0 hown hK hP 1 rfl rfl 3 (by decide) (va_Nw.use rfl hn83) (fun _ h9 => h9) rfl dX2_howManyFree_8 ?_
  refine zz_pSi (As := [.int (nI (a.2.2.2.1))]) (rest := [.int (nI (2 ^ a.1))]) ⟨hx, hb, hml, hown, hts⟩ (c_J6_bitCount_0f7a4 l a.2.2.2.1 (zfz16 hI)) (va_cwS 1 hts gX2_howManyFree_J6_bitCount_0f7a4 rfl rfl rfl (by decide +kernel) ⟨Nat.le_of_ble_eq_true rfl, Nat.le_of_ble_eq_true rfl⟩) rfl hl.1 rfl (Nat.le_of_ble_eq_true rfl) ⟨Nat.zero_le _, Nat.zero_le _⟩ dX2_howManyFree_11 (fun r_2 er_2 => ?_)
  subst er_2
  refine lv_isub hx hb dX2_howManyFree_14 ?_
  refine zz_topi (nI ((2 ^ a.1) - (zpc a.2.2.2.1))) (zz_subn rfl rfl (zpc_leN hI.2.2.1 (zNp hI))) ?_
  exact W.iret (v := (nI ((2 ^ a.1) - (zpc a.2.2.2.1)))) hx hb hr (fun t9 ht hW => ⟨_, rfl, (by rfl), ht⟩) (fun _ h => absurd h List.not_mem_nil) dX2_howManyFree_15
set_option maxHeartbeats 4000000 in
set_option maxRecDepth 100000 in
theorem c_X2_nextOfSize (l : Launch) (v : Nat) (hv : v < 65536) (hl0 : 1 ≤ zlow v) : Met l yX2_nextOfSize wsX2_nextOfSize ({ frames := 1, cells := 0, slots := 0, locals := 21 }) (va_Pc [.int (nI v)] (fun _ => True)) (vp_Si (fun r : Int32 => r = nI (znx v))) 0 0 (fun _ => False) := by
  refine Met.ofW (cc := cX2_nextOfSize) (maxL := 4) (ret := (some .int)) (by decide) rfl ?_
  intro p e s m args below meth c s₁ B hml hv0
  obtain ⟨rfl, -⟩ := hv0
  have hx := B.exec
  have hb := B.bytes
  have hr := B.returns
  have hts := atoms_spec (ws := wsX2_nextOfSize) B.pre
  have hown : s.vm.findClass RX2 = some m.cls := findClass_of_methodNamed B.named
  have hlocks := B.notSynchronized
  have hl := lv_entry ([.int (nI v)]) (n := 4) (Nat.le_of_ble_eq_true rfl)
  rw [lg_entry_eq]
  generalize (lg_sl ([.int (nI v)]) ++ List.replicate (4 - (lg_sl ([.int (nI v)])).length) Slot.unset).toArray = ls at hl ⊢
  have hl : lv_has ls 4 [(0, .int (nI v))] := hl
  refine lv_iload_n hx hb dX2_nextOfSize_0 rfl (lv_at hl 0 rfl) ?_
  refine lv_iload_n hx hb dX2_nextOfSize_1 rfl (lv_at hl 0 rfl) ?_
  refine lv_ineg hx hb dX2_nextOfSize_2 ?_
  refine zz_topi (nI (4294967296 - v)) (zn_neg (by omega)) ?_
  refine lv_iand hx hb dX2_nextOfSize_3 ?_
  refine zz_topi (nI (v &&& (4294967296 - v))) (zz_andn rfl rfl) ?_
  refine lv_iconst (v := 1) hx hb dX2_nextOfSize_4 (by decide) ?_
  refine va_mmax hx hb (hml.trans hl.1.symm) hown (hts (.methodLink RX2 177 Lib.Math.max.name) (List.mem_of_getElem? (i := 1) rfl)) (hts (.static Lib.Math.max.name) (List.mem_of_getElem? (i := 2) rfl)) (hts (.initialized "java/lang/Math") (List.mem_of_getElem? (i := 3) rfl)) (hts (.code Lib.Math.max.name Lib.Math.max.code 2 (some .int)) (List.mem_of_getElem? (i := 4) rfl)) (Nat.le_of_ble_eq_true rfl) (Nat.le_of_ble_eq_true rfl) (Nat.zero_le _) (Nat.zero_le _) dX2_nextOfSize_5 ?_
  refine zz_topi (nI (zlow v)) (if_neg (nI_nlt (show 1 ≤ v &&& (4294967296 - v) from hl0) (Nat.lt_of_le_of_lt Nat.and_le_left (by omega)))) ?_
  refine lv_istore_n (lv' := [(1, .int (nI (zlow v))), (0, .int (nI v))]) hx hb dX2_nextOfSize_8 rfl hl (by decide) rfl (fun ls hl => ?_)
  refine lv_iload_n hx hb dX2_nextOfSize_9 rfl (lv_at hl 1 rfl) ?_
  refine lv_iload_n hx hb dX2_nextOfSize_10 rfl (lv_at hl 0 rfl) ?_
  refine lv_iadd hx hb dX2_nextOfSize_11 ?_
  refine zz_topi (nI (v + (zlow v))) (zz_addn rfl rfl) ?_
  refine lv_istore_n (lv' := [(2, .int (nI (v + (zlow v)))), (1, .int (nI (zlow v))), (0, .int (nI v))]) hx hb dX2_nextOfSize_12 rfl hl (by decide) rfl (fun ls hl => ?_)
  refine lv_iload_n hx hb dX2_nextOfSize_13 rfl (lv_at hl 2 rfl) ?_
  refine lv_iload_n hx hb dX2_nextOfSize_14 rfl (lv_at hl 0 rfl) ?_
  refine lv_ixor hx hb dX2_nextOfSize_15 ?_
  refine zz_topi (nI (v ^^^ (v + (zlow v)))) (zz_xorn rfl rfl) ?_
  refine lv_iconst (v := 2) hx hb dX2_nextOfSize_16 (by decide) ?_
  refine lv_ishr hx hb dX2_nextOfSize_17 ?_
  refine zz_topi (nI ((v ^^^ (v + (zlow v))) >>> 2)) (zz_shrn rfl (show (2 : Int32) = nI 2 from rfl) (Nat.lt_of_lt_of_le (zxor_lt (n := 20) (by omega) (by have := zlow_le v; omega)) (by decide)) (by decide)) ?_
  refine lv_iload_n hx hb dX2_nextOfSize_18 rfl (lv_at hl 1 rfl) ?_
  refine lv_idiv hx hb dX2_nextOfSize_19 (nI_ne0 hl0 (by have := zlow_le v; omega)) ?_
  refine zz_topi (nI (((v ^^^ (v + (zlow v))) >>> 2) / (zlow v))) (zz_divn rfl rfl (Nat.lt_of_le_of_lt (Nat.shiftRight_le _ _) (Nat.lt_of_lt_of_le (zxor_lt (n := 20) (by omega) (by have := zlow_le v; omega)) (by decide))) (hl0) (by have := zlow_le v; omega)) ?_
  refine lv_istore_n (lv' := [(3, .int (nI (((v ^^^ (v + (zlow v))) >>> 2) / (zlow v)))), (2, .int (nI (v + (zlow v)))), (1, .int (nI (zlow v))), (0, .int (nI v))]) hx hb dX2_nextOfSize_20 rfl hl (by decide) rfl (fun ls hl => ?_)
  refine lv_iload_n hx hb dX2_nextOfSize_21 rfl (lv_at hl 1 rfl) ?_
  refine lv_iload_n hx hb dX2_nextOfSize_22 rfl (lv_at hl 0 rfl) ?_
  refine lv_ior hx hb dX2_nextOfSize_23 ?_
  refine zz_topi (nI ((v + (zlow v)) ||| (((v ^^^ (v + (zlow v))) >>> 2) / (zlow v)))) (zz_orn rfl rfl) ?_
  exact W.iret (v := (nI ((v + (zlow v)) ||| (((v ^^^ (v + (zlow v))) >>> 2) / (zlow v))))) hx hb hr (fun t9 ht hW => ⟨_, rfl, (by rfl), ht⟩) (fun _ h => absurd h List.not_mem_nil) dX2_nextOfSize_24
set_option maxHeartbeats 4000000 in
set_option maxRecDepth 100000 in
theorem c_X2_codedOf (l : Launch) (D : va_G) (cI cZ : ClassId) (hs ta : Nat) (v : Nat) (hv : v < 65536) : Met l yX2_codedOf wsX2_codedOf ({ frames := 0, cells := 0, slots := 0, locals := 0 }) (va_Pc [.int (nI v)] (zPre D (zTy cI cZ) hs ta ([]))) (vp_Si (fun r : Int32 => r = nI (zcod v))) 0 0 (fun _ => False) := by
  refine Met.ofW (cc := cX2_codedOf) (maxL := 3) (ret := (some .int)) (by decide) rfl ?_
  intro p e s m args below meth c s₁ B hml hv0
  obtain ⟨rfl, hP, hD, hG⟩ := hv0
  have hx := B.exec
  have hb := B.bytes
  have hr := B.returns
  have hts := atoms_spec (ws := wsX2_codedOf) B.pre
  have hown : s.vm.findClass RX2 = some m.cls := findClass_of_methodNamed B.named
  have hlocks := B.notSynchronized
  have hK := hG.1
  have hS : va_S (zA hs) s.heap s.heap [] := va_S.rf
  have hAz : ∀ q, zA hs q → hs ≤ q := fun _ h => h
  have hl := lv_entry ([.int (nI v)]) (n := 3) (Nat.le_of_ble_eq_true rfl)
  rw [lg_entry_eq]
  generalize (lg_sl ([.int (nI v)]) ++ List.replicate (3 - (lg_sl ([.int (nI v)])).length) Slot.unset).toArray = ls at hl ⊢
  have hl : lv_has ls 3 [(0, .int (nI v))] := hl
  have hf184 := hts (.fieldLink RX2 184 "FrozenBits" "FIRST_OF_PAIRS" "[I") (List.mem_of_getElem? (i := 1) rfl)
  refine lv_iload_n hx hb dX2_codedOf_0 rfl (lv_at hl 0 rfl) ?_
  refine lv_istore_n (lv' := [(1, .int (nI v)), (0, .int (nI v))]) hx hb dX2_codedOf_1 rfl hl (by decide) rfl (fun ls hl => ?_)
  refine lv_iconst (v := 0) hx hb dX2_codedOf_2 (by decide) ?_
  refine lv_istore_n (lv' := [(2, .int 0), (1, .int (nI v)), (0, .int (nI v))]) hx hb dX2_codedOf_3 rfl hl (by decide) rfl (fun ls hl => ?_)
  have hl : lv_has ls 3 [(2, .int (nI 0)), (1, .int (nI (zcl v 0))), (0, .int (nI v))] := hl
  refine zz_forJ (nL := 3) (4) (fun i => [(2, .int (nI i)), (1, .int (nI (zcl v i))), (0, .int (nI v))]) (J := fun _ => True) ?_ ?_ (trivial) (lv_sub hl [0, 1, 2] rfl)
  · intro hJ ls hl
    refine lv_iload_n hx hb dX2_codedOf_4 rfl (lv_at hl 0 rfl) ?_
    refine va_gets hx hb (hG.2.2.1.narrow hAz) hS hown hf184 (fun _ h9 => h9) dX2_codedOf_5 ?_
    refine va_tlen (v := 4) hx hb (hG.2.2.2.1.narrow hAz) hS rfl dX2_codedOf_8 ?_
    refine lv_icmp_ge (tgt := 32) hx hb dX2_codedOf_9 (by decide) (fun c_1 => ?_) (fun c_1 => ?_)
    · replace c_1 := Int32.not_lt.mpr c_1
      refine lv_iload_n hx hb dX2_codedOf_32 rfl (lv_at hl 1 rfl) ?_
      exact W.iret (v := (nI (zcl v 4))) hx hb hr (fun t9 ht hW => ⟨_, rfl, (by rfl), ht⟩) (fun _ h => absurd h List.not_mem_nil) dX2_codedOf_33
    · replace c_1 := Int32.not_le.mp c_1
      exact absurd c_1 (nI_nlt (Nat.le_refl _) (by decide))
  · intro i hi hJ ihi ls hl
    refine lv_iload_n hx hb dX2_codedOf_4 rfl (lv_at hl 0 rfl) ?_
    refine va_gets hx hb (hG.2.2.1.narrow hAz) hS hown hf184 (fun _ h9 => h9) dX2_codedOf_5 ?_
    refine va_tlen (v := 4) hx hb (hG.2.2.2.1.narrow hAz) hS rfl dX2_codedOf_8 ?_
    refine lv_icmp_ge (tgt := 32) hx hb dX2_codedOf_9 (by decide) (fun c_2 => ?_) (fun c_2 => ?_)
    · replace c_2 := Int32.not_lt.mpr c_2
      exact absurd (nI_lt hi (by decide)) c_2
    · replace c_2 := Int32.not_le.mp c_2
      refine lv_iload_n hx hb dX2_codedOf_12 rfl (lv_at hl 1 rfl) ?_
      refine lv_iload_n hx hb dX2_codedOf_13 rfl (lv_at hl 1 rfl) ?_
      refine lv_iconst (v := 1) hx hb dX2_codedOf_14 (by decide) ?_
      refine lv_iload_n hx hb dX2_codedOf_15 rfl (lv_at hl 0 rfl) ?_
      refine lv_ishl hx hb dX2_codedOf_16 ?_
      refine zz_topi (nI (2 ^ i)) (zz_shl1n rfl (by omega)) ?_
      refine lv_ishr hx hb dX2_codedOf_17 ?_
      refine zz_topi (nI ((zcl v i) >>> (2 ^ i))) (zz_shrn rfl rfl (by have := zcl_lt hv i; omega) (by have := zpow4 hi; omega)) ?_
      refine va_gets hx hb (hG.2.2.1.narrow hAz) hS hown hf184 (fun _ h9 => h9) dX2_codedOf_18 ?_
      refine lv_iload_n hx hb dX2_codedOf_21 rfl (lv_at hl 0 rfl) ?_
      refine va_ti (v := .int (nI (zmask i))) hx hb (hG.2.2.2.1.narrow hAz) hS (vp_in_nI hi (by decide)) (by rw [nI_clamp (by omega)]; exact zFv_mask hi) dX2_codedOf_22 ?_
      refine lv_iand hx hb dX2_codedOf_23 ?_
      refine zz_topi (nI (((zcl v i) >>> (2 ^ i)) &&& (zmask i))) (zz_andn rfl rfl) ?_
      refine lv_ixor hx hb dX2_codedOf_24 ?_
      refine zz_topi (nI ((zcl v i) ^^^ (((zcl v i) >>> (2 ^ i)) &&& (zmask i)))) (zz_xorn rfl rfl) ?_
      refine lv_istore_n (lv' := [(1, .int (nI ((zcl v i) ^^^ (((zcl v i) >>> (2 ^ i)) &&& (zmask i))))), (2, .int (nI i)), (0, .int (nI v))]) hx hb dX2_codedOf_25 rfl hl (by decide) rfl (fun ls hl => ?_)
      refine lv_iinc (v := (nI (i + 1))) (lv' := [(2, .int (nI (i + 1))), (1, .int (nI ((zcl v i) ^^^ (((zcl v i) >>> (2 ^ i)) &&& (zmask i))))), (0, .int (nI v))]) hx hb dX2_codedOf_26 hl (k := 1) rfl (zz_inc _) (by decide) rfl (fun ls hl => ?_)
      refine lv_goto (tgt := 4) hx hb dX2_codedOf_29 (by decide) ?_
      have hl : lv_has ls 3 [(2, .int (nI ((i + 1)))), (1, .int (nI (zcl v (i + 1)))), (0, .int (nI v))] := hl
      exact ihi (trivial) ls (lv_sub hl [0, 1, 2] rfl)
set_option maxHeartbeats 4000000 in
set_option maxRecDepth 100000 in
theorem c_X2_openFor (l : Launch) (D : va_G) (cI cZ : ClassId) (hs ta : Nat) (q : Nat → Nat) (a : ZA) (b0 : ZA) (b1 : ZA) (ik : Nat) (ha : Nat → Int32) (t : ZR) (g : ZR) (v : Nat) (hI : zInv a) (hv : v < 65536) : Met l yX2_openFor wsX2_openFor ({ frames := 0, cells := 0, slots := 0, locals := 0 }) (va_Pc [.ref (q 0), .int (nI v)] (zPre D (zTy cI cZ) hs ta (zcX cI q a b0 b1 ik ha t g))) (vp_Si (fun r : Int32 => r = nI (zopn v &&& (a.2.2.2.1 ^^^ 65535)))) 0 0 (fun _ => False) := by
  refine Met.ofW (cc := cX2_openFor) (maxL := 8) (ret := (some .int)) (by decide) rfl ?_
  intro p e s m args below meth c s₁ B hml hv0
  obtain ⟨rfl, hP, hD, hG⟩ := hv0
  have hx := B.exec
  have hb := B.bytes
  have hr := B.returns
  have hts := atoms_spec (ws := wsX2_openFor) B.pre
  have hown : s.vm.findClass RX2 = some m.cls := findClass_of_methodNamed B.named
  have hlocks := B.notSynchronized
  have hK := hG.1
  have hS : va_S (zA hs) s.heap s.heap [] := va_S.rf
  have hAz : ∀ q, zA hs q → hs ≤ q := fun _ h => h
  have hl := lv_entry ([.ref (q 0), .int (nI v)]) (n := 8) (Nat.le_of_ble_eq_true rfl)
  rw [lg_entry_eq]
  generalize (lg_sl ([.ref (q 0), .int (nI v)]) ++ List.replicate (8 - (lg_sl ([.ref (q 0), .int (nI v)])).length) Slot.unset).toArray = ls at hl ⊢
  have hl : lv_has ls 8 [(0, .ref (q 0)), (1, .int (nI v))] := hl
  have hf184 := hts (.fieldLink RX2 184 "FrozenBits" "FIRST_OF_PAIRS" "[I") (List.mem_of_getElem? (i := 1) rfl)
  have hf10 := hts (.fieldLink RX2 10 "FrozenBits" "now" "LFrozenBits$Facts;") (List.mem_of_getElem? (i := 2) rfl)
  have hiX2 : ∀ w ∈ u_ws RX2 TX2 7, w ∈ wsX2_openFor := fun w h => List.mem_cons_of_mem _ (List.mem_append_left _ (List.mem_append_right _ h))
  have hn83 := hG.2.1 (.fieldLinkNest "FrozenBits" 83 "FrozenBits$Facts" "frozen" "I" "FrozenBits") (List.mem_of_getElem? (i := 3) rfl)
  have hiX0 : ∀ w ∈ u_ws RX0 TX0 7, w ∈ wsX2_openFor := fun w h => List.mem_cons_of_mem _ (List.mem_append_right _ h)
  refine lv_iload_n hx hb dX2_openFor_0 rfl (lv_at hl 1 rfl) ?_
  refine lv_istore_n (lv' := [(2, .int (nI v)), (0, .ref (q 0)), (1, .int (nI v))]) hx hb dX2_openFor_1 rfl hl (by decide) rfl (fun ls hl => ?_)
  refine va_gets hx hb (hG.2.2.1.narrow hAz) hS hown hf184 (fun _ h9 => h9) dX2_openFor_2 ?_
  refine va_tlen (v := 4) hx hb (hG.2.2.2.1.narrow hAz) hS rfl dX2_openFor_5 ?_
  refine lv_iconst (v := 1) hx hb dX2_openFor_6 (by decide) ?_
  refine lv_isub hx hb dX2_openFor_7 ?_
  refine lv_topi (fun v_1 ev_1 => ?_)
  refine lv_istore_n (lv' := [(3, .int v_1), (2, .int (nI v)), (0, .ref (q 0)), (1, .int (nI v))]) hx hb dX2_openFor_8 rfl hl (by decide) rfl (fun ls hl => ?_)
  obtain rfl : v_1 = (3 - nI 0) := by rw [ev_1]; decide
  have hl : lv_has ls 8 [(3, .int (3 - nI 0)), (2, .int (nI (zop v 0))), (0, .ref (q 0)), (1, .int (nI v))] := hl
  refine zz_forJ (nL := 8) (4) (fun i => [(3, .int (3 - nI i)), (2, .int (nI (zop v i))), (0, .ref (q 0)), (1, .int (nI v))]) (J := fun _ => True) ?_ ?_ (trivial) (lv_sub hl [0, 1, 2, 3] rfl)
  · intro hJ ls hl
    refine lv_iload_n hx hb dX2_openFor_9 rfl (lv_at hl 0 rfl) ?_
    refine lv_if_lt (tgt := 62) hx hb dX2_openFor_10 (by decide) (fun c_2 => ?_) (fun c_2 => ?_)
    · refine lv_iload_n hx hb dX2_openFor_62 rfl (lv_at hl 1 rfl) ?_
      refine lv_aload_n hx hb dX2_openFor_63 rfl (lv_at hl 2 rfl) ?_
      refine va_get (ci := 2) (C := RX2) (T := TX2) (N := 7) hx hb hts hiX2 hown hK hP 0 rfl rfl 0 (by decide) hf10 (fun _ h9 => h9) rfl dX2_openFor_64 ?_
      refine va_getN (ci := 0) (C := RX0) (T := TX0) (N := 7) hx hb hts hiX0 hown hK hP 1 rfl rfl 3 (by decide) (va_Nw.use rfl hn83) (fun _ h9 => h9) rfl dX2_openFor_67 ?_
      refine lv_iconst (v := (-1)) hx hb dX2_openFor_70 (by decide) ?_
      refine lv_ixor hx hb dX2_openFor_71 ?_
      refine lv_iand hx hb dX2_openFor_72 ?_
      refine zz_topi (nI (zopn v &&& (a.2.2.2.1 ^^^ 65535))) (zn_andn (zopn_lt hv)) ?_
      exact W.iret (v := (nI (zopn v &&& (a.2.2.2.1 ^^^ 65535)))) hx hb hr (fun t9 ht hW => ⟨_, rfl, (by rfl), ht⟩) (fun _ h => absurd h List.not_mem_nil) dX2_openFor_73
    · exact absurd (by decide) c_2
  · intro i hi hJ ihi ls hl
    rw [show (3 : Int32) - nI i = nI (3 - i) from pk_sub (a := 3) (by omega)] at hl
    refine lv_iload_n hx hb dX2_openFor_9 rfl (lv_at hl 0 rfl) ?_
    refine lv_if_lt (tgt := 62) hx hb dX2_openFor_10 (by decide) (fun c_3 => ?_) (fun c_3 => ?_)
    · exact absurd c_3 (nI_pos (by omega))
    · refine lv_iconst (v := 1) hx hb dX2_openFor_13 (by decide) ?_
      refine lv_iload_n hx hb dX2_openFor_14 rfl (lv_at hl 0 rfl) ?_
      refine lv_ishl hx hb dX2_openFor_15 ?_
      refine zz_topi (nI (2 ^ (3 - i))) (zz_shl1n rfl (by omega)) ?_
      refine lv_istore (lv' := [(4, .int (nI (2 ^ (3 - i)))), (3, .int (nI (3 - i))), (2, .int (nI (zop v i))), (0, .ref (q 0)), (1, .int (nI v))]) hx hb dX2_openFor_16 hl (by decide) rfl (fun ls hl => ?_)
      refine va_gets hx hb (hG.2.2.1.narrow hAz) hS hown hf184 (fun _ h9 => h9) dX2_openFor_18 ?_
      refine lv_iload_n hx hb dX2_openFor_21 rfl (lv_at hl 1 rfl) ?_
      refine va_ti (v := .int (nI (zmask (3 - i)))) hx hb (hG.2.2.2.1.narrow hAz) hS (vp_in_nI (show 3 - i < 4 by omega) (by decide)) (by rw [nI_clamp (by omega)]; exact zFv_mask (by omega)) dX2_openFor_22 ?_
      refine lv_istore (lv' := [(5, .int (nI (zmask (3 - i)))), (4, .int (nI (2 ^ (3 - i)))), (3, .int (nI (3 - i))), (2, .int (nI (zop v i))), (0, .ref (q 0)), (1, .int (nI v))]) hx hb dX2_openFor_23 hl (by decide) rfl (fun ls hl => ?_)
      refine lv_iload_n hx hb dX2_openFor_25 rfl (lv_at hl 3 rfl) ?_
      refine lv_iload_n hx hb dX2_openFor_26 rfl (lv_at hl 3 rfl) ?_
      refine lv_iload hx hb dX2_openFor_27 (lv_at hl 1 rfl) ?_
      refine lv_ishr hx hb dX2_openFor_29 ?_
      refine zz_topi (nI ((zop v i) >>> (2 ^ (3 - i)))) (zz_shrn rfl rfl (by have := zop_lt hv i; omega) (by have := zpow4 (show 3 - i < 4 by omega); omega)) ?_
      refine lv_ior hx hb dX2_openFor_30 ?_
      refine zz_topi (nI ((zop v i) ||| ((zop v i) >>> (2 ^ (3 - i))))) (zz_orn rfl rfl) ?_
      refine lv_iload hx hb dX2_openFor_31 (lv_at hl 0 rfl) ?_
      refine lv_iand hx hb dX2_openFor_33 ?_
      refine zz_topi (nI (((zop v i) ||| ((zop v i) >>> (2 ^ (3 - i)))) &&& (zmask (3 - i)))) (zz_andn rfl rfl) ?_
      refine lv_istore (lv' := [(6, .int (nI (((zop v i) ||| ((zop v i) >>> (2 ^ (3 - i)))) &&& (zmask (3 - i))))), (5, .int (nI (zmask (3 - i)))), (4, .int (nI (2 ^ (3 - i)))), (3, .int (nI (3 - i))), (2, .int (nI (zop v i))), (0, .ref (q 0)), (1, .int (nI v))]) hx hb dX2_openFor_34 hl (by decide) rfl (fun ls hl => ?_)
      refine lv_iload_n hx hb dX2_openFor_36 rfl (lv_at hl 4 rfl) ?_
      refine lv_iload_n hx hb dX2_openFor_37 rfl (lv_at hl 4 rfl) ?_
      refine lv_iload hx hb dX2_openFor_38 (lv_at hl 2 rfl) ?_
      refine lv_ishl hx hb dX2_openFor_40 ?_
      refine zz_topi (nI ((zop v i) <<< (2 ^ (3 - i)))) (zz_shln rfl rfl (by have := zpow4 (show 3 - i < 4 by omega); omega) (zshl_lt (zop_lt hv i) (by omega))) ?_
      refine lv_iand hx hb dX2_openFor_41 ?_
      refine zz_topi (nI ((zop v i) &&& ((zop v i) <<< (2 ^ (3 - i))))) (zz_andn rfl rfl) ?_
      refine lv_iload hx hb dX2_openFor_42 (lv_at hl 1 rfl) ?_
      refine lv_iload hx hb dX2_openFor_44 (lv_at hl 2 rfl) ?_
      refine lv_ishl hx hb dX2_openFor_46 ?_
      refine zz_topi (nI ((zmask (3 - i)) <<< (2 ^ (3 - i)))) (zz_shln rfl rfl (by have := zpow4 (show 3 - i < 4 by omega); omega) (zshl_lt (zmask_le _) (by omega))) ?_
      refine lv_iand hx hb dX2_openFor_47 ?_
      refine zz_topi (nI (((zop v i) &&& ((zop v i) <<< (2 ^ (3 - i)))) &&& ((zmask (3 - i)) <<< (2 ^ (3 - i))))) (zz_andn rfl rfl) ?_
      refine lv_istore (lv' := [(7, .int (nI (((zop v i) &&& ((zop v i) <<< (2 ^ (3 - i)))) &&& ((zmask (3 - i)) <<< (2 ^ (3 - i)))))), (6, .int (nI (((zop v i) ||| ((zop v i) >>> (2 ^ (3 - i)))) &&& (zmask (3 - i))))), (5, .int (nI (zmask (3 - i)))), (4, .int (nI (2 ^ (3 - i)))), (3, .int (nI (3 - i))), (2, .int (nI (zop v i))), (0, .ref (q 0)), (1, .int (nI v))]) hx hb dX2_openFor_48 hl (by decide) rfl (fun ls hl => ?_)
      refine lv_iload hx hb dX2_openFor_50 (lv_at hl 1 rfl) ?_
      refine lv_iload hx hb dX2_openFor_52 (lv_at hl 0 rfl) ?_
      refine lv_ior hx hb dX2_openFor_54 ?_
      refine zz_topi (nI ((((zop v i) ||| ((zop v i) >>> (2 ^ (3 - i)))) &&& (zmask (3 - i))) ||| (((zop v i) &&& ((zop v i) <<< (2 ^ (3 - i)))) &&& ((zmask (3 - i)) <<< (2 ^ (3 - i)))))) (zz_orn rfl rfl) ?_
      refine lv_istore_n (lv' := [(2, .int (nI ((((zop v i) ||| ((zop v i) >>> (2 ^ (3 - i)))) &&& (zmask (3 - i))) ||| (((zop v i) &&& ((zop v i) <<< (2 ^ (3 - i)))) &&& ((zmask (3 - i)) <<< (2 ^ (3 - i))))))), (7, .int (nI (((zop v i) &&& ((zop v i) <<< (2 ^ (3 - i)))) &&& ((zmask (3 - i)) <<< (2 ^ (3 - i)))))), (6, .int (nI (((zop v i) ||| ((zop v i) >>> (2 ^ (3 - i)))) &&& (zmask (3 - i))))), (5, .int (nI (zmask (3 - i)))), (4, .int (nI (2 ^ (3 - i)))), (3, .int (nI (3 - i))), (0, .ref (q 0)), (1, .int (nI v))]) hx hb dX2_openFor_55 rfl hl (by decide) rfl (fun ls hl => ?_)
      obtain ⟨v_4, ev_4⟩ : ∃ y : Int32, y = (nI (3 - i)) + (-1) := ⟨_, rfl⟩
      refine lv_iinc (v := v_4) (lv' := [(3, .int v_4), (2, .int (nI ((((zop v i) ||| ((zop v i) >>> (2 ^ (3 - i)))) &&& (zmask (3 - i))) ||| (((zop v i) &&& ((zop v i) <<< (2 ^ (3 - i)))) &&& ((zmask (3 - i)) <<< (2 ^ (3 - i))))))), (7, .int (nI (((zop v i) &&& ((zop v i) <<< (2 ^ (3 - i)))) &&& ((zmask (3 - i)) <<< (2 ^ (3 - i)))))), (6, .int (nI (((zop v i) ||| ((zop v i) >>> (2 ^ (3 - i)))) &&& (zmask (3 - i))))), (5, .int (nI (zmask (3 - i)))), (4, .int (nI (2 ^ (3 - i)))), (0, .ref (q 0)), (1, .int (nI v))]) hx hb dX2_openFor_56 hl (k := 5) rfl (by rw [ev_4]; rfl) (by decide) rfl (fun ls hl => ?_)
      refine lv_goto (tgt := 9) hx hb dX2_openFor_59 (by decide) ?_
      obtain rfl : v_4 = (3 - nI (i + 1)) := by rw [ev_4]; exact zdec i hi
      have hl : lv_has ls 8 [(3, .int (3 - nI (i + 1))), (2, .int (nI (zop v (i + 1)))), (7, .int (nI (((zop v i) &&& ((zop v i) <<< (2 ^ (3 - i)))) &&& ((zmask (3 - i)) <<< (2 ^ (3 - i)))))), (6, .int (nI (((zop v i) ||| ((zop v i) >>> (2 ^ (3 - i)))) &&& (zmask (3 - i))))), (5, .int (nI (zmask (3 - i)))), (4, .int (nI (2 ^ (3 - i)))), (0, .ref (q 0)), (1, .int (nI v))] := hl
      exact ihi (trivial) ls (lv_sub hl [0, 1, 6, 7] rfl)
set_option maxHeartbeats 4000000 in
set_option maxRecDepth 100000 in
theorem c_X2_isSentAsWord (l : Launch) (D : va_G) (cI cZ : ClassId) (hs ta : Nat) (q : Nat → Nat) (a : ZA) (b0 : ZA) (b1 : ZA) (ik : Nat) (ha : Nat → Int32) (t : ZR) (g : ZR) (v : Nat) (hI : zInv a) (hv : v < 65536) : Met l yX2_isSentAsWord wsX2_isSentAsWord ({ frames := 1, cells := 0, slots := 0, locals := 22 }) (va_Pc [.ref (q 0), .int (nI v)] (zPre D (zTy cI cZ) hs ta (zcX cI q a b0 b1 ik ha t g))) (vp_Si (fun r : Int32 => r = zB (zcod v &&& a.2.2.2.1 = 0))) 0 0 (fun _ => False) := by
  refine Met.ofW (cc := cX2_isSentAsWord) (maxL := 2) (ret := (some .boolean)) (by decide) rfl ?_
  intro p e s m args below meth c s₁ B hml hv0
  obtain ⟨rfl, hP, hD, hG⟩ := hv0
  have hx := B.exec
  have hb := B.bytes
  have hr := B.returns
  have hts := atoms_spec (ws := wsX2_isSentAsWord) B.pre
  have hown : s.vm.findClass RX2 = some m.cls := findClass_of_methodNamed B.named
  have hlocks := B.notSynchronized
  have hK := hG.1
  have hS : va_S (zA hs) s.heap s.heap [] := va_S.rf
  have hAz : ∀ q, zA hs q → hs ≤ q := fun _ h => h
  have hl := lv_entry ([.ref (q 0), .int (nI v)]) (n := 2) (Nat.le_of_ble_eq_true rfl)
  rw [lg_entry_eq]
  generalize (lg_sl ([.ref (q 0), .int (nI v)]) ++ List.replicate (2 - (lg_sl ([.ref (q 0), .int (nI v)])).length) Slot.unset).toArray = ls at hl ⊢
  have hl : lv_has ls 2 [(0, .ref (q 0)), (1, .int (nI v))] := hl
  have hf10 := hts (.fieldLink RX2 10 "FrozenBits" "now" "LFrozenBits$Facts;") (List.mem_of_getElem? (i := 1) rfl)
  have hiX2 : ∀ w ∈ u_ws RX2 TX2 7, w ∈ wsX2_isSentAsWord := fun w h => List.mem_cons_of_mem _ (List.mem_append_left _ (List.mem_append_right _ h))
  have hn83 := hG.2.1 (.fieldLinkNest "FrozenBits" 83 "FrozenBits$Facts" "frozen" "I" "FrozenBits") (List.mem_of_getElem? (i := 3) rfl)
  have hiX0 : ∀ w ∈ u_ws RX0 TX0 7, w ∈ wsX2_isSentAsWord := fun w h => List.mem_cons_of_mem _ (List.mem_append_right _ h)
  refine lv_iload_n hx hb dX2_isSentAsWord_0 rfl (lv_at hl 1 rfl) ?_
  refine zz_cSi (cs := []) (As := [.int (nI v)]) (rest := []) ⟨hx, hb, hml, hown, hts⟩ (c_X2_codedOf l D cI cZ hs ta v hv) (va_cwS 1 hts gX2_isSentAsWord_X2_codedOf rfl rfl rfl (by decide +kernel) ⟨Nat.le_of_ble_eq_true rfl, Nat.le_of_ble_eq_true rfl⟩) zP_nil zD_nil hG hS hAz rfl hl.1 rfl (Nat.le_of_ble_eq_true rfl) ⟨Nat.zero_le _, Nat.zero_le _⟩ dX2_isSentAsWord_1 (fun r_1 er_1 => ?_)
  subst er_1
  refine lv_aload_n hx hb dX2_isSentAsWord_4 rfl (lv_at hl 0 rfl) ?_
  refine va_get (ci := 2) (C := RX2) (T := TX2) (N := 7) hx hb hts hiX2 hown hK hP 0 rfl rfl 0 (by decide) hf10 (fun _ h9 => h9) rfl dX2_isSentAsWord_5 ?_
  refine va_getN (ci := 0) (C := RX0) (T := TX0) (N := 7) hx hb hts hiX0 hown hK hP 1 rfl rfl 3 (by decide) (va_Nw.use rfl hn83) (fun _ h9 => h9) rfl dX2_isSentAsWord_8 ?_
  refine lv_iand hx hb dX2_isSentAsWord_11 ?_
  refine zz_topi (nI ((zcod v) &&& a.2.2.2.1)) (zz_andn rfl rfl) ?_
  refine lv_if_ne (tgt := 19) hx hb dX2_isSentAsWord_12 (by decide) (fun c_2 => ?_) (fun c_2 => ?_)
  · replace c_2 := zI_n0 c_2
    refine lv_iconst (v := 0) hx hb dX2_isSentAsWord_19 (by decide) ?_
    exact W.zret (v := 0) (ty := .boolean) hx hb hr (rfl) (fun t9 ht hW => ⟨_, rfl, (by simp only [c_2, zB, not_true_eq_false, not_false_eq_true, and_self, and_true, true_and, and_false, false_and, or_self, or_true, true_or, or_false, false_or, if_true, if_false, ↓reduceIte, Bool.false_eq_true, iff_self, iff_true, iff_false, true_iff, false_iff, Nat.add_zero]), ht⟩) (fun _ h => absurd h List.not_mem_nil) dX2_isSentAsWord_20
  · replace c_2 := zI_0 (Nat.lt_of_le_of_lt Nat.and_le_left (by have := zcod_lt hv; omega)) c_2
    refine lv_iconst (v := 1) hx hb dX2_isSentAsWord_15 (by decide) ?_
    refine lv_goto (tgt := 20) hx hb dX2_isSentAsWord_16 (by decide) ?_
    exact W.zret (v := 1) (ty := .boolean) hx hb hr (rfl) (fun t9 ht hW => ⟨_, rfl, (by simp only [c_2, zB, not_true_eq_false, not_false_eq_true, and_self, and_true, true_and, and_false, false_and, or_self, or_true, true_or, or_false, false_or, if_true, if_false, ↓reduceIte, Bool.false_eq_true, iff_self, iff_true, iff_false, true_iff, false_iff, Nat.add_zero]), ht⟩) (fun _ h => absurd h List.not_mem_nil) dX2_isSentAsWord_20
set_option maxHeartbeats 4000000 in
set_option maxRecDepth 100000 in
theorem c_X2_leastWeight (l : Launch) (D : va_G) (cI cZ : ClassId) (hs ta : Nat) (q : Nat → Nat) (a : ZA) (b0 : ZA) (b1 : ZA) (ik : Nat) (ha : Nat → Int32) (t : ZR) (g : ZR) (hI : zInv a) : Met l yX2_leastWeight wsX2_leastWeight ({ frames := 2, cells := 0, slots := 0, locals := 42 }) (va_Pc [.ref (q 0)] (zPre D (zTy cI cZ) hs ta (zcX cI q a b0 b1 ik ha t g))) (vp_Si (fun r : Int32 => r = nI (zlw a.2.2.2.1 (2 ^ a.1)))) 0 0 (fun _ => False) := by
  refine Met.ofW (cc := cX2_leastWeight) (maxL := 3) (ret := (some .int)) (by decide) rfl ?_
  intro p e s m args below meth c s₁ B hml hv0
  obtain ⟨rfl, hP, hD, hG⟩ := hv0
  have hx := B.exec
  have hb := B.bytes
  have hr := B.returns
  have hts := atoms_spec (ws := wsX2_leastWeight) B.pre
  have hown : s.vm.findClass RX2 = some m.cls := findClass_of_methodNamed B.named
  have hlocks := B.notSynchronized
  have hK := hG.1
  have hS : va_S (zA hs) s.heap s.heap [] := va_S.rf
  have hAz : ∀ q, zA hs q → hs ≤ q := fun _ h => h
  have hl := lv_entry ([.ref (q 0)]) (n := 3) (Nat.le_of_ble_eq_true rfl)
  rw [lg_entry_eq]
  generalize (lg_sl ([.ref (q 0)]) ++ List.replicate (3 - (lg_sl ([.ref (q 0)])).length) Slot.unset).toArray = ls at hl ⊢
  have hl : lv_has ls 3 [(0, .ref (q 0))] := hl
  refine lv_bipush (v := 16) hx hb dX2_leastWeight_0 (by decide) ?_
  refine lv_istore_n (lv' := [(1, .int 16), (0, .ref (q 0))]) hx hb dX2_leastWeight_2 rfl hl (by decide) rfl (fun ls hl => ?_)
  refine lv_iconst (v := 0) hx hb dX2_leastWeight_3 (by decide) ?_
  refine lv_istore_n (lv' := [(2, .int 0), (1, .int 16), (0, .ref (q 0))]) hx hb dX2_leastWeight_4 rfl hl (by decide) rfl (fun ls hl => ?_)
  have hl : lv_has ls 3 [(2, .int (nI 0)), (1, .int (nI (zlw a.2.2.2.1 0))), (0, .ref (q 0))] := hl
  refine zz_forJ (nL := 3) (2 ^ a.1) (fun i => [(2, .int (nI i)), (1, .int (nI (zlw a.2.2.2.1 i))), (0, .ref (q 0))]) (J := fun _ => True) ?_ ?_ (trivial) (lv_sub hl [0, 1, 2] rfl)
  · intro hJ ls hl
    refine lv_iload_n hx hb dX2_leastWeight_5 rfl (lv_at hl 0 rfl) ?_
    refine lv_aload_n hx hb dX2_leastWeight_6 rfl (lv_at hl 2 rfl) ?_
    refine zz_cVi (cs := zcX cI q a b0 b1 ik ha t g) (As := []) (rest := [.int (nI ((2 ^ a.1)))]) ⟨hx, hb, hml, hown, hts⟩ (c_X2_places l D cI cZ hs ta q a b0 b1 ik ha t g hI.1.2) (cwV 0 hts gX2_leastWeight_X2_places rfl rfl rfl (by decide +kernel) ⟨Nat.le_of_ble_eq_true rfl, Nat.le_of_ble_eq_true rfl⟩) (va_recv hK hP (ci := 2) (q0 := 0) rfl rfl) hP hD hG hS hAz rfl hl.1 rfl (Nat.le_of_ble_eq_true rfl) ⟨Nat.zero_le _, Nat.zero_le _⟩ dX2_leastWeight_7 (fun r_1 er_1 => ?_)
    subst er_1
    refine lv_icmp_ge (tgt := 41) hx hb dX2_leastWeight_10 (by decide) (fun c_2 => ?_) (fun c_2 => ?_)
    · replace c_2 := Int32.not_lt.mpr c_2
      refine lv_iload_n hx hb dX2_leastWeight_41 rfl (lv_at hl 1 rfl) ?_
      exact W.iret (v := (nI (zlw a.2.2.2.1 (2 ^ a.1)))) hx hb hr (fun t9 ht hW => ⟨_, rfl, (by rfl), ht⟩) (fun _ h => absurd h List.not_mem_nil) dX2_leastWeight_42
    · replace c_2 := Int32.not_le.mp c_2
      exact absurd c_2 (nI_nlt (Nat.le_refl _) (by have := zNp hI; omega))
  · intro i hi hJ ihi ls hl
    refine lv_iload_n hx hb dX2_leastWeight_5 rfl (lv_at hl 0 rfl) ?_
    refine lv_aload_n hx hb dX2_leastWeight_6 rfl (lv_at hl 2 rfl) ?_
    refine zz_cVi (cs := zcX cI q a b0 b1 ik ha t g) (As := []) (rest := [.int (nI i)]) ⟨hx, hb, hml, hown, hts⟩ (c_X2_places l D cI cZ hs ta q a b0 b1 ik ha t g hI.1.2) (cwV 0 hts gX2_leastWeight_X2_places rfl rfl rfl (by decide +kernel) ⟨Nat.le_of_ble_eq_true rfl, Nat.le_of_ble_eq_true rfl⟩) (va_recv hK hP (ci := 2) (q0 := 0) rfl rfl) hP hD hG hS hAz rfl hl.1 rfl (Nat.le_of_ble_eq_true rfl) ⟨Nat.zero_le _, Nat.zero_le _⟩ dX2_leastWeight_7 (fun r_3 er_3 => ?_)
    subst er_3
    refine lv_icmp_ge (tgt := 41) hx hb dX2_leastWeight_10 (by decide) (fun c_4 => ?_) (fun c_4 => ?_)
    · replace c_4 := Int32.not_lt.mpr c_4
      exact absurd (nI_lt hi (by have := zNp hI; omega)) c_4
    · replace c_4 := Int32.not_le.mp c_4
      refine lv_aload_n hx hb dX2_leastWeight_13 rfl (lv_at hl 2 rfl) ?_
      refine lv_iload_n hx hb dX2_leastWeight_14 rfl (lv_at hl 0 rfl) ?_
      refine zz_cVi (cs := zcX cI q a b0 b1 ik ha t g) (As := [.int (nI i)]) (rest := []) ⟨hx, hb, hml, hown, hts⟩ (c_X2_isFree l D cI cZ hs ta q a b0 b1 ik ha t g i hI (by have := zNp hI; omega)) (cwV 1 hts gX2_leastWeight_X2_isFree rfl rfl rfl (by decide +kernel) ⟨Nat.le_of_ble_eq_true rfl, Nat.le_of_ble_eq_true rfl⟩) (va_recv hK hP (ci := 2) (q0 := 0) rfl rfl) hP hD hG hS hAz rfl hl.1 rfl (Nat.le_of_ble_eq_true rfl) ⟨Nat.zero_le _, Nat.zero_le _⟩ dX2_leastWeight_15 (fun r_5 er_5 => ?_)
      refine lv_if_eq (tgt := 35) hx hb dX2_leastWeight_18 (by decide) (fun c_6 => ?_) (fun c_6 => ?_)
      · replace c_6 := Classical.not_not.mp (zB_f er_5 c_6)
        refine lv_iinc (v := (nI (i + 1))) (lv' := [(2, .int (nI (i + 1))), (1, .int (nI (zlw a.2.2.2.1 i))), (0, .ref (q 0))]) hx hb dX2_leastWeight_35 hl (k := 0) rfl (zz_inc _) (by decide) rfl (fun ls hl => ?_)
        refine lv_goto (tgt := 5) hx hb dX2_leastWeight_38 (by decide) ?_
        rw [show ((nI (zlw a.2.2.2.1 i)) : Int32) = (nI (zlw a.2.2.2.1 (i + 1))) from by simp only [zlw, c_4, c_6, not_true_eq_false, not_false_eq_true, and_self, and_true, true_and, and_false, false_and, or_self, or_true, true_or, or_false, false_or, if_true, if_false, ↓reduceIte, Bool.false_eq_true, iff_self, iff_true, iff_false, true_iff, false_iff, Nat.add_zero]] at hl
        have hl : lv_has ls 3 [(2, .int (nI ((i + 1)))), (1, .int (nI (zlw a.2.2.2.1 (i + 1)))), (0, .ref (q 0))] := hl
        exact ihi (trivial) ls (lv_sub hl [0, 1, 2] rfl)
      · replace c_6 := zB_t er_5 c_6
        refine lv_iload_n hx hb dX2_leastWeight_21 rfl (lv_at hl 1 rfl) ?_
        refine lv_iconst (v := 1) hx hb dX2_leastWeight_22 (by decide) ?_
        refine lv_iload_n hx hb dX2_leastWeight_23 rfl (lv_at hl 0 rfl) ?_
        refine lv_ishl hx hb dX2_leastWeight_24 ?_
        refine zz_topi (nI (2 ^ i)) (zz_shl1n rfl (by have := zNp hI; omega)) ?_
        refine zz_cSi (cs := []) (As := [.int (nI (2 ^ i))]) (rest := [.int (nI (zlw a.2.2.2.1 i))]) ⟨hx, hb, hml, hown, hts⟩ (c_X2_codedOf l D cI cZ hs ta (2 ^ i) (zp2_16 (by have := zNp hI; omega))) (va_cwS 1 hts gX2_leastWeight_X2_codedOf rfl rfl rfl (by decide +kernel) ⟨Nat.le_of_ble_eq_true rfl, Nat.le_of_ble_eq_true rfl⟩) zP_nil zD_nil hG hS hAz rfl hl.1 rfl (Nat.le_of_ble_eq_true rfl) ⟨Nat.zero_le _, Nat.zero_le _⟩ dX2_leastWeight_25 (fun r_7 er_7 => ?_)
        subst er_7
        refine zz_pSi (As := [.int (nI (zcod (2 ^ i)))]) (rest := [.int (nI (zlw a.2.2.2.1 i))]) ⟨hx, hb, hml, hown, hts⟩ (c_J6_bitCount_0f7a4 l (zcod (2 ^ i)) (zcod_lt (zp2_16 (by have := zNp hI; omega)))) (va_cwS 1 hts gX2_leastWeight_J6_bitCount_0f7a4 rfl rfl rfl (by decide +kernel) ⟨Nat.le_of_ble_eq_true rfl, Nat.le_of_ble_eq_true rfl⟩) rfl hl.1 rfl (Nat.le_of_ble_eq_true rfl) ⟨Nat.zero_le _, Nat.zero_le _⟩ dX2_leastWeight_28 (fun r_8 er_8 => ?_)
        subst er_8
        refine va_mmin hx hb (hml.trans hl.1.symm) hown (hts (.methodLink RX2 187 Lib.Math.min.name) (List.mem_of_getElem? (i := 1) rfl)) (hts (.static Lib.Math.min.name) (List.mem_of_getElem? (i := 2) rfl)) (hts (.initialized "java/lang/Math") (List.mem_of_getElem? (i := 3) rfl)) (hts (.code Lib.Math.min.name Lib.Math.min.code 2 (some .int)) (List.mem_of_getElem? (i := 4) rfl)) (Nat.le_of_ble_eq_true rfl) (Nat.le_of_ble_eq_true rfl) (Nat.zero_le _) (Nat.zero_le _) dX2_leastWeight_31 ?_
        refine zz_topi (nI (if zpc (zcod (2 ^ i)) < zlw a.2.2.2.1 i then zpc (zcod (2 ^ i)) else zlw a.2.2.2.1 i)) (zz_minn (by have := zlw_le a.2.2.2.1 i; omega) (by have := zpc_le (zcod (2 ^ i)); omega)) ?_
        refine lv_istore_n (lv' := [(1, .int (nI (if zpc (zcod (2 ^ i)) < zlw a.2.2.2.1 i then zpc (zcod (2 ^ i)) else zlw a.2.2.2.1 i))), (2, .int (nI i)), (0, .ref (q 0))]) hx hb dX2_leastWeight_34 rfl hl (by decide) rfl (fun ls hl => ?_)
        refine lv_iinc (v := (nI (i + 1))) (lv' := [(2, .int (nI (i + 1))), (1, .int (nI (if zpc (zcod (2 ^ i)) < zlw a.2.2.2.1 i then zpc (zcod (2 ^ i)) else zlw a.2.2.2.1 i))), (0, .ref (q 0))]) hx hb dX2_leastWeight_35 hl (k := 1) rfl (zz_inc _) (by decide) rfl (fun ls hl => ?_)
        refine lv_goto (tgt := 5) hx hb dX2_leastWeight_38 (by decide) ?_
        rw [show ((nI (if zpc (zcod (2 ^ i)) < zlw a.2.2.2.1 i then zpc (zcod (2 ^ i)) else zlw a.2.2.2.1 i)) : Int32) = (nI (zlw a.2.2.2.1 (i + 1))) from by simp only [zlw, c_4, c_6, not_true_eq_false, not_false_eq_true, and_self, and_true, true_and, and_false, false_and, or_self, or_true, true_or, or_false, false_or, if_true, if_false, ↓reduceIte, Bool.false_eq_true, iff_self, iff_true, iff_false, true_iff, false_iff, Nat.add_zero]] at hl
        have hl : lv_has ls 3 [(2, .int (nI ((i + 1)))), (1, .int (nI (zlw a.2.2.2.1 (i + 1)))), (0, .ref (q 0))] := hl
        exact ihi (trivial) ls (lv_sub hl [0, 1, 2] rfl)
set_option maxHeartbeats 4000000 in
set_option maxRecDepth 100000 in
theorem c_X2_howManySets (l : Launch) (D : va_G) (cI cZ : ClassId) (hs ta : Nat) (q : Nat → Nat) (a : ZA) (b0 : ZA) (b1 : ZA) (ik : Nat) (ha : Nat → Int32) (t : ZR) (g : ZR) (w : Nat) (p1 : Int32) (K : Nat) (hI : zInv a) (hq : zSeq w (2 ^ a.1) K) (hw : w ≤ 16) : Met l yX2_howManySets wsX2_howManySets ({ frames := 2, cells := 0, slots := 0, locals := 44 }) (va_Pc [.ref (q 0), .int (nI w), .int p1] (zPre D (zTy cI cZ) hs ta (zcX cI q a b0 b1 ik ha t g))) (vp_Si (fun r : Int32 => r = nI (zct (fun j => zhm a.2.2.2.1 p1 (zsq w j)) K))) 0 0 (fun _ => False) := by
  refine Met.ofW (cc := cX2_howManySets) (maxL := 7) (ret := (some .int)) (by decide) rfl ?_
  intro p e s m args below meth c s₁ B hml hv0
  obtain ⟨rfl, hP, hD, hG⟩ := hv0
  have hx := B.exec
  have hb := B.bytes
  have hr := B.returns
  have hts := atoms_spec (ws := wsX2_howManySets) B.pre
  have hown : s.vm.findClass RX2 = some m.cls := findClass_of_methodNamed B.named
  have hlocks := B.notSynchronized
  have hK := hG.1
  have hS : va_S (zA hs) s.heap s.heap [] := va_S.rf
  have hAz : ∀ q, zA hs q → hs ≤ q := fun _ h => h
  have hl := lv_entry ([.ref (q 0), .int (nI w), .int p1]) (n := 7) (Nat.le_of_ble_eq_true rfl)
  rw [lg_entry_eq]
  generalize (lg_sl ([.ref (q 0), .int (nI w), .int p1]) ++ List.replicate (7 - (lg_sl ([.ref (q 0), .int (nI w), .int p1])).length) Slot.unset).toArray = ls at hl ⊢
  have hl : lv_has ls 7 [(0, .ref (q 0)), (1, .int (nI w)), (2, .int p1)] := hl
  refine lv_iconst (v := 1) hx hb dX2_howManySets_0 (by decide) ?_
  refine lv_aload_n hx hb dX2_howManySets_1 rfl (lv_at hl 0 rfl) ?_
  refine zz_cVi (cs := zcX cI q a b0 b1 ik ha t g) (As := []) (rest := [.int 1]) ⟨hx, hb, hml, hown, hts⟩ (c_X2_places l D cI cZ hs ta q a b0 b1 ik ha t g hI.1.2) (cwV 0 hts gX2_howManySets_X2_places rfl rfl rfl (by decide +kernel) ⟨Nat.le_of_ble_eq_true rfl, Nat.le_of_ble_eq_true rfl⟩) (va_recv hK hP (ci := 2) (q0 := 0) rfl rfl) hP hD hG hS hAz rfl hl.1 rfl (Nat.le_of_ble_eq_true rfl) ⟨Nat.zero_le _, Nat.zero_le _⟩ dX2_howManySets_2 (fun r_1 er_1 => ?_)
  subst er_1
  refine lv_ishl hx hb dX2_howManySets_5 ?_
  refine zz_topi (nI (2 ^ (2 ^ a.1))) (zz_shl1n rfl (by have := zNp hI; omega)) ?_
  refine lv_istore_n (lv' := [(3, .int (nI (2 ^ (2 ^ a.1)))), (0, .ref (q 0)), (1, .int (nI w)), (2, .int p1)]) hx hb dX2_howManySets_6 rfl hl (by decide) rfl (fun ls hl => ?_)
  refine lv_iconst (v := 0) hx hb dX2_howManySets_7 (by decide) ?_
  refine lv_istore (lv' := [(4, .int 0), (3, .int (nI (2 ^ (2 ^ a.1)))), (0, .ref (q 0)), (1, .int (nI w)), (2, .int p1)]) hx hb dX2_howManySets_8 hl (by decide) rfl (fun ls hl => ?_)
  refine lv_iconst (v := 1) hx hb dX2_howManySets_10 (by decide) ?_
  refine lv_iload_n hx hb dX2_howManySets_11 rfl (lv_at hl 3 rfl) ?_
  refine lv_ishl hx hb dX2_howManySets_12 ?_
  refine zz_topi (nI (2 ^ w)) (zz_shl1n rfl (by omega)) ?_
  refine lv_iconst (v := 1) hx hb dX2_howManySets_13 (by decide) ?_
  refine lv_isub hx hb dX2_howManySets_14 ?_
  refine zz_topi (nI ((2 ^ w) - 1)) (zz_subn rfl (show (1 : Int32) = nI 1 from rfl) (Nat.one_le_two_pow)) ?_
  refine lv_istore (lv' := [(5, .int (nI ((2 ^ w) - 1))), (4, .int 0), (3, .int (nI (2 ^ (2 ^ a.1)))), (0, .ref (q 0)), (1, .int (nI w)), (2, .int p1)]) hx hb dX2_howManySets_15 hl (by decide) rfl (fun ls hl => ?_)
  refine lv_iconst (v := 0) hx hb dX2_howManySets_17 (by decide) ?_
  refine lv_istore (lv' := [(6, .int 0), (5, .int (nI ((2 ^ w) - 1))), (4, .int 0), (3, .int (nI (2 ^ (2 ^ a.1)))), (0, .ref (q 0)), (1, .int (nI w)), (2, .int p1)]) hx hb dX2_howManySets_18 hl (by decide) rfl (fun ls hl => ?_)
  have hl : lv_has ls 7 [(6, .int (nI 0)), (5, .int (nI (zsq w 0))), (4, .int (nI (zct (fun j => zhm a.2.2.2.1 p1 (zsq w j)) 0))), (3, .int (nI (2 ^ (2 ^ a.1)))), (0, .ref (q 0)), (1, .int (nI w)), (2, .int p1)] := hl
  refine zz_forJ (nL := 7) (K) (fun i => [(6, .int (nI i)), (4, .int (nI (zct (fun j => zhm a.2.2.2.1 p1 (zsq w j)) i))), (5, .int (nI (zsq w i))), (3, .int (nI (2 ^ (2 ^ a.1)))), (0, .ref (q 0)), (1, .int (nI w)), (2, .int p1)]) (J := fun _ => True) ?_ ?_ (trivial) (lv_sub hl [0, 2, 1, 3, 4, 5, 6] rfl)
  · intro hJ ls hl
    refine lv_iload hx hb dX2_howManySets_20 (lv_at hl 0 rfl) ?_
    refine lv_iload_n hx hb dX2_howManySets_22 rfl (lv_at hl 3 rfl) ?_
    refine lv_icmp_ge (tgt := 73) hx hb dX2_howManySets_23 (by decide) (fun c_2 => ?_) (fun c_2 => ?_)
    · replace c_2 := Int32.not_lt.mpr c_2
      exact absurd (nI_lt (by have := hq.2.2.2; omega) (by have := zNN hI; omega)) c_2
    · replace c_2 := Int32.not_le.mp c_2
      refine lv_iload hx hb dX2_howManySets_26 (lv_at hl 2 rfl) ?_
      refine lv_iload_n hx hb dX2_howManySets_28 rfl (lv_at hl 3 rfl) ?_
      refine lv_icmp_ge (tgt := 73) hx hb dX2_howManySets_29 (by decide) (fun c_3 => ?_) (fun c_3 => ?_)
      · replace c_3 := Int32.not_lt.mpr c_3
        refine lv_iload hx hb dX2_howManySets_73 (lv_at hl 1 rfl) ?_
        exact W.iret (v := (nI (zct (fun j => zhm a.2.2.2.1 p1 (zsq w j)) K))) hx hb hr (fun t9 ht hW => ⟨_, rfl, (by rfl), ht⟩) (fun _ h => absurd h List.not_mem_nil) dX2_howManySets_75
      · replace c_3 := Int32.not_le.mp c_3
        exact absurd c_3 (nI_nlt hq.2.1 (by have := hq.2.2.1; omega))
  · intro i hi hJ ihi ls hl
    refine lv_iload hx hb dX2_howManySets_20 (lv_at hl 0 rfl) ?_
    refine lv_iload_n hx hb dX2_howManySets_22 rfl (lv_at hl 3 rfl) ?_
    refine lv_icmp_ge (tgt := 73) hx hb dX2_howManySets_23 (by decide) (fun c_4 => ?_) (fun c_4 => ?_)
    · replace c_4 := Int32.not_lt.mpr c_4
      exact absurd (nI_lt (by have := hq.2.2.2; omega) (by have := zNN hI; omega)) c_4
    · replace c_4 := Int32.not_le.mp c_4
      refine lv_iload hx hb dX2_howManySets_26 (lv_at hl 2 rfl) ?_
      refine lv_iload_n hx hb dX2_howManySets_28 rfl (lv_at hl 3 rfl) ?_
      refine lv_icmp_ge (tgt := 73) hx hb dX2_howManySets_29 (by decide) (fun c_5 => ?_) (fun c_5 => ?_)
      · replace c_5 := Int32.not_lt.mpr c_5
        exact absurd (nI_lt (hq.1 i hi).2 (by have := zNN hI; omega)) c_5
      · replace c_5 := Int32.not_le.mp c_5
        refine lv_iload_n hx hb dX2_howManySets_32 rfl (lv_at hl 6 rfl) ?_
        refine lv_if_eq (tgt := 48) hx hb dX2_howManySets_33 (by decide) (fun c_6 => ?_) (fun c_6 => ?_)
        · refine lv_aload_n hx hb dX2_howManySets_48 rfl (lv_at hl 4 rfl) ?_
          refine lv_iload hx hb dX2_howManySets_49 (lv_at hl 2 rfl) ?_
          refine zz_cVi (cs := zcX cI q a b0 b1 ik ha t g) (As := [.int (nI (zsq w i))]) (rest := []) ⟨hx, hb, hml, hown, hts⟩ (c_X2_openFor l D cI cZ hs ta q a b0 b1 ik ha t g (zsq w i) hI (by have := (hq.1 i hi).2; have := zNN hI; omega)) (cwV 1 hts gX2_howManySets_X2_openFor rfl rfl rfl (by decide +kernel) ⟨Nat.le_of_ble_eq_true rfl, Nat.le_of_ble_eq_true rfl⟩) (va_recv hK hP (ci := 2) (q0 := 0) rfl rfl) hP hD hG hS hAz rfl hl.1 rfl (Nat.le_of_ble_eq_true rfl) ⟨Nat.zero_le _, Nat.zero_le _⟩ dX2_howManySets_51 (fun r_7 er_7 => ?_)
          subst er_7
          refine lv_if_eq (tgt := 60) hx hb dX2_howManySets_54 (by decide) (fun c_8 => ?_) (fun c_8 => ?_)
          · replace c_8 := zI_0 (Nat.lt_of_le_of_lt Nat.and_le_left (by have := zopn_lt (show zsq w i < 65536 from by have := (hq.1 i hi).2; have := zNN hI; omega); omega)) c_8
            refine lv_iload hx hb dX2_howManySets_60 (lv_at hl 2 rfl) ?_
            refine zz_pSi (As := [.int (nI (zsq w i))]) (rest := []) ⟨hx, hb, hml, hown, hts⟩ (c_X2_nextOfSize l (zsq w i) (by have := (hq.1 i hi).2; have := zNN hI; omega) ((hq.1 i hi).1)) (va_cwS 1 hts gX2_howManySets_X2_nextOfSize rfl rfl rfl (by decide +kernel) ⟨Nat.le_of_ble_eq_true rfl, Nat.le_of_ble_eq_true rfl⟩) rfl hl.1 rfl (Nat.le_of_ble_eq_true rfl) ⟨Nat.zero_le _, Nat.zero_le _⟩ dX2_howManySets_62 (fun r_9 er_9 => ?_)
            subst er_9
            refine lv_istore (lv' := [(5, .int (nI (znx (zsq w i)))), (6, .int (nI i)), (4, .int (nI (zct (fun j => zhm a.2.2.2.1 p1 (zsq w j)) i))), (3, .int (nI (2 ^ (2 ^ a.1)))), (0, .ref (q 0)), (1, .int (nI w)), (2, .int p1)]) hx hb dX2_howManySets_65 hl (by decide) rfl (fun ls hl => ?_)
            refine lv_iinc (v := (nI (i + 1))) (lv' := [(6, .int (nI (i + 1))), (5, .int (nI (znx (zsq w i)))), (4, .int (nI (zct (fun j => zhm a.2.2.2.1 p1 (zsq w j)) i))), (3, .int (nI (2 ^ (2 ^ a.1)))), (0, .ref (q 0)), (1, .int (nI w)), (2, .int p1)]) hx hb dX2_howManySets_67 hl (k := 1) rfl (zz_inc _) (by decide) rfl (fun ls hl => ?_)
            refine lv_goto (tgt := 20) hx hb dX2_howManySets_70 (by decide) ?_
            rw [show ((nI (zct (fun j => zhm a.2.2.2.1 p1 (zsq w j)) i)) : Int32) = (nI (zct (fun j => zhm a.2.2.2.1 p1 (zsq w j)) (i + 1))) from by simp only [zct, zhm, c_4, c_5, c_6, c_8, decide_true, decide_false, not_true_eq_false, not_false_eq_true, and_self, and_true, true_and, and_false, false_and, or_self, or_true, true_or, or_false, false_or, if_true, if_false, ↓reduceIte, Bool.false_eq_true, iff_self, iff_true, iff_false, true_iff, false_iff, Nat.add_zero]] at hl
            have hl : lv_has ls 7 [(6, .int (nI ((i + 1)))), (5, .int (nI (zsq w (i + 1)))), (4, .int (nI (zct (fun j => zhm a.2.2.2.1 p1 (zsq w j)) (i + 1)))), (3, .int (nI (2 ^ (2 ^ a.1)))), (0, .ref (q 0)), (1, .int (nI w)), (2, .int p1)] := hl
            exact ihi (trivial) ls (lv_sub hl [0, 2, 1, 3, 4, 5, 6] rfl)
          · replace c_8 := zI_n0 c_8
            refine lv_iinc (v := (nI ((zct (fun j => zhm a.2.2.2.1 p1 (zsq w j)) i) + 1))) (lv' := [(4, .int (nI ((zct (fun j => zhm a.2.2.2.1 p1 (zsq w j)) i) + 1))), (6, .int (nI i)), (5, .int (nI (zsq w i))), (3, .int (nI (2 ^ (2 ^ a.1)))), (0, .ref (q 0)), (1, .int (nI w)), (2, .int p1)]) hx hb dX2_howManySets_57 hl (k := 1) rfl (zz_inc _) (by decide) rfl (fun ls hl => ?_)
            refine lv_iload hx hb dX2_howManySets_60 (lv_at hl 2 rfl) ?_
            refine zz_pSi (As := [.int (nI (zsq w i))]) (rest := []) ⟨hx, hb, hml, hown, hts⟩ (c_X2_nextOfSize l (zsq w i) (by have := (hq.1 i hi).2; have := zNN hI; omega) ((hq.1 i hi).1)) (va_cwS 1 hts gX2_howManySets_X2_nextOfSize rfl rfl rfl (by decide +kernel) ⟨Nat.le_of_ble_eq_true rfl, Nat.le_of_ble_eq_true rfl⟩) rfl hl.1 rfl (Nat.le_of_ble_eq_true rfl) ⟨Nat.zero_le _, Nat.zero_le _⟩ dX2_howManySets_62 (fun r_10 er_10 => ?_)
            subst er_10
            refine lv_istore (lv' := [(5, .int (nI (znx (zsq w i)))), (4, .int (nI ((zct (fun j => zhm a.2.2.2.1 p1 (zsq w j)) i) + 1))), (6, .int (nI i)), (3, .int (nI (2 ^ (2 ^ a.1)))), (0, .ref (q 0)), (1, .int (nI w)), (2, .int p1)]) hx hb dX2_howManySets_65 hl (by decide) rfl (fun ls hl => ?_)
            refine lv_iinc (v := (nI (i + 1))) (lv' := [(6, .int (nI (i + 1))), (5, .int (nI (znx (zsq w i)))), (4, .int (nI ((zct (fun j => zhm a.2.2.2.1 p1 (zsq w j)) i) + 1))), (3, .int (nI (2 ^ (2 ^ a.1)))), (0, .ref (q 0)), (1, .int (nI w)), (2, .int p1)]) hx hb dX2_howManySets_67 hl (k := 2) rfl (zz_inc _) (by decide) rfl (fun ls hl => ?_)
            refine lv_goto (tgt := 20) hx hb dX2_howManySets_70 (by decide) ?_
            rw [show ((nI ((zct (fun j => zhm a.2.2.2.1 p1 (zsq w j)) i) + 1)) : Int32) = (nI (zct (fun j => zhm a.2.2.2.1 p1 (zsq w j)) (i + 1))) from by simp only [zct, zhm, c_4, c_5, c_6, c_8, decide_true, decide_false, not_true_eq_false, not_false_eq_true, and_self, and_true, true_and, and_false, false_and, or_self, or_true, true_or, or_false, false_or, if_true, if_false, ↓reduceIte, Bool.false_eq_true, iff_self, iff_true, iff_false, true_iff, false_iff, Nat.add_zero]] at hl
            have hl : lv_has ls 7 [(6, .int (nI ((i + 1)))), (5, .int (nI (zsq w (i + 1)))), (4, .int (nI (zct (fun j => zhm a.2.2.2.1 p1 (zsq w j)) (i + 1)))), (3, .int (nI (2 ^ (2 ^ a.1)))), (0, .ref (q 0)), (1, .int (nI w)), (2, .int p1)] := hl
            exact ihi (trivial) ls (lv_sub hl [0, 2, 1, 3, 4, 5, 6] rfl)
        · refine lv_aload_n hx hb dX2_howManySets_36 rfl (lv_at hl 4 rfl) ?_
          refine lv_iload hx hb dX2_howManySets_37 (lv_at hl 2 rfl) ?_
          refine zz_cVi (cs := zcX cI q a b0 b1 ik ha t g) (As := [.int (nI (zsq w i))]) (rest := []) ⟨hx, hb, hml, hown, hts⟩ (c_X2_isSentAsWord l D cI cZ hs ta q a b0 b1 ik ha t g (zsq w i) hI (by have := (hq.1 i hi).2; have := zNN hI; omega)) (cwV 1 hts gX2_howManySets_X2_isSentAsWord rfl rfl rfl (by decide +kernel) ⟨Nat.le_of_ble_eq_true rfl, Nat.le_of_ble_eq_true rfl⟩) (va_recv hK hP (ci := 2) (q0 := 0) rfl rfl) hP hD hG hS hAz rfl hl.1 rfl (Nat.le_of_ble_eq_true rfl) ⟨Nat.zero_le _, Nat.zero_le _⟩ dX2_howManySets_39 (fun r_11 er_11 => ?_)
          refine lv_if_eq (tgt := 60) hx hb dX2_howManySets_42 (by decide) (fun c_12 => ?_) (fun c_12 => ?_)
          · replace c_12 := zB_f er_11 c_12
            refine lv_iload hx hb dX2_howManySets_60 (lv_at hl 2 rfl) ?_
            refine zz_pSi (As := [.int (nI (zsq w i))]) (rest := []) ⟨hx, hb, hml, hown, hts⟩ (c_X2_nextOfSize l (zsq w i) (by have := (hq.1 i hi).2; have := zNN hI; omega) ((hq.1 i hi).1)) (va_cwS 1 hts gX2_howManySets_X2_nextOfSize rfl rfl rfl (by decide +kernel) ⟨Nat.le_of_ble_eq_true rfl, Nat.le_of_ble_eq_true rfl⟩) rfl hl.1 rfl (Nat.le_of_ble_eq_true rfl) ⟨Nat.zero_le _, Nat.zero_le _⟩ dX2_howManySets_62 (fun r_13 er_13 => ?_)
            subst er_13
            refine lv_istore (lv' := [(5, .int (nI (znx (zsq w i)))), (6, .int (nI i)), (4, .int (nI (zct (fun j => zhm a.2.2.2.1 p1 (zsq w j)) i))), (3, .int (nI (2 ^ (2 ^ a.1)))), (0, .ref (q 0)), (1, .int (nI w)), (2, .int p1)]) hx hb dX2_howManySets_65 hl (by decide) rfl (fun ls hl => ?_)
            refine lv_iinc (v := (nI (i + 1))) (lv' := [(6, .int (nI (i + 1))), (5, .int (nI (znx (zsq w i)))), (4, .int (nI (zct (fun j => zhm a.2.2.2.1 p1 (zsq w j)) i))), (3, .int (nI (2 ^ (2 ^ a.1)))), (0, .ref (q 0)), (1, .int (nI w)), (2, .int p1)]) hx hb dX2_howManySets_67 hl (k := 1) rfl (zz_inc _) (by decide) rfl (fun ls hl => ?_)
            refine lv_goto (tgt := 20) hx hb dX2_howManySets_70 (by decide) ?_
            rw [show ((nI (zct (fun j => zhm a.2.2.2.1 p1 (zsq w j)) i)) : Int32) = (nI (zct (fun j => zhm a.2.2.2.1 p1 (zsq w j)) (i + 1))) from by simp only [zct, zhm, c_4, c_5, c_6, c_12, decide_true, decide_false, not_true_eq_false, not_false_eq_true, and_self, and_true, true_and, and_false, false_and, or_self, or_true, true_or, or_false, false_or, if_true, if_false, ↓reduceIte, Bool.false_eq_true, iff_self, iff_true, iff_false, true_iff, false_iff, Nat.add_zero]] at hl
            have hl : lv_has ls 7 [(6, .int (nI ((i + 1)))), (5, .int (nI (zsq w (i + 1)))), (4, .int (nI (zct (fun j => zhm a.2.2.2.1 p1 (zsq w j)) (i + 1)))), (3, .int (nI (2 ^ (2 ^ a.1)))), (0, .ref (q 0)), (1, .int (nI w)), (2, .int p1)] := hl
            exact ihi (trivial) ls (lv_sub hl [0, 2, 1, 3, 4, 5, 6] rfl)
          · replace c_12 := zB_t er_11 c_12
            refine lv_goto (tgt := 57) hx hb dX2_howManySets_45 (by decide) ?_
            refine lv_iinc (v := (nI ((zct (fun j => zhm a.2.2.2.1 p1 (zsq w j)) i) + 1))) (lv' := [(4, .int (nI ((zct (fun j => zhm a.2.2.2.1 p1 (zsq w j)) i) + 1))), (6, .int (nI i)), (5, .int (nI (zsq w i))), (3, .int (nI (2 ^ (2 ^ a.1)))), (0, .ref (q 0)), (1, .int (nI w)), (2, .int p1)]) hx hb dX2_howManySets_57 hl (k := 1) rfl (zz_inc _) (by decide) rfl (fun ls hl => ?_)
            refine lv_iload hx hb dX2_howManySets_60 (lv_at hl 2 rfl) ?_
            refine zz_pSi (As := [.int (nI (zsq w i))]) (rest := []) ⟨hx, hb, hml, hown, hts⟩ (c_X2_nextOfSize l (zsq w i) (by have := (hq.1 i hi).2; have := zNN hI; omega) ((hq.1 i hi).1)) (va_cwS 1 hts gX2_howManySets_X2_nextOfSize rfl rfl rfl (by decide +kernel) ⟨Nat.le_of_ble_eq_true rfl, Nat.le_of_ble_eq_true rfl⟩) rfl hl.1 rfl (Nat.le_of_ble_eq_true rfl) ⟨Nat.zero_le _, Nat.zero_le _⟩ dX2_howManySets_62 (fun r_14 er_14 => ?_)
            subst er_14
            refine lv_istore (lv' := [(5, .int (nI (znx (zsq w i)))), (4, .int (nI ((zct (fun j => zhm a.2.2.2.1 p1 (zsq w j)) i) + 1))), (6, .int (nI i)), (3, .int (nI (2 ^ (2 ^ a.1)))), (0, .ref (q 0)), (1, .int (nI w)), (2, .int p1)]) hx hb dX2_howManySets_65 hl (by decide) rfl (fun ls hl => ?_)
            refine lv_iinc (v := (nI (i + 1))) (lv' := [(6, .int (nI (i + 1))), (5, .int (nI (znx (zsq w i)))), (4, .int (nI ((zct (fun j => zhm a.2.2.2.1 p1 (zsq w j)) i) + 1))), (3, .int (nI (2 ^ (2 ^ a.1)))), (0, .ref (q 0)), (1, .int (nI w)), (2, .int p1)]) hx hb dX2_howManySets_67 hl (k := 2) rfl (zz_inc _) (by decide) rfl (fun ls hl => ?_)
            refine lv_goto (tgt := 20) hx hb dX2_howManySets_70 (by decide) ?_
            rw [show ((nI ((zct (fun j => zhm a.2.2.2.1 p1 (zsq w j)) i) + 1)) : Int32) = (nI (zct (fun j => zhm a.2.2.2.1 p1 (zsq w j)) (i + 1))) from by simp only [zct, zhm, c_4, c_5, c_6, c_12, decide_true, decide_false, not_true_eq_false, not_false_eq_true, and_self, and_true, true_and, and_false, false_and, or_self, or_true, true_or, or_false, false_or, if_true, if_false, ↓reduceIte, Bool.false_eq_true, iff_self, iff_true, iff_false, true_iff, false_iff, Nat.add_zero]] at hl
            have hl : lv_has ls 7 [(6, .int (nI ((i + 1)))), (5, .int (nI (zsq w (i + 1)))), (4, .int (nI (zct (fun j => zhm a.2.2.2.1 p1 (zsq w j)) (i + 1)))), (3, .int (nI (2 ^ (2 ^ a.1)))), (0, .ref (q 0)), (1, .int (nI w)), (2, .int p1)] := hl
            exact ihi (trivial) ls (lv_sub hl [0, 2, 1, 3, 4, 5, 6] rfl)
set_option maxHeartbeats 4000000 in
set_option maxRecDepth 100000 in
theorem c_X2_leastSetThatOpens (l : Launch) (D : va_G) (cI cZ : ClassId) (hs ta : Nat) (q : Nat → Nat) (a : ZA) (b0 : ZA) (b1 : ZA) (ik : Nat) (ha : Nat → Int32) (t : ZR) (g : ZR) (w : Nat) (K : Nat) (m0 : Nat) (hI : zInv a) (hq : zSeq w (2 ^ a.1) K) (hw : w ≤ 16) (hm : m0 < K) (hm1 : ¬ zopn (zsq w m0) &&& (a.2.2.2.1 ^^^ 65535) = 0) (hm2 : ∀ j, j < m0 → zopn (zsq w j) &&& (a.2.2.2.1 ^^^ 65535) = 0) : Met l yX2_leastSetThatOpens wsX2_leastSetThatOpens ({ frames := 2, cells := 0, slots := 0, locals := 44 }) (va_Pc [.ref (q 0), .int (nI w)] (zPre D (zTy cI cZ) hs ta (zcX cI q a b0 b1 ik ha t g))) (vp_Si (fun r : Int32 => r = nI (zsq w m0))) 0 0 (fun _ => False) := by
  refine Met.ofW (cc := cX2_leastSetThatOpens) (maxL := 5) (ret := (some .int)) (by decide) rfl ?_
  intro p e s m args below meth c s₁ B hml hv0
  obtain ⟨rfl, hP, hD, hG⟩ := hv0
  have hx := B.exec
  have hb := B.bytes
  have hr := B.returns
  have hts := atoms_spec (ws := wsX2_leastSetThatOpens) B.pre
  have hown : s.vm.findClass RX2 = some m.cls := findClass_of_methodNamed B.named
  have hlocks := B.notSynchronized
  have hK := hG.1
  have hS : va_S (zA hs) s.heap s.heap [] := va_S.rf
  have hAz : ∀ q, zA hs q → hs ≤ q := fun _ h => h
  have hl := lv_entry ([.ref (q 0), .int (nI w)]) (n := 5) (Nat.le_of_ble_eq_true rfl)
  rw [lg_entry_eq]
  generalize (lg_sl ([.ref (q 0), .int (nI w)]) ++ List.replicate (5 - (lg_sl ([.ref (q 0), .int (nI w)])).length) Slot.unset).toArray = ls at hl ⊢
  have hl : lv_has ls 5 [(0, .ref (q 0)), (1, .int (nI w))] := hl
  refine lv_iconst (v := 1) hx hb dX2_leastSetThatOpens_0 (by decide) ?_
  refine lv_aload_n hx hb dX2_leastSetThatOpens_1 rfl (lv_at hl 0 rfl) ?_
  refine zz_cVi (cs := zcX cI q a b0 b1 ik ha t g) (As := []) (rest := [.int 1]) ⟨hx, hb, hml, hown, hts⟩ (c_X2_places l D cI cZ hs ta q a b0 b1 ik ha t g hI.1.2) (cwV 0 hts gX2_leastSetThatOpens_X2_places rfl rfl rfl (by decide +kernel) ⟨Nat.le_of_ble_eq_true rfl, Nat.le_of_ble_eq_true rfl⟩) (va_recv hK hP (ci := 2) (q0 := 0) rfl rfl) hP hD hG hS hAz rfl hl.1 rfl (Nat.le_of_ble_eq_true rfl) ⟨Nat.zero_le _, Nat.zero_le _⟩ dX2_leastSetThatOpens_2 (fun r_1 er_1 => ?_)
  subst er_1
  refine lv_ishl hx hb dX2_leastSetThatOpens_5 ?_
  refine zz_topi (nI (2 ^ (2 ^ a.1))) (zz_shl1n rfl (by have := zNp hI; omega)) ?_
  refine lv_istore_n (lv' := [(2, .int (nI (2 ^ (2 ^ a.1)))), (0, .ref (q 0)), (1, .int (nI w))]) hx hb dX2_leastSetThatOpens_6 rfl hl (by decide) rfl (fun ls hl => ?_)
  refine lv_iconst (v := 1) hx hb dX2_leastSetThatOpens_7 (by decide) ?_
  refine lv_iload_n hx hb dX2_leastSetThatOpens_8 rfl (lv_at hl 2 rfl) ?_
  refine lv_ishl hx hb dX2_leastSetThatOpens_9 ?_
  refine zz_topi (nI (2 ^ w)) (zz_shl1n rfl (by omega)) ?_
  refine lv_iconst (v := 1) hx hb dX2_leastSetThatOpens_10 (by decide) ?_
  refine lv_isub hx hb dX2_leastSetThatOpens_11 ?_
  refine zz_topi (nI ((2 ^ w) - 1)) (zz_subn rfl (show (1 : Int32) = nI 1 from rfl) (Nat.one_le_two_pow)) ?_
  refine lv_istore_n (lv' := [(3, .int (nI ((2 ^ w) - 1))), (2, .int (nI (2 ^ (2 ^ a.1)))), (0, .ref (q 0)), (1, .int (nI w))]) hx hb dX2_leastSetThatOpens_12 rfl hl (by decide) rfl (fun ls hl => ?_)
  refine lv_iconst (v := 0) hx hb dX2_leastSetThatOpens_13 (by decide) ?_
  refine lv_istore (lv' := [(4, .int 0), (3, .int (nI ((2 ^ w) - 1))), (2, .int (nI (2 ^ (2 ^ a.1)))), (0, .ref (q 0)), (1, .int (nI w))]) hx hb dX2_leastSetThatOpens_14 hl (by decide) rfl (fun ls hl => ?_)
  have hl : lv_has ls 5 [(4, .int (nI 0)), (3, .int (nI (zsq w 0))), (2, .int (nI (2 ^ (2 ^ a.1)))), (0, .ref (q 0)), (1, .int (nI w))] := hl
  refine zz_forJ (nL := 5) (m0) (fun i => [(4, .int (nI i)), (3, .int (nI (zsq w i))), (2, .int (nI (2 ^ (2 ^ a.1)))), (0, .ref (q 0)), (1, .int (nI w))]) (J := fun _ => True) ?_ ?_ (trivial) (lv_sub hl [0, 1, 2, 3, 4] rfl)
  · intro hJ ls hl
    refine lv_iload hx hb dX2_leastSetThatOpens_16 (lv_at hl 0 rfl) ?_
    refine lv_iload_n hx hb dX2_leastSetThatOpens_18 rfl (lv_at hl 2 rfl) ?_
    refine lv_icmp_ge (tgt := 48) hx hb dX2_leastSetThatOpens_19 (by decide) (fun c_2 => ?_) (fun c_2 => ?_)
    · replace c_2 := Int32.not_lt.mpr c_2
      exact absurd (nI_lt (by have := hq.2.2.2; omega) (by have := zNN hI; omega)) c_2
    · replace c_2 := Int32.not_le.mp c_2
      refine lv_iload_n hx hb dX2_leastSetThatOpens_22 rfl (lv_at hl 1 rfl) ?_
      refine lv_iload_n hx hb dX2_leastSetThatOpens_23 rfl (lv_at hl 2 rfl) ?_
      refine lv_icmp_ge (tgt := 48) hx hb dX2_leastSetThatOpens_24 (by decide) (fun c_3 => ?_) (fun c_3 => ?_)
      · replace c_3 := Int32.not_lt.mpr c_3
        exact absurd (nI_lt (hq.1 m0 hm).2 (by have := zNN hI; omega)) c_3
      · replace c_3 := Int32.not_le.mp c_3
        refine lv_aload_n hx hb dX2_leastSetThatOpens_27 rfl (lv_at hl 3 rfl) ?_
        refine lv_iload_n hx hb dX2_leastSetThatOpens_28 rfl (lv_at hl 1 rfl) ?_
        refine zz_cVi (cs := zcX cI q a b0 b1 ik ha t g) (As := [.int (nI (zsq w m0))]) (rest := []) ⟨hx, hb, hml, hown, hts⟩ (c_X2_openFor l D cI cZ hs ta q a b0 b1 ik ha t g (zsq w m0) hI (by have := (hq.1 m0 (by omega)).2; have := zNN hI; omega)) (cwV 1 hts gX2_leastSetThatOpens_X2_openFor rfl rfl rfl (by decide +kernel) ⟨Nat.le_of_ble_eq_true rfl, Nat.le_of_ble_eq_true rfl⟩) (va_recv hK hP (ci := 2) (q0 := 0) rfl rfl) hP hD hG hS hAz rfl hl.1 rfl (Nat.le_of_ble_eq_true rfl) ⟨Nat.zero_le _, Nat.zero_le _⟩ dX2_leastSetThatOpens_29 (fun r_4 er_4 => ?_)
        subst er_4
        refine lv_if_eq (tgt := 37) hx hb dX2_leastSetThatOpens_32 (by decide) (fun c_5 => ?_) (fun c_5 => ?_)
        · exact absurd (zI_0 (Nat.lt_of_le_of_lt Nat.and_le_left (by have := zopn_lt (show zsq w m0 < 65536 by have := (hq.1 m0 hm).2; have := zNN hI; omega); omega)) c_5) hm1
        · refine lv_iload_n hx hb dX2_leastSetThatOpens_35 rfl (lv_at hl 1 rfl) ?_
          exact W.iret (v := (nI (zsq w m0))) hx hb hr (fun t9 ht hW => ⟨_, rfl, (by rfl), ht⟩) (fun _ h => absurd h List.not_mem_nil) dX2_leastSetThatOpens_36
  · intro i hi hJ ihi ls hl
    refine lv_iload hx hb dX2_leastSetThatOpens_16 (lv_at hl 0 rfl) ?_
    refine lv_iload_n hx hb dX2_leastSetThatOpens_18 rfl (lv_at hl 2 rfl) ?_
    refine lv_icmp_ge (tgt := 48) hx hb dX2_leastSetThatOpens_19 (by decide) (fun c_6 => ?_) (fun c_6 => ?_)
    · replace c_6 := Int32.not_lt.mpr c_6
      exact absurd (nI_lt (by have := hq.2.2.2; omega) (by have := zNN hI; omega)) c_6
    · replace c_6 := Int32.not_le.mp c_6
      refine lv_iload_n hx hb dX2_leastSetThatOpens_22 rfl (lv_at hl 1 rfl) ?_
      refine lv_iload_n hx hb dX2_leastSetThatOpens_23 rfl (lv_at hl 2 rfl) ?_
      refine lv_icmp_ge (tgt := 48) hx hb dX2_leastSetThatOpens_24 (by decide) (fun c_7 => ?_) (fun c_7 => ?_)
      · replace c_7 := Int32.not_lt.mpr c_7
        exact absurd (nI_lt (hq.1 i (by omega)).2 (by have := zNN hI; omega)) c_7
      · replace c_7 := Int32.not_le.mp c_7
        refine lv_aload_n hx hb dX2_leastSetThatOpens_27 rfl (lv_at hl 3 rfl) ?_
        refine lv_iload_n hx hb dX2_leastSetThatOpens_28 rfl (lv_at hl 1 rfl) ?_
        refine zz_cVi (cs := zcX cI q a b0 b1 ik ha t g) (As := [.int (nI (zsq w i))]) (rest := []) ⟨hx, hb, hml, hown, hts⟩ (c_X2_openFor l D cI cZ hs ta q a b0 b1 ik ha t g (zsq w i) hI (by have := (hq.1 i (by omega)).2; have := zNN hI; omega)) (cwV 1 hts gX2_leastSetThatOpens_X2_openFor rfl rfl rfl (by decide +kernel) ⟨Nat.le_of_ble_eq_true rfl, Nat.le_of_ble_eq_true rfl⟩) (va_recv hK hP (ci := 2) (q0 := 0) rfl rfl) hP hD hG hS hAz rfl hl.1 rfl (Nat.le_of_ble_eq_true rfl) ⟨Nat.zero_le _, Nat.zero_le _⟩ dX2_leastSetThatOpens_29 (fun r_8 er_8 => ?_)
        subst er_8
        refine lv_if_eq (tgt := 37) hx hb dX2_leastSetThatOpens_32 (by decide) (fun c_9 => ?_) (fun c_9 => ?_)
        · refine lv_iload_n hx hb dX2_leastSetThatOpens_37 rfl (lv_at hl 1 rfl) ?_
          refine zz_pSi (As := [.int (nI (zsq w i))]) (rest := []) ⟨hx, hb, hml, hown, hts⟩ (c_X2_nextOfSize l (zsq w i) (by have := (hq.1 i (by omega)).2; have := zNN hI; omega) ((hq.1 i (by omega)).1)) (va_cwS 1 hts gX2_leastSetThatOpens_X2_nextOfSize rfl rfl rfl (by decide +kernel) ⟨Nat.le_of_ble_eq_true rfl, Nat.le_of_ble_eq_true rfl⟩) rfl hl.1 rfl (Nat.le_of_ble_eq_true rfl) ⟨Nat.zero_le _, Nat.zero_le _⟩ dX2_leastSetThatOpens_38 (fun r_10 er_10 => ?_)
          subst er_10
          refine lv_istore_n (lv' := [(3, .int (nI (znx (zsq w i)))), (4, .int (nI i)), (2, .int (nI (2 ^ (2 ^ a.1)))), (0, .ref (q 0)), (1, .int (nI w))]) hx hb dX2_leastSetThatOpens_41 rfl hl (by decide) rfl (fun ls hl => ?_)
          refine lv_iinc (v := (nI (i + 1))) (lv' := [(4, .int (nI (i + 1))), (3, .int (nI (znx (zsq w i)))), (2, .int (nI (2 ^ (2 ^ a.1)))), (0, .ref (q 0)), (1, .int (nI w))]) hx hb dX2_leastSetThatOpens_42 hl (k := 1) rfl (zz_inc _) (by decide) rfl (fun ls hl => ?_)
          refine lv_goto (tgt := 16) hx hb dX2_leastSetThatOpens_45 (by decide) ?_
          have hl : lv_has ls 5 [(4, .int (nI ((i + 1)))), (3, .int (nI (zsq w (i + 1)))), (2, .int (nI (2 ^ (2 ^ a.1)))), (0, .ref (q 0)), (1, .int (nI w))] := hl
          exact ihi (trivial) ls (lv_sub hl [0, 1, 2, 3, 4] rfl)
        · exact absurd (hm2 i hi) (zI_n0 c_9)
