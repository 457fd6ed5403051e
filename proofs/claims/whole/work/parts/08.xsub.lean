set_option maxHeartbeats 4000000 in
set_option maxRecDepth 100000 in
theorem c_X1_clear (l : Launch) (D : va_G) (cI cZ : ClassId) (hs ta : Nat) (sz : Nat) (q0 : Nat) (q1 : Nat) (q2 : Nat) (t : ZR) : Met l yX1_clear wsX1_clear ({ frames := 0, cells := 0, slots := 0, locals := 0 }) (va_Pc [.ref q0] (fun U => U.heap.size = sz ∧ zPre D (zTy cI cZ) hs ta (zcR cI q0 q1 q2 t) U)) (va_Qv (fun (u : ZR) => u = (t.1, t.2.1, 0)) (fun (u : ZR) t9 => va_P D vwCl (zcR cI q0 q1 q2 u) t9.heap) (va_A (zcR cI q0 q1 q2 t) sz)) 0 0 (va_A (zcR cI q0 q1 q2 t) sz) := by
  refine Met.ofW (cc := cX1_clear) (maxL := 1) (ret := none) (by decide) rfl ?_
  intro p e s m args below meth c s₁ B hml hv0
  obtain ⟨rfl, hsz, hP, hD0, hG⟩ := hv0
  have hx := B.exec
  have hb := B.bytes
  have hr := B.returns
  have hts := atoms_spec (ws := wsX1_clear) B.pre
  have hown : s.vm.findClass RX1 = some m.cls := findClass_of_methodNamed B.named
  have hlocks := B.notSynchronized
  subst hsz
  have hD := hD0.self (sz := s.heap.size)
  have hAz0 : ∀ y9, va_A (zcR cI q0 q1 q2 t) s.heap.size y9 → hs ≤ y9 := zA_of hD0 (fun y9 h => Nat.le_trans hG.2.2.2.2 h) (va_S.rf (A := zA hs) (H0 := s.heap))
  generalize hAe : va_A (zcR cI q0 q1 q2 t) s.heap.size = A at hD hAz0 ⊢
  have hA : ∀ y9 : Nat, s.heap.size ≤ y9 → A y9 := fun y9 h => by rw [← hAe]; exact Or.inr h
  have hS : va_S A s.heap s.heap [] := va_S.rf
  have hAz : ∀ y9, A y9 → hs ≤ y9 := hAz0
  have hK := hG.1
  have hl := lv_entry ([.ref q0]) (n := 1) (Nat.le_of_ble_eq_true rfl)
  rw [lg_entry_eq]
  generalize (lg_sl ([.ref q0]) ++ List.replicate (1 - (lg_sl ([.ref q0])).length) Slot.unset).toArray = ls at hl ⊢
  have hl : lv_has ls 1 [(0, .ref q0)] := hl
  have hf18 := hts (.fieldLink RX1 18 "FrozenBits$FinedRows" "size" "I") (List.mem_of_getElem? (i := 1) rfl)
  have hiX1 : ∀ w ∈ u_ws RX1 TX1 3, w ∈ wsX1_clear := fun w h => List.mem_cons_of_mem _ (List.mem_append_right _ h)
  refine lv_aload_n hx hb dX1_clear_0 rfl (lv_at hl 0 rfl) ?_
  refine lv_iconst (v := 0) hx hb dX1_clear_1 (by decide) ?_
  refine zz_topi (nI (0)) (show (0 : Int32) = nI 0 from rfl) ?_
  refine va_put (ci := 1) (v := .int (nI (0))) (ty := .int) (C := RX1) (T := TX1) (N := 3) hx hb hts hiX1 tyX1 tyX1_ok nmX1 hown hK hP hD hS 0 rfl rfl 2 (by decide) hf18 (fun _ h9 => h9) rfl (by decide +kernel) rfl rfl (Nat.le_of_ble_eq_true rfl) dX1_clear_2 (fun H locs hP hD hS => ?_)
  have hP : va_P D vwCl (zcR cI q0 q1 q2 (t.1, t.2.1, 0)) H := hP
  have hD : va_D A (zcR cI q0 q1 q2 (t.1, t.2.1, 0)) := hD
  exact W.vret hx hb hr (fun t9 ht hW => ⟨⟨(t.1, t.2.1, 0), rfl, (rfl), zP_ht ht hP⟩, hS.F ht⟩) hS.2.2 dX1_clear_5
set_option maxHeartbeats 4000000 in
set_option maxRecDepth 100000 in
theorem c_X1_hasAt (l : Launch) (D : va_G) (cI cZ : ClassId) (hs ta : Nat) (q0 : Nat) (q1 : Nat) (q2 : Nat) (t : ZR) (p0 : Int32) : Met l yX1_hasAt wsX1_hasAt ({ frames := 0, cells := 0, slots := 0, locals := 0 }) (va_Pc [.ref q0, .int p0] (zPre D (zTy cI cZ) hs ta (zcR cI q0 q1 q2 t))) (vp_Si (fun r : Int32 => r = zB (¬ p0 < 0 ∧ p0 < nI t.2.2))) 0 0 (fun _ => False) := by
  refine Met.ofW (cc := cX1_hasAt) (maxL := 2) (ret := (some .boolean)) (by decide) rfl ?_
  intro p e s m args below meth c s₁ B hml hv0
  obtain ⟨rfl, hP, hD, hG⟩ := hv0
  have hx := B.exec
  have hb := B.bytes
  have hr := B.returns
  have hts := atoms_spec (ws := wsX1_hasAt) B.pre
  have hown : s.vm.findClass RX1 = some m.cls := findClass_of_methodNamed B.named
  have hlocks := B.notSynchronized
  have hK := hG.1
  have hS : va_S (zA hs) s.heap s.heap [] := va_S.rf
  have hAz : ∀ q, zA hs q → hs ≤ q := fun _ h => h
  have hl := lv_entry ([.ref q0, .int p0]) (n := 2) (Nat.le_of_ble_eq_true rfl)
  rw [lg_entry_eq]
  generalize (lg_sl ([.ref q0, .int p0]) ++ List.replicate (2 - (lg_sl ([.ref q0, .int p0])).length) Slot.unset).toArray = ls at hl ⊢
  have hl : lv_has ls 2 [(0, .ref q0), (1, .int p0)] := hl
  have hf18 := hts (.fieldLink RX1 18 "FrozenBits$FinedRows" "size" "I") (List.mem_of_getElem? (i := 1) rfl)
  have hiX1 : ∀ w ∈ u_ws RX1 TX1 3, w ∈ wsX1_hasAt := fun w h => List.mem_cons_of_mem _ (List.mem_append_right _ h)
  refine lv_iload_n hx hb dX1_hasAt_0 rfl (lv_at hl 1 rfl) ?_
  refine lv_if_lt (tgt := 16) hx hb dX1_hasAt_1 (by decide) (fun c_1 => ?_) (fun c_1 => ?_)
  · refine lv_iconst (v := 0) hx hb dX1_hasAt_16 (by decide) ?_
    exact W.zret (v := 0) (ty := .boolean) hx hb hr (rfl) (fun t9 ht hW => ⟨_, rfl, (by simp only [c_1, zB, not_true_eq_false, not_false_eq_true, and_self, and_true, true_and, and_false, false_and, or_self, or_true, true_or, or_false, false_or, if_true, if_false, ↓reduceIte, Bool.false_eq_true, iff_self, iff_true, iff_false, true_iff, false_iff, Nat.add_zero]), ht⟩) (fun _ h => absurd h List.not_mem_nil) dX1_hasAt_17
  · refine lv_iload_n hx hb dX1_hasAt_4 rfl (lv_at hl 1 rfl) ?_
    refine lv_aload_n hx hb dX1_hasAt_5 rfl (lv_at hl 0 rfl) ?_
    refine va_get (ci := 1) (C := RX1) (T := TX1) (N := 3) hx hb hts hiX1 hown hK hP 0 rfl rfl 2 (by decide) hf18 (fun _ h9 => h9) rfl dX1_hasAt_6 ?_
    refine lv_icmp_ge (tgt := 16) hx hb dX1_hasAt_9 (by decide) (fun c_2 => ?_) (fun c_2 => ?_)
    · replace c_2 := Int32.not_lt.mpr c_2
      refine lv_iconst (v := 0) hx hb dX1_hasAt_16 (by decide) ?_
      exact W.zret (v := 0) (ty := .boolean) hx hb hr (rfl) (fun t9 ht hW => ⟨_, rfl, (by simp only [c_1, c_2, zB, not_true_eq_false, not_false_eq_true, and_self, and_true, true_and, and_false, false_and, or_self, or_true, true_or, or_false, false_or, if_true, if_false, ↓reduceIte, Bool.false_eq_true, iff_self, iff_true, iff_false, true_iff, false_iff, Nat.add_zero]), ht⟩) (fun _ h => absurd h List.not_mem_nil) dX1_hasAt_17
    · replace c_2 := Int32.not_le.mp c_2
      refine lv_iconst (v := 1) hx hb dX1_hasAt_12 (by decide) ?_
      refine lv_goto (tgt := 17) hx hb dX1_hasAt_13 (by decide) ?_
      exact W.zret (v := 1) (ty := .boolean) hx hb hr (rfl) (fun t9 ht hW => ⟨_, rfl, (by simp only [c_1, c_2, zB, not_true_eq_false, not_false_eq_true, and_self, and_true, true_and, and_false, false_and, or_self, or_true, true_or, or_false, false_or, if_true, if_false, ↓reduceIte, Bool.false_eq_true, iff_self, iff_true, iff_false, true_iff, false_iff, Nat.add_zero]), ht⟩) (fun _ h => absurd h List.not_mem_nil) dX1_hasAt_17
set_option maxHeartbeats 4000000 in
set_option maxRecDepth 100000 in
theorem c_X1_isAhead (l : Launch) (D : va_G) (cI cZ : ClassId) (hs ta : Nat) (q0 : Nat) (q1 : Nat) (q2 : Nat) (t : ZR) (p0 : Int32) (p1 : Int32) (k : Nat) (hk : k < 16) : Met l yX1_isAhead wsX1_isAhead ({ frames := 0, cells := 0, slots := 0, locals := 0 }) (va_Pc [.ref q0, .int p0, .int p1, .int (nI k)] (zPre D (zTy cI cZ) hs ta (zcR cI q0 q1 q2 t))) (vp_Si (fun r : Int32 => r = zB (p1 < t.2.1 k ∨ (p1 = t.2.1 k ∧ p0 < t.1 k)))) 0 0 (fun _ => False) := by
  refine Met.ofW (cc := cX1_isAhead) (maxL := 4) (ret := (some .boolean)) (by decide) rfl ?_
  intro p e s m args below meth c s₁ B hml hv0
  obtain ⟨rfl, hP, hD, hG⟩ := hv0
  have hx := B.exec
  have hb := B.bytes
  have hr := B.returns
  have hts := atoms_spec (ws := wsX1_isAhead) B.pre
  have hown : s.vm.findClass RX1 = some m.cls := findClass_of_methodNamed B.named
  have hlocks := B.notSynchronized
  have hK := hG.1
  have hS : va_S (zA hs) s.heap s.heap [] := va_S.rf
  have hAz : ∀ q, zA hs q → hs ≤ q := fun _ h => h
  have hl := lv_entry ([.ref q0, .int p0, .int p1, .int (nI k)]) (n := 4) (Nat.le_of_ble_eq_true rfl)
  rw [lg_entry_eq]
  generalize (lg_sl ([.ref q0, .int p0, .int p1, .int (nI k)]) ++ List.replicate (4 - (lg_sl ([.ref q0, .int p0, .int p1, .int (nI k)])).length) Slot.unset).toArray = ls at hl ⊢
  have hl : lv_has ls 4 [(0, .ref q0), (1, .int p0), (2, .int p1), (3, .int (nI k))] := hl
  have hf15 := hts (.fieldLink RX1 15 "FrozenBits$FinedRows" "fines" "[I") (List.mem_of_getElem? (i := 1) rfl)
  have hiX1 : ∀ w ∈ u_ws RX1 TX1 3, w ∈ wsX1_isAhead := fun w h => List.mem_cons_of_mem _ (List.mem_append_right _ h)
  have hf11 := hts (.fieldLink RX1 11 "FrozenBits$FinedRows" "rows" "[I") (List.mem_of_getElem? (i := 2) rfl)
  refine lv_iload_n hx hb dX1_isAhead_0 rfl (lv_at hl 2 rfl) ?_
  refine lv_aload_n hx hb dX1_isAhead_1 rfl (lv_at hl 0 rfl) ?_
  refine va_get (ci := 1) (C := RX1) (T := TX1) (N := 3) hx hb hts hiX1 hown hK hP 0 rfl rfl 1 (by decide) hf15 (fun _ h9 => h9) rfl dX1_isAhead_2 ?_
  refine lv_iload_n hx hb dX1_isAhead_5 rfl (lv_at hl 3 rfl) ?_
  refine zz_iald hx hb hK hP 2 0 rfl rfl (i := k) rfl (by omega) (by decide) dX1_isAhead_6 ?_
  refine lv_icmp_lt (tgt := 30) hx hb dX1_isAhead_7 (by decide) (fun c_1 => ?_) (fun c_1 => ?_)
  · refine lv_iconst (v := 1) hx hb dX1_isAhead_30 (by decide) ?_
    refine lv_goto (tgt := 35) hx hb dX1_isAhead_31 (by decide) ?_
    exact W.zret (v := 1) (ty := .boolean) hx hb hr (rfl) (fun t9 ht hW => ⟨_, rfl, (by simp only [zB]; first | rw [if_pos (by first | exact Or.inl c_1 | exact Or.inr ⟨rfl, rfl⟩)] | rw [if_neg (by rintro (h | ⟨h1, h2⟩) <;> first | exact c_1 h | exact c_1 h1 | exact c_1 h2)]), ht⟩) (fun _ h => absurd h List.not_mem_nil) dX1_isAhead_35
  · refine lv_iload_n hx hb dX1_isAhead_10 rfl (lv_at hl 2 rfl) ?_
    refine lv_aload_n hx hb dX1_isAhead_11 rfl (lv_at hl 0 rfl) ?_
    refine va_get (ci := 1) (C := RX1) (T := TX1) (N := 3) hx hb hts hiX1 hown hK hP 0 rfl rfl 1 (by decide) hf15 (fun _ h9 => h9) rfl dX1_isAhead_12 ?_
    refine lv_iload_n hx hb dX1_isAhead_15 rfl (lv_at hl 3 rfl) ?_
    refine zz_iald hx hb hK hP 2 0 rfl rfl (i := k) rfl (by omega) (by decide) dX1_isAhead_16 ?_
    refine lv_icmp_ne (tgt := 34) hx hb dX1_isAhead_17 (by decide) (fun c_2 => ?_) (fun c_2 => ?_)
    · refine lv_iconst (v := 0) hx hb dX1_isAhead_34 (by decide) ?_
      exact W.zret (v := 0) (ty := .boolean) hx hb hr (rfl) (fun t9 ht hW => ⟨_, rfl, (by simp only [zB]; first | rw [if_pos (by first | exact Or.inl c_1 | exact Or.inr ⟨c_2, rfl⟩)] | rw [if_neg (by rintro (h | ⟨h1, h2⟩) <;> first | exact c_1 h | exact c_2 h1 | exact c_1 h2)]), ht⟩) (fun _ h => absurd h List.not_mem_nil) dX1_isAhead_35
    · refine lv_iload_n hx hb dX1_isAhead_20 rfl (lv_at hl 1 rfl) ?_
      refine lv_aload_n hx hb dX1_isAhead_21 rfl (lv_at hl 0 rfl) ?_
      refine va_get (ci := 1) (C := RX1) (T := TX1) (N := 3) hx hb hts hiX1 hown hK hP 0 rfl rfl 0 (by decide) hf11 (fun _ h9 => h9) rfl dX1_isAhead_22 ?_
      refine lv_iload_n hx hb dX1_isAhead_25 rfl (lv_at hl 3 rfl) ?_
      refine zz_iald hx hb hK hP 1 0 rfl rfl (i := k) rfl (by omega) (by decide) dX1_isAhead_26 ?_
      refine lv_icmp_ge (tgt := 34) hx hb dX1_isAhead_27 (by decide) (fun c_3 => ?_) (fun c_3 => ?_)
      · replace c_3 := Int32.not_lt.mpr c_3
        refine lv_iconst (v := 0) hx hb dX1_isAhead_34 (by decide) ?_
        exact W.zret (v := 0) (ty := .boolean) hx hb hr (rfl) (fun t9 ht hW => ⟨_, rfl, (by simp only [zB]; first | rw [if_pos (by first | exact Or.inl c_1 | exact Or.inr ⟨c_2, c_3⟩)] | rw [if_neg (by rintro (h | ⟨h1, h2⟩) <;> first | exact c_1 h | exact c_2 h1 | exact c_3 h2)]), ht⟩) (fun _ h => absurd h List.not_mem_nil) dX1_isAhead_35
      · replace c_3 := Int32.not_le.mp c_3
        refine lv_iconst (v := 1) hx hb dX1_isAhead_30 (by decide) ?_
        refine lv_goto (tgt := 35) hx hb dX1_isAhead_31 (by decide) ?_
        exact W.zret (v := 1) (ty := .boolean) hx hb hr (rfl) (fun t9 ht hW => ⟨_, rfl, (by simp only [zB]; first | rw [if_pos (by first | exact Or.inl c_1 | exact Or.inr ⟨c_2, c_3⟩)] | rw [if_neg (by rintro (h | ⟨h1, h2⟩) <;> first | exact c_1 h | exact c_2 h1 | exact c_3 h2)]), ht⟩) (fun _ h => absurd h List.not_mem_nil) dX1_isAhead_35
set_option maxHeartbeats 4000000 in
set_option maxRecDepth 100000 in
theorem c_X1_add (l : Launch) (D : va_G) (cI cZ : ClassId) (hs ta : Nat) (sz : Nat) (q0 : Nat) (q1 : Nat) (q2 : Nat) (t : ZR) (p0 : Int32) (p1 : Int32) (pz : Nat) (hn : t.2.2 < 16) (hp : pz ≤ t.2.2) (hp1 : ∀ j, pz ≤ j → j < t.2.2 → (p1 < t.2.1 j ∨ (p1 = t.2.1 j ∧ p0 < t.1 j))) (hp2 : pz = 0 ∨ ¬ (p1 < t.2.1 (pz - 1) ∨ (p1 = t.2.1 (pz - 1) ∧ p0 < t.1 (pz - 1)))) : Met l yX1_add wsX1_add ({ frames := 1, cells := 0, slots := 0, locals := 23 }) (va_Pc [.ref q0, .int p0, .int p1] (fun U => U.heap.size = sz ∧ zPre D (zTy cI cZ) hs ta (zcR cI q0 q1 q2 t) U)) (va_Qv (fun (u : ZR) => u = (zin t.1 t.2.2 pz p0, zin t.2.1 t.2.2 pz p1, t.2.2 + 1)) (fun (u : ZR) t9 => va_P D vwCl (zcR cI q0 q1 q2 u) t9.heap) (va_A (zcR cI q0 q1 q2 t) sz)) 0 0 (va_A (zcR cI q0 q1 q2 t) sz) := by
  refine Met.ofW (cc := cX1_add) (maxL := 4) (ret := none) (by decide) rfl ?_
  intro p e s m args below meth c s₁ B hml hv0
  obtain ⟨rfl, hsz, hP, hD0, hG⟩ := hv0
  have hx := B.exec
  have hb := B.bytes
  have hr := B.returns
  have hts := atoms_spec (ws := wsX1_add) B.pre
  have hown : s.vm.findClass RX1 = some m.cls := findClass_of_methodNamed B.named
  have hlocks := B.notSynchronized
  subst hsz
  have hD := hD0.self (sz := s.heap.size)
  have hAz0 : ∀ y9, va_A (zcR cI q0 q1 q2 t) s.heap.size y9 → hs ≤ y9 := zA_of hD0 (fun y9 h => Nat.le_trans hG.2.2.2.2 h) (va_S.rf (A := zA hs) (H0 := s.heap))
  generalize hAe : va_A (zcR cI q0 q1 q2 t) s.heap.size = A at hD hAz0 ⊢
  have hA : ∀ y9 : Nat, s.heap.size ≤ y9 → A y9 := fun y9 h => by rw [← hAe]; exact Or.inr h
  have hS : va_S A s.heap s.heap [] := va_S.rf
  have hAz : ∀ y9, A y9 → hs ≤ y9 := hAz0
  have hK := hG.1
  have hl := lv_entry ([.ref q0, .int p0, .int p1]) (n := 4) (Nat.le_of_ble_eq_true rfl)
  rw [lg_entry_eq]
  generalize (lg_sl ([.ref q0, .int p0, .int p1]) ++ List.replicate (4 - (lg_sl ([.ref q0, .int p0, .int p1])).length) Slot.unset).toArray = ls at hl ⊢
  have hl : lv_has ls 4 [(0, .ref q0), (1, .int p0), (2, .int p1)] := hl
  have hf18 := hts (.fieldLink RX1 18 "FrozenBits$FinedRows" "size" "I") (List.mem_of_getElem? (i := 1) rfl)
  have hiX1 : ∀ w ∈ u_ws RX1 TX1 3, w ∈ wsX1_add := fun w h => List.mem_cons_of_mem _ (List.mem_append_right _ h)
  have hf11 := hts (.fieldLink RX1 11 "FrozenBits$FinedRows" "rows" "[I") (List.mem_of_getElem? (i := 2) rfl)
  have hf15 := hts (.fieldLink RX1 15 "FrozenBits$FinedRows" "fines" "[I") (List.mem_of_getElem? (i := 3) rfl)
  refine lv_aload_n hx hb dX1_add_0 rfl (lv_at hl 0 rfl) ?_
  refine va_get (ci := 1) (C := RX1) (T := TX1) (N := 3) hx hb hts hiX1 hown hK hP 0 rfl rfl 2 (by decide) hf18 (fun _ h9 => h9) rfl dX1_add_1 ?_
  refine lv_bipush (v := 16) hx hb dX1_add_4 (by decide) ?_
  refine lv_icmp_lt (tgt := 10) hx hb dX1_add_6 (by decide) (fun c_1 => ?_) (fun c_1 => ?_)
  · refine lv_aload_n hx hb dX1_add_10 rfl (lv_at hl 0 rfl) ?_
    refine va_get (ci := 1) (C := RX1) (T := TX1) (N := 3) hx hb hts hiX1 hown hK hP 0 rfl rfl 2 (by decide) hf18 (fun _ h9 => h9) rfl dX1_add_11 ?_
    refine lv_istore_n (lv' := [(3, .int (nI (t.2.2))), (0, .ref q0), (1, .int p0), (2, .int p1)]) hx hb dX1_add_14 rfl hl (by decide) rfl (fun ls hl => ?_)
    have hl : lv_has ls 4 [(3, .int (nI (t.2.2 - 0))), (0, .ref q0), (1, .int p0), (2, .int p1)] := hl
    refine zz_forHJ (P := fun H locs g => W p l e _ s m _ below meth c H locs _ _ _ g) (nL := 4) (t.2.2 - pz) (fun i => [(3, .int (nI (t.2.2 - i))), (0, .ref q0), (1, .int p0), (2, .int p1)]) (fun i H locs => va_P D vwCl (zcR cI q0 q1 q2 (zsh t.1 t.2.2 i, zsh t.2.1 t.2.2 i, t.2.2)) H ∧ va_D A (zcR cI q0 q1 q2 (zsh t.1 t.2.2 i, zsh t.2.1 t.2.2 i, t.2.2)) ∧ va_S A s.heap H locs) (J := fun _ => True) ?_ ?_ (⟨by rw [zsh_0, zsh_0]; exact hP, by rw [zsh_0, zsh_0]; exact hD, hS⟩) (trivial) ((lv_sub hl [0, 1, 2, 3] rfl))
    · intro H locs ls hJ hI0 hl
      obtain ⟨hP, hD, hS⟩ := hI0
      rw [show t.2.2 - (t.2.2 - pz) = pz by omega] at hl
      refine lv_iload_n hx hb dX1_add_15 rfl (lv_at hl 0 rfl) ?_
      refine lv_if_le (tgt := 65) hx hb dX1_add_16 (by decide) (fun c_2 => ?_) (fun c_2 => ?_)
      · replace c_2 := Int32.not_lt.mpr c_2
        refine lv_aload_n hx hb dX1_add_65 rfl (lv_at hl 1 rfl) ?_
        refine va_get (ci := 1) (C := RX1) (T := TX1) (N := 3) hx hb hts hiX1 hown hK hP 0 rfl rfl 0 (by decide) hf11 (fun _ h9 => h9) rfl dX1_add_66 ?_
        refine lv_iload_n hx hb dX1_add_69 rfl (lv_at hl 0 rfl) ?_
        refine lv_iload_n hx hb dX1_add_70 rfl (lv_at hl 2 rfl) ?_
        refine zz_iast hx hb hK hP hD hS 1 0 rfl rfl (i := pz) rfl (by omega) (by decide) dX1_add_71 (fun H locs hP hD hS => ?_)
        have hP : va_P D vwCl (zcR cI q0 q1 q2 (upd (zsh t.1 t.2.2 (t.2.2 - pz)) pz p0, zsh t.2.1 t.2.2 (t.2.2 - pz), t.2.2)) H := hP
        have hD : va_D A (zcR cI q0 q1 q2 (upd (zsh t.1 t.2.2 (t.2.2 - pz)) pz p0, zsh t.2.1 t.2.2 (t.2.2 - pz), t.2.2)) := hD
        refine lv_aload_n hx hb dX1_add_72 rfl (lv_at hl 1 rfl) ?_
        refine va_get (ci := 1) (C := RX1) (T := TX1) (N := 3) hx hb hts hiX1 hown hK hP 0 rfl rfl 1 (by decide) hf15 (fun _ h9 => h9) rfl dX1_add_73 ?_
        refine lv_iload_n hx hb dX1_add_76 rfl (lv_at hl 0 rfl) ?_
        refine lv_iload_n hx hb dX1_add_77 rfl (lv_at hl 3 rfl) ?_
        refine zz_iast hx hb hK hP hD hS 2 0 rfl rfl (i := pz) rfl (by omega) (by decide) dX1_add_78 (fun H locs hP hD hS => ?_)
        have hP : va_P D vwCl (zcR cI q0 q1 q2 (upd (zsh t.1 t.2.2 (t.2.2 - pz)) pz p0, upd (zsh t.2.1 t.2.2 (t.2.2 - pz)) pz p1, t.2.2)) H := hP
        have hD : va_D A (zcR cI q0 q1 q2 (upd (zsh t.1 t.2.2 (t.2.2 - pz)) pz p0, upd (zsh t.2.1 t.2.2 (t.2.2 - pz)) pz p1, t.2.2)) := hD
        refine lv_aload_n hx hb dX1_add_79 rfl (lv_at hl 1 rfl) ?_
        refine lv_dup hx hb dX1_add_80 rfl ?_
        refine va_get (ci := 1) (C := RX1) (T := TX1) (N := 3) hx hb hts hiX1 hown hK hP 0 rfl rfl 2 (by decide) hf18 (fun _ h9 => h9) rfl dX1_add_81 ?_
        refine lv_iconst (v := 1) hx hb dX1_add_84 (by decide) ?_
        refine lv_iadd hx hb dX1_add_85 ?_
        refine zz_topi (nI (t.2.2 + 1)) (zz_addn rfl (show (1 : Int32) = nI 1 from rfl)) ?_
        refine va_put (ci := 1) (v := .int (nI (t.2.2 + 1))) (ty := .int) (C := RX1) (T := TX1) (N := 3) hx hb hts hiX1 tyX1 tyX1_ok nmX1 hown hK hP hD hS 0 rfl rfl 2 (by decide) hf18 (fun _ h9 => h9) rfl (by decide +kernel) rfl rfl (Nat.le_of_ble_eq_true rfl) dX1_add_86 (fun H locs hP hD hS => ?_)
        have hP : va_P D vwCl (zcR cI q0 q1 q2 (upd (zsh t.1 t.2.2 (t.2.2 - pz)) pz p0, upd (zsh t.2.1 t.2.2 (t.2.2 - pz)) pz p1, t.2.2 + 1)) H := hP
        have hD : va_D A (zcR cI q0 q1 q2 (upd (zsh t.1 t.2.2 (t.2.2 - pz)) pz p0, upd (zsh t.2.1 t.2.2 (t.2.2 - pz)) pz p1, t.2.2 + 1)) := hD
        exact W.vret hx hb hr (fun t9 ht hW => ⟨⟨_, rfl, (rfl), zP_ht ht hP⟩, hS.F ht⟩) hS.2.2 dX1_add_89
      · replace c_2 := Int32.not_le.mp c_2
        have hq1 : 0 < pz := (nI_ltI (by decide) (by omega)).mp c_2
        refine lv_aload_n hx hb dX1_add_19 rfl (lv_at hl 1 rfl) ?_
        refine lv_iload_n hx hb dX1_add_20 rfl (lv_at hl 2 rfl) ?_
        refine lv_iload_n hx hb dX1_add_21 rfl (lv_at hl 3 rfl) ?_
        refine lv_iload_n hx hb dX1_add_22 rfl (lv_at hl 0 rfl) ?_
        refine lv_iconst (v := 1) hx hb dX1_add_23 (by decide) ?_
        refine lv_isub hx hb dX1_add_24 ?_
        refine zz_topi (nI (pz - 1)) (zz_subn rfl (show (1 : Int32) = nI 1 from rfl) (by omega)) ?_
        refine zz_cVi (cs := zcR cI q0 q1 q2 (zsh t.1 t.2.2 (t.2.2 - pz), zsh t.2.1 t.2.2 (t.2.2 - pz), t.2.2)) (As := [.int p0, .int p1, .int (nI (pz - 1))]) (rest := []) ⟨hx, hb, hml, hown, hts⟩ (c_X1_isAhead l D cI cZ hs ta q0 q1 q2 (zsh t.1 t.2.2 (t.2.2 - pz), zsh t.2.1 t.2.2 (t.2.2 - pz), t.2.2) p0 p1 (pz - 1) (by omega)) (cwV 3 hts gX1_add_X1_isAhead rfl rfl rfl (by decide +kernel) ⟨Nat.le_of_ble_eq_true rfl, Nat.le_of_ble_eq_true rfl⟩) (va_recv hK hP (ci := 1) (q0 := 0) rfl rfl) hP hD hG hS hAz rfl hl.1 rfl (Nat.le_of_ble_eq_true rfl) ⟨Nat.zero_le _, Nat.zero_le _⟩ dX1_add_25 (fun r_3 er_3 => ?_)
        refine lv_if_eq (tgt := 65) hx hb dX1_add_28 (by decide) (fun c_4 => ?_) (fun c_4 => ?_)
        · replace c_4 := zB_f er_3 c_4
          refine lv_aload_n hx hb dX1_add_65 rfl (lv_at hl 1 rfl) ?_
          refine va_get (ci := 1) (C := RX1) (T := TX1) (N := 3) hx hb hts hiX1 hown hK hP 0 rfl rfl 0 (by decide) hf11 (fun _ h9 => h9) rfl dX1_add_66 ?_
          refine lv_iload_n hx hb dX1_add_69 rfl (lv_at hl 0 rfl) ?_
          refine lv_iload_n hx hb dX1_add_70 rfl (lv_at hl 2 rfl) ?_
          refine zz_iast hx hb hK hP hD hS 1 0 rfl rfl (i := pz) rfl (by omega) (by decide) dX1_add_71 (fun H locs hP hD hS => ?_)
          have hP : va_P D vwCl (zcR cI q0 q1 q2 (upd (zsh t.1 t.2.2 (t.2.2 - pz)) pz p0, zsh t.2.1 t.2.2 (t.2.2 - pz), t.2.2)) H := hP
          have hD : va_D A (zcR cI q0 q1 q2 (upd (zsh t.1 t.2.2 (t.2.2 - pz)) pz p0, zsh t.2.1 t.2.2 (t.2.2 - pz), t.2.2)) := hD
          refine lv_aload_n hx hb dX1_add_72 rfl (lv_at hl 1 rfl) ?_
          refine va_get (ci := 1) (C := RX1) (T := TX1) (N := 3) hx hb hts hiX1 hown hK hP 0 rfl rfl 1 (by decide) hf15 (fun _ h9 => h9) rfl dX1_add_73 ?_
          refine lv_iload_n hx hb dX1_add_76 rfl (lv_at hl 0 rfl) ?_
          refine lv_iload_n hx hb dX1_add_77 rfl (lv_at hl 3 rfl) ?_
          refine zz_iast hx hb hK hP hD hS 2 0 rfl rfl (i := pz) rfl (by omega) (by decide) dX1_add_78 (fun H locs hP hD hS => ?_)
          have hP : va_P D vwCl (zcR cI q0 q1 q2 (upd (zsh t.1 t.2.2 (t.2.2 - pz)) pz p0, upd (zsh t.2.1 t.2.2 (t.2.2 - pz)) pz p1, t.2.2)) H := hP
          have hD : va_D A (zcR cI q0 q1 q2 (upd (zsh t.1 t.2.2 (t.2.2 - pz)) pz p0, upd (zsh t.2.1 t.2.2 (t.2.2 - pz)) pz p1, t.2.2)) := hD
          refine lv_aload_n hx hb dX1_add_79 rfl (lv_at hl 1 rfl) ?_
          refine lv_dup hx hb dX1_add_80 rfl ?_
          refine va_get (ci := 1) (C := RX1) (T := TX1) (N := 3) hx hb hts hiX1 hown hK hP 0 rfl rfl 2 (by decide) hf18 (fun _ h9 => h9) rfl dX1_add_81 ?_
          refine lv_iconst (v := 1) hx hb dX1_add_84 (by decide) ?_
          refine lv_iadd hx hb dX1_add_85 ?_
          refine zz_topi (nI (t.2.2 + 1)) (zz_addn rfl (show (1 : Int32) = nI 1 from rfl)) ?_
          refine va_put (ci := 1) (v := .int (nI (t.2.2 + 1))) (ty := .int) (C := RX1) (T := TX1) (N := 3) hx hb hts hiX1 tyX1 tyX1_ok nmX1 hown hK hP hD hS 0 rfl rfl 2 (by decide) hf18 (fun _ h9 => h9) rfl (by decide +kernel) rfl rfl (Nat.le_of_ble_eq_true rfl) dX1_add_86 (fun H locs hP hD hS => ?_)
          have hP : va_P D vwCl (zcR cI q0 q1 q2 (upd (zsh t.1 t.2.2 (t.2.2 - pz)) pz p0, upd (zsh t.2.1 t.2.2 (t.2.2 - pz)) pz p1, t.2.2 + 1)) H := hP
          have hD : va_D A (zcR cI q0 q1 q2 (upd (zsh t.1 t.2.2 (t.2.2 - pz)) pz p0, upd (zsh t.2.1 t.2.2 (t.2.2 - pz)) pz p1, t.2.2 + 1)) := hD
          exact W.vret hx hb hr (fun t9 ht hW => ⟨⟨_, rfl, (rfl), zP_ht ht hP⟩, hS.F ht⟩) hS.2.2 dX1_add_89
        · replace c_4 := zB_t er_3 c_4
          (dsimp only at c_4; rw [zsh_lo (by omega), zsh_lo (by omega)] at c_4; exact absurd c_4 (hp2.resolve_left (by omega)))
    · intro i hi hJ ihi H locs ls hI0 hl
      obtain ⟨hP, hD, hS⟩ := hI0
      refine lv_iload_n hx hb dX1_add_15 rfl (lv_at hl 0 rfl) ?_
      refine lv_if_le (tgt := 65) hx hb dX1_add_16 (by decide) (fun c_5 => ?_) (fun c_5 => ?_)
      · replace c_5 := Int32.not_lt.mpr c_5
        exact absurd (nI_lt (show 0 < t.2.2 - i by omega) (by omega)) c_5
      · replace c_5 := Int32.not_le.mp c_5
        have hq1 : 0 < t.2.2 - i := (nI_ltI (by decide) (by omega)).mp c_5
        refine lv_aload_n hx hb dX1_add_19 rfl (lv_at hl 1 rfl) ?_
        refine lv_iload_n hx hb dX1_add_20 rfl (lv_at hl 2 rfl) ?_
        refine lv_iload_n hx hb dX1_add_21 rfl (lv_at hl 3 rfl) ?_
        refine lv_iload_n hx hb dX1_add_22 rfl (lv_at hl 0 rfl) ?_
        refine lv_iconst (v := 1) hx hb dX1_add_23 (by decide) ?_
        refine lv_isub hx hb dX1_add_24 ?_
        refine zz_topi (nI ((t.2.2 - i) - 1)) (zz_subn rfl (show (1 : Int32) = nI 1 from rfl) (by omega)) ?_
        refine zz_cVi (cs := zcR cI q0 q1 q2 (zsh t.1 t.2.2 i, zsh t.2.1 t.2.2 i, t.2.2)) (As := [.int p0, .int p1, .int (nI ((t.2.2 - i) - 1))]) (rest := []) ⟨hx, hb, hml, hown, hts⟩ (c_X1_isAhead l D cI cZ hs ta q0 q1 q2 (zsh t.1 t.2.2 i, zsh t.2.1 t.2.2 i, t.2.2) p0 p1 ((t.2.2 - i) - 1) (by omega)) (cwV 3 hts gX1_add_X1_isAhead rfl rfl rfl (by decide +kernel) ⟨Nat.le_of_ble_eq_true rfl, Nat.le_of_ble_eq_true rfl⟩) (va_recv hK hP (ci := 1) (q0 := 0) rfl rfl) hP hD hG hS hAz rfl hl.1 rfl (Nat.le_of_ble_eq_true rfl) ⟨Nat.zero_le _, Nat.zero_le _⟩ dX1_add_25 (fun r_6 er_6 => ?_)
        refine lv_if_eq (tgt := 65) hx hb dX1_add_28 (by decide) (fun c_7 => ?_) (fun c_7 => ?_)
        · replace c_7 := zB_f er_6 c_7
          (dsimp only at c_7; rw [zsh_lo (by omega), zsh_lo (by omega)] at c_7; exact absurd (hp1 _ (by omega) (by omega)) c_7)
        · replace c_7 := zB_t er_6 c_7
          refine lv_aload_n hx hb dX1_add_31 rfl (lv_at hl 1 rfl) ?_
          refine va_get (ci := 1) (C := RX1) (T := TX1) (N := 3) hx hb hts hiX1 hown hK hP 0 rfl rfl 0 (by decide) hf11 (fun _ h9 => h9) rfl dX1_add_32 ?_
          refine lv_iload_n hx hb dX1_add_35 rfl (lv_at hl 0 rfl) ?_
          refine lv_aload_n hx hb dX1_add_36 rfl (lv_at hl 1 rfl) ?_
          refine va_get (ci := 1) (C := RX1) (T := TX1) (N := 3) hx hb hts hiX1 hown hK hP 0 rfl rfl 0 (by decide) hf11 (fun _ h9 => h9) rfl dX1_add_37 ?_
          refine lv_iload_n hx hb dX1_add_40 rfl (lv_at hl 0 rfl) ?_
          refine lv_iconst (v := 1) hx hb dX1_add_41 (by decide) ?_
          refine lv_isub hx hb dX1_add_42 ?_
          refine zz_topi (nI ((t.2.2 - i) - 1)) (zz_subn rfl (show (1 : Int32) = nI 1 from rfl) (by omega)) ?_
          refine zz_iald hx hb hK hP 1 0 rfl rfl (i := (t.2.2 - i) - 1) rfl (by omega) (by decide) dX1_add_43 ?_
          refine zz_iast hx hb hK hP hD hS 1 0 rfl rfl (i := t.2.2 - i) rfl (by omega) (by decide) dX1_add_44 (fun H locs hP hD hS => ?_)
          have hP : va_P D vwCl (zcR cI q0 q1 q2 (upd (zsh t.1 t.2.2 i) (t.2.2 - i) ((zsh t.1 t.2.2 i) ((t.2.2 - i) - 1)), zsh t.2.1 t.2.2 i, t.2.2)) H := hP
          have hD : va_D A (zcR cI q0 q1 q2 (upd (zsh t.1 t.2.2 i) (t.2.2 - i) ((zsh t.1 t.2.2 i) ((t.2.2 - i) - 1)), zsh t.2.1 t.2.2 i, t.2.2)) := hD
          rw [zsh_s (by omega)] at hP hD
          have hP : va_P D vwCl (zcR cI q0 q1 q2 (zsh t.1 t.2.2 (i + 1), zsh t.2.1 t.2.2 i, t.2.2)) H := hP
          have hD : va_D A (zcR cI q0 q1 q2 (zsh t.1 t.2.2 (i + 1), zsh t.2.1 t.2.2 i, t.2.2)) := hD
          refine lv_aload_n hx hb dX1_add_45 rfl (lv_at hl 1 rfl) ?_
          refine va_get (ci := 1) (C := RX1) (T := TX1) (N := 3) hx hb hts hiX1 hown hK hP 0 rfl rfl 1 (by decide) hf15 (fun _ h9 => h9) rfl dX1_add_46 ?_
          refine lv_iload_n hx hb dX1_add_49 rfl (lv_at hl 0 rfl) ?_
          refine lv_aload_n hx hb dX1_add_50 rfl (lv_at hl 1 rfl) ?_
          refine va_get (ci := 1) (C := RX1) (T := TX1) (N := 3) hx hb hts hiX1 hown hK hP 0 rfl rfl 1 (by decide) hf15 (fun _ h9 => h9) rfl dX1_add_51 ?_
          refine lv_iload_n hx hb dX1_add_54 rfl (lv_at hl 0 rfl) ?_
          refine lv_iconst (v := 1) hx hb dX1_add_55 (by decide) ?_
          refine lv_isub hx hb dX1_add_56 ?_
          refine zz_topi (nI ((t.2.2 - i) - 1)) (zz_subn rfl (show (1 : Int32) = nI 1 from rfl) (by omega)) ?_
          refine zz_iald hx hb hK hP 2 0 rfl rfl (i := (t.2.2 - i) - 1) rfl (by omega) (by decide) dX1_add_57 ?_
          refine zz_iast hx hb hK hP hD hS 2 0 rfl rfl (i := t.2.2 - i) rfl (by omega) (by decide) dX1_add_58 (fun H locs hP hD hS => ?_)
          have hP : va_P D vwCl (zcR cI q0 q1 q2 (zsh t.1 t.2.2 (i + 1), upd (zsh t.2.1 t.2.2 i) (t.2.2 - i) ((zsh t.2.1 t.2.2 i) ((t.2.2 - i) - 1)), t.2.2)) H := hP
          have hD : va_D A (zcR cI q0 q1 q2 (zsh t.1 t.2.2 (i + 1), upd (zsh t.2.1 t.2.2 i) (t.2.2 - i) ((zsh t.2.1 t.2.2 i) ((t.2.2 - i) - 1)), t.2.2)) := hD
          rw [zsh_s (by omega)] at hP hD
          have hP : va_P D vwCl (zcR cI q0 q1 q2 (zsh t.1 t.2.2 (i + 1), zsh t.2.1 t.2.2 (i + 1), t.2.2)) H := hP
          have hD : va_D A (zcR cI q0 q1 q2 (zsh t.1 t.2.2 (i + 1), zsh t.2.1 t.2.2 (i + 1), t.2.2)) := hD
          obtain ⟨v_8, ev_8⟩ : ∃ y : Int32, y = (nI (t.2.2 - i)) + (-1) := ⟨_, rfl⟩
          refine lv_iinc (v := v_8) (lv' := [(3, .int v_8), (0, .ref q0), (1, .int p0), (2, .int p1)]) hx hb dX1_add_59 hl (k := 0) rfl (by rw [ev_8]; rfl) (by decide) rfl (fun ls hl => ?_)
          refine lv_goto (tgt := 15) hx hb dX1_add_62 (by decide) ?_
          obtain rfl : v_8 = (nI (t.2.2 - (i + 1))) := by rw [ev_8, show t.2.2 - i = (t.2.2 - (i + 1)) + 1 by omega]; exact pk_m1 _
          exact ihi (trivial) _ _ ls (⟨hP, hD, hS⟩) (lv_sub hl [0, 1, 2, 3] rfl)
  · exact absurd (nI_lt hn (by decide)) c_1
set_option maxHeartbeats 4000000 in
set_option maxRecDepth 100000 in
theorem c_X1_takeFirst (l : Launch) (D : va_G) (cI cZ : ClassId) (hs ta : Nat) (sz : Nat) (q0 : Nat) (q1 : Nat) (q2 : Nat) (q3 : Nat) (q4 : Nat) (q5 : Nat) (t : ZR) (g : ZR) (k : Nat) (hk : k < 2 ^ 31) (hg : g.2.2 ≤ 16) : Met l yX1_takeFirst wsX1_takeFirst ({ frames := 1, cells := 0, slots := 0, locals := 40 }) (va_Pc [.ref q0, .ref q3, .int (nI k)] (fun U => U.heap.size = sz ∧ zPre D (zTy cI cZ) hs ta (zcR cI q0 q1 q2 t ++ zcR cI q3 q4 q5 g) U)) (va_Qv (fun (u : ZR) => u = (va_cpy g.1 t.1 0 0 (if k < g.2.2 then k else g.2.2), va_cpy g.2.1 t.2.1 0 0 (if k < g.2.2 then k else g.2.2), (if k < g.2.2 then k else g.2.2))) (fun (u : ZR) t9 => va_P D vwCl (zcR cI q0 q1 q2 u ++ zcR cI q3 q4 q5 g) t9.heap) (va_A (zcR cI q0 q1 q2 t ++ zcR cI q3 q4 q5 g) sz)) 0 0 (va_A (zcR cI q0 q1 q2 t ++ zcR cI q3 q4 q5 g) sz) := by
  refine Met.ofW (cc := cX1_takeFirst) (maxL := 3) (ret := none) (by decide) rfl ?_
  intro p e s m args below meth c s₁ B hml hv0
  obtain ⟨rfl, hsz, hP, hD0, hG⟩ := hv0
  have hx := B.exec
  have hb := B.bytes
  have hr := B.returns
  have hts := atoms_spec (ws := wsX1_takeFirst) B.pre
  have hown : s.vm.findClass RX1 = some m.cls := findClass_of_methodNamed B.named
  have hlocks := B.notSynchronized
  subst hsz
  have hD := hD0.self (sz := s.heap.size)
  have hAz0 : ∀ y9, va_A (zcR cI q0 q1 q2 t ++ zcR cI q3 q4 q5 g) s.heap.size y9 → hs ≤ y9 := zA_of hD0 (fun y9 h => Nat.le_trans hG.2.2.2.2 h) (va_S.rf (A := zA hs) (H0 := s.heap))
  generalize hAe : va_A (zcR cI q0 q1 q2 t ++ zcR cI q3 q4 q5 g) s.heap.size = A at hD hAz0 ⊢
  have hA : ∀ y9 : Nat, s.heap.size ≤ y9 → A y9 := fun y9 h => by rw [← hAe]; exact Or.inr h
  have hS : va_S A s.heap s.heap [] := va_S.rf
  have hAz : ∀ y9, A y9 → hs ≤ y9 := hAz0
  have hK := hG.1
  have hl := lv_entry ([.ref q0, .ref q3, .int (nI k)]) (n := 3) (Nat.le_of_ble_eq_true rfl)
  rw [lg_entry_eq]
  generalize (lg_sl ([.ref q0, .ref q3, .int (nI k)]) ++ List.replicate (3 - (lg_sl ([.ref q0, .ref q3, .int (nI k)])).length) Slot.unset).toArray = ls at hl ⊢
  have hl : lv_has ls 3 [(0, .ref q0), (1, .ref q3), (2, .int (nI k))] := hl
  have hf18 := hts (.fieldLink RX1 18 "FrozenBits$FinedRows" "size" "I") (List.mem_of_getElem? (i := 1) rfl)
  have hiX1 : ∀ w ∈ u_ws RX1 TX1 3, w ∈ wsX1_takeFirst := fun w h => List.mem_cons_of_mem _ (List.mem_append_right _ h)
  have hf11 := hts (.fieldLink RX1 11 "FrozenBits$FinedRows" "rows" "[I") (List.mem_of_getElem? (i := 6) rfl)
  have hf15 := hts (.fieldLink RX1 15 "FrozenBits$FinedRows" "fines" "[I") (List.mem_of_getElem? (i := 11) rfl)
  refine lv_aload_n hx hb dX1_takeFirst_0 rfl (lv_at hl 0 rfl) ?_
  refine lv_aload_n hx hb dX1_takeFirst_1 rfl (lv_at hl 1 rfl) ?_
  refine va_get (ci := 1) (C := RX1) (T := TX1) (N := 3) hx hb hts hiX1 hown hK hP 3 rfl rfl 2 (by decide) hf18 (fun _ h9 => h9) rfl dX1_takeFirst_2 ?_
  refine lv_iload_n hx hb dX1_takeFirst_5 rfl (lv_at hl 2 rfl) ?_
  refine va_mmin hx hb (hml.trans hl.1.symm) hown (hts (.methodLink RX1 26 Lib.Math.min.name) (List.mem_of_getElem? (i := 2) rfl)) (hts (.static Lib.Math.min.name) (List.mem_of_getElem? (i := 3) rfl)) (hts (.initialized "java/lang/Math") (List.mem_of_getElem? (i := 4) rfl)) (hts (.code Lib.Math.min.name Lib.Math.min.code 2 (some .int)) (List.mem_of_getElem? (i := 5) rfl)) (Nat.le_of_ble_eq_true rfl) (Nat.le_of_ble_eq_true rfl) (Nat.zero_le _) (Nat.zero_le _) dX1_takeFirst_6 ?_
  refine zz_topi (nI (if k < g.2.2 then k else g.2.2)) (zz_minn (by omega) hk) ?_
  refine va_put (ci := 1) (v := .int (nI (if k < g.2.2 then k else g.2.2))) (ty := .int) (C := RX1) (T := TX1) (N := 3) hx hb hts hiX1 tyX1 tyX1_ok nmX1 hown hK hP hD hS 0 rfl rfl 2 (by decide) hf18 (fun _ h9 => h9) rfl (by decide +kernel) rfl rfl (Nat.le_of_ble_eq_true rfl) dX1_takeFirst_9 (fun H locs hP hD hS => ?_)
  have hP : va_P D vwCl (zcR cI q0 q1 q2 (t.1, t.2.1, if k < g.2.2 then k else g.2.2) ++ zcR cI q3 q4 q5 g) H := hP
  have hD : va_D A (zcR cI q0 q1 q2 (t.1, t.2.1, if k < g.2.2 then k else g.2.2) ++ zcR cI q3 q4 q5 g) := hD
  refine lv_aload_n hx hb dX1_takeFirst_12 rfl (lv_at hl 1 rfl) ?_
  refine va_get (ci := 1) (C := RX1) (T := TX1) (N := 3) hx hb hts hiX1 hown hK hP 3 rfl rfl 0 (by decide) hf11 (fun _ h9 => h9) rfl dX1_takeFirst_13 ?_
  refine lv_iconst (v := 0) hx hb dX1_takeFirst_16 (by decide) ?_
  refine lv_aload_n hx hb dX1_takeFirst_17 rfl (lv_at hl 0 rfl) ?_
  refine va_get (ci := 1) (C := RX1) (T := TX1) (N := 3) hx hb hts hiX1 hown hK hP 0 rfl rfl 0 (by decide) hf11 (fun _ h9 => h9) rfl dX1_takeFirst_18 ?_
  refine lv_iconst (v := 0) hx hb dX1_takeFirst_21 (by decide) ?_
  refine lv_aload_n hx hb dX1_takeFirst_22 rfl (lv_at hl 0 rfl) ?_
  refine va_get (ci := 1) (C := RX1) (T := TX1) (N := 3) hx hb hts hiX1 hown hK hP 0 rfl rfl 2 (by decide) hf18 (fun _ h9 => h9) rfl dX1_takeFirst_23 ?_
  refine zz_copy (i := if k < g.2.2 then k else g.2.2) hx hb (hml.trans hl.1.symm) hown (hts (.methodLink RX1 32 arraycopyName) (List.mem_of_getElem? (i := 7) rfl)) (hts (.native arraycopyName) (List.mem_of_getElem? (i := 8) rfl)) (hts (.static arraycopyName) (List.mem_of_getElem? (i := 9) rfl)) (hts (.initialized "java/lang/System") (List.mem_of_getElem? (i := 10) rfl)) hK hP hD hS 4 1 0 0 rfl rfl rfl rfl rfl ⟨by split <;> omega, by split <;> omega, by split <;> omega⟩ (by decide) (by decide) (Nat.le_of_ble_eq_true rfl) (fun _ => rfl) dX1_takeFirst_26 (fun H locs hP hD hS => ?_)
  have hP : va_P D vwCl (zcR cI q0 q1 q2 (va_cpy g.1 t.1 0 0 (if k < g.2.2 then k else g.2.2), t.2.1, if k < g.2.2 then k else g.2.2) ++ zcR cI q3 q4 q5 g) H := hP
  have hD : va_D A (zcR cI q0 q1 q2 (va_cpy g.1 t.1 0 0 (if k < g.2.2 then k else g.2.2), t.2.1, if k < g.2.2 then k else g.2.2) ++ zcR cI q3 q4 q5 g) := hD
  refine lv_aload_n hx hb dX1_takeFirst_29 rfl (lv_at hl 1 rfl) ?_
  refine va_get (ci := 1) (C := RX1) (T := TX1) (N := 3) hx hb hts hiX1 hown hK hP 3 rfl rfl 1 (by decide) hf15 (fun _ h9 => h9) rfl dX1_takeFirst_30 ?_
  refine lv_iconst (v := 0) hx hb dX1_takeFirst_33 (by decide) ?_
  refine lv_aload_n hx hb dX1_takeFirst_34 rfl (lv_at hl 0 rfl) ?_
  refine va_get (ci := 1) (C := RX1) (T := TX1) (N := 3) hx hb hts hiX1 hown hK hP 0 rfl rfl 1 (by decide) hf15 (fun _ h9 => h9) rfl dX1_takeFirst_35 ?_
  refine lv_iconst (v := 0) hx hb dX1_takeFirst_38 (by decide) ?_
  refine lv_aload_n hx hb dX1_takeFirst_39 rfl (lv_at hl 0 rfl) ?_
  refine va_get (ci := 1) (C := RX1) (T := TX1) (N := 3) hx hb hts hiX1 hown hK hP 0 rfl rfl 2 (by decide) hf18 (fun _ h9 => h9) rfl dX1_takeFirst_40 ?_
  refine zz_copy (i := if k < g.2.2 then k else g.2.2) hx hb (hml.trans hl.1.symm) hown (hts (.methodLink RX1 32 arraycopyName) (List.mem_of_getElem? (i := 7) rfl)) (hts (.native arraycopyName) (List.mem_of_getElem? (i := 8) rfl)) (hts (.static arraycopyName) (List.mem_of_getElem? (i := 9) rfl)) (hts (.initialized "java/lang/System") (List.mem_of_getElem? (i := 10) rfl)) hK hP hD hS 5 2 0 0 rfl rfl rfl rfl rfl ⟨by split <;> omega, by split <;> omega, by split <;> omega⟩ (by decide) (by decide) (Nat.le_of_ble_eq_true rfl) (fun _ => rfl) dX1_takeFirst_43 (fun H locs hP hD hS => ?_)
  have hP : va_P D vwCl (zcR cI q0 q1 q2 (va_cpy g.1 t.1 0 0 (if k < g.2.2 then k else g.2.2), va_cpy g.2.1 t.2.1 0 0 (if k < g.2.2 then k else g.2.2), if k < g.2.2 then k else g.2.2) ++ zcR cI q3 q4 q5 g) H := hP
  have hD : va_D A (zcR cI q0 q1 q2 (va_cpy g.1 t.1 0 0 (if k < g.2.2 then k else g.2.2), va_cpy g.2.1 t.2.1 0 0 (if k < g.2.2 then k else g.2.2), if k < g.2.2 then k else g.2.2) ++ zcR cI q3 q4 q5 g) := hD
  exact W.vret hx hb hr (fun t9 ht hW => ⟨⟨_, rfl, (rfl), zP_ht ht hP⟩, hS.F ht⟩) hS.2.2 dX1_takeFirst_46
set_option maxHeartbeats 4000000 in
set_option maxRecDepth 100000 in
theorem c_X0_beginAnew (l : Launch) (D : va_G) (cI cZ : ClassId) (hs ta : Nat) (sz : Nat) (q0 : Nat) (q1 : Nat) (q2 : Nat) (a : ZA) (k : Nat) : Met l yX0_beginAnew wsX0_beginAnew ({ frames := 0, cells := 0, slots := 0, locals := 0 }) (va_Pc [.ref q0, .int (nI k)] (fun U => U.heap.size = sz ∧ zPre D (zTy cI cZ) hs ta (zcF cI q0 q1 q2 a) U)) (va_Qv (fun (u : ZA) => u = (k, a.2.1, a.2.2.1, 0, a.2.2.2.2.1, (fun _ => 0), (fun _ => 0))) (fun (u : ZA) t9 => va_P D vwCl (zcF cI q0 q1 q2 u) t9.heap) (va_A (zcF cI q0 q1 q2 a) sz)) 0 0 (va_A (zcF cI q0 q1 q2 a) sz) := by
  refine Met.ofW (cc := cX0_beginAnew) (maxL := 3) (ret := none) (by decide) rfl ?_
  intro p e s m args below meth c s₁ B hml hv0
  obtain ⟨rfl, hsz, hP, hD0, hG⟩ := hv0
  have hx := B.exec
  have hb := B.bytes
  have hr := B.returns
  have hts := atoms_spec (ws := wsX0_beginAnew) B.pre
  have hown : s.vm.findClass RX0 = some m.cls := findClass_of_methodNamed B.named
  have hlocks := B.notSynchronized
  subst hsz
  have hD := hD0.self (sz := s.heap.size)
  have hAz0 : ∀ y9, va_A (zcF cI q0 q1 q2 a) s.heap.size y9 → hs ≤ y9 := zA_of hD0 (fun y9 h => Nat.le_trans hG.2.2.2.2 h) (va_S.rf (A := zA hs) (H0 := s.heap))
  generalize hAe : va_A (zcF cI q0 q1 q2 a) s.heap.size = A at hD hAz0 ⊢
  have hA : ∀ y9 : Nat, s.heap.size ≤ y9 → A y9 := fun y9 h => by rw [← hAe]; exact Or.inr h
  have hS : va_S A s.heap s.heap [] := va_S.rf
  have hAz : ∀ y9, A y9 → hs ≤ y9 := hAz0
  have hK := hG.1
  have hl := lv_entry ([.ref q0, .int (nI k)]) (n := 3) (Nat.le_of_ble_eq_true rfl)
  rw [lg_entry_eq]
  generalize (lg_sl ([.ref q0, .int (nI k)]) ++ List.replicate (3 - (lg_sl ([.ref q0, .int (nI k)])).length) Slot.unset).toArray = ls at hl ⊢
  have hl : lv_has ls 3 [(0, .ref q0), (1, .int (nI k))] := hl
  have hf9 := hts (.fieldLink RX0 9 "FrozenBits$Facts" "deep" "I") (List.mem_of_getElem? (i := 1) rfl)
  have hiX0 : ∀ w ∈ u_ws RX0 TX0 7, w ∈ wsX0_beginAnew := fun w h => List.mem_cons_of_mem _ (List.mem_append_right _ h)
  have hf21 := hts (.fieldLink RX0 21 "FrozenBits$Facts" "frozen" "I") (List.mem_of_getElem? (i := 2) rfl)
  have hf31 := hts (.fieldLink RX0 31 "FrozenBits$Facts" "checks" "[I") (List.mem_of_getElem? (i := 4) rfl)
  have hf27 := hts (.fieldLink RX0 27 "FrozenBits$Facts" "measures" "[I") (List.mem_of_getElem? (i := 3) rfl)
  refine lv_aload_n hx hb dX0_beginAnew_0 rfl (lv_at hl 0 rfl) ?_
  refine lv_iload_n hx hb dX0_beginAnew_1 rfl (lv_at hl 1 rfl) ?_
  refine va_put (ci := 0) (v := .int (nI (k))) (ty := .int) (C := RX0) (T := TX0) (N := 7) hx hb hts hiX0 tyX0 tyX0_ok nmX0 hown hK hP hD hS 0 rfl rfl 0 (by decide) hf9 (fun _ h9 => h9) rfl (by decide +kernel) rfl rfl (Nat.le_of_ble_eq_true rfl) dX0_beginAnew_2 (fun H locs hP hD hS => ?_)
  have hP : va_P D vwCl (zcF cI q0 q1 q2 (k, a.2.1, a.2.2.1, a.2.2.2.1, a.2.2.2.2.1, a.2.2.2.2.2.1, a.2.2.2.2.2.2)) H := hP
  have hD : va_D A (zcF cI q0 q1 q2 (k, a.2.1, a.2.2.1, a.2.2.2.1, a.2.2.2.2.1, a.2.2.2.2.2.1, a.2.2.2.2.2.2)) := hD
  refine lv_aload_n hx hb dX0_beginAnew_5 rfl (lv_at hl 0 rfl) ?_
  refine lv_iconst (v := 0) hx hb dX0_beginAnew_6 (by decide) ?_
  refine zz_topi (nI (0)) (show (0 : Int32) = nI 0 from rfl) ?_
  refine va_put (ci := 0) (v := .int (nI (0))) (ty := .int) (C := RX0) (T := TX0) (N := 7) hx hb hts hiX0 tyX0 tyX0_ok nmX0 hown hK hP hD hS 0 rfl rfl 3 (by decide) hf21 (fun _ h9 => h9) rfl (by decide +kernel) rfl rfl (Nat.le_of_ble_eq_true rfl) dX0_beginAnew_7 (fun H locs hP hD hS => ?_)
  have hP : va_P D vwCl (zcF cI q0 q1 q2 (k, a.2.1, a.2.2.1, 0, a.2.2.2.2.1, a.2.2.2.2.2.1, a.2.2.2.2.2.2)) H := hP
  have hD : va_D A (zcF cI q0 q1 q2 (k, a.2.1, a.2.2.1, 0, a.2.2.2.2.1, a.2.2.2.2.2.1, a.2.2.2.2.2.2)) := hD
  refine lv_iconst (v := 0) hx hb dX0_beginAnew_10 (by decide) ?_
  refine lv_istore_n (lv' := [(2, .int 0), (0, .ref q0), (1, .int (nI k))]) hx hb dX0_beginAnew_11 rfl hl (by decide) rfl (fun ls hl => ?_)
  have hl : lv_has ls 3 [(2, .int (nI 0)), (0, .ref q0), (1, .int (nI k))] := hl
  refine zz_forHJ (P := fun H locs g => W p l e _ s m _ below meth c H locs _ _ _ g) (nL := 3) (16) (fun i => [(2, .int (nI i)), (0, .ref q0), (1, .int (nI k))]) (fun i H locs => va_P D vwCl (zcF cI q0 q1 q2 (k, a.2.1, a.2.2.1, 0, a.2.2.2.2.1, fa_fill (fun _ => 0) a.2.2.2.2.2.1 i, a.2.2.2.2.2.2)) H ∧ va_D A (zcF cI q0 q1 q2 (k, a.2.1, a.2.2.1, 0, a.2.2.2.2.1, fa_fill (fun _ => 0) a.2.2.2.2.2.1 i, a.2.2.2.2.2.2)) ∧ va_S A s.heap H locs) (J := fun _ => True) ?_ ?_ (⟨by rw [fa_fill_0]; exact hP, by rw [fa_fill_0]; exact hD, hS⟩) (trivial) ((lv_sub hl [0, 1, 2] rfl))
  · intro H locs ls hJ hI0 hl
    obtain ⟨hP, hD, hS⟩ := hI0
    refine lv_iload_n hx hb dX0_beginAnew_12 rfl (lv_at hl 0 rfl) ?_
    refine lv_bipush (v := 16) hx hb dX0_beginAnew_13 (by decide) ?_
    refine lv_icmp_ge (tgt := 31) hx hb dX0_beginAnew_15 (by decide) (fun c_1 => ?_) (fun c_1 => ?_)
    · replace c_1 := Int32.not_lt.mpr c_1
      replace hP := zP_arr hP (k := 1) (g := fun _ => 0) rfl (fun j hj => fa_fill_in (f := fun _ => (0 : Int32)) (g := a.2.2.2.2.2.1) (i := 16) hj)
      replace hD := zD_same (ws' := zcF cI q0 q1 q2 (k, a.2.1, a.2.2.1, 0, a.2.2.2.2.1, (fun _ => 0), a.2.2.2.2.2.2)) hD rfl
      have hP : va_P D vwCl (zcF cI q0 q1 q2 (k, a.2.1, a.2.2.1, 0, a.2.2.2.2.1, (fun _ => 0), a.2.2.2.2.2.2)) H := hP
      refine lv_iconst (v := 0) hx hb dX0_beginAnew_31 (by decide) ?_
      refine lv_istore_n (lv' := [(2, .int 0), (0, .ref q0), (1, .int (nI k))]) hx hb dX0_beginAnew_32 rfl hl (by decide) rfl (fun ls hl => ?_)
      have hl : lv_has ls 3 [(2, .int (nI 0)), (0, .ref q0), (1, .int (nI k))] := hl
      refine zz_forHJ (P := fun H locs g => W p l e _ s m _ below meth c H locs _ _ _ g) (nL := 3) (3) (fun i => [(2, .int (nI i)), (0, .ref q0), (1, .int (nI k))]) (fun i H locs => va_P D vwCl (zcF cI q0 q1 q2 (k, a.2.1, a.2.2.1, 0, a.2.2.2.2.1, (fun _ => 0), fa_fill (fun _ => 0) a.2.2.2.2.2.2 i)) H ∧ va_D A (zcF cI q0 q1 q2 (k, a.2.1, a.2.2.1, 0, a.2.2.2.2.1, (fun _ => 0), fa_fill (fun _ => 0) a.2.2.2.2.2.2 i)) ∧ va_S A s.heap H locs) (J := fun _ => True) ?_ ?_ (⟨by rw [fa_fill_0]; exact hP, by rw [fa_fill_0]; exact hD, hS⟩) (trivial) ((lv_sub hl [0, 1, 2] rfl))
      · intro H locs ls hJ hI0 hl
        obtain ⟨hP, hD, hS⟩ := hI0
        refine lv_iload_n hx hb dX0_beginAnew_33 rfl (lv_at hl 0 rfl) ?_
        refine lv_iconst (v := 3) hx hb dX0_beginAnew_34 (by decide) ?_
        refine lv_icmp_ge (tgt := 51) hx hb dX0_beginAnew_35 (by decide) (fun c_2 => ?_) (fun c_2 => ?_)
        · replace c_2 := Int32.not_lt.mpr c_2
          replace hP := zP_arr hP (k := 2) (g := fun _ => 0) rfl (fun j hj => fa_fill_in (f := fun _ => (0 : Int32)) (g := a.2.2.2.2.2.2) (i := 3) hj)
          exact W.vret hx hb hr (fun t9 ht hW => ⟨⟨(k, a.2.1, a.2.2.1, 0, a.2.2.2.2.1, (fun _ => 0), (fun _ => 0)), rfl, (rfl), zP_ht ht hP⟩, hS.F ht⟩) hS.2.2 dX0_beginAnew_51
        · replace c_2 := Int32.not_le.mp c_2
          exact absurd c_2 (nI_nlt (Nat.le_refl _) (by decide))
      · intro i hi hJ ihi H locs ls hI0 hl
        obtain ⟨hP, hD, hS⟩ := hI0
        refine lv_iload_n hx hb dX0_beginAnew_33 rfl (lv_at hl 0 rfl) ?_
        refine lv_iconst (v := 3) hx hb dX0_beginAnew_34 (by decide) ?_
        refine lv_icmp_ge (tgt := 51) hx hb dX0_beginAnew_35 (by decide) (fun c_3 => ?_) (fun c_3 => ?_)
        · replace c_3 := Int32.not_lt.mpr c_3
          exact absurd (nI_lt hi (by decide)) c_3
        · replace c_3 := Int32.not_le.mp c_3
          refine lv_aload_n hx hb dX0_beginAnew_38 rfl (lv_at hl 1 rfl) ?_
          refine va_get (ci := 0) (C := RX0) (T := TX0) (N := 7) hx hb hts hiX0 hown hK hP 0 rfl rfl 6 (by decide) hf31 (fun _ h9 => h9) rfl dX0_beginAnew_39 ?_
          refine lv_iload_n hx hb dX0_beginAnew_42 rfl (lv_at hl 0 rfl) ?_
          refine lv_iconst (v := 0) hx hb dX0_beginAnew_43 (by decide) ?_
          refine zz_iast hx hb hK hP hD hS 2 0 rfl rfl (i := i) rfl (by omega) (by decide) dX0_beginAnew_44 (fun H locs hP hD hS => ?_)
          have hP : va_P D vwCl (zcF cI q0 q1 q2 (k, a.2.1, a.2.2.1, 0, a.2.2.2.2.1, (fun _ => 0), upd (fa_fill (fun _ => 0) a.2.2.2.2.2.2 i) i 0)) H := hP
          have hD : va_D A (zcF cI q0 q1 q2 (k, a.2.1, a.2.2.1, 0, a.2.2.2.2.1, (fun _ => 0), upd (fa_fill (fun _ => 0) a.2.2.2.2.2.2 i) i 0)) := hD
          rw [fa_fill_succ (fun _ => 0)] at hP hD
          have hP : va_P D vwCl (zcF cI q0 q1 q2 (k, a.2.1, a.2.2.1, 0, a.2.2.2.2.1, (fun _ => 0), fa_fill (fun _ => 0) a.2.2.2.2.2.2 (i + 1))) H := hP
          have hD : va_D A (zcF cI q0 q1 q2 (k, a.2.1, a.2.2.1, 0, a.2.2.2.2.1, (fun _ => 0), fa_fill (fun _ => 0) a.2.2.2.2.2.2 (i + 1))) := hD
          refine lv_iinc (v := (nI (i + 1))) (lv' := [(2, .int (nI (i + 1))), (0, .ref q0), (1, .int (nI k))]) hx hb dX0_beginAnew_45 hl (k := 0) rfl (zz_inc _) (by decide) rfl (fun ls hl => ?_)
          refine lv_goto (tgt := 33) hx hb dX0_beginAnew_48 (by decide) ?_
          have hl : lv_has ls 3 [(2, .int (nI ((i + 1)))), (0, .ref q0), (1, .int (nI k))] := hl
          exact ihi (trivial) _ _ ls (⟨hP, hD, hS⟩) (lv_sub hl [0, 1, 2] rfl)
    · replace c_1 := Int32.not_le.mp c_1
      exact absurd c_1 (nI_nlt (Nat.le_refl _) (by decide))
  · intro i hi hJ ihi H locs ls hI0 hl
    obtain ⟨hP, hD, hS⟩ := hI0
    refine lv_iload_n hx hb dX0_beginAnew_12 rfl (lv_at hl 0 rfl) ?_
    refine lv_bipush (v := 16) hx hb dX0_beginAnew_13 (by decide) ?_
    refine lv_icmp_ge (tgt := 31) hx hb dX0_beginAnew_15 (by decide) (fun c_4 => ?_) (fun c_4 => ?_)
    · replace c_4 := Int32.not_lt.mpr c_4
      exact absurd (nI_lt hi (by decide)) c_4
    · replace c_4 := Int32.not_le.mp c_4
      refine lv_aload_n hx hb dX0_beginAnew_18 rfl (lv_at hl 1 rfl) ?_
      refine va_get (ci := 0) (C := RX0) (T := TX0) (N := 7) hx hb hts hiX0 hown hK hP 0 rfl rfl 5 (by decide) hf27 (fun _ h9 => h9) rfl dX0_beginAnew_19 ?_
      refine lv_iload_n hx hb dX0_beginAnew_22 rfl (lv_at hl 0 rfl) ?_
      refine lv_iconst (v := 0) hx hb dX0_beginAnew_23 (by decide) ?_
      refine zz_iast hx hb hK hP hD hS 1 0 rfl rfl (i := i) rfl (by omega) (by decide) dX0_beginAnew_24 (fun H locs hP hD hS => ?_)
      have hP : va_P D vwCl (zcF cI q0 q1 q2 (k, a.2.1, a.2.2.1, 0, a.2.2.2.2.1, upd (fa_fill (fun _ => 0) a.2.2.2.2.2.1 i) i 0, a.2.2.2.2.2.2)) H := hP
      have hD : va_D A (zcF cI q0 q1 q2 (k, a.2.1, a.2.2.1, 0, a.2.2.2.2.1, upd (fa_fill (fun _ => 0) a.2.2.2.2.2.1 i) i 0, a.2.2.2.2.2.2)) := hD
      rw [fa_fill_succ (fun _ => 0)] at hP hD
      have hP : va_P D vwCl (zcF cI q0 q1 q2 (k, a.2.1, a.2.2.1, 0, a.2.2.2.2.1, fa_fill (fun _ => 0) a.2.2.2.2.2.1 (i + 1), a.2.2.2.2.2.2)) H := hP
      have hD : va_D A (zcF cI q0 q1 q2 (k, a.2.1, a.2.2.1, 0, a.2.2.2.2.1, fa_fill (fun _ => 0) a.2.2.2.2.2.1 (i + 1), a.2.2.2.2.2.2)) := hD
      refine lv_iinc (v := (nI (i + 1))) (lv' := [(2, .int (nI (i + 1))), (0, .ref q0), (1, .int (nI k))]) hx hb dX0_beginAnew_25 hl (k := 0) rfl (zz_inc _) (by decide) rfl (fun ls hl => ?_)
      refine lv_goto (tgt := 12) hx hb dX0_beginAnew_28 (by decide) ?_
      have hl : lv_has ls 3 [(2, .int (nI ((i + 1)))), (0, .ref q0), (1, .int (nI k))] := hl
      exact ihi (trivial) _ _ ls (⟨hP, hD, hS⟩) (lv_sub hl [0, 1, 2] rfl)
set_option maxHeartbeats 4000000 in
set_option maxRecDepth 100000 in
theorem c_X0_copyFrom (l : Launch) (D : va_G) (cI cZ : ClassId) (hs ta : Nat) (sz : Nat) (q0 : Nat) (q1 : Nat) (q2 : Nat) (q3 : Nat) (q4 : Nat) (q5 : Nat) (a : ZA) (b : ZA) : Met l yX0_copyFrom wsX0_copyFrom ({ frames := 1, cells := 0, slots := 0, locals := 40 }) (va_Pc [.ref q0, .ref q3] (fun U => U.heap.size = sz ∧ zPre D (zTy cI cZ) hs ta (zcF cI q0 q1 q2 a ++ zcF cI q3 q4 q5 b) U)) (va_Qv (fun (u : ZA) => u = b) (fun (u : ZA) t9 => va_P D vwCl (zcF cI q0 q1 q2 u ++ zcF cI q3 q4 q5 b) t9.heap) (va_A (zcF cI q0 q1 q2 a ++ zcF cI q3 q4 q5 b) sz)) 0 0 (va_A (zcF cI q0 q1 q2 a ++ zcF cI q3 q4 q5 b) sz) := by
  refine Met.ofW (cc := cX0_copyFrom) (maxL := 2) (ret := none) (by decide) rfl ?_
  intro p e s m args below meth c s₁ B hml hv0
  obtain ⟨rfl, hsz, hP, hD0, hG⟩ := hv0
  have hx := B.exec
  have hb := B.bytes
  have hr := B.returns
  have hts := atoms_spec (ws := wsX0_copyFrom) B.pre
  have hown : s.vm.findClass RX0 = some m.cls := findClass_of_methodNamed B.named
  have hlocks := B.notSynchronized
  subst hsz
  have hD := hD0.self (sz := s.heap.size)
  have hAz0 : ∀ y9, va_A (zcF cI q0 q1 q2 a ++ zcF cI q3 q4 q5 b) s.heap.size y9 → hs ≤ y9 := zA_of hD0 (fun y9 h => Nat.le_trans hG.2.2.2.2 h) (va_S.rf (A := zA hs) (H0 := s.heap))
  generalize hAe : va_A (zcF cI q0 q1 q2 a ++ zcF cI q3 q4 q5 b) s.heap.size = A at hD hAz0 ⊢
  have hA : ∀ y9 : Nat, s.heap.size ≤ y9 → A y9 := fun y9 h => by rw [← hAe]; exact Or.inr h
  have hS : va_S A s.heap s.heap [] := va_S.rf
  have hAz : ∀ y9, A y9 → hs ≤ y9 := hAz0
  have hK := hG.1
  have hl := lv_entry ([.ref q0, .ref q3]) (n := 2) (Nat.le_of_ble_eq_true rfl)
  rw [lg_entry_eq]
  generalize (lg_sl ([.ref q0, .ref q3]) ++ List.replicate (2 - (lg_sl ([.ref q0, .ref q3])).length) Slot.unset).toArray = ls at hl ⊢
  have hl : lv_has ls 2 [(0, .ref q0), (1, .ref q3)] := hl
  have hf9 := hts (.fieldLink RX0 9 "FrozenBits$Facts" "deep" "I") (List.mem_of_getElem? (i := 1) rfl)
  have hiX0 : ∀ w ∈ u_ws RX0 TX0 7, w ∈ wsX0_copyFrom := fun w h => List.mem_cons_of_mem _ (List.mem_append_right _ h)
  have hf15 := hts (.fieldLink RX0 15 "FrozenBits$Facts" "top" "I") (List.mem_of_getElem? (i := 2) rfl)
  have hf18 := hts (.fieldLink RX0 18 "FrozenBits$Facts" "of" "I") (List.mem_of_getElem? (i := 3) rfl)
  have hf21 := hts (.fieldLink RX0 21 "FrozenBits$Facts" "frozen" "I") (List.mem_of_getElem? (i := 4) rfl)
  have hf24 := hts (.fieldLink RX0 24 "FrozenBits$Facts" "most" "I") (List.mem_of_getElem? (i := 5) rfl)
  have hf27 := hts (.fieldLink RX0 27 "FrozenBits$Facts" "measures" "[I") (List.mem_of_getElem? (i := 6) rfl)
  have hf31 := hts (.fieldLink RX0 31 "FrozenBits$Facts" "checks" "[I") (List.mem_of_getElem? (i := 11) rfl)
  refine lv_aload_n hx hb dX0_copyFrom_0 rfl (lv_at hl 0 rfl) ?_
  refine lv_aload_n hx hb dX0_copyFrom_1 rfl (lv_at hl 1 rfl) ?_
  refine va_get (ci := 0) (C := RX0) (T := TX0) (N := 7) hx hb hts hiX0 hown hK hP 3 rfl rfl 0 (by decide) hf9 (fun _ h9 => h9) rfl dX0_copyFrom_2 ?_
  refine va_put (ci := 0) (v := .int (nI (b.1))) (ty := .int) (C := RX0) (T := TX0) (N := 7) hx hb hts hiX0 tyX0 tyX0_ok nmX0 hown hK hP hD hS 0 rfl rfl 0 (by decide) hf9 (fun _ h9 => h9) rfl (by decide +kernel) rfl rfl (Nat.le_of_ble_eq_true rfl) dX0_copyFrom_5 (fun H locs hP hD hS => ?_)
  have hP : va_P D vwCl (zcF cI q0 q1 q2 (b.1, a.2.1, a.2.2.1, a.2.2.2.1, a.2.2.2.2.1, a.2.2.2.2.2.1, a.2.2.2.2.2.2) ++ zcF cI q3 q4 q5 b) H := hP
  have hD : va_D A (zcF cI q0 q1 q2 (b.1, a.2.1, a.2.2.1, a.2.2.2.1, a.2.2.2.2.1, a.2.2.2.2.2.1, a.2.2.2.2.2.2) ++ zcF cI q3 q4 q5 b) := hD
  refine lv_aload_n hx hb dX0_copyFrom_8 rfl (lv_at hl 0 rfl) ?_
  refine lv_aload_n hx hb dX0_copyFrom_9 rfl (lv_at hl 1 rfl) ?_
  refine va_get (ci := 0) (C := RX0) (T := TX0) (N := 7) hx hb hts hiX0 hown hK hP 3 rfl rfl 1 (by decide) hf15 (fun _ h9 => h9) rfl dX0_copyFrom_10 ?_
  refine va_put (ci := 0) (v := .int (nI (b.2.1))) (ty := .int) (C := RX0) (T := TX0) (N := 7) hx hb hts hiX0 tyX0 tyX0_ok nmX0 hown hK hP hD hS 0 rfl rfl 1 (by decide) hf15 (fun _ h9 => h9) rfl (by decide +kernel) rfl rfl (Nat.le_of_ble_eq_true rfl) dX0_copyFrom_13 (fun H locs hP hD hS => ?_)
  have hP : va_P D vwCl (zcF cI q0 q1 q2 (b.1, b.2.1, a.2.2.1, a.2.2.2.1, a.2.2.2.2.1, a.2.2.2.2.2.1, a.2.2.2.2.2.2) ++ zcF cI q3 q4 q5 b) H := hP
  have hD : va_D A (zcF cI q0 q1 q2 (b.1, b.2.1, a.2.2.1, a.2.2.2.1, a.2.2.2.2.1, a.2.2.2.2.2.1, a.2.2.2.2.2.2) ++ zcF cI q3 q4 q5 b) := hD
  refine lv_aload_n hx hb dX0_copyFrom_16 rfl (lv_at hl 0 rfl) ?_
  refine lv_aload_n hx hb dX0_copyFrom_17 rfl (lv_at hl 1 rfl) ?_
  refine va_get (ci := 0) (C := RX0) (T := TX0) (N := 7) hx hb hts hiX0 hown hK hP 3 rfl rfl 2 (by decide) hf18 (fun _ h9 => h9) rfl dX0_copyFrom_18 ?_
  refine va_put (ci := 0) (v := .int (nI (b.2.2.1))) (ty := .int) (C := RX0) (T := TX0) (N := 7) hx hb hts hiX0 tyX0 tyX0_ok nmX0 hown hK hP hD hS 0 rfl rfl 2 (by decide) hf18 (fun _ h9 => h9) rfl (by decide +kernel) rfl rfl (Nat.le_of_ble_eq_true rfl) dX0_copyFrom_21 (fun H locs hP hD hS => ?_)
  have hP : va_P D vwCl (zcF cI q0 q1 q2 (b.1, b.2.1, b.2.2.1, a.2.2.2.1, a.2.2.2.2.1, a.2.2.2.2.2.1, a.2.2.2.2.2.2) ++ zcF cI q3 q4 q5 b) H := hP
  have hD : va_D A (zcF cI q0 q1 q2 (b.1, b.2.1, b.2.2.1, a.2.2.2.1, a.2.2.2.2.1, a.2.2.2.2.2.1, a.2.2.2.2.2.2) ++ zcF cI q3 q4 q5 b) := hD
  refine lv_aload_n hx hb dX0_copyFrom_24 rfl (lv_at hl 0 rfl) ?_
  refine lv_aload_n hx hb dX0_copyFrom_25 rfl (lv_at hl 1 rfl) ?_
  refine va_get (ci := 0) (C := RX0) (T := TX0) (N := 7) hx hb hts hiX0 hown hK hP 3 rfl rfl 3 (by decide) hf21 (fun _ h9 => h9) rfl dX0_copyFrom_26 ?_
  refine va_put (ci := 0) (v := .int (nI (b.2.2.2.1))) (ty := .int) (C := RX0) (T := TX0) (N := 7) hx hb hts hiX0 tyX0 tyX0_ok nmX0 hown hK hP hD hS 0 rfl rfl 3 (by decide) hf21 (fun _ h9 => h9) rfl (by decide +kernel) rfl rfl (Nat.le_of_ble_eq_true rfl) dX0_copyFrom_29 (fun H locs hP hD hS => ?_)
  have hP : va_P D vwCl (zcF cI q0 q1 q2 (b.1, b.2.1, b.2.2.1, b.2.2.2.1, a.2.2.2.2.1, a.2.2.2.2.2.1, a.2.2.2.2.2.2) ++ zcF cI q3 q4 q5 b) H := hP
  have hD : va_D A (zcF cI q0 q1 q2 (b.1, b.2.1, b.2.2.1, b.2.2.2.1, a.2.2.2.2.1, a.2.2.2.2.2.1, a.2.2.2.2.2.2) ++ zcF cI q3 q4 q5 b) := hD
  refine lv_aload_n hx hb dX0_copyFrom_32 rfl (lv_at hl 0 rfl) ?_
  refine lv_aload_n hx hb dX0_copyFrom_33 rfl (lv_at hl 1 rfl) ?_
  refine va_get (ci := 0) (C := RX0) (T := TX0) (N := 7) hx hb hts hiX0 hown hK hP 3 rfl rfl 4 (by decide) hf24 (fun _ h9 => h9) rfl dX0_copyFrom_34 ?_
  refine va_put (ci := 0) (v := .int (nI (b.2.2.2.2.1))) (ty := .int) (C := RX0) (T := TX0) (N := 7) hx hb hts hiX0 tyX0 tyX0_ok nmX0 hown hK hP hD hS 0 rfl rfl 4 (by decide) hf24 (fun _ h9 => h9) rfl (by decide +kernel) rfl rfl (Nat.le_of_ble_eq_true rfl) dX0_copyFrom_37 (fun H locs hP hD hS => ?_)
  have hP : va_P D vwCl (zcF cI q0 q1 q2 (b.1, b.2.1, b.2.2.1, b.2.2.2.1, b.2.2.2.2.1, a.2.2.2.2.2.1, a.2.2.2.2.2.2) ++ zcF cI q3 q4 q5 b) H := hP
  have hD : va_D A (zcF cI q0 q1 q2 (b.1, b.2.1, b.2.2.1, b.2.2.2.1, b.2.2.2.2.1, a.2.2.2.2.2.1, a.2.2.2.2.2.2) ++ zcF cI q3 q4 q5 b) := hD
  refine lv_aload_n hx hb dX0_copyFrom_40 rfl (lv_at hl 1 rfl) ?_
  refine va_get (ci := 0) (C := RX0) (T := TX0) (N := 7) hx hb hts hiX0 hown hK hP 3 rfl rfl 5 (by decide) hf27 (fun _ h9 => h9) rfl dX0_copyFrom_41 ?_
  refine lv_iconst (v := 0) hx hb dX0_copyFrom_44 (by decide) ?_
  refine lv_aload_n hx hb dX0_copyFrom_45 rfl (lv_at hl 0 rfl) ?_
  refine va_get (ci := 0) (C := RX0) (T := TX0) (N := 7) hx hb hts hiX0 hown hK hP 0 rfl rfl 5 (by decide) hf27 (fun _ h9 => h9) rfl dX0_copyFrom_46 ?_
  refine lv_iconst (v := 0) hx hb dX0_copyFrom_49 (by decide) ?_
  refine lv_bipush (v := 16) hx hb dX0_copyFrom_50 (by decide) ?_
  refine zz_copy (i := 16) hx hb (hml.trans hl.1.symm) hown (hts (.methodLink RX0 34 arraycopyName) (List.mem_of_getElem? (i := 7) rfl)) (hts (.native arraycopyName) (List.mem_of_getElem? (i := 8) rfl)) (hts (.static arraycopyName) (List.mem_of_getElem? (i := 9) rfl)) (hts (.initialized "java/lang/System") (List.mem_of_getElem? (i := 10) rfl)) hK hP hD hS 4 1 0 0 rfl rfl rfl rfl (show (16 : Int32) = nI 16 from rfl) (by decide) (by decide) (by decide) (Nat.le_of_ble_eq_true rfl) (fun _ => rfl) dX0_copyFrom_52 (fun H locs hP hD hS => ?_)
  have hP : va_P D vwCl (zcF cI q0 q1 q2 (b.1, b.2.1, b.2.2.1, b.2.2.2.1, b.2.2.2.2.1, va_cpy b.2.2.2.2.2.1 a.2.2.2.2.2.1 0 0 16, a.2.2.2.2.2.2) ++ zcF cI q3 q4 q5 b) H := hP
  have hD : va_D A (zcF cI q0 q1 q2 (b.1, b.2.1, b.2.2.1, b.2.2.2.1, b.2.2.2.2.1, va_cpy b.2.2.2.2.2.1 a.2.2.2.2.2.1 0 0 16, a.2.2.2.2.2.2) ++ zcF cI q3 q4 q5 b) := hD
  replace hP := zP_arr hP (k := 1) (g := b.2.2.2.2.2.1) rfl (fun j hj => sb_cpy0 hj)
  replace hD := zD_same (ws' := zcF cI q0 q1 q2 (b.1, b.2.1, b.2.2.1, b.2.2.2.1, b.2.2.2.2.1, b.2.2.2.2.2.1, a.2.2.2.2.2.2) ++ zcF cI q3 q4 q5 b) hD rfl
  have hP : va_P D vwCl (zcF cI q0 q1 q2 (b.1, b.2.1, b.2.2.1, b.2.2.2.1, b.2.2.2.2.1, b.2.2.2.2.2.1, a.2.2.2.2.2.2) ++ zcF cI q3 q4 q5 b) H := hP
  have hD : va_D A (zcF cI q0 q1 q2 (b.1, b.2.1, b.2.2.1, b.2.2.2.1, b.2.2.2.2.1, b.2.2.2.2.2.1, a.2.2.2.2.2.2) ++ zcF cI q3 q4 q5 b) := hD
  refine lv_aload_n hx hb dX0_copyFrom_55 rfl (lv_at hl 1 rfl) ?_
  refine va_get (ci := 0) (C := RX0) (T := TX0) (N := 7) hx hb hts hiX0 hown hK hP 3 rfl rfl 6 (by decide) hf31 (fun _ h9 => h9) rfl dX0_copyFrom_56 ?_
  refine lv_iconst (v := 0) hx hb dX0_copyFrom_59 (by decide) ?_
  refine lv_aload_n hx hb dX0_copyFrom_60 rfl (lv_at hl 0 rfl) ?_
  refine va_get (ci := 0) (C := RX0) (T := TX0) (N := 7) hx hb hts hiX0 hown hK hP 0 rfl rfl 6 (by decide) hf31 (fun _ h9 => h9) rfl dX0_copyFrom_61 ?_
  refine lv_iconst (v := 0) hx hb dX0_copyFrom_64 (by decide) ?_
  refine lv_iconst (v := 3) hx hb dX0_copyFrom_65 (by decide) ?_
  refine zz_copy (i := 3) hx hb (hml.trans hl.1.symm) hown (hts (.methodLink RX0 34 arraycopyName) (List.mem_of_getElem? (i := 7) rfl)) (hts (.native arraycopyName) (List.mem_of_getElem? (i := 8) rfl)) (hts (.static arraycopyName) (List.mem_of_getElem? (i := 9) rfl)) (hts (.initialized "java/lang/System") (List.mem_of_getElem? (i := 10) rfl)) hK hP hD hS 5 2 0 0 rfl rfl rfl rfl (show (3 : Int32) = nI 3 from rfl) (by decide) (by decide) (by decide) (Nat.le_of_ble_eq_true rfl) (fun _ => rfl) dX0_copyFrom_66 (fun H locs hP hD hS => ?_)
  have hP : va_P D vwCl (zcF cI q0 q1 q2 (b.1, b.2.1, b.2.2.1, b.2.2.2.1, b.2.2.2.2.1, b.2.2.2.2.2.1, va_cpy b.2.2.2.2.2.2 a.2.2.2.2.2.2 0 0 3) ++ zcF cI q3 q4 q5 b) H := hP
  have hD : va_D A (zcF cI q0 q1 q2 (b.1, b.2.1, b.2.2.1, b.2.2.2.1, b.2.2.2.2.1, b.2.2.2.2.2.1, va_cpy b.2.2.2.2.2.2 a.2.2.2.2.2.2 0 0 3) ++ zcF cI q3 q4 q5 b) := hD
  replace hP := zP_arr hP (k := 2) (g := b.2.2.2.2.2.2) rfl (fun j hj => sb_cpy0 hj)
  replace hD := zD_same (ws' := zcF cI q0 q1 q2 (b.1, b.2.1, b.2.2.1, b.2.2.2.1, b.2.2.2.2.1, b.2.2.2.2.2.1, b.2.2.2.2.2.2) ++ zcF cI q3 q4 q5 b) hD rfl
  have hP : va_P D vwCl (zcF cI q0 q1 q2 (b.1, b.2.1, b.2.2.1, b.2.2.2.1, b.2.2.2.2.1, b.2.2.2.2.2.1, b.2.2.2.2.2.2) ++ zcF cI q3 q4 q5 b) H := hP
  have hD : va_D A (zcF cI q0 q1 q2 (b.1, b.2.1, b.2.2.1, b.2.2.2.1, b.2.2.2.2.1, b.2.2.2.2.2.1, b.2.2.2.2.2.2) ++ zcF cI q3 q4 q5 b) := hD
  exact W.vret hx hb hr (fun t9 ht hW => ⟨⟨b, rfl, (rfl), zP_ht ht hP⟩, hS.F ht⟩) hS.2.2 dX0_copyFrom_69
set_option maxHeartbeats 4000000 in
set_option maxRecDepth 100000 in
theorem c_X0_holds (l : Launch) (D : va_G) (cI cZ : ClassId) (hs ta : Nat) (q0 : Nat) (q1 : Nat) (q2 : Nat) (a : ZA) (w : Nat) (hI : zInv a) (hw : w < 65536) : Met l yX0_holds wsX0_holds ({ frames := 1, cells := 0, slots := 0, locals := 20 }) (va_Pc [.ref q0, .int (nI w)] (zPre D (zTy cI cZ) hs ta (zcF cI q0 q1 q2 a))) (vp_Si (fun r : Int32 => r = zB (zhd a w = true))) 0 0 (fun _ => False) := by
  refine Met.ofW (cc := cX0_holds) (maxL := 3) (ret := (some .boolean)) (by decide) rfl ?_
  intro p e s m args below meth c s₁ B hml hv0
  obtain ⟨rfl, hP, hD, hG⟩ := hv0
  have hx := B.exec
  have hb := B.bytes
  have hr := B.returns
  have hts := atoms_spec (ws := wsX0_holds) B.pre
  have hown : s.vm.findClass RX0 = some m.cls := findClass_of_methodNamed B.named
  have hlocks := B.notSynchronized
  have hK := hG.1
  have hS : va_S (zA hs) s.heap s.heap [] := va_S.rf
  have hAz : ∀ q, zA hs q → hs ≤ q := fun _ h => h
  have hl := lv_entry ([.ref q0, .int (nI w)]) (n := 3) (Nat.le_of_ble_eq_true rfl)
  rw [lg_entry_eq]
  generalize (lg_sl ([.ref q0, .int (nI w)]) ++ List.replicate (3 - (lg_sl ([.ref q0, .int (nI w)])).length) Slot.unset).toArray = ls at hl ⊢
  have hl : lv_has ls 3 [(0, .ref q0), (1, .int (nI w))] := hl
  have hf31 := hts (.fieldLink RX0 31 "FrozenBits$Facts" "checks" "[I") (List.mem_of_getElem? (i := 1) rfl)
  have hiX0 : ∀ w ∈ u_ws RX0 TX0 7, w ∈ wsX0_holds := fun w h => List.mem_cons_of_mem _ (List.mem_append_right _ h)
  refine lv_iconst (v := 0) hx hb dX0_holds_0 (by decide) ?_
  refine lv_istore_n (lv' := [(2, .int 0), (0, .ref q0), (1, .int (nI w))]) hx hb dX0_holds_1 rfl hl (by decide) rfl (fun ls hl => ?_)
  have hl : lv_has ls 3 [(2, .int (nI 0)), (0, .ref q0), (1, .int (nI w))] := hl
  refine zz_forJ (nL := 3) (3) (fun i => [(2, .int (nI i)), (0, .ref q0), (1, .int (nI w))]) (J := fun i => ∀ j, j < i → zpc (w &&& zck a j) % 2 = 0) ?_ ?_ (fun j h => absurd h (Nat.not_lt_zero _)) (lv_sub hl [0, 1, 2] rfl)
  · intro hJ ls hl
    refine lv_iload_n hx hb dX0_holds_2 rfl (lv_at hl 0 rfl) ?_
    refine lv_iconst (v := 3) hx hb dX0_holds_3 (by decide) ?_
    refine lv_icmp_ge (tgt := 31) hx hb dX0_holds_4 (by decide) (fun c_1 => ?_) (fun c_1 => ?_)
    · replace c_1 := Int32.not_lt.mpr c_1
      refine lv_iconst (v := 1) hx hb dX0_holds_31 (by decide) ?_
      exact W.zret (v := 1) (ty := .boolean) hx hb hr (rfl) (fun t9 ht hW => ⟨_, rfl, (zB_1 (zhd_t hJ)), ht⟩) (fun _ h => absurd h List.not_mem_nil) dX0_holds_32
    · replace c_1 := Int32.not_le.mp c_1
      exact absurd c_1 (nI_nlt (Nat.le_refl _) (by decide))
  · intro i hi hJ ihi ls hl
    refine lv_iload_n hx hb dX0_holds_2 rfl (lv_at hl 0 rfl) ?_
    refine lv_iconst (v := 3) hx hb dX0_holds_3 (by decide) ?_
    refine lv_icmp_ge (tgt := 31) hx hb dX0_holds_4 (by decide) (fun c_2 => ?_) (fun c_2 => ?_)
    · replace c_2 := Int32.not_lt.mpr c_2
      exact absurd (nI_lt hi (by decide)) c_2
    · replace c_2 := Int32.not_le.mp c_2
      refine lv_iload_n hx hb dX0_holds_7 rfl (lv_at hl 2 rfl) ?_
      refine lv_aload_n hx hb dX0_holds_8 rfl (lv_at hl 1 rfl) ?_
      refine va_get (ci := 0) (C := RX0) (T := TX0) (N := 7) hx hb hts hiX0 hown hK hP 0 rfl rfl 6 (by decide) hf31 (fun _ h9 => h9) rfl dX0_holds_9 ?_
      refine lv_iload_n hx hb dX0_holds_12 rfl (lv_at hl 0 rfl) ?_
      refine zz_iald hx hb hK hP 2 0 rfl rfl (i := i) rfl (by omega) (by decide) dX0_holds_13 ?_
      refine zz_topi (nI (zck a i)) ((zck_eq hI hi).1) ?_
      refine lv_iand hx hb dX0_holds_14 ?_
      refine zz_topi (nI (w &&& (zck a i))) (zz_andn rfl rfl) ?_
      refine zz_pSi (As := [.int (nI (w &&& (zck a i)))]) (rest := []) ⟨hx, hb, hml, hown, hts⟩ (c_J6_bitCount_0f7a4 l (w &&& (zck a i)) (Nat.lt_of_le_of_lt Nat.and_le_left hw)) (va_cwS 1 hts gX0_holds_J6_bitCount_0f7a4 rfl rfl rfl (by decide +kernel) ⟨Nat.le_of_ble_eq_true rfl, Nat.le_of_ble_eq_true rfl⟩) rfl hl.1 rfl (Nat.le_of_ble_eq_true rfl) ⟨Nat.zero_le _, Nat.zero_le _⟩ dX0_holds_15 (fun r_3 er_3 => ?_)
      subst er_3
      refine lv_iconst (v := 1) hx hb dX0_holds_18 (by decide) ?_
      refine lv_iand hx hb dX0_holds_19 ?_
      refine zz_topi (nI ((zpc (w &&& (zck a i))) &&& 1)) (zz_andn rfl (show (1 : Int32) = nI 1 from rfl)) ?_
      refine lv_if_eq (tgt := 25) hx hb dX0_holds_20 (by decide) (fun c_4 => ?_) (fun c_4 => ?_)
      · rw [Nat.and_one_is_mod] at c_4
        replace c_4 := zI_0 (by have := zpc_le (w &&& zck a i); omega) c_4
        refine lv_iinc (v := (nI (i + 1))) (lv' := [(2, .int (nI (i + 1))), (0, .ref q0), (1, .int (nI w))]) hx hb dX0_holds_25 hl (k := 0) rfl (zz_inc _) (by decide) rfl (fun ls hl => ?_)
        refine lv_goto (tgt := 2) hx hb dX0_holds_28 (by decide) ?_
        have hl : lv_has ls 3 [(2, .int (nI ((i + 1)))), (0, .ref q0), (1, .int (nI w))] := hl
        exact ihi (fun j hj => (Nat.lt_or_ge j i).elim (hJ j) (fun q => (show j = i by omega) ▸ c_4)) ls (lv_sub hl [0, 1, 2] rfl)
      · rw [Nat.and_one_is_mod] at c_4
        replace c_4 := zI_n0 c_4
        refine lv_iconst (v := 0) hx hb dX0_holds_23 (by decide) ?_
        exact W.zret (v := 0) (ty := .boolean) hx hb hr (rfl) (fun t9 ht hW => ⟨_, rfl, (zB_0 (zhd_f hi c_4)), ht⟩) (fun _ h => absurd h List.not_mem_nil) dX0_holds_24
