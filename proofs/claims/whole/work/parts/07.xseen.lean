set_option maxHeartbeats 4000000 in
set_option maxRecDepth 100000 in
theorem c_X2_upperLoss (l : Launch) (D : va_G) (cI cZ : ClassId) (hs ta : Nat) (q : Nat → Nat) (a : ZA) (b0 : ZA) (b1 : ZA) (ik : Nat) (ha : Nat → Int32) (t : ZR) (g : ZR) (k : Nat) (hI : zInv a) (hk : k < 16) : Met l yX2_upperLoss wsX2_upperLoss ({ frames := 1, cells := 0, slots := 0, locals := 20 }) (va_Pc [.ref (q 0), .int (nI k)] (zPre D (zTy cI cZ) hs ta (zcX cI q a b0 b1 ik ha t g))) (vp_Sl (fun r : Int64 => r = lN (zlos a k))) 0 0 (fun _ => False) := by
  refine Met.ofW (cc := cX2_upperLoss) (maxL := 8) (ret := (some .long)) (by decide) rfl ?_
  intro p e s m args below meth c s₁ B hml hv0
  obtain ⟨rfl, hP, hD, hG⟩ := hv0
  have hx := B.exec
  have hb := B.bytes
  have hr := B.returns
  have hts := atoms_spec (ws := wsX2_upperLoss) B.pre
  have hown : s.vm.findClass RX2 = some m.cls := findClass_of_methodNamed B.named
  have hlocks := B.notSynchronized
  have hK := hG.1
  have hS : va_S (zA hs) s.heap s.heap [] := va_S.rf
  have hAz : ∀ q, zA hs q → hs ≤ q := fun _ h => h
  have hl := lv_entry ([.ref (q 0), .int (nI k)]) (n := 8) (Nat.le_of_ble_eq_true rfl)
  rw [lg_entry_eq]
  generalize (lg_sl ([.ref (q 0), .int (nI k)]) ++ List.replicate (8 - (lg_sl ([.ref (q 0), .int (nI k)])).length) Slot.unset).toArray = ls at hl ⊢
  have hl : lv_has ls 8 [(0, .ref (q 0)), (1, .int (nI k))] := hl
  have hf10 := hts (.fieldLink RX2 10 "FrozenBits" "now" "LFrozenBits$Facts;") (List.mem_of_getElem? (i := 1) rfl)
  have hiX2 : ∀ w ∈ u_ws RX2 TX2 7, w ∈ wsX2_upperLoss := fun w h => List.mem_cons_of_mem _ (List.mem_append_left _ (List.mem_append_right _ h))
  have hn50 := hG.2.1 (.fieldLinkNest "FrozenBits" 50 "FrozenBits$Facts" "top" "I" "FrozenBits") (List.mem_of_getElem? (i := 1) rfl)
  have hiX0 : ∀ w ∈ u_ws RX0 TX0 7, w ∈ wsX2_upperLoss := fun w h => List.mem_cons_of_mem _ (List.mem_append_right _ h)
  have hn47 := hG.2.1 (.fieldLinkNest "FrozenBits" 47 "FrozenBits$Facts" "of" "I" "FrozenBits") (List.mem_of_getElem? (i := 2) rfl)
  have hc182 := hts (.constantLong RX2 182 (2)) (List.mem_of_getElem? (i := 2) rfl)
  refine lv_aload_n hx hb dX2_upperLoss_0 rfl (lv_at hl 0 rfl) ?_
  refine va_get (ci := 2) (C := RX2) (T := TX2) (N := 7) hx hb hts hiX2 hown hK hP 0 rfl rfl 0 (by decide) hf10 (fun _ h9 => h9) rfl dX2_upperLoss_1 ?_
  refine va_getN (ci := 0) (C := RX0) (T := TX0) (N := 7) hx hb hts hiX0 hown hK hP 1 rfl rfl 1 (by decide) (va_Nw.use rfl hn50) (fun _ h9 => h9) rfl dX2_upperLoss_4 ?_
  refine lv_i2l hx hb dX2_upperLoss_7 rfl ?_
  refine zz_topl (lN a.2.1) (nI_l (by have := hI.2.1; omega)) ?_
  refine lv_lstore_n (lv' := [(2, .long (lN a.2.1)), (0, .ref (q 0)), (1, .int (nI k))]) hx hb dX2_upperLoss_8 rfl hl (by decide) rfl (fun ls hl => ?_)
  refine lv_aload_n hx hb dX2_upperLoss_9 rfl (lv_at hl 1 rfl) ?_
  refine va_get (ci := 2) (C := RX2) (T := TX2) (N := 7) hx hb hts hiX2 hown hK hP 0 rfl rfl 0 (by decide) hf10 (fun _ h9 => h9) rfl dX2_upperLoss_10 ?_
  refine va_getN (ci := 0) (C := RX0) (T := TX0) (N := 7) hx hb hts hiX0 hown hK hP 1 rfl rfl 2 (by decide) (va_Nw.use rfl hn47) (fun _ h9 => h9) rfl dX2_upperLoss_13 ?_
  refine lv_i2l hx hb dX2_upperLoss_16 rfl ?_
  refine zz_topl (lN a.2.2.1) (nI_l (by have := hI.2.1; omega)) ?_
  refine lv_lstore (lv' := [(4, .long (lN a.2.2.1)), (2, .long (lN a.2.1)), (0, .ref (q 0)), (1, .int (nI k))]) hx hb dX2_upperLoss_17 hl (by decide) rfl (fun ls hl => ?_)
  refine lv_aload_n hx hb dX2_upperLoss_19 rfl (lv_at hl 2 rfl) ?_
  refine zz_cVi (cs := zcX cI q a b0 b1 ik ha t g) (As := []) (rest := []) ⟨hx, hb, hml, hown, hts⟩ (c_X2_places l D cI cZ hs ta q a b0 b1 ik ha t g hI.1.2) (cwV 0 hts gX2_upperLoss_X2_places rfl rfl rfl (by decide +kernel) ⟨Nat.le_of_ble_eq_true rfl, Nat.le_of_ble_eq_true rfl⟩) (va_recv hK hP (ci := 2) (q0 := 0) rfl rfl) hP hD hG hS hAz rfl hl.1 rfl (Nat.le_of_ble_eq_true rfl) ⟨Nat.zero_le _, Nat.zero_le _⟩ dX2_upperLoss_20 (fun r_1 er_1 => ?_)
  subst er_1
  refine lv_iconst (v := 1) hx hb dX2_upperLoss_23 (by decide) ?_
  refine lv_ishr hx hb dX2_upperLoss_24 ?_
  refine zz_topi (nI ((2 ^ a.1) >>> 1)) (zz_shrn rfl (show (1 : Int32) = nI 1 from rfl) (by have := zNp hI; omega) (by decide)) ?_
  refine lv_istore (lv' := [(6, .int (nI ((2 ^ a.1) >>> 1))), (4, .long (lN a.2.2.1)), (2, .long (lN a.2.1)), (0, .ref (q 0)), (1, .int (nI k))]) hx hb dX2_upperLoss_25 hl (by decide) rfl (fun ls hl => ?_)
  have hl : lv_has ls 8 [(6, .int (nI (zhf a.1 0))), (4, .long (lN (zup a.2.1 a.2.2.1 a.1 k 0).2)), (2, .long (lN (zup a.2.1 a.2.2.1 a.1 k 0).1)), (0, .ref (q 0)), (1, .int (nI k))] := hl
  refine zz_forJ (nL := 8) (a.1) (fun i => [(6, .int (nI (zhf a.1 i))), (2, .long (lN (zup a.2.1 a.2.2.1 a.1 k i).1)), (4, .long (lN (zup a.2.1 a.2.2.1 a.1 k i).2)), (0, .ref (q 0)), (1, .int (nI k))]) (J := fun _ => True) ?_ ?_ (trivial) (lv_sub hl [0, 2, 1, 3, 4] rfl)
  · intro hJ ls hl
    refine lv_iload hx hb dX2_upperLoss_27 (lv_at hl 0 rfl) ?_
    refine lv_if_le (tgt := 86) hx hb dX2_upperLoss_29 (by decide) (fun c_2 => ?_) (fun c_2 => ?_)
    · replace c_2 := Int32.not_lt.mpr c_2
      refine lv_lload_n hx hb dX2_upperLoss_86 rfl (lv_at hl 1 rfl) ?_
      exact W.lret (v := (lN (zup a.2.1 a.2.2.1 a.1 k a.1).1)) hx hb hr (fun t9 ht hW => ⟨_, rfl, (by rfl), ht⟩) (fun _ h => absurd h List.not_mem_nil) dX2_upperLoss_87
    · replace c_2 := Int32.not_le.mp c_2
      exact absurd c_2 (by unfold zhf; rw [Nat.sub_self]; decide)
  · intro i hi hJ ihi ls hl
    refine lv_iload hx hb dX2_upperLoss_27 (lv_at hl 0 rfl) ?_
    refine lv_if_le (tgt := 86) hx hb dX2_upperLoss_29 (by decide) (fun c_3 => ?_) (fun c_3 => ?_)
    · replace c_3 := Int32.not_lt.mpr c_3
      exact absurd (nI_lt (zhf_pos hi) (by have := zhf_le (i := i) hI.1.2; omega)) c_3
    · replace c_3 := Int32.not_le.mp c_3
      refine lv_iload_n hx hb dX2_upperLoss_32 rfl (lv_at hl 4 rfl) ?_
      refine lv_iload hx hb dX2_upperLoss_33 (lv_at hl 0 rfl) ?_
      refine lv_iand hx hb dX2_upperLoss_35 ?_
      refine zz_topi (nI (k &&& (zhf a.1 i))) (zz_andn rfl rfl) ?_
      refine lv_if_eq (tgt := 43) hx hb dX2_upperLoss_36 (by decide) (fun c_4 => ?_) (fun c_4 => ?_)
      · replace c_4 := (zhf_bit hi (by omega)).mp (zI_0 (Nat.lt_of_le_of_lt Nat.and_le_left (by omega)) c_4)
        refine lv_iconst (v := 0) hx hb dX2_upperLoss_43 (by decide) ?_
        refine lv_istore (lv' := [(7, .int 0), (6, .int (nI (zhf a.1 i))), (2, .long (lN (zup a.2.1 a.2.2.1 a.1 k i).1)), (4, .long (lN (zup a.2.1 a.2.2.1 a.1 k i).2)), (0, .ref (q 0)), (1, .int (nI k))]) hx hb dX2_upperLoss_44 hl (by decide) rfl (fun ls hl => ?_)
        refine lv_iload hx hb dX2_upperLoss_46 (lv_at hl 0 rfl) ?_
        refine lv_if_eq (tgt := 57) hx hb dX2_upperLoss_48 (by decide) (fun c_5 => ?_) (fun c_5 => ?_)
        · refine lv_ldc2 hx hb hown hc182 dX2_upperLoss_57 ?_
          refine lv_lload_n hx hb dX2_upperLoss_60 rfl (lv_at hl 2 rfl) ?_
          refine lv_lmul hx hb dX2_upperLoss_61 ?_
          refine lv_lload hx hb dX2_upperLoss_62 (lv_at hl 3 rfl) ?_
          refine lv_lmul hx hb dX2_upperLoss_64 ?_
          refine lv_lload_n hx hb dX2_upperLoss_65 rfl (lv_at hl 2 rfl) ?_
          refine lv_lload_n hx hb dX2_upperLoss_66 rfl (lv_at hl 2 rfl) ?_
          refine lv_lmul hx hb dX2_upperLoss_67 ?_
          refine lv_lsub hx hb dX2_upperLoss_68 ?_
          refine zz_topl (lN (2 * (zup a.2.1 a.2.2.1 a.1 k i).1 * (zup a.2.1 a.2.2.1 a.1 k i).2 - (zup a.2.1 a.2.2.1 a.1 k i).1 * (zup a.2.1 a.2.2.1 a.1 k i).1)) (zup_f (zup_le a.1 k hI.2.1.1 i)) ?_
          refine lv_lstore_n (lv' := [(2, .long (lN (2 * (zup a.2.1 a.2.2.1 a.1 k i).1 * (zup a.2.1 a.2.2.1 a.1 k i).2 - (zup a.2.1 a.2.2.1 a.1 k i).1 * (zup a.2.1 a.2.2.1 a.1 k i).1))), (7, .int 0), (6, .int (nI (zhf a.1 i))), (4, .long (lN (zup a.2.1 a.2.2.1 a.1 k i).2)), (0, .ref (q 0)), (1, .int (nI k))]) hx hb dX2_upperLoss_69 rfl hl (by decide) rfl (fun ls hl => ?_)
          refine lv_lload hx hb dX2_upperLoss_70 (lv_at hl 3 rfl) ?_
          refine lv_lload hx hb dX2_upperLoss_72 (lv_at hl 3 rfl) ?_
          refine lv_lmul hx hb dX2_upperLoss_74 ?_
          refine zz_topl (lN ((zup a.2.1 a.2.2.1 a.1 k i).2 * (zup a.2.1 a.2.2.1 a.1 k i).2)) (lN_mul _ _) ?_
          refine lv_lstore (lv' := [(4, .long (lN ((zup a.2.1 a.2.2.1 a.1 k i).2 * (zup a.2.1 a.2.2.1 a.1 k i).2))), (2, .long (lN (2 * (zup a.2.1 a.2.2.1 a.1 k i).1 * (zup a.2.1 a.2.2.1 a.1 k i).2 - (zup a.2.1 a.2.2.1 a.1 k i).1 * (zup a.2.1 a.2.2.1 a.1 k i).1))), (7, .int 0), (6, .int (nI (zhf a.1 i))), (0, .ref (q 0)), (1, .int (nI k))]) hx hb dX2_upperLoss_75 hl (by decide) rfl (fun ls hl => ?_)
          refine lv_iload hx hb dX2_upperLoss_77 (lv_at hl 3 rfl) ?_
          refine lv_iconst (v := 1) hx hb dX2_upperLoss_79 (by decide) ?_
          refine lv_ishr hx hb dX2_upperLoss_80 ?_
          refine zz_topi (nI (zhf a.1 (i + 1))) (by rw [zz_shrn rfl (show (1 : Int32) = nI 1 from rfl) (by have := zhf_le (i := i) hI.1.2; omega) (by decide), zhf_next]) ?_
          refine lv_istore (lv' := [(6, .int (nI (zhf a.1 (i + 1)))), (4, .long (lN ((zup a.2.1 a.2.2.1 a.1 k i).2 * (zup a.2.1 a.2.2.1 a.1 k i).2))), (2, .long (lN (2 * (zup a.2.1 a.2.2.1 a.1 k i).1 * (zup a.2.1 a.2.2.1 a.1 k i).2 - (zup a.2.1 a.2.2.1 a.1 k i).1 * (zup a.2.1 a.2.2.1 a.1 k i).1))), (7, .int 0), (0, .ref (q 0)), (1, .int (nI k))]) hx hb dX2_upperLoss_81 hl (by decide) rfl (fun ls hl => ?_)
          refine lv_goto (tgt := 27) hx hb dX2_upperLoss_83 (by decide) ?_
          rw [show ((lN (2 * (zup a.2.1 a.2.2.1 a.1 k i).1 * (zup a.2.1 a.2.2.1 a.1 k i).2 - (zup a.2.1 a.2.2.1 a.1 k i).1 * (zup a.2.1 a.2.2.1 a.1 k i).1)) : Int64) = (lN (zup a.2.1 a.2.2.1 a.1 k (i + 1)).1) from by simp only [zup, c_3, c_4, c_5, not_true_eq_false, not_false_eq_true, and_self, and_true, true_and, and_false, false_and, or_self, or_true, true_or, or_false, false_or, if_true, if_false, ↓reduceIte, Bool.false_eq_true, iff_self, iff_true, iff_false, true_iff, false_iff, Nat.add_zero]] at hl
          have hl : lv_has ls 8 [(6, .int (nI (zhf a.1 (i + 1)))), (4, .long (lN (zup a.2.1 a.2.2.1 a.1 k (i + 1)).2)), (2, .long (lN (zup a.2.1 a.2.2.1 a.1 k (i + 1)).1)), (7, .int 0), (0, .ref (q 0)), (1, .int (nI k))] := hl
          exact ihi (trivial) ls (lv_sub hl [0, 2, 1, 4, 5] rfl)
        · exact absurd c_5 (by decide)
      · replace c_4 := Bool.of_not_eq_false (fun q => zI_n0 c_4 ((zhf_bit hi (by omega)).mpr q))
        refine lv_iconst (v := 1) hx hb dX2_upperLoss_39 (by decide) ?_
        refine lv_goto (tgt := 44) hx hb dX2_upperLoss_40 (by decide) ?_
        refine lv_istore (lv' := [(7, .int 1), (6, .int (nI (zhf a.1 i))), (2, .long (lN (zup a.2.1 a.2.2.1 a.1 k i).1)), (4, .long (lN (zup a.2.1 a.2.2.1 a.1 k i).2)), (0, .ref (q 0)), (1, .int (nI k))]) hx hb dX2_upperLoss_44 hl (by decide) rfl (fun ls hl => ?_)
        refine lv_iload hx hb dX2_upperLoss_46 (lv_at hl 0 rfl) ?_
        refine lv_if_eq (tgt := 57) hx hb dX2_upperLoss_48 (by decide) (fun c_6 => ?_) (fun c_6 => ?_)
        · exact absurd c_6 (by decide)
        · refine lv_lload_n hx hb dX2_upperLoss_51 rfl (lv_at hl 2 rfl) ?_
          refine lv_lload_n hx hb dX2_upperLoss_52 rfl (lv_at hl 2 rfl) ?_
          refine lv_lmul hx hb dX2_upperLoss_53 ?_
          refine lv_goto (tgt := 69) hx hb dX2_upperLoss_54 (by decide) ?_
          refine zz_topl (lN ((zup a.2.1 a.2.2.1 a.1 k i).1 * (zup a.2.1 a.2.2.1 a.1 k i).1)) (lN_mul _ _) ?_
          refine lv_lstore_n (lv' := [(2, .long (lN ((zup a.2.1 a.2.2.1 a.1 k i).1 * (zup a.2.1 a.2.2.1 a.1 k i).1))), (7, .int 1), (6, .int (nI (zhf a.1 i))), (4, .long (lN (zup a.2.1 a.2.2.1 a.1 k i).2)), (0, .ref (q 0)), (1, .int (nI k))]) hx hb dX2_upperLoss_69 rfl hl (by decide) rfl (fun ls hl => ?_)
          refine lv_lload hx hb dX2_upperLoss_70 (lv_at hl 3 rfl) ?_
          refine lv_lload hx hb dX2_upperLoss_72 (lv_at hl 3 rfl) ?_
          refine lv_lmul hx hb dX2_upperLoss_74 ?_
          refine zz_topl (lN ((zup a.2.1 a.2.2.1 a.1 k i).2 * (zup a.2.1 a.2.2.1 a.1 k i).2)) (lN_mul _ _) ?_
          refine lv_lstore (lv' := [(4, .long (lN ((zup a.2.1 a.2.2.1 a.1 k i).2 * (zup a.2.1 a.2.2.1 a.1 k i).2))), (2, .long (lN ((zup a.2.1 a.2.2.1 a.1 k i).1 * (zup a.2.1 a.2.2.1 a.1 k i).1))), (7, .int 1), (6, .int (nI (zhf a.1 i))), (0, .ref (q 0)), (1, .int (nI k))]) hx hb dX2_upperLoss_75 hl (by decide) rfl (fun ls hl => ?_)
          refine lv_iload hx hb dX2_upperLoss_77 (lv_at hl 3 rfl) ?_
          refine lv_iconst (v := 1) hx hb dX2_upperLoss_79 (by decide) ?_
          refine lv_ishr hx hb dX2_upperLoss_80 ?_
          refine zz_topi (nI (zhf a.1 (i + 1))) (by rw [zz_shrn rfl (show (1 : Int32) = nI 1 from rfl) (by have := zhf_le (i := i) hI.1.2; omega) (by decide), zhf_next]) ?_
          refine lv_istore (lv' := [(6, .int (nI (zhf a.1 (i + 1)))), (4, .long (lN ((zup a.2.1 a.2.2.1 a.1 k i).2 * (zup a.2.1 a.2.2.1 a.1 k i).2))), (2, .long (lN ((zup a.2.1 a.2.2.1 a.1 k i).1 * (zup a.2.1 a.2.2.1 a.1 k i).1))), (7, .int 1), (0, .ref (q 0)), (1, .int (nI k))]) hx hb dX2_upperLoss_81 hl (by decide) rfl (fun ls hl => ?_)
          refine lv_goto (tgt := 27) hx hb dX2_upperLoss_83 (by decide) ?_
          rw [show ((lN ((zup a.2.1 a.2.2.1 a.1 k i).1 * (zup a.2.1 a.2.2.1 a.1 k i).1)) : Int64) = (lN (zup a.2.1 a.2.2.1 a.1 k (i + 1)).1) from by simp only [zup, c_3, c_4, c_6, not_true_eq_false, not_false_eq_true, and_self, and_true, true_and, and_false, false_and, or_self, or_true, true_or, or_false, false_or, if_true, if_false, ↓reduceIte, Bool.false_eq_true, iff_self, iff_true, iff_false, true_iff, false_iff, Nat.add_zero]] at hl
          have hl : lv_has ls 8 [(6, .int (nI (zhf a.1 (i + 1)))), (4, .long (lN (zup a.2.1 a.2.2.1 a.1 k (i + 1)).2)), (2, .long (lN (zup a.2.1 a.2.2.1 a.1 k (i + 1)).1)), (7, .int 1), (0, .ref (q 0)), (1, .int (nI k))] := hl
          exact ihi (trivial) ls (lv_sub hl [0, 2, 1, 4, 5] rfl)
set_option maxHeartbeats 4000000 in
set_option maxRecDepth 100000 in
theorem c_X2_lowerLoss (l : Launch) (D : va_G) (cI cZ : ClassId) (hs ta : Nat) (q : Nat → Nat) (a : ZA) (b0 : ZA) (b1 : ZA) (ik : Nat) (ha : Nat → Int32) (t : ZR) (g : ZR) (hI : zInv a) : Met l yX2_lowerLoss wsX2_lowerLoss ({ frames := 0, cells := 0, slots := 0, locals := 0 }) (va_Pc [.ref (q 0)] (zPre D (zTy cI cZ) hs ta (zcX cI q a b0 b1 ik ha t g))) (vp_Sl (fun r : Int64 => r = lN (zlo a.2.2.1 a.1))) 0 0 (fun _ => False) := by
  refine Met.ofW (cc := cX2_lowerLoss) (maxL := 4) (ret := (some .long)) (by decide) rfl ?_
  intro p e s m args below meth c s₁ B hml hv0
  obtain ⟨rfl, hP, hD, hG⟩ := hv0
  have hx := B.exec
  have hb := B.bytes
  have hr := B.returns
  have hts := atoms_spec (ws := wsX2_lowerLoss) B.pre
  have hown : s.vm.findClass RX2 = some m.cls := findClass_of_methodNamed B.named
  have hlocks := B.notSynchronized
  have hK := hG.1
  have hS : va_S (zA hs) s.heap s.heap [] := va_S.rf
  have hAz : ∀ q, zA hs q → hs ≤ q := fun _ h => h
  have hl := lv_entry ([.ref (q 0)]) (n := 4) (Nat.le_of_ble_eq_true rfl)
  rw [lg_entry_eq]
  generalize (lg_sl ([.ref (q 0)]) ++ List.replicate (4 - (lg_sl ([.ref (q 0)])).length) Slot.unset).toArray = ls at hl ⊢
  have hl : lv_has ls 4 [(0, .ref (q 0))] := hl
  have hf10 := hts (.fieldLink RX2 10 "FrozenBits" "now" "LFrozenBits$Facts;") (List.mem_of_getElem? (i := 1) rfl)
  have hiX2 : ∀ w ∈ u_ws RX2 TX2 7, w ∈ wsX2_lowerLoss := fun w h => List.mem_cons_of_mem _ (List.mem_append_left _ (List.mem_append_right _ h))
  have hn47 := hG.2.1 (.fieldLinkNest "FrozenBits" 47 "FrozenBits$Facts" "of" "I" "FrozenBits") (List.mem_of_getElem? (i := 2) rfl)
  have hiX0 : ∀ w ∈ u_ws RX0 TX0 7, w ∈ wsX2_lowerLoss := fun w h => List.mem_cons_of_mem _ (List.mem_append_right _ h)
  have hn40 := hG.2.1 (.fieldLinkNest "FrozenBits" 40 "FrozenBits$Facts" "deep" "I" "FrozenBits") (List.mem_of_getElem? (i := 0) rfl)
  refine lv_aload_n hx hb dX2_lowerLoss_0 rfl (lv_at hl 0 rfl) ?_
  refine va_get (ci := 2) (C := RX2) (T := TX2) (N := 7) hx hb hts hiX2 hown hK hP 0 rfl rfl 0 (by decide) hf10 (fun _ h9 => h9) rfl dX2_lowerLoss_1 ?_
  refine va_getN (ci := 0) (C := RX0) (T := TX0) (N := 7) hx hb hts hiX0 hown hK hP 1 rfl rfl 2 (by decide) (va_Nw.use rfl hn47) (fun _ h9 => h9) rfl dX2_lowerLoss_4 ?_
  refine lv_i2l hx hb dX2_lowerLoss_7 rfl ?_
  refine zz_topl (lN a.2.2.1) (nI_l (by have := hI.2.1; omega)) ?_
  refine lv_lstore_n (lv' := [(1, .long (lN a.2.2.1)), (0, .ref (q 0))]) hx hb dX2_lowerLoss_8 rfl hl (by decide) rfl (fun ls hl => ?_)
  refine lv_iconst (v := 0) hx hb dX2_lowerLoss_9 (by decide) ?_
  refine lv_istore_n (lv' := [(3, .int 0), (1, .long (lN a.2.2.1)), (0, .ref (q 0))]) hx hb dX2_lowerLoss_10 rfl hl (by decide) rfl (fun ls hl => ?_)
  have hl : lv_has ls 4 [(3, .int (nI 0)), (1, .long (lN (zlo a.2.2.1 0))), (0, .ref (q 0))] := hl
  refine zz_forJ (nL := 4) (a.1) (fun i => [(3, .int (nI i)), (1, .long (lN (zlo a.2.2.1 i))), (0, .ref (q 0))]) (J := fun _ => True) ?_ ?_ (trivial) (lv_sub hl [0, 1, 2] rfl)
  · intro hJ ls hl
    refine lv_iload_n hx hb dX2_lowerLoss_11 rfl (lv_at hl 0 rfl) ?_
    refine lv_aload_n hx hb dX2_lowerLoss_12 rfl (lv_at hl 2 rfl) ?_
    refine va_get (ci := 2) (C := RX2) (T := TX2) (N := 7) hx hb hts hiX2 hown hK hP 0 rfl rfl 0 (by decide) hf10 (fun _ h9 => h9) rfl dX2_lowerLoss_13 ?_
    refine va_getN (ci := 0) (C := RX0) (T := TX0) (N := 7) hx hb hts hiX0 hown hK hP 1 rfl rfl 0 (by decide) (va_Nw.use rfl hn40) (fun _ h9 => h9) rfl dX2_lowerLoss_16 ?_
    refine lv_icmp_ge (tgt := 32) hx hb dX2_lowerLoss_19 (by decide) (fun c_1 => ?_) (fun c_1 => ?_)
    · replace c_1 := Int32.not_lt.mpr c_1
      refine lv_lload_n hx hb dX2_lowerLoss_32 rfl (lv_at hl 1 rfl) ?_
      exact W.lret (v := (lN (zlo a.2.2.1 a.1))) hx hb hr (fun t9 ht hW => ⟨_, rfl, (by rfl), ht⟩) (fun _ h => absurd h List.not_mem_nil) dX2_lowerLoss_33
    · replace c_1 := Int32.not_le.mp c_1
      exact absurd c_1 (nI_nlt (Nat.le_refl _) (by have := hI.1; omega))
  · intro i hi hJ ihi ls hl
    refine lv_iload_n hx hb dX2_lowerLoss_11 rfl (lv_at hl 0 rfl) ?_
    refine lv_aload_n hx hb dX2_lowerLoss_12 rfl (lv_at hl 2 rfl) ?_
    refine va_get (ci := 2) (C := RX2) (T := TX2) (N := 7) hx hb hts hiX2 hown hK hP 0 rfl rfl 0 (by decide) hf10 (fun _ h9 => h9) rfl dX2_lowerLoss_13 ?_
    refine va_getN (ci := 0) (C := RX0) (T := TX0) (N := 7) hx hb hts hiX0 hown hK hP 1 rfl rfl 0 (by decide) (va_Nw.use rfl hn40) (fun _ h9 => h9) rfl dX2_lowerLoss_16 ?_
    refine lv_icmp_ge (tgt := 32) hx hb dX2_lowerLoss_19 (by decide) (fun c_2 => ?_) (fun c_2 => ?_)
    · replace c_2 := Int32.not_lt.mpr c_2
      exact absurd (nI_lt hi (by have := hI.1; omega)) c_2
    · replace c_2 := Int32.not_le.mp c_2
      refine lv_lload_n hx hb dX2_lowerLoss_22 rfl (lv_at hl 1 rfl) ?_
      refine lv_lload_n hx hb dX2_lowerLoss_23 rfl (lv_at hl 1 rfl) ?_
      refine lv_lmul hx hb dX2_lowerLoss_24 ?_
      refine zz_topl (lN (zlo a.2.2.1 i * zlo a.2.2.1 i)) (lN_mul _ _) ?_
      refine lv_lstore_n (lv' := [(1, .long (lN (zlo a.2.2.1 i * zlo a.2.2.1 i))), (3, .int (nI i)), (0, .ref (q 0))]) hx hb dX2_lowerLoss_25 rfl hl (by decide) rfl (fun ls hl => ?_)
      refine lv_iinc (v := (nI (i + 1))) (lv' := [(3, .int (nI (i + 1))), (1, .long (lN (zlo a.2.2.1 i * zlo a.2.2.1 i))), (0, .ref (q 0))]) hx hb dX2_lowerLoss_26 hl (k := 1) rfl (zz_inc _) (by decide) rfl (fun ls hl => ?_)
      refine lv_goto (tgt := 11) hx hb dX2_lowerLoss_29 (by decide) ?_
      have hl : lv_has ls 4 [(3, .int (nI ((i + 1)))), (1, .long (lN (zlo a.2.2.1 (i + 1)))), (0, .ref (q 0))] := hl
      exact ihi (trivial) ls (lv_sub hl [0, 1, 2] rfl)
set_option maxHeartbeats 4000000 in
set_option maxRecDepth 100000 in
theorem c_X2_commonDivisor (l : Launch) (x : Nat) (y : Nat) (K : Nat) (hx0 : x < 2 ^ 63) (hy0 : y < 2 ^ 63) (hK0 : K < 100) (hK1 : ∀ j, j < K → (zeu y x j).2 ≠ 0) (hK2 : (zeu y x K).2 = 0) : Met l yX2_commonDivisor wsX2_commonDivisor ({ frames := 0, cells := 0, slots := 0, locals := 0 }) (va_Pc [.long (lN x), .long (lN y)] (fun _ => True)) (vp_Sl (fun r : Int64 => r = lN (zeu y x K).1)) 0 0 (fun _ => False) := by
  refine Met.ofW (cc := cX2_commonDivisor) (maxL := 11) (ret := (some .long)) (by decide) rfl ?_
  intro p e s m args below meth c s₁ B hml hv0
  obtain ⟨rfl, -⟩ := hv0
  have hx := B.exec
  have hb := B.bytes
  have hr := B.returns
  have hts := atoms_spec (ws := wsX2_commonDivisor) B.pre
  have hown : s.vm.findClass RX2 = some m.cls := findClass_of_methodNamed B.named
  have hlocks := B.notSynchronized
  have hl := lv_entry ([.long (lN x), .long (lN y)]) (n := 11) (Nat.le_of_ble_eq_true rfl)
  rw [lg_entry_eq]
  generalize (lg_sl ([.long (lN x), .long (lN y)]) ++ List.replicate (11 - (lg_sl ([.long (lN x), .long (lN y)])).length) Slot.unset).toArray = ls at hl ⊢
  have hl : lv_has ls 11 [(0, .long (lN x)), (2, .long (lN y))] := hl
  refine lv_lload_n hx hb dX2_commonDivisor_0 rfl (lv_at hl 1 rfl) ?_
  refine lv_lstore (lv' := [(4, .long (lN y)), (0, .long (lN x)), (2, .long (lN y))]) hx hb dX2_commonDivisor_1 hl (by decide) rfl (fun ls hl => ?_)
  refine lv_lload_n hx hb dX2_commonDivisor_3 rfl (lv_at hl 1 rfl) ?_
  refine lv_lstore (lv' := [(6, .long (lN x)), (4, .long (lN y)), (0, .long (lN x)), (2, .long (lN y))]) hx hb dX2_commonDivisor_4 hl (by decide) rfl (fun ls hl => ?_)
  refine lv_iconst (v := 0) hx hb dX2_commonDivisor_6 (by decide) ?_
  refine lv_istore (lv' := [(8, .int 0), (6, .long (lN x)), (4, .long (lN y)), (0, .long (lN x)), (2, .long (lN y))]) hx hb dX2_commonDivisor_7 hl (by decide) rfl (fun ls hl => ?_)
  have hl : lv_has ls 11 [(8, .int (nI 0)), (6, .long (lN (zeu y x 0).2)), (4, .long (lN (zeu y x 0).1)), (0, .long (lN x)), (2, .long (lN y))] := hl
  refine zz_forJ (nL := 11) (K) (fun i => [(8, .int (nI i)), (4, .long (lN (zeu y x i).1)), (6, .long (lN (zeu y x i).2)), (0, .long (lN x)), (2, .long (lN y))]) (J := fun _ => True) ?_ ?_ (trivial) (lv_sub hl [0, 2, 1, 3, 4] rfl)
  · intro hJ ls hl
    refine lv_iload hx hb dX2_commonDivisor_9 (lv_at hl 0 rfl) ?_
    refine lv_bipush (v := 100) hx hb dX2_commonDivisor_11 (by decide) ?_
    refine lv_icmp_ge (tgt := 44) hx hb dX2_commonDivisor_13 (by decide) (fun c_1 => ?_) (fun c_1 => ?_)
    · replace c_1 := Int32.not_lt.mpr c_1
      exact absurd (nI_lt hK0 (by decide)) c_1
    · replace c_1 := Int32.not_le.mp c_1
      refine lv_lload hx hb dX2_commonDivisor_16 (lv_at hl 2 rfl) ?_
      refine lv_lconst (v := 0) hx hb dX2_commonDivisor_18 (by decide) ?_
      refine W.lcmp hx hb dX2_commonDivisor_19 ?_
      refine lv_if_eq (tgt := 44) hx hb dX2_commonDivisor_20 (by decide) (fun c_2 => ?_) (fun c_2 => ?_)
      · refine lv_lload hx hb dX2_commonDivisor_44 (lv_at hl 1 rfl) ?_
        exact W.lret (v := (lN (zeu y x K).1)) hx hb hr (fun t9 ht hW => ⟨_, rfl, (by rfl), ht⟩) (fun _ h => absurd h List.not_mem_nil) dX2_commonDivisor_46
      · exact absurd ((zcmp0 (zeu_lt hy0 hx0 K).2).mpr hK2) c_2
  · intro i hi hJ ihi ls hl
    refine lv_iload hx hb dX2_commonDivisor_9 (lv_at hl 0 rfl) ?_
    refine lv_bipush (v := 100) hx hb dX2_commonDivisor_11 (by decide) ?_
    refine lv_icmp_ge (tgt := 44) hx hb dX2_commonDivisor_13 (by decide) (fun c_3 => ?_) (fun c_3 => ?_)
    · replace c_3 := Int32.not_lt.mpr c_3
      exact absurd (nI_lt (show i < 100 by omega) (by decide)) c_3
    · replace c_3 := Int32.not_le.mp c_3
      refine lv_lload hx hb dX2_commonDivisor_16 (lv_at hl 2 rfl) ?_
      refine lv_lconst (v := 0) hx hb dX2_commonDivisor_18 (by decide) ?_
      refine W.lcmp hx hb dX2_commonDivisor_19 ?_
      refine lv_if_eq (tgt := 44) hx hb dX2_commonDivisor_20 (by decide) (fun c_4 => ?_) (fun c_4 => ?_)
      · exact absurd ((zcmp0 (zeu_lt hy0 hx0 i).2).mp c_4) (hK1 i hi)
      · refine lv_lload hx hb dX2_commonDivisor_23 (lv_at hl 1 rfl) ?_
        refine lv_lload hx hb dX2_commonDivisor_25 (lv_at hl 2 rfl) ?_
        refine lv_lrem hx hb dX2_commonDivisor_27 (fun q => hK1 i hi ((pk_lEQ (zeu_lt hy0 hx0 i).2 (by decide)).mp q)) ?_
        refine zz_topl (lN ((zeu y x i).1 % (zeu y x i).2)) (pk_lRem (zeu_lt hy0 hx0 i).1 (Nat.pos_of_ne_zero (hK1 i hi)) (zeu_lt hy0 hx0 i).2) ?_
        refine lv_lstore (lv' := [(9, .long (lN ((zeu y x i).1 % (zeu y x i).2))), (8, .int (nI i)), (4, .long (lN (zeu y x i).1)), (6, .long (lN (zeu y x i).2)), (0, .long (lN x)), (2, .long (lN y))]) hx hb dX2_commonDivisor_28 hl (by decide) rfl (fun ls hl => ?_)
        refine lv_lload hx hb dX2_commonDivisor_30 (lv_at hl 3 rfl) ?_
        refine lv_lstore (lv' := [(4, .long (lN (zeu y x i).2)), (9, .long (lN ((zeu y x i).1 % (zeu y x i).2))), (8, .int (nI i)), (6, .long (lN (zeu y x i).2)), (0, .long (lN x)), (2, .long (lN y))]) hx hb dX2_commonDivisor_32 hl (by decide) rfl (fun ls hl => ?_)
        refine lv_lload hx hb dX2_commonDivisor_34 (lv_at hl 1 rfl) ?_
        refine lv_lstore (lv' := [(6, .long (lN ((zeu y x i).1 % (zeu y x i).2))), (4, .long (lN (zeu y x i).2)), (9, .long (lN ((zeu y x i).1 % (zeu y x i).2))), (8, .int (nI i)), (0, .long (lN x)), (2, .long (lN y))]) hx hb dX2_commonDivisor_36 hl (by decide) rfl (fun ls hl => ?_)
        refine lv_iinc (v := (nI (i + 1))) (lv' := [(8, .int (nI (i + 1))), (6, .long (lN ((zeu y x i).1 % (zeu y x i).2))), (4, .long (lN (zeu y x i).2)), (9, .long (lN ((zeu y x i).1 % (zeu y x i).2))), (0, .long (lN x)), (2, .long (lN y))]) hx hb dX2_commonDivisor_38 hl (k := 3) rfl (zz_inc _) (by decide) rfl (fun ls hl => ?_)
        refine lv_goto (tgt := 9) hx hb dX2_commonDivisor_41 (by decide) ?_
        have hl : lv_has ls 11 [(8, .int (nI ((i + 1)))), (6, .long (lN (zeu y x (i + 1)).2)), (4, .long (lN (zeu y x (i + 1)).1)), (9, .long (lN ((zeu y x i).1 % (zeu y x i).2))), (0, .long (lN x)), (2, .long (lN y))] := hl
        exact ihi (trivial) ls (lv_sub hl [0, 2, 1, 4, 5] rfl)
set_option maxHeartbeats 4000000 in
set_option maxRecDepth 100000 in
theorem c_X2_howManyBetter (l : Launch) (D : va_G) (cI cZ : ClassId) (hs ta : Nat) (q : Nat → Nat) (a : ZA) (b0 : ZA) (b1 : ZA) (ik : Nat) (ha : Nat → Int32) (t : ZR) (g : ZR) (k : Nat) (hI : zInv a) (hk : k < 16) : Met l yX2_howManyBetter wsX2_howManyBetter ({ frames := 2, cells := 0, slots := 0, locals := 47 }) (va_Pc [.ref (q 0), .int (nI k)] (zPre D (zTy cI cZ) hs ta (zcX cI q a b0 b1 ik ha t g))) (vp_Si (fun r : Int32 => r = nI (zrk a k))) 0 0 (fun _ => False) := by
  refine Met.ofW (cc := cX2_howManyBetter) (maxL := 8) (ret := (some .int)) (by decide) rfl ?_
  intro p e s m args below meth c s₁ B hml hv0
  obtain ⟨rfl, hP, hD, hG⟩ := hv0
  have hx := B.exec
  have hb := B.bytes
  have hr := B.returns
  have hts := atoms_spec (ws := wsX2_howManyBetter) B.pre
  have hown : s.vm.findClass RX2 = some m.cls := findClass_of_methodNamed B.named
  have hlocks := B.notSynchronized
  have hK := hG.1
  have hS : va_S (zA hs) s.heap s.heap [] := va_S.rf
  have hAz : ∀ q, zA hs q → hs ≤ q := fun _ h => h
  have hl := lv_entry ([.ref (q 0), .int (nI k)]) (n := 8) (Nat.le_of_ble_eq_true rfl)
  rw [lg_entry_eq]
  generalize (lg_sl ([.ref (q 0), .int (nI k)]) ++ List.replicate (8 - (lg_sl ([.ref (q 0), .int (nI k)])).length) Slot.unset).toArray = ls at hl ⊢
  have hl : lv_has ls 8 [(0, .ref (q 0)), (1, .int (nI k))] := hl
  refine lv_aload_n hx hb dX2_howManyBetter_0 rfl (lv_at hl 0 rfl) ?_
  refine lv_iload_n hx hb dX2_howManyBetter_1 rfl (lv_at hl 1 rfl) ?_
  refine zz_cVl (cs := zcX cI q a b0 b1 ik ha t g) (As := [.int (nI k)]) (rest := []) ⟨hx, hb, hml, hown, hts⟩ (c_X2_upperLoss l D cI cZ hs ta q a b0 b1 ik ha t g k hI hk) (cwV 1 hts gX2_howManyBetter_X2_upperLoss rfl rfl rfl (by decide +kernel) ⟨Nat.le_of_ble_eq_true rfl, Nat.le_of_ble_eq_true rfl⟩) (va_recv hK hP (ci := 2) (q0 := 0) rfl rfl) hP hD hG hS hAz rfl hl.1 rfl (Nat.le_of_ble_eq_true rfl) ⟨Nat.zero_le _, Nat.zero_le _⟩ dX2_howManyBetter_2 (fun r_1 er_1 => ?_)
  subst er_1
  refine lv_lstore_n (lv' := [(2, .long (lN (zlos a k))), (0, .ref (q 0)), (1, .int (nI k))]) hx hb dX2_howManyBetter_5 rfl hl (by decide) rfl (fun ls hl => ?_)
  refine lv_iconst (v := 0) hx hb dX2_howManyBetter_6 (by decide) ?_
  refine lv_istore (lv' := [(4, .int 0), (2, .long (lN (zlos a k))), (0, .ref (q 0)), (1, .int (nI k))]) hx hb dX2_howManyBetter_7 hl (by decide) rfl (fun ls hl => ?_)
  refine lv_iconst (v := 0) hx hb dX2_howManyBetter_9 (by decide) ?_
  refine lv_istore (lv' := [(5, .int 0), (4, .int 0), (2, .long (lN (zlos a k))), (0, .ref (q 0)), (1, .int (nI k))]) hx hb dX2_howManyBetter_10 hl (by decide) rfl (fun ls hl => ?_)
  have hl : lv_has ls 8 [(5, .int (nI 0)), (4, .int (nI (zct (zbt a k) 0))), (2, .long (lN (zlos a k))), (0, .ref (q 0)), (1, .int (nI k))] := hl
  refine zz_forJ (nL := 8) (2 ^ a.1) (fun i => [(5, .int (nI i)), (4, .int (nI (zct (zbt a k) i))), (2, .long (lN (zlos a k))), (0, .ref (q 0)), (1, .int (nI k))]) (J := fun _ => True) ?_ ?_ (trivial) (lv_sub hl [0, 1, 2, 3, 4] rfl)
  · intro hJ ls hl
    refine lv_iload hx hb dX2_howManyBetter_12 (lv_at hl 0 rfl) ?_
    refine lv_aload_n hx hb dX2_howManyBetter_14 rfl (lv_at hl 3 rfl) ?_
    refine zz_cVi (cs := zcX cI q a b0 b1 ik ha t g) (As := []) (rest := [.int (nI ((2 ^ a.1)))]) ⟨hx, hb, hml, hown, hts⟩ (c_X2_places l D cI cZ hs ta q a b0 b1 ik ha t g hI.1.2) (cwV 0 hts gX2_howManyBetter_X2_places rfl rfl rfl (by decide +kernel) ⟨Nat.le_of_ble_eq_true rfl, Nat.le_of_ble_eq_true rfl⟩) (va_recv hK hP (ci := 2) (q0 := 0) rfl rfl) hP hD hG hS hAz rfl hl.1 rfl (Nat.le_of_ble_eq_true rfl) ⟨Nat.zero_le _, Nat.zero_le _⟩ dX2_howManyBetter_15 (fun r_2 er_2 => ?_)
    subst er_2
    refine lv_icmp_ge (tgt := 58) hx hb dX2_howManyBetter_18 (by decide) (fun c_3 => ?_) (fun c_3 => ?_)
    · replace c_3 := Int32.not_lt.mpr c_3
      refine lv_iload hx hb dX2_howManyBetter_58 (lv_at hl 1 rfl) ?_
      exact W.iret (v := (nI (zct (zbt a k) (2 ^ a.1)))) hx hb hr (fun t9 ht hW => ⟨_, rfl, (by rfl), ht⟩) (fun _ h => absurd h List.not_mem_nil) dX2_howManyBetter_60
    · replace c_3 := Int32.not_le.mp c_3
      exact absurd c_3 (nI_nlt (Nat.le_refl _) (by have := zNp hI; omega))
  · intro i hi hJ ihi ls hl
    refine lv_iload hx hb dX2_howManyBetter_12 (lv_at hl 0 rfl) ?_
    refine lv_aload_n hx hb dX2_howManyBetter_14 rfl (lv_at hl 3 rfl) ?_
    refine zz_cVi (cs := zcX cI q a b0 b1 ik ha t g) (As := []) (rest := [.int (nI i)]) ⟨hx, hb, hml, hown, hts⟩ (c_X2_places l D cI cZ hs ta q a b0 b1 ik ha t g hI.1.2) (cwV 0 hts gX2_howManyBetter_X2_places rfl rfl rfl (by decide +kernel) ⟨Nat.le_of_ble_eq_true rfl, Nat.le_of_ble_eq_true rfl⟩) (va_recv hK hP (ci := 2) (q0 := 0) rfl rfl) hP hD hG hS hAz rfl hl.1 rfl (Nat.le_of_ble_eq_true rfl) ⟨Nat.zero_le _, Nat.zero_le _⟩ dX2_howManyBetter_15 (fun r_4 er_4 => ?_)
    subst er_4
    refine lv_icmp_ge (tgt := 58) hx hb dX2_howManyBetter_18 (by decide) (fun c_5 => ?_) (fun c_5 => ?_)
    · replace c_5 := Int32.not_lt.mpr c_5
      exact absurd (nI_lt hi (by have := zNp hI; omega)) c_5
    · replace c_5 := Int32.not_le.mp c_5
      refine lv_aload_n hx hb dX2_howManyBetter_21 rfl (lv_at hl 3 rfl) ?_
      refine lv_iload hx hb dX2_howManyBetter_22 (lv_at hl 0 rfl) ?_
      refine zz_cVl (cs := zcX cI q a b0 b1 ik ha t g) (As := [.int (nI i)]) (rest := []) ⟨hx, hb, hml, hown, hts⟩ (c_X2_upperLoss l D cI cZ hs ta q a b0 b1 ik ha t g i hI (by have := zNp hI; omega)) (cwV 1 hts gX2_howManyBetter_X2_upperLoss rfl rfl rfl (by decide +kernel) ⟨Nat.le_of_ble_eq_true rfl, Nat.le_of_ble_eq_true rfl⟩) (va_recv hK hP (ci := 2) (q0 := 0) rfl rfl) hP hD hG hS hAz rfl hl.1 rfl (Nat.le_of_ble_eq_true rfl) ⟨Nat.zero_le _, Nat.zero_le _⟩ dX2_howManyBetter_24 (fun r_6 er_6 => ?_)
      subst er_6
      refine lv_lstore (lv' := [(6, .long (lN (zlos a i))), (5, .int (nI i)), (4, .int (nI (zct (zbt a k) i))), (2, .long (lN (zlos a k))), (0, .ref (q 0)), (1, .int (nI k))]) hx hb dX2_howManyBetter_27 hl (by decide) rfl (fun ls hl => ?_)
      refine lv_lload hx hb dX2_howManyBetter_29 (lv_at hl 0 rfl) ?_
      refine lv_lload_n hx hb dX2_howManyBetter_31 rfl (lv_at hl 3 rfl) ?_
      refine W.lcmp hx hb dX2_howManyBetter_32 ?_
      refine lv_if_lt (tgt := 49) hx hb dX2_howManyBetter_33 (by decide) (fun c_7 => ?_) (fun c_7 => ?_)
      · replace c_7 := (zcmp_lt (zlos_lt hI i) (zlos_lt hI k)).mp c_7
        refine lv_iinc (v := (nI ((zct (zbt a k) i) + 1))) (lv' := [(4, .int (nI ((zct (zbt a k) i) + 1))), (6, .long (lN (zlos a i))), (5, .int (nI i)), (2, .long (lN (zlos a k))), (0, .ref (q 0)), (1, .int (nI k))]) hx hb dX2_howManyBetter_49 hl (k := 2) rfl (zz_inc _) (by decide) rfl (fun ls hl => ?_)
        refine lv_iinc (v := (nI (i + 1))) (lv' := [(5, .int (nI (i + 1))), (4, .int (nI ((zct (zbt a k) i) + 1))), (6, .long (lN (zlos a i))), (2, .long (lN (zlos a k))), (0, .ref (q 0)), (1, .int (nI k))]) hx hb dX2_howManyBetter_52 hl (k := 2) rfl (zz_inc _) (by decide) rfl (fun ls hl => ?_)
        refine lv_goto (tgt := 12) hx hb dX2_howManyBetter_55 (by decide) ?_
        rw [show ((nI ((zct (zbt a k) i) + 1)) : Int32) = (nI (zct (zbt a k) (i + 1))) from congrArg nI (by simp only [zct, zbt, decide_eq_true_eq]; split <;> omega)] at hl
        have hl : lv_has ls 8 [(5, .int (nI ((i + 1)))), (4, .int (nI (zct (zbt a k) (i + 1)))), (6, .long (lN (zlos a i))), (2, .long (lN (zlos a k))), (0, .ref (q 0)), (1, .int (nI k))] := hl
        exact ihi (trivial) ls (lv_sub hl [0, 1, 3, 4, 5] rfl)
      · replace c_7 := (not_congr (zcmp_lt (zlos_lt hI i) (zlos_lt hI k))).mp c_7
        refine lv_lload hx hb dX2_howManyBetter_36 (lv_at hl 0 rfl) ?_
        refine lv_lload_n hx hb dX2_howManyBetter_38 rfl (lv_at hl 3 rfl) ?_
        refine W.lcmp hx hb dX2_howManyBetter_39 ?_
        refine lv_if_ne (tgt := 52) hx hb dX2_howManyBetter_40 (by decide) (fun c_8 => ?_) (fun c_8 => ?_)
        · replace c_8 := (not_congr (zcmp_eq (zlos_lt hI i) (zlos_lt hI k))).mp c_8
          refine lv_iinc (v := (nI (i + 1))) (lv' := [(5, .int (nI (i + 1))), (6, .long (lN (zlos a i))), (4, .int (nI (zct (zbt a k) i))), (2, .long (lN (zlos a k))), (0, .ref (q 0)), (1, .int (nI k))]) hx hb dX2_howManyBetter_52 hl (k := 1) rfl (zz_inc _) (by decide) rfl (fun ls hl => ?_)
          refine lv_goto (tgt := 12) hx hb dX2_howManyBetter_55 (by decide) ?_
          rw [show ((nI (zct (zbt a k) i)) : Int32) = (nI (zct (zbt a k) (i + 1))) from congrArg nI (by simp only [zct, zbt, decide_eq_true_eq]; split <;> omega)] at hl
          have hl : lv_has ls 8 [(5, .int (nI ((i + 1)))), (6, .long (lN (zlos a i))), (4, .int (nI (zct (zbt a k) (i + 1)))), (2, .long (lN (zlos a k))), (0, .ref (q 0)), (1, .int (nI k))] := hl
          exact ihi (trivial) ls (lv_sub hl [0, 2, 3, 4, 5] rfl)
        · replace c_8 := (zcmp_eq (zlos_lt hI i) (zlos_lt hI k)).mp c_8
          refine lv_iload hx hb dX2_howManyBetter_43 (lv_at hl 1 rfl) ?_
          refine lv_iload_n hx hb dX2_howManyBetter_45 rfl (lv_at hl 5 rfl) ?_
          refine lv_icmp_le (tgt := 52) hx hb dX2_howManyBetter_46 (by decide) (fun c_9 => ?_) (fun c_9 => ?_)
          · replace c_9 := Int32.not_lt.mpr c_9
            replace c_9 : ¬ k < i := fun q => c_9 (nI_lt q (by have := zNp hI; omega))
            refine lv_iinc (v := (nI (i + 1))) (lv' := [(5, .int (nI (i + 1))), (6, .long (lN (zlos a i))), (4, .int (nI (zct (zbt a k) i))), (2, .long (lN (zlos a k))), (0, .ref (q 0)), (1, .int (nI k))]) hx hb dX2_howManyBetter_52 hl (k := 1) rfl (zz_inc _) (by decide) rfl (fun ls hl => ?_)
            refine lv_goto (tgt := 12) hx hb dX2_howManyBetter_55 (by decide) ?_
            rw [show ((nI (zct (zbt a k) i)) : Int32) = (nI (zct (zbt a k) (i + 1))) from congrArg nI (by simp only [zct, zbt, decide_eq_true_eq]; split <;> omega)] at hl
            have hl : lv_has ls 8 [(5, .int (nI ((i + 1)))), (6, .long (lN (zlos a i))), (4, .int (nI (zct (zbt a k) (i + 1)))), (2, .long (lN (zlos a k))), (0, .ref (q 0)), (1, .int (nI k))] := hl
            exact ihi (trivial) ls (lv_sub hl [0, 2, 3, 4, 5] rfl)
          · replace c_9 := Int32.not_le.mp c_9
            replace c_9 : k < i := (nI_ltI (by omega) (by have := zNp hI; omega)).mp c_9
            refine lv_iinc (v := (nI ((zct (zbt a k) i) + 1))) (lv' := [(4, .int (nI ((zct (zbt a k) i) + 1))), (6, .long (lN (zlos a i))), (5, .int (nI i)), (2, .long (lN (zlos a k))), (0, .ref (q 0)), (1, .int (nI k))]) hx hb dX2_howManyBetter_49 hl (k := 2) rfl (zz_inc _) (by decide) rfl (fun ls hl => ?_)
            refine lv_iinc (v := (nI (i + 1))) (lv' := [(5, .int (nI (i + 1))), (4, .int (nI ((zct (zbt a k) i) + 1))), (6, .long (lN (zlos a i))), (2, .long (lN (zlos a k))), (0, .ref (q 0)), (1, .int (nI k))]) hx hb dX2_howManyBetter_52 hl (k := 2) rfl (zz_inc _) (by decide) rfl (fun ls hl => ?_)
            refine lv_goto (tgt := 12) hx hb dX2_howManyBetter_55 (by decide) ?_
            rw [show ((nI ((zct (zbt a k) i) + 1)) : Int32) = (nI (zct (zbt a k) (i + 1))) from congrArg nI (by simp only [zct, zbt, decide_eq_true_eq]; split <;> omega)] at hl
            have hl : lv_has ls 8 [(5, .int (nI ((i + 1)))), (4, .int (nI (zct (zbt a k) (i + 1)))), (6, .long (lN (zlos a i))), (2, .long (lN (zlos a k))), (0, .ref (q 0)), (1, .int (nI k))] := hl
            exact ihi (trivial) ls (lv_sub hl [0, 1, 3, 4, 5] rfl)
set_option maxHeartbeats 4000000 in
set_option maxRecDepth 100000 in
theorem c_X2_bitOfRank (l : Launch) (D : va_G) (cI cZ : ClassId) (hs ta : Nat) (q : Nat → Nat) (a : ZA) (b0 : ZA) (b1 : ZA) (ik : Nat) (ha : Nat → Int32) (t : ZR) (g : ZR) (k : Nat) (m0 : Nat) (hI : zInv a) (hk : k < 16) (hm : m0 < 2 ^ a.1) (hm1 : zrk a m0 = k) (hm2 : ∀ j, j < m0 → zrk a j ≠ k) : Met l yX2_bitOfRank wsX2_bitOfRank ({ frames := 3, cells := 0, slots := 0, locals := 74 }) (va_Pc [.ref (q 0), .int (nI k)] (zPre D (zTy cI cZ) hs ta (zcX cI q a b0 b1 ik ha t g))) (vp_Si (fun r : Int32 => r = nI m0)) 0 0 (fun _ => False) := by
  refine Met.ofW (cc := cX2_bitOfRank) (maxL := 3) (ret := (some .int)) (by decide) rfl ?_
  intro p e s m args below meth c s₁ B hml hv0
  obtain ⟨rfl, hP, hD, hG⟩ := hv0
  have hx := B.exec
  have hb := B.bytes
  have hr := B.returns
  have hts := atoms_spec (ws := wsX2_bitOfRank) B.pre
  have hown : s.vm.findClass RX2 = some m.cls := findClass_of_methodNamed B.named
  have hlocks := B.notSynchronized
  have hK := hG.1
  have hS : va_S (zA hs) s.heap s.heap [] := va_S.rf
  have hAz : ∀ q, zA hs q → hs ≤ q := fun _ h => h
  have hl := lv_entry ([.ref (q 0), .int (nI k)]) (n := 3) (Nat.le_of_ble_eq_true rfl)
  rw [lg_entry_eq]
  generalize (lg_sl ([.ref (q 0), .int (nI k)]) ++ List.replicate (3 - (lg_sl ([.ref (q 0), .int (nI k)])).length) Slot.unset).toArray = ls at hl ⊢
  have hl : lv_has ls 3 [(0, .ref (q 0)), (1, .int (nI k))] := hl
  refine lv_iconst (v := 0) hx hb dX2_bitOfRank_0 (by decide) ?_
  refine lv_istore_n (lv' := [(2, .int 0), (0, .ref (q 0)), (1, .int (nI k))]) hx hb dX2_bitOfRank_1 rfl hl (by decide) rfl (fun ls hl => ?_)
  have hl : lv_has ls 3 [(2, .int (nI 0)), (0, .ref (q 0)), (1, .int (nI k))] := hl
  refine zz_forJ (nL := 3) (m0) (fun i => [(2, .int (nI i)), (0, .ref (q 0)), (1, .int (nI k))]) (J := fun _ => True) ?_ ?_ (trivial) (lv_sub hl [0, 1, 2] rfl)
  · intro hJ ls hl
    refine lv_iload_n hx hb dX2_bitOfRank_2 rfl (lv_at hl 0 rfl) ?_
    refine lv_aload_n hx hb dX2_bitOfRank_3 rfl (lv_at hl 1 rfl) ?_
    refine zz_cVi (cs := zcX cI q a b0 b1 ik ha t g) (As := []) (rest := [.int (nI m0)]) ⟨hx, hb, hml, hown, hts⟩ (c_X2_places l D cI cZ hs ta q a b0 b1 ik ha t g hI.1.2) (cwV 0 hts gX2_bitOfRank_X2_places rfl rfl rfl (by decide +kernel) ⟨Nat.le_of_ble_eq_true rfl, Nat.le_of_ble_eq_true rfl⟩) (va_recv hK hP (ci := 2) (q0 := 0) rfl rfl) hP hD hG hS hAz rfl hl.1 rfl (Nat.le_of_ble_eq_true rfl) ⟨Nat.zero_le _, Nat.zero_le _⟩ dX2_bitOfRank_4 (fun r_1 er_1 => ?_)
    subst er_1
    refine lv_icmp_ge (tgt := 27) hx hb dX2_bitOfRank_7 (by decide) (fun c_2 => ?_) (fun c_2 => ?_)
    · replace c_2 := Int32.not_lt.mpr c_2
      exact absurd (nI_lt hm (by have := zNp hI; omega)) c_2
    · replace c_2 := Int32.not_le.mp c_2
      refine lv_aload_n hx hb dX2_bitOfRank_10 rfl (lv_at hl 1 rfl) ?_
      refine lv_iload_n hx hb dX2_bitOfRank_11 rfl (lv_at hl 0 rfl) ?_
      refine zz_cVi (cs := zcX cI q a b0 b1 ik ha t g) (As := [.int (nI m0)]) (rest := []) ⟨hx, hb, hml, hown, hts⟩ (c_X2_howManyBetter l D cI cZ hs ta q a b0 b1 ik ha t g m0 hI (by have := zNp hI; omega)) (cwV 1 hts gX2_bitOfRank_X2_howManyBetter rfl rfl rfl (by decide +kernel) ⟨Nat.le_of_ble_eq_true rfl, Nat.le_of_ble_eq_true rfl⟩) (va_recv hK hP (ci := 2) (q0 := 0) rfl rfl) hP hD hG hS hAz rfl hl.1 rfl (Nat.le_of_ble_eq_true rfl) ⟨Nat.zero_le _, Nat.zero_le _⟩ dX2_bitOfRank_12 (fun r_3 er_3 => ?_)
      subst er_3
      refine lv_iload_n hx hb dX2_bitOfRank_15 rfl (lv_at hl 2 rfl) ?_
      refine lv_icmp_ne (tgt := 21) hx hb dX2_bitOfRank_16 (by decide) (fun c_4 => ?_) (fun c_4 => ?_)
      · exact absurd (by rw [hm1]) c_4
      · refine lv_iload_n hx hb dX2_bitOfRank_19 rfl (lv_at hl 0 rfl) ?_
        exact W.iret (v := (nI m0)) hx hb hr (fun t9 ht hW => ⟨_, rfl, (by rfl), ht⟩) (fun _ h => absurd h List.not_mem_nil) dX2_bitOfRank_20
  · intro i hi hJ ihi ls hl
    refine lv_iload_n hx hb dX2_bitOfRank_2 rfl (lv_at hl 0 rfl) ?_
    refine lv_aload_n hx hb dX2_bitOfRank_3 rfl (lv_at hl 1 rfl) ?_
    refine zz_cVi (cs := zcX cI q a b0 b1 ik ha t g) (As := []) (rest := [.int (nI i)]) ⟨hx, hb, hml, hown, hts⟩ (c_X2_places l D cI cZ hs ta q a b0 b1 ik ha t g hI.1.2) (cwV 0 hts gX2_bitOfRank_X2_places rfl rfl rfl (by decide +kernel) ⟨Nat.le_of_ble_eq_true rfl, Nat.le_of_ble_eq_true rfl⟩) (va_recv hK hP (ci := 2) (q0 := 0) rfl rfl) hP hD hG hS hAz rfl hl.1 rfl (Nat.le_of_ble_eq_true rfl) ⟨Nat.zero_le _, Nat.zero_le _⟩ dX2_bitOfRank_4 (fun r_5 er_5 => ?_)
    subst er_5
    refine lv_icmp_ge (tgt := 27) hx hb dX2_bitOfRank_7 (by decide) (fun c_6 => ?_) (fun c_6 => ?_)
    · replace c_6 := Int32.not_lt.mpr c_6
      exact absurd (nI_lt (show i < 2 ^ a.1 by omega) (by have := zNp hI; omega)) c_6
    · replace c_6 := Int32.not_le.mp c_6
      refine lv_aload_n hx hb dX2_bitOfRank_10 rfl (lv_at hl 1 rfl) ?_
      refine lv_iload_n hx hb dX2_bitOfRank_11 rfl (lv_at hl 0 rfl) ?_
      refine zz_cVi (cs := zcX cI q a b0 b1 ik ha t g) (As := [.int (nI i)]) (rest := []) ⟨hx, hb, hml, hown, hts⟩ (c_X2_howManyBetter l D cI cZ hs ta q a b0 b1 ik ha t g i hI (by have := zNp hI; omega)) (cwV 1 hts gX2_bitOfRank_X2_howManyBetter rfl rfl rfl (by decide +kernel) ⟨Nat.le_of_ble_eq_true rfl, Nat.le_of_ble_eq_true rfl⟩) (va_recv hK hP (ci := 2) (q0 := 0) rfl rfl) hP hD hG hS hAz rfl hl.1 rfl (Nat.le_of_ble_eq_true rfl) ⟨Nat.zero_le _, Nat.zero_le _⟩ dX2_bitOfRank_12 (fun r_7 er_7 => ?_)
      subst er_7
      refine lv_iload_n hx hb dX2_bitOfRank_15 rfl (lv_at hl 2 rfl) ?_
      refine lv_icmp_ne (tgt := 21) hx hb dX2_bitOfRank_16 (by decide) (fun c_8 => ?_) (fun c_8 => ?_)
      · refine lv_iinc (v := (nI (i + 1))) (lv' := [(2, .int (nI (i + 1))), (0, .ref (q 0)), (1, .int (nI k))]) hx hb dX2_bitOfRank_21 hl (k := 0) rfl (zz_inc _) (by decide) rfl (fun ls hl => ?_)
        refine lv_goto (tgt := 2) hx hb dX2_bitOfRank_24 (by decide) ?_
        have hl : lv_has ls 3 [(2, .int (nI ((i + 1)))), (0, .ref (q 0)), (1, .int (nI k))] := hl
        exact ihi (trivial) ls (lv_sub hl [0, 1, 2] rfl)
      · exact absurd ((nI_eq (by have := zct_le (zbt a i) (2 ^ a.1); have := zNp hI; unfold zrk; omega) (by omega)).mp c_8) (hm2 i hi)
set_option maxHeartbeats 4000000 in
set_option maxRecDepth 100000 in
theorem c_X2_weaker (l : Launch) (p0 : Int32) (p1 : Int32) : Met l yX2_weaker wsX2_weaker ({ frames := 1, cells := 0, slots := 0, locals := 21 }) (va_Pc [.int p0, .int p1] (fun _ => True)) (vp_Si (fun r : Int32 => r = zwk p0 p1)) 0 0 (fun _ => False) := by
  refine Met.ofW (cc := cX2_weaker) (maxL := 3) (ret := (some .int)) (by decide) rfl ?_
  intro p e s m args below meth c s₁ B hml hv0
  obtain ⟨rfl, -⟩ := hv0
  have hx := B.exec
  have hb := B.bytes
  have hr := B.returns
  have hts := atoms_spec (ws := wsX2_weaker) B.pre
  have hown : s.vm.findClass RX2 = some m.cls := findClass_of_methodNamed B.named
  have hlocks := B.notSynchronized
  have hl := lv_entry ([.int p0, .int p1]) (n := 3) (Nat.le_of_ble_eq_true rfl)
  rw [lg_entry_eq]
  generalize (lg_sl ([.int p0, .int p1]) ++ List.replicate (3 - (lg_sl ([.int p0, .int p1])).length) Slot.unset).toArray = ls at hl ⊢
  have hl : lv_has ls 3 [(0, .int p0), (1, .int p1)] := hl
  refine lv_iload_n hx hb dX2_weaker_0 rfl (lv_at hl 0 rfl) ?_
  refine va_mabs hx hb (hml.trans hl.1.symm) hown (hts (.methodLink RX2 212 Lib.Math.abs.name) (List.mem_of_getElem? (i := 1) rfl)) (hts (.static Lib.Math.abs.name) (List.mem_of_getElem? (i := 2) rfl)) (hts (.initialized "java/lang/Math") (List.mem_of_getElem? (i := 3) rfl)) (hts (.code Lib.Math.abs.name Lib.Math.abs.code 1 (some .int)) (List.mem_of_getElem? (i := 4) rfl)) (Nat.le_of_ble_eq_true rfl) (Nat.le_of_ble_eq_true rfl) (Nat.zero_le _) (Nat.zero_le _) dX2_weaker_1 ?_
  refine zz_topi (zab p0) (rfl) ?_
  refine lv_iload_n hx hb dX2_weaker_4 rfl (lv_at hl 1 rfl) ?_
  refine va_mabs hx hb (hml.trans hl.1.symm) hown (hts (.methodLink RX2 212 Lib.Math.abs.name) (List.mem_of_getElem? (i := 1) rfl)) (hts (.static Lib.Math.abs.name) (List.mem_of_getElem? (i := 2) rfl)) (hts (.initialized "java/lang/Math") (List.mem_of_getElem? (i := 3) rfl)) (hts (.code Lib.Math.abs.name Lib.Math.abs.code 1 (some .int)) (List.mem_of_getElem? (i := 4) rfl)) (Nat.le_of_ble_eq_true rfl) (Nat.le_of_ble_eq_true rfl) (Nat.zero_le _) (Nat.zero_le _) dX2_weaker_5 ?_
  refine zz_topi (zab p1) (rfl) ?_
  refine va_mmin hx hb (hml.trans hl.1.symm) hown (hts (.methodLink RX2 187 Lib.Math.min.name) (List.mem_of_getElem? (i := 5) rfl)) (hts (.static Lib.Math.min.name) (List.mem_of_getElem? (i := 6) rfl)) (hts (.initialized "java/lang/Math") (List.mem_of_getElem? (i := 3) rfl)) (hts (.code Lib.Math.min.name Lib.Math.min.code 2 (some .int)) (List.mem_of_getElem? (i := 7) rfl)) (Nat.le_of_ble_eq_true rfl) (Nat.le_of_ble_eq_true rfl) (Nat.zero_le _) (Nat.zero_le _) dX2_weaker_8 ?_
  refine zz_topi (zmn (zab p0) (zab p1)) (rfl) ?_
  refine zz_topi (zmn (zab p0) (zab p1)) (rfl) ?_
  refine lv_istore_n (lv' := [(2, .int (zmn (zab p0) (zab p1))), (0, .int p0), (1, .int p1)]) hx hb dX2_weaker_11 rfl hl (by decide) rfl (fun ls hl => ?_)
  refine lv_iload_n hx hb dX2_weaker_12 rfl (lv_at hl 1 rfl) ?_
  refine lv_if_ge (tgt := 20) hx hb dX2_weaker_13 (by decide) (fun c_1 => ?_) (fun c_1 => ?_)
  · replace c_1 := Int32.not_lt.mpr c_1
    refine lv_iconst (v := 0) hx hb dX2_weaker_20 (by decide) ?_
    refine lv_iload_n hx hb dX2_weaker_21 rfl (lv_at hl 2 rfl) ?_
    refine lv_if_ge (tgt := 29) hx hb dX2_weaker_22 (by decide) (fun c_2 => ?_) (fun c_2 => ?_)
    · replace c_2 := Int32.not_lt.mpr c_2
      refine lv_iconst (v := 0) hx hb dX2_weaker_29 (by decide) ?_
      refine lv_icmp_eq (tgt := 38) hx hb dX2_weaker_30 (by decide) (fun c_3 => ?_) (fun c_3 => ?_)
      · refine lv_iload_n hx hb dX2_weaker_38 rfl (lv_at hl 0 rfl) ?_
        exact W.iret (v := (zmn (zab p0) (zab p1))) hx hb hr (fun t9 ht hW => ⟨_, rfl, (by simp only [zwk, c_1, c_2, c_3, not_true_eq_false, not_false_eq_true, and_self, and_true, true_and, and_false, false_and, or_self, or_true, true_or, or_false, false_or, if_true, if_false, ↓reduceIte, Bool.false_eq_true, iff_self, iff_true, iff_false, true_iff, false_iff, Nat.add_zero]), ht⟩) (fun _ h => absurd h List.not_mem_nil) dX2_weaker_39
      · exact absurd c_3 (by decide)
    · replace c_2 := Int32.not_le.mp c_2
      refine lv_iconst (v := 1) hx hb dX2_weaker_25 (by decide) ?_
      refine lv_goto (tgt := 30) hx hb dX2_weaker_26 (by decide) ?_
      refine lv_icmp_eq (tgt := 38) hx hb dX2_weaker_30 (by decide) (fun c_4 => ?_) (fun c_4 => ?_)
      · exact absurd c_4 (by decide)
      · refine lv_iload_n hx hb dX2_weaker_33 rfl (lv_at hl 0 rfl) ?_
        refine lv_ineg hx hb dX2_weaker_34 ?_
        refine lv_goto (tgt := 39) hx hb dX2_weaker_35 (by decide) ?_
        exact W.iret (v := (-(zmn (zab p0) (zab p1)))) hx hb hr (fun t9 ht hW => ⟨_, rfl, (by simp only [zwk, c_1, c_2, c_4, not_true_eq_false, not_false_eq_true, and_self, and_true, true_and, and_false, false_and, or_self, or_true, true_or, or_false, false_or, if_true, if_false, ↓reduceIte, Bool.false_eq_true, iff_self, iff_true, iff_false, true_iff, false_iff, Nat.add_zero]), ht⟩) (fun _ h => absurd h List.not_mem_nil) dX2_weaker_39
  · replace c_1 := Int32.not_le.mp c_1
    refine lv_iconst (v := 1) hx hb dX2_weaker_16 (by decide) ?_
    refine lv_goto (tgt := 21) hx hb dX2_weaker_17 (by decide) ?_
    refine lv_iload_n hx hb dX2_weaker_21 rfl (lv_at hl 2 rfl) ?_
    refine lv_if_ge (tgt := 29) hx hb dX2_weaker_22 (by decide) (fun c_5 => ?_) (fun c_5 => ?_)
    · replace c_5 := Int32.not_lt.mpr c_5
      refine lv_iconst (v := 0) hx hb dX2_weaker_29 (by decide) ?_
      refine lv_icmp_eq (tgt := 38) hx hb dX2_weaker_30 (by decide) (fun c_6 => ?_) (fun c_6 => ?_)
      · exact absurd c_6 (by decide)
      · refine lv_iload_n hx hb dX2_weaker_33 rfl (lv_at hl 0 rfl) ?_
        refine lv_ineg hx hb dX2_weaker_34 ?_
        refine lv_goto (tgt := 39) hx hb dX2_weaker_35 (by decide) ?_
        exact W.iret (v := (-(zmn (zab p0) (zab p1)))) hx hb hr (fun t9 ht hW => ⟨_, rfl, (by simp only [zwk, c_1, c_5, c_6, not_true_eq_false, not_false_eq_true, and_self, and_true, true_and, and_false, false_and, or_self, or_true, true_or, or_false, false_or, if_true, if_false, ↓reduceIte, Bool.false_eq_true, iff_self, iff_true, iff_false, true_iff, false_iff, Nat.add_zero]), ht⟩) (fun _ h => absurd h List.not_mem_nil) dX2_weaker_39
    · replace c_5 := Int32.not_le.mp c_5
      refine lv_iconst (v := 1) hx hb dX2_weaker_25 (by decide) ?_
      refine lv_goto (tgt := 30) hx hb dX2_weaker_26 (by decide) ?_
      refine lv_icmp_eq (tgt := 38) hx hb dX2_weaker_30 (by decide) (fun c_7 => ?_) (fun c_7 => ?_)
      · refine lv_iload_n hx hb dX2_weaker_38 rfl (lv_at hl 0 rfl) ?_
        exact W.iret (v := (zmn (zab p0) (zab p1))) hx hb hr (fun t9 ht hW => ⟨_, rfl, (by simp only [zwk, c_1, c_5, c_7, not_true_eq_false, not_false_eq_true, and_self, and_true, true_and, and_false, false_and, or_self, or_true, true_or, or_false, false_or, if_true, if_false, ↓reduceIte, Bool.false_eq_true, iff_self, iff_true, iff_false, true_iff, false_iff, Nat.add_zero]), ht⟩) (fun _ h => absurd h List.not_mem_nil) dX2_weaker_39
      · exact absurd c_7 (by decide)
set_option maxHeartbeats 4000000 in
set_option maxRecDepth 100000 in
theorem c_X2_fineOfBit (l : Launch) (p0 : Int32) (p1 : Int32) : Met l yX2_fineOfBit wsX2_fineOfBit ({ frames := 1, cells := 0, slots := 0, locals := 21 }) (va_Pc [.int p0, .int p1] (fun _ => True)) (vp_Si (fun r : Int32 => r = if p1 = 0 then zmx (-p0) 0 else zmx p0 0)) 0 0 (fun _ => False) := by
  refine Met.ofW (cc := cX2_fineOfBit) (maxL := 2) (ret := (some .int)) (by decide) rfl ?_
  intro p e s m args below meth c s₁ B hml hv0
  obtain ⟨rfl, -⟩ := hv0
  have hx := B.exec
  have hb := B.bytes
  have hr := B.returns
  have hts := atoms_spec (ws := wsX2_fineOfBit) B.pre
  have hown : s.vm.findClass RX2 = some m.cls := findClass_of_methodNamed B.named
  have hlocks := B.notSynchronized
  have hl := lv_entry ([.int p0, .int p1]) (n := 2) (Nat.le_of_ble_eq_true rfl)
  rw [lg_entry_eq]
  generalize (lg_sl ([.int p0, .int p1]) ++ List.replicate (2 - (lg_sl ([.int p0, .int p1])).length) Slot.unset).toArray = ls at hl ⊢
  have hl : lv_has ls 2 [(0, .int p0), (1, .int p1)] := hl
  refine lv_iload_n hx hb dX2_fineOfBit_0 rfl (lv_at hl 1 rfl) ?_
  refine lv_if_eq (tgt := 12) hx hb dX2_fineOfBit_1 (by decide) (fun c_1 => ?_) (fun c_1 => ?_)
  · refine lv_iload_n hx hb dX2_fineOfBit_12 rfl (lv_at hl 0 rfl) ?_
    refine lv_ineg hx hb dX2_fineOfBit_13 ?_
    refine lv_iconst (v := 0) hx hb dX2_fineOfBit_14 (by decide) ?_
    refine va_mmax hx hb (hml.trans hl.1.symm) hown (hts (.methodLink RX2 177 Lib.Math.max.name) (List.mem_of_getElem? (i := 1) rfl)) (hts (.static Lib.Math.max.name) (List.mem_of_getElem? (i := 2) rfl)) (hts (.initialized "java/lang/Math") (List.mem_of_getElem? (i := 3) rfl)) (hts (.code Lib.Math.max.name Lib.Math.max.code 2 (some .int)) (List.mem_of_getElem? (i := 4) rfl)) (Nat.le_of_ble_eq_true rfl) (Nat.le_of_ble_eq_true rfl) (Nat.zero_le _) (Nat.zero_le _) dX2_fineOfBit_15 ?_
    refine zz_topi (zmx (-p0) 0) (rfl) ?_
    exact W.iret (v := (zmx (-p0) 0)) hx hb hr (fun t9 ht hW => ⟨_, rfl, (by simp only [c_1, not_true_eq_false, not_false_eq_true, and_self, and_true, true_and, and_false, false_and, or_self, or_true, true_or, or_false, false_or, if_true, if_false, ↓reduceIte, Bool.false_eq_true, iff_self, iff_true, iff_false, true_iff, false_iff, Nat.add_zero]), ht⟩) (fun _ h => absurd h List.not_mem_nil) dX2_fineOfBit_18
  · refine lv_iload_n hx hb dX2_fineOfBit_4 rfl (lv_at hl 0 rfl) ?_
    refine lv_iconst (v := 0) hx hb dX2_fineOfBit_5 (by decide) ?_
    refine va_mmax hx hb (hml.trans hl.1.symm) hown (hts (.methodLink RX2 177 Lib.Math.max.name) (List.mem_of_getElem? (i := 1) rfl)) (hts (.static Lib.Math.max.name) (List.mem_of_getElem? (i := 2) rfl)) (hts (.initialized "java/lang/Math") (List.mem_of_getElem? (i := 3) rfl)) (hts (.code Lib.Math.max.name Lib.Math.max.code 2 (some .int)) (List.mem_of_getElem? (i := 4) rfl)) (Nat.le_of_ble_eq_true rfl) (Nat.le_of_ble_eq_true rfl) (Nat.zero_le _) (Nat.zero_le _) dX2_fineOfBit_6 ?_
    refine zz_topi (zmx p0 0) (rfl) ?_
    refine lv_goto (tgt := 18) hx hb dX2_fineOfBit_9 (by decide) ?_
    exact W.iret (v := (zmx p0 0)) hx hb hr (fun t9 ht hW => ⟨_, rfl, (by simp only [c_1, not_true_eq_false, not_false_eq_true, and_self, and_true, true_and, and_false, false_and, or_self, or_true, true_or, or_false, false_or, if_true, if_false, ↓reduceIte, Bool.false_eq_true, iff_self, iff_true, iff_false, true_iff, false_iff, Nat.add_zero]), ht⟩) (fun _ h => absurd h List.not_mem_nil) dX2_fineOfBit_18
set_option maxHeartbeats 4000000 in
set_option maxRecDepth 100000 in
theorem c_X2_goFirst (l : Launch) (D : va_G) (cI cZ : ClassId) (hs ta : Nat) (sz : Nat) (q : Nat → Nat) (a : ZA) (b0 : ZA) (b1 : ZA) (ik : Nat) (ha : Nat → Int32) (t : ZR) (g : ZR) (h : Nat) (hh : h ≤ 8) : Met l yX2_goFirst wsX2_goFirst ({ frames := 2, cells := 0, slots := 0, locals := 43 }) (va_Pc [.ref (q 0), .int (nI h)] (fun U => U.heap.size = sz ∧ zPre D (zTy cI cZ) hs ta (zcX cI q a b0 b1 ik ha t g) U)) (va_Qv (fun (u : Nat → Int32) => u = zg1 h ha h) (fun (u : Nat → Int32) t9 => va_P D vwCl (zcX cI q a b0 b1 ik u t g) t9.heap) (va_A (zcX cI q a b0 b1 ik ha t g) sz)) 0 0 (va_A (zcX cI q a b0 b1 ik ha t g) sz) := by
  refine Met.ofW (cc := cX2_goFirst) (maxL := 3) (ret := none) (by decide) rfl ?_
  intro p e s m args below meth c s₁ B hml hv0
  obtain ⟨rfl, hsz, hP, hD0, hG⟩ := hv0
  have hx := B.exec
  have hb := B.bytes
  have hr := B.returns
  have hts := atoms_spec (ws := wsX2_goFirst) B.pre
  have hown : s.vm.findClass RX2 = some m.cls := findClass_of_methodNamed B.named
  have hlocks := B.notSynchronized
  subst hsz
  have hD := hD0.self (sz := s.heap.size)
  have hAz0 : ∀ y9, va_A (zcX cI q a b0 b1 ik ha t g) s.heap.size y9 → hs ≤ y9 := zA_of hD0 (fun y9 h => Nat.le_trans hG.2.2.2.2 h) (va_S.rf (A := zA hs) (H0 := s.heap))
  generalize hAe : va_A (zcX cI q a b0 b1 ik ha t g) s.heap.size = A at hD hAz0 ⊢
  have hA : ∀ y9 : Nat, s.heap.size ≤ y9 → A y9 := fun y9 h => by rw [← hAe]; exact Or.inr h
  have hS : va_S A s.heap s.heap [] := va_S.rf
  have hAz : ∀ y9, A y9 → hs ≤ y9 := hAz0
  have hK := hG.1
  have hl := lv_entry ([.ref (q 0), .int (nI h)]) (n := 3) (Nat.le_of_ble_eq_true rfl)
  rw [lg_entry_eq]
  generalize (lg_sl ([.ref (q 0), .int (nI h)]) ++ List.replicate (3 - (lg_sl ([.ref (q 0), .int (nI h)])).length) Slot.unset).toArray = ls at hl ⊢
  have hl : lv_has ls 3 [(0, .ref (q 0)), (1, .int (nI h))] := hl
  have hf26 := hts (.fieldLink RX2 26 "FrozenBits" "halves" "[I") (List.mem_of_getElem? (i := 1) rfl)
  have hiX2 : ∀ w ∈ u_ws RX2 TX2 7, w ∈ wsX2_goFirst := fun w h => List.mem_cons_of_mem _ (List.mem_append_right _ h)
  refine lv_iconst (v := 0) hx hb dX2_goFirst_0 (by decide) ?_
  refine lv_istore_n (lv' := [(2, .int 0), (0, .ref (q 0)), (1, .int (nI h))]) hx hb dX2_goFirst_1 rfl hl (by decide) rfl (fun ls hl => ?_)
  have hl : lv_has ls 3 [(2, .int (nI 0)), (0, .ref (q 0)), (1, .int (nI h))] := hl
  refine zz_forHJ (P := fun H locs g => W p l e _ s m _ below meth c H locs _ _ _ g) (nL := 3) (h) (fun i => [(2, .int (nI i)), (0, .ref (q 0)), (1, .int (nI h))]) (fun i H locs => va_P D vwCl (zcX cI q a b0 b1 ik (zg1 h ha i) t g) H ∧ va_D A (zcX cI q a b0 b1 ik (zg1 h ha i) t g) ∧ va_S A s.heap H locs) (J := fun _ => True) ?_ ?_ (⟨by rw [zg1_0]; exact hP, by rw [zg1_0]; exact hD, hS⟩) (trivial) ((lv_sub hl [0, 1, 2] rfl))
  · intro H locs ls hJ hI0 hl
    obtain ⟨hP, hD, hS⟩ := hI0
    refine lv_iload_n hx hb dX2_goFirst_2 rfl (lv_at hl 0 rfl) ?_
    refine lv_iload_n hx hb dX2_goFirst_3 rfl (lv_at hl 2 rfl) ?_
    refine lv_icmp_ge (tgt := 36) hx hb dX2_goFirst_4 (by decide) (fun c_1 => ?_) (fun c_1 => ?_)
    · replace c_1 := Int32.not_lt.mpr c_1
      exact W.vret hx hb hr (fun t9 ht hW => ⟨⟨_, rfl, (rfl), zP_ht ht hP⟩, hS.F ht⟩) hS.2.2 dX2_goFirst_36
    · replace c_1 := Int32.not_le.mp c_1
      exact absurd c_1 (nI_nlt (Nat.le_refl _) (by omega))
  · intro i hi hJ ihi H locs ls hI0 hl
    obtain ⟨hP, hD, hS⟩ := hI0
    refine lv_iload_n hx hb dX2_goFirst_2 rfl (lv_at hl 0 rfl) ?_
    refine lv_iload_n hx hb dX2_goFirst_3 rfl (lv_at hl 2 rfl) ?_
    refine lv_icmp_ge (tgt := 36) hx hb dX2_goFirst_4 (by decide) (fun c_2 => ?_) (fun c_2 => ?_)
    · replace c_2 := Int32.not_lt.mpr c_2
      exact absurd (nI_lt hi (by omega)) c_2
    · replace c_2 := Int32.not_le.mp c_2
      refine lv_aload_n hx hb dX2_goFirst_7 rfl (lv_at hl 1 rfl) ?_
      refine va_get (ci := 2) (C := RX2) (T := TX2) (N := 7) hx hb hts hiX2 hown hK hP 0 rfl rfl 4 (by decide) hf26 (fun _ h9 => h9) rfl dX2_goFirst_8 ?_
      refine lv_iload_n hx hb dX2_goFirst_11 rfl (lv_at hl 0 rfl) ?_
      refine lv_aload_n hx hb dX2_goFirst_12 rfl (lv_at hl 1 rfl) ?_
      refine va_get (ci := 2) (C := RX2) (T := TX2) (N := 7) hx hb hts hiX2 hown hK hP 0 rfl rfl 4 (by decide) hf26 (fun _ h9 => h9) rfl dX2_goFirst_13 ?_
      refine lv_iload_n hx hb dX2_goFirst_16 rfl (lv_at hl 0 rfl) ?_
      refine zz_iald hx hb hK hP 10 0 rfl rfl (i := i) rfl (by omega) (by decide) dX2_goFirst_17 ?_
      refine lv_aload_n hx hb dX2_goFirst_18 rfl (lv_at hl 1 rfl) ?_
      refine va_get (ci := 2) (C := RX2) (T := TX2) (N := 7) hx hb hts hiX2 hown hK hP 0 rfl rfl 4 (by decide) hf26 (fun _ h9 => h9) rfl dX2_goFirst_19 ?_
      refine lv_iload_n hx hb dX2_goFirst_22 rfl (lv_at hl 0 rfl) ?_
      refine lv_iload_n hx hb dX2_goFirst_23 rfl (lv_at hl 2 rfl) ?_
      refine lv_iadd hx hb dX2_goFirst_24 ?_
      refine zz_topi (nI (i + h)) (zz_addn rfl rfl) ?_
      refine zz_iald hx hb hK hP 10 0 rfl rfl (i := i + h) rfl (by omega) (by decide) dX2_goFirst_25 ?_
      refine zz_pSi (As := [.int ((zg1 h ha i) i), .int ((zg1 h ha i) (i + h))]) (rest := [.int (nI i), .ref (q 10)]) ⟨hx, hb, hml, hown, hts⟩ (c_X2_weaker l ((zg1 h ha i) i) ((zg1 h ha i) (i + h))) (va_cwS 2 hts gX2_goFirst_X2_weaker rfl rfl rfl (by decide +kernel) ⟨Nat.le_of_ble_eq_true rfl, Nat.le_of_ble_eq_true rfl⟩) rfl hl.1 rfl (Nat.le_of_ble_eq_true rfl) ⟨Nat.zero_le _, Nat.zero_le _⟩ dX2_goFirst_26 (fun r_3 er_3 => ?_)
      subst er_3
      refine zz_iast hx hb hK hP hD hS 10 0 rfl rfl (i := i) rfl (by omega) (by decide) dX2_goFirst_29 (fun H locs hP hD hS => ?_)
      have hP : va_P D vwCl (zcX cI q a b0 b1 ik (upd (zg1 h ha i) i (zwk ((zg1 h ha i) i) ((zg1 h ha i) (i + h)))) t g) H := hP
      have hD : va_D A (zcX cI q a b0 b1 ik (upd (zg1 h ha i) i (zwk ((zg1 h ha i) i) ((zg1 h ha i) (i + h)))) t g) := hD
      rw [zg1_s hi] at hP hD
      have hP : va_P D vwCl (zcX cI q a b0 b1 ik (zg1 h ha (i + 1)) t g) H := hP
      have hD : va_D A (zcX cI q a b0 b1 ik (zg1 h ha (i + 1)) t g) := hD
      refine lv_iinc (v := (nI (i + 1))) (lv' := [(2, .int (nI (i + 1))), (0, .ref (q 0)), (1, .int (nI h))]) hx hb dX2_goFirst_30 hl (k := 0) rfl (zz_inc _) (by decide) rfl (fun ls hl => ?_)
      refine lv_goto (tgt := 2) hx hb dX2_goFirst_33 (by decide) ?_
      have hl : lv_has ls 3 [(2, .int (nI ((i + 1)))), (0, .ref (q 0)), (1, .int (nI h))] := hl
      exact ihi (trivial) _ _ ls (⟨hP, hD, hS⟩) (lv_sub hl [0, 1, 2] rfl)
set_option maxHeartbeats 4000000 in
set_option maxRecDepth 100000 in
theorem c_X2_goSecond (l : Launch) (D : va_G) (cI cZ : ClassId) (hs ta : Nat) (sz : Nat) (q : Nat → Nat) (a : ZA) (b0 : ZA) (b1 : ZA) (ik : Nat) (ha : Nat → Int32) (t : ZR) (g : ZR) (h : Nat) (f : Nat) (hh : h ≤ 8) (hf : f < 65536) : Met l yX2_goSecond wsX2_goSecond ({ frames := 1, cells := 0, slots := 0, locals := 21 }) (va_Pc [.ref (q 0), .int (nI h), .int (nI f)] (fun U => U.heap.size = sz ∧ zPre D (zTy cI cZ) hs ta (zcX cI q a b0 b1 ik ha t g) U)) (va_Qv (fun (u : Nat → Int32) => u = zg2 h f ha h) (fun (u : Nat → Int32) t9 => va_P D vwCl (zcX cI q a b0 b1 ik u t g) t9.heap) (va_A (zcX cI q a b0 b1 ik ha t g) sz)) 0 0 (va_A (zcX cI q a b0 b1 ik ha t g) sz) := by
  refine Met.ofW (cc := cX2_goSecond) (maxL := 5) (ret := none) (by decide) rfl ?_
  intro p e s m args below meth c s₁ B hml hv0
  obtain ⟨rfl, hsz, hP, hD0, hG⟩ := hv0
  have hx := B.exec
  have hb := B.bytes
  have hr := B.returns
  have hts := atoms_spec (ws := wsX2_goSecond) B.pre
  have hown : s.vm.findClass RX2 = some m.cls := findClass_of_methodNamed B.named
  have hlocks := B.notSynchronized
  subst hsz
  have hD := hD0.self (sz := s.heap.size)
  have hAz0 : ∀ y9, va_A (zcX cI q a b0 b1 ik ha t g) s.heap.size y9 → hs ≤ y9 := zA_of hD0 (fun y9 h => Nat.le_trans hG.2.2.2.2 h) (va_S.rf (A := zA hs) (H0 := s.heap))
  generalize hAe : va_A (zcX cI q a b0 b1 ik ha t g) s.heap.size = A at hD hAz0 ⊢
  have hA : ∀ y9 : Nat, s.heap.size ≤ y9 → A y9 := fun y9 h => by rw [← hAe]; exact Or.inr h
  have hS : va_S A s.heap s.heap [] := va_S.rf
  have hAz : ∀ y9, A y9 → hs ≤ y9 := hAz0
  have hK := hG.1
  have hl := lv_entry ([.ref (q 0), .int (nI h), .int (nI f)]) (n := 5) (Nat.le_of_ble_eq_true rfl)
  rw [lg_entry_eq]
  generalize (lg_sl ([.ref (q 0), .int (nI h), .int (nI f)]) ++ List.replicate (5 - (lg_sl ([.ref (q 0), .int (nI h), .int (nI f)])).length) Slot.unset).toArray = ls at hl ⊢
  have hl : lv_has ls 5 [(0, .ref (q 0)), (1, .int (nI h)), (2, .int (nI f))] := hl
  have hf26 := hts (.fieldLink RX2 26 "FrozenBits" "halves" "[I") (List.mem_of_getElem? (i := 1) rfl)
  have hiX2 : ∀ w ∈ u_ws RX2 TX2 7, w ∈ wsX2_goSecond := fun w h => List.mem_cons_of_mem _ (List.mem_append_right _ h)
  refine lv_iconst (v := 0) hx hb dX2_goSecond_0 (by decide) ?_
  refine lv_istore_n (lv' := [(3, .int 0), (0, .ref (q 0)), (1, .int (nI h)), (2, .int (nI f))]) hx hb dX2_goSecond_1 rfl hl (by decide) rfl (fun ls hl => ?_)
  have hl : lv_has ls 5 [(3, .int (nI 0)), (0, .ref (q 0)), (1, .int (nI h)), (2, .int (nI f))] := hl
  refine zz_forHJ (P := fun H locs g => W p l e _ s m _ below meth c H locs _ _ _ g) (nL := 5) (h) (fun i => [(3, .int (nI i)), (0, .ref (q 0)), (1, .int (nI h)), (2, .int (nI f))]) (fun i H locs => va_P D vwCl (zcX cI q a b0 b1 ik (zg2 h f ha i) t g) H ∧ va_D A (zcX cI q a b0 b1 ik (zg2 h f ha i) t g) ∧ va_S A s.heap H locs) (J := fun _ => True) ?_ ?_ (⟨by rw [zg2_0]; exact hP, by rw [zg2_0]; exact hD, hS⟩) (trivial) ((lv_sub hl [0, 1, 2, 3] rfl))
  · intro H locs ls hJ hI0 hl
    obtain ⟨hP, hD, hS⟩ := hI0
    refine lv_iload_n hx hb dX2_goSecond_2 rfl (lv_at hl 0 rfl) ?_
    refine lv_iload_n hx hb dX2_goSecond_3 rfl (lv_at hl 2 rfl) ?_
    refine lv_icmp_ge (tgt := 56) hx hb dX2_goSecond_4 (by decide) (fun c_1 => ?_) (fun c_1 => ?_)
    · replace c_1 := Int32.not_lt.mpr c_1
      exact W.vret hx hb hr (fun t9 ht hW => ⟨⟨_, rfl, (rfl), zP_ht ht hP⟩, hS.F ht⟩) hS.2.2 dX2_goSecond_56
    · replace c_1 := Int32.not_le.mp c_1
      exact absurd c_1 (nI_nlt (Nat.le_refl _) (by omega))
  · intro i hi hJ ihi H locs ls hI0 hl
    obtain ⟨hP, hD, hS⟩ := hI0
    refine lv_iload_n hx hb dX2_goSecond_2 rfl (lv_at hl 0 rfl) ?_
    refine lv_iload_n hx hb dX2_goSecond_3 rfl (lv_at hl 2 rfl) ?_
    refine lv_icmp_ge (tgt := 56) hx hb dX2_goSecond_4 (by decide) (fun c_2 => ?_) (fun c_2 => ?_)
    · replace c_2 := Int32.not_lt.mpr c_2
      exact absurd (nI_lt hi (by omega)) c_2
    · replace c_2 := Int32.not_le.mp c_2
      refine lv_iload_n hx hb dX2_goSecond_7 rfl (lv_at hl 3 rfl) ?_
      refine lv_iload_n hx hb dX2_goSecond_8 rfl (lv_at hl 0 rfl) ?_
      refine zz_pSi (As := [.int (nI f), .int (nI i)]) (rest := []) ⟨hx, hb, hml, hown, hts⟩ (c_X2_has l f i (by omega) (by omega)) (va_cwS 2 hts gX2_goSecond_X2_has rfl rfl rfl (by decide +kernel) ⟨Nat.le_of_ble_eq_true rfl, Nat.le_of_ble_eq_true rfl⟩) rfl hl.1 rfl (Nat.le_of_ble_eq_true rfl) ⟨Nat.zero_le _, Nat.zero_le _⟩ dX2_goSecond_9 (fun r_3 er_3 => ?_)
      refine lv_if_eq (tgt := 25) hx hb dX2_goSecond_12 (by decide) (fun c_4 => ?_) (fun c_4 => ?_)
      · replace c_4 := zB_f er_3 c_4
        refine lv_aload_n hx hb dX2_goSecond_25 rfl (lv_at hl 1 rfl) ?_
        refine va_get (ci := 2) (C := RX2) (T := TX2) (N := 7) hx hb hts hiX2 hown hK hP 0 rfl rfl 4 (by decide) hf26 (fun _ h9 => h9) rfl dX2_goSecond_26 ?_
        refine lv_iload_n hx hb dX2_goSecond_29 rfl (lv_at hl 0 rfl) ?_
        refine zz_iald hx hb hK hP 10 0 rfl rfl (i := i) rfl (by omega) (by decide) dX2_goSecond_30 ?_
        refine zz_topi (ha i) (zg2_i h f i ha) ?_
        refine zz_topi (ha i) (rfl) ?_
        refine lv_istore (lv' := [(4, .int (ha i)), (3, .int (nI i)), (0, .ref (q 0)), (1, .int (nI h)), (2, .int (nI f))]) hx hb dX2_goSecond_31 hl (by decide) rfl (fun ls hl => ?_)
        refine lv_aload_n hx hb dX2_goSecond_33 rfl (lv_at hl 2 rfl) ?_
        refine va_get (ci := 2) (C := RX2) (T := TX2) (N := 7) hx hb hts hiX2 hown hK hP 0 rfl rfl 4 (by decide) hf26 (fun _ h9 => h9) rfl dX2_goSecond_34 ?_
        refine lv_iload_n hx hb dX2_goSecond_37 rfl (lv_at hl 1 rfl) ?_
        refine lv_aload_n hx hb dX2_goSecond_38 rfl (lv_at hl 2 rfl) ?_
        refine va_get (ci := 2) (C := RX2) (T := TX2) (N := 7) hx hb hts hiX2 hown hK hP 0 rfl rfl 4 (by decide) hf26 (fun _ h9 => h9) rfl dX2_goSecond_39 ?_
        refine lv_iload_n hx hb dX2_goSecond_42 rfl (lv_at hl 1 rfl) ?_
        refine lv_iload_n hx hb dX2_goSecond_43 rfl (lv_at hl 3 rfl) ?_
        refine lv_iadd hx hb dX2_goSecond_44 ?_
        refine zz_topi (nI (i + h)) (zz_addn rfl rfl) ?_
        refine zz_iald hx hb hK hP 10 0 rfl rfl (i := i + h) rfl (by omega) (by decide) dX2_goSecond_45 ?_
        refine lv_iload hx hb dX2_goSecond_46 (lv_at hl 0 rfl) ?_
        refine lv_iadd hx hb dX2_goSecond_48 ?_
        refine zz_iast hx hb hK hP hD hS 10 0 rfl rfl (i := i) rfl (by omega) (by decide) dX2_goSecond_49 (fun H locs hP hD hS => ?_)
        have hP : va_P D vwCl (zcX cI q a b0 b1 ik (upd (zg2 h f ha i) i (((zg2 h f ha i) (i + h)) + (ha i))) t g) H := hP
        have hD : va_D A (zcX cI q a b0 b1 ik (upd (zg2 h f ha i) i (((zg2 h f ha i) (i + h)) + (ha i))) t g) := hD
        rw [zg2_s (v := (((zg2 h f ha i) (i + h)) + (ha i))) hi (by simp only [c_2, c_4, not_true_eq_false, not_false_eq_true, and_self, and_true, true_and, and_false, false_and, or_self, or_true, true_or, or_false, false_or, if_true, if_false, ↓reduceIte, Bool.false_eq_true, iff_self, iff_true, iff_false, true_iff, false_iff, Nat.add_zero])] at hP hD
        have hP : va_P D vwCl (zcX cI q a b0 b1 ik (zg2 h f ha (i + 1)) t g) H := hP
        have hD : va_D A (zcX cI q a b0 b1 ik (zg2 h f ha (i + 1)) t g) := hD
        refine lv_iinc (v := (nI (i + 1))) (lv' := [(3, .int (nI (i + 1))), (4, .int (ha i)), (0, .ref (q 0)), (1, .int (nI h)), (2, .int (nI f))]) hx hb dX2_goSecond_50 hl (k := 1) rfl (zz_inc _) (by decide) rfl (fun ls hl => ?_)
        refine lv_goto (tgt := 2) hx hb dX2_goSecond_53 (by decide) ?_
        have hl : lv_has ls 5 [(3, .int (nI ((i + 1)))), (4, .int (ha i)), (0, .ref (q 0)), (1, .int (nI h)), (2, .int (nI f))] := hl
        exact ihi (trivial) _ _ ls (⟨hP, hD, hS⟩) (lv_sub hl [0, 2, 3, 4] rfl)
      · replace c_4 := zB_t er_3 c_4
        refine lv_aload_n hx hb dX2_goSecond_15 rfl (lv_at hl 1 rfl) ?_
        refine va_get (ci := 2) (C := RX2) (T := TX2) (N := 7) hx hb hts hiX2 hown hK hP 0 rfl rfl 4 (by decide) hf26 (fun _ h9 => h9) rfl dX2_goSecond_16 ?_
        refine lv_iload_n hx hb dX2_goSecond_19 rfl (lv_at hl 0 rfl) ?_
        refine zz_iald hx hb hK hP 10 0 rfl rfl (i := i) rfl (by omega) (by decide) dX2_goSecond_20 ?_
        refine zz_topi (ha i) (zg2_i h f i ha) ?_
        refine lv_ineg hx hb dX2_goSecond_21 ?_
        refine lv_goto (tgt := 31) hx hb dX2_goSecond_22 (by decide) ?_
        refine zz_topi (-(ha i)) (rfl) ?_
        refine lv_istore (lv' := [(4, .int (-(ha i))), (3, .int (nI i)), (0, .ref (q 0)), (1, .int (nI h)), (2, .int (nI f))]) hx hb dX2_goSecond_31 hl (by decide) rfl (fun ls hl => ?_)
        refine lv_aload_n hx hb dX2_goSecond_33 rfl (lv_at hl 2 rfl) ?_
        refine va_get (ci := 2) (C := RX2) (T := TX2) (N := 7) hx hb hts hiX2 hown hK hP 0 rfl rfl 4 (by decide) hf26 (fun _ h9 => h9) rfl dX2_goSecond_34 ?_
        refine lv_iload_n hx hb dX2_goSecond_37 rfl (lv_at hl 1 rfl) ?_
        refine lv_aload_n hx hb dX2_goSecond_38 rfl (lv_at hl 2 rfl) ?_
        refine va_get (ci := 2) (C := RX2) (T := TX2) (N := 7) hx hb hts hiX2 hown hK hP 0 rfl rfl 4 (by decide) hf26 (fun _ h9 => h9) rfl dX2_goSecond_39 ?_
        refine lv_iload_n hx hb dX2_goSecond_42 rfl (lv_at hl 1 rfl) ?_
        refine lv_iload_n hx hb dX2_goSecond_43 rfl (lv_at hl 3 rfl) ?_
        refine lv_iadd hx hb dX2_goSecond_44 ?_
        refine zz_topi (nI (i + h)) (zz_addn rfl rfl) ?_
        refine zz_iald hx hb hK hP 10 0 rfl rfl (i := i + h) rfl (by omega) (by decide) dX2_goSecond_45 ?_
        refine lv_iload hx hb dX2_goSecond_46 (lv_at hl 0 rfl) ?_
        refine lv_iadd hx hb dX2_goSecond_48 ?_
        refine zz_iast hx hb hK hP hD hS 10 0 rfl rfl (i := i) rfl (by omega) (by decide) dX2_goSecond_49 (fun H locs hP hD hS => ?_)
        have hP : va_P D vwCl (zcX cI q a b0 b1 ik (upd (zg2 h f ha i) i (((zg2 h f ha i) (i + h)) + (-(ha i)))) t g) H := hP
        have hD : va_D A (zcX cI q a b0 b1 ik (upd (zg2 h f ha i) i (((zg2 h f ha i) (i + h)) + (-(ha i)))) t g) := hD
        rw [zg2_s (v := (((zg2 h f ha i) (i + h)) + (-(ha i)))) hi (by simp only [c_2, c_4, not_true_eq_false, not_false_eq_true, and_self, and_true, true_and, and_false, false_and, or_self, or_true, true_or, or_false, false_or, if_true, if_false, ↓reduceIte, Bool.false_eq_true, iff_self, iff_true, iff_false, true_iff, false_iff, Nat.add_zero])] at hP hD
        have hP : va_P D vwCl (zcX cI q a b0 b1 ik (zg2 h f ha (i + 1)) t g) H := hP
        have hD : va_D A (zcX cI q a b0 b1 ik (zg2 h f ha (i + 1)) t g) := hD
        refine lv_iinc (v := (nI (i + 1))) (lv' := [(3, .int (nI (i + 1))), (4, .int (-(ha i))), (0, .ref (q 0)), (1, .int (nI h)), (2, .int (nI f))]) hx hb dX2_goSecond_50 hl (k := 1) rfl (zz_inc _) (by decide) rfl (fun ls hl => ?_)
        refine lv_goto (tgt := 2) hx hb dX2_goSecond_53 (by decide) ?_
        have hl : lv_has ls 5 [(3, .int (nI ((i + 1)))), (4, .int (-(ha i))), (0, .ref (q 0)), (1, .int (nI h)), (2, .int (nI f))] := hl
        exact ihi (trivial) _ _ ls (⟨hP, hD, hS⟩) (lv_sub hl [0, 2, 3, 4] rfl)
set_option maxHeartbeats 4000000 in
set_option maxRecDepth 100000 in
theorem c_X2_seenOf (l : Launch) (D : va_G) (cI cZ : ClassId) (hs ta : Nat) (sz : Nat) (q : Nat → Nat) (a : ZA) (b0 : ZA) (b1 : ZA) (ik : Nat) (ha : Nat → Int32) (t : ZR) (g : ZR) (k : Nat) (w : Nat) (hI : zInv a) (hk : k < 16) (hw : w < 65536) : Met l yX2_seenOf wsX2_seenOf ({ frames := 3, cells := 0, slots := 0, locals := 65 }) (va_Pc [.ref (q 0), .int (nI k), .int (nI w)] (fun U => U.heap.size = sz ∧ zPre D (zTy cI cZ) hs ta (zcX cI q a b0 b1 ik ha t g) U)) (va_Qi (fun (r : Int32) (u : Nat → Int32) => r = zsee a.2.2.2.2.2.1 a.1 k w) (fun (u : Nat → Int32) t9 => va_P D vwCl (zcX cI q a b0 b1 ik u t g) t9.heap) (va_A (zcX cI q a b0 b1 ik ha t g) sz)) 0 0 (va_A (zcX cI q a b0 b1 ik ha t g) sz) := by
  refine Met.ofW (cc := cX2_seenOf) (maxL := 5) (ret := (some .int)) (by decide) rfl ?_
  intro p e s m args below meth c s₁ B hml hv0
  obtain ⟨rfl, hsz, hP, hD0, hG⟩ := hv0
  have hx := B.exec
  have hb := B.bytes
  have hr := B.returns
  have hts := atoms_spec (ws := wsX2_seenOf) B.pre
  have hown : s.vm.findClass RX2 = some m.cls := findClass_of_methodNamed B.named
  have hlocks := B.notSynchronized
  subst hsz
  have hD := hD0.self (sz := s.heap.size)
  have hAz0 : ∀ y9, va_A (zcX cI q a b0 b1 ik ha t g) s.heap.size y9 → hs ≤ y9 := zA_of hD0 (fun y9 h => Nat.le_trans hG.2.2.2.2 h) (va_S.rf (A := zA hs) (H0 := s.heap))
  generalize hAe : va_A (zcX cI q a b0 b1 ik ha t g) s.heap.size = A at hD hAz0 ⊢
  have hA : ∀ y9 : Nat, s.heap.size ≤ y9 → A y9 := fun y9 h => by rw [← hAe]; exact Or.inr h
  have hS : va_S A s.heap s.heap [] := va_S.rf
  have hAz : ∀ y9, A y9 → hs ≤ y9 := hAz0
  have hK := hG.1
  have hl := lv_entry ([.ref (q 0), .int (nI k), .int (nI w)]) (n := 5) (Nat.le_of_ble_eq_true rfl)
  rw [lg_entry_eq]
  generalize (lg_sl ([.ref (q 0), .int (nI k), .int (nI w)]) ++ List.replicate (5 - (lg_sl ([.ref (q 0), .int (nI k), .int (nI w)])).length) Slot.unset).toArray = ls at hl ⊢
  have hl : lv_has ls 5 [(0, .ref (q 0)), (1, .int (nI k)), (2, .int (nI w))] := hl
  have hf10 := hts (.fieldLink RX2 10 "FrozenBits" "now" "LFrozenBits$Facts;") (List.mem_of_getElem? (i := 1) rfl)
  have hiX2 : ∀ w ∈ u_ws RX2 TX2 7, w ∈ wsX2_seenOf := fun w h => List.mem_cons_of_mem _ (List.mem_append_left _ (List.mem_append_right _ h))
  have hn108 := hG.2.1 (.fieldLinkNest "FrozenBits" 108 "FrozenBits$Facts" "measures" "[I" "FrozenBits") (List.mem_of_getElem? (i := 5) rfl)
  have hiX0 : ∀ w ∈ u_ws RX0 TX0 7, w ∈ wsX2_seenOf := fun w h => List.mem_cons_of_mem _ (List.mem_append_right _ h)
  have hf26 := hts (.fieldLink RX2 26 "FrozenBits" "halves" "[I") (List.mem_of_getElem? (i := 2) rfl)
  refine lv_aload_n hx hb dX2_seenOf_0 rfl (lv_at hl 0 rfl) ?_
  refine va_get (ci := 2) (C := RX2) (T := TX2) (N := 7) hx hb hts hiX2 hown hK hP 0 rfl rfl 0 (by decide) hf10 (fun _ h9 => h9) rfl dX2_seenOf_1 ?_
  refine va_getN (ci := 0) (C := RX0) (T := TX0) (N := 7) hx hb hts hiX0 hown hK hP 1 rfl rfl 5 (by decide) (va_Nw.use rfl hn108) (fun _ h9 => h9) rfl dX2_seenOf_4 ?_
  refine lv_iconst (v := 0) hx hb dX2_seenOf_7 (by decide) ?_
  refine lv_aload_n hx hb dX2_seenOf_8 rfl (lv_at hl 0 rfl) ?_
  refine va_get (ci := 2) (C := RX2) (T := TX2) (N := 7) hx hb hts hiX2 hown hK hP 0 rfl rfl 4 (by decide) hf26 (fun _ h9 => h9) rfl dX2_seenOf_9 ?_
  refine lv_iconst (v := 0) hx hb dX2_seenOf_12 (by decide) ?_
  refine lv_bipush (v := 16) hx hb dX2_seenOf_13 (by decide) ?_
  refine zz_copy (i := 16) hx hb (hml.trans hl.1.symm) hown (hts (.methodLink RX2 196 arraycopyName) (List.mem_of_getElem? (i := 3) rfl)) (hts (.native arraycopyName) (List.mem_of_getElem? (i := 4) rfl)) (hts (.static arraycopyName) (List.mem_of_getElem? (i := 5) rfl)) (hts (.initialized "java/lang/System") (List.mem_of_getElem? (i := 6) rfl)) hK hP hD hS 2 10 0 0 rfl rfl rfl rfl (show (16 : Int32) = nI 16 from rfl) (by decide) (by decide) (by decide) (Nat.le_of_ble_eq_true rfl) (fun _ => rfl) dX2_seenOf_15 (fun H locs hP hD hS => ?_)
  have hP : va_P D vwCl (zcX cI q a b0 b1 ik (va_cpy a.2.2.2.2.2.1 ha 0 0 16) t g) H := hP
  have hD : va_D A (zcX cI q a b0 b1 ik (va_cpy a.2.2.2.2.2.1 ha 0 0 16) t g) := hD
  replace hP := zP_arr hP (k := 10) (g := a.2.2.2.2.2.1) rfl (fun j hj => sb_cpy0 hj)
  replace hD := zD_same (ws' := zcX cI q a b0 b1 ik a.2.2.2.2.2.1 t g) hD rfl
  have hP : va_P D vwCl (zcX cI q a b0 b1 ik a.2.2.2.2.2.1 t g) H := hP
  have hD : va_D A (zcX cI q a b0 b1 ik a.2.2.2.2.2.1 t g) := hD
  refine lv_iconst (v := 0) hx hb dX2_seenOf_18 (by decide) ?_
  refine lv_istore_n (lv' := [(3, .int 0), (0, .ref (q 0)), (1, .int (nI k)), (2, .int (nI w))]) hx hb dX2_seenOf_19 rfl hl (by decide) rfl (fun ls hl => ?_)
  refine lv_aload_n hx hb dX2_seenOf_20 rfl (lv_at hl 1 rfl) ?_
  refine zz_cVi (cs := zcX cI q a b0 b1 ik a.2.2.2.2.2.1 t g) (As := []) (rest := []) ⟨hx, hb, hml, hown, hts⟩ (c_X2_places l D cI cZ hs ta q a b0 b1 ik a.2.2.2.2.2.1 t g hI.1.2) (cwV 0 hts gX2_seenOf_X2_places rfl rfl rfl (by decide +kernel) ⟨Nat.le_of_ble_eq_true rfl, Nat.le_of_ble_eq_true rfl⟩) (va_recv hK hP (ci := 2) (q0 := 0) rfl rfl) hP hD hG hS hAz rfl hl.1 rfl (Nat.le_of_ble_eq_true rfl) ⟨Nat.zero_le _, Nat.zero_le _⟩ dX2_seenOf_21 (fun r_1 er_1 => ?_)
  subst er_1
  refine lv_iconst (v := 1) hx hb dX2_seenOf_24 (by decide) ?_
  refine lv_ishr hx hb dX2_seenOf_25 ?_
  refine zz_topi (nI ((2 ^ a.1) >>> 1)) (zz_shrn rfl (show (1 : Int32) = nI 1 from rfl) (by have := zNp hI; omega) (by decide)) ?_
  refine lv_istore (lv' := [(4, .int (nI ((2 ^ a.1) >>> 1))), (3, .int 0), (0, .ref (q 0)), (1, .int (nI k)), (2, .int (nI w))]) hx hb dX2_seenOf_26 hl (by decide) rfl (fun ls hl => ?_)
  have hl : lv_has ls 5 [(4, .int (nI (zhf a.1 0))), (3, .int (nI ((zsn a.2.2.2.2.2.1 a.1 k w 0).2))), (0, .ref (q 0)), (1, .int (nI k)), (2, .int (nI w))] := hl
  refine zz_forHJ (P := fun H locs g => W p l e _ s m _ below meth c H locs _ _ _ g) (nL := 5) (a.1) (fun i => [(4, .int (nI (zhf a.1 i))), (3, .int (nI ((zsn a.2.2.2.2.2.1 a.1 k w i).2))), (0, .ref (q 0)), (1, .int (nI k)), (2, .int (nI w))]) (fun i H locs => va_P D vwCl (zcX cI q a b0 b1 ik ((zsn a.2.2.2.2.2.1 a.1 k w i).1) t g) H ∧ va_D A (zcX cI q a b0 b1 ik ((zsn a.2.2.2.2.2.1 a.1 k w i).1) t g) ∧ va_S A s.heap H locs) (J := fun _ => True) ?_ ?_ (⟨hP, hD, hS⟩) (trivial) ((lv_sub hl [0, 1, 2, 3, 4] rfl))
  · intro H locs ls hJ hI0 hl
    obtain ⟨hP, hD, hS⟩ := hI0
    refine lv_iload hx hb dX2_seenOf_28 (lv_at hl 0 rfl) ?_
    refine lv_if_le (tgt := 82) hx hb dX2_seenOf_30 (by decide) (fun c_2 => ?_) (fun c_2 => ?_)
    · replace c_2 := Int32.not_lt.mpr c_2
      refine lv_aload_n hx hb dX2_seenOf_82 rfl (lv_at hl 2 rfl) ?_
      refine va_get (ci := 2) (C := RX2) (T := TX2) (N := 7) hx hb hts hiX2 hown hK hP 0 rfl rfl 4 (by decide) hf26 (fun _ h9 => h9) rfl dX2_seenOf_83 ?_
      refine lv_iconst (v := 0) hx hb dX2_seenOf_86 (by decide) ?_
      refine zz_iald hx hb hK hP 10 0 rfl rfl (i := 0) (show (0 : Int32) = nI 0 from rfl) (by decide) (by decide) dX2_seenOf_87 ?_
      exact W.iret (v := (((zsn a.2.2.2.2.2.1 a.1 k w a.1).1) 0)) hx hb hr (fun t9 ht hW => ⟨⟨_, ((zsn a.2.2.2.2.2.1 a.1 k w a.1).1), rfl, (rfl), zP_ht ht hP⟩, hS.F ht⟩) hS.2.2 dX2_seenOf_88
    · replace c_2 := Int32.not_le.mp c_2
      exact absurd c_2 (by unfold zhf; rw [Nat.sub_self]; decide)
  · intro i hi hJ ihi H locs ls hI0 hl
    obtain ⟨hP, hD, hS⟩ := hI0
    refine lv_iload hx hb dX2_seenOf_28 (lv_at hl 0 rfl) ?_
    refine lv_if_le (tgt := 82) hx hb dX2_seenOf_30 (by decide) (fun c_3 => ?_) (fun c_3 => ?_)
    · replace c_3 := Int32.not_lt.mpr c_3
      exact absurd (nI_lt (zhf_pos hi) (by have := zhf_le (i := i) hI.1.2; omega)) c_3
    · replace c_3 := Int32.not_le.mp c_3
      refine lv_iload_n hx hb dX2_seenOf_33 rfl (lv_at hl 3 rfl) ?_
      refine lv_iload hx hb dX2_seenOf_34 (lv_at hl 0 rfl) ?_
      refine lv_iand hx hb dX2_seenOf_36 ?_
      refine zz_topi (nI (k &&& (zhf a.1 i))) (zz_andn rfl rfl) ?_
      refine lv_if_ne (tgt := 49) hx hb dX2_seenOf_37 (by decide) (fun c_4 => ?_) (fun c_4 => ?_)
      · replace c_4 := Bool.of_not_eq_false (fun q => zI_n0 c_4 ((zhf_bit hi (by omega)).mpr q))
        refine lv_aload_n hx hb dX2_seenOf_49 rfl (lv_at hl 2 rfl) ?_
        refine lv_iload hx hb dX2_seenOf_50 (lv_at hl 0 rfl) ?_
        refine lv_iload_n hx hb dX2_seenOf_52 rfl (lv_at hl 4 rfl) ?_
        refine lv_iload_n hx hb dX2_seenOf_53 rfl (lv_at hl 1 rfl) ?_
        refine lv_ishr hx hb dX2_seenOf_54 ?_
        refine zz_topi (nI (w >>> ((zsn a.2.2.2.2.2.1 a.1 k w i).2))) (zz_shrn rfl rfl (by omega) (by have := zsn_16 hI a.2.2.2.2.2.1 k w (Nat.le_of_lt hi); omega)) ?_
        refine lv_iconst (v := 1) hx hb dX2_seenOf_55 (by decide) ?_
        refine lv_iload hx hb dX2_seenOf_56 (lv_at hl 0 rfl) ?_
        refine lv_ishl hx hb dX2_seenOf_58 ?_
        refine zz_topi (nI (2 ^ (zhf a.1 i))) (zz_shl1n rfl (by have := zhf_le (i := i) hI.1.2; omega)) ?_
        refine lv_iconst (v := 1) hx hb dX2_seenOf_59 (by decide) ?_
        refine lv_isub hx hb dX2_seenOf_60 ?_
        refine zz_topi (nI ((2 ^ (zhf a.1 i)) - 1)) (zz_subn rfl (show (1 : Int32) = nI 1 from rfl) (Nat.one_le_two_pow)) ?_
        refine lv_iand hx hb dX2_seenOf_61 ?_
        refine zz_topi (nI ((w >>> ((zsn a.2.2.2.2.2.1 a.1 k w i).2)) &&& ((2 ^ (zhf a.1 i)) - 1))) (zz_andn rfl rfl) ?_
        refine zz_cSi (cs := []) (As := [.int (nI ((w >>> ((zsn a.2.2.2.2.2.1 a.1 k w i).2)) &&& ((2 ^ (zhf a.1 i)) - 1)))]) (rest := [.int (nI (zhf a.1 i)), .ref (q 0)]) ⟨hx, hb, hml, hown, hts⟩ (c_X2_codedOf l D cI cZ hs ta ((w >>> ((zsn a.2.2.2.2.2.1 a.1 k w i).2)) &&& ((2 ^ (zhf a.1 i)) - 1)) (Nat.lt_of_le_of_lt (Nat.le_trans Nat.and_le_left (Nat.shiftRight_le _ _)) hw)) (va_cwS 1 hts gX2_seenOf_X2_codedOf rfl rfl rfl (by decide +kernel) ⟨Nat.le_of_ble_eq_true rfl, Nat.le_of_ble_eq_true rfl⟩) zP_nil zD_nil hG hS hAz rfl hl.1 rfl (Nat.le_of_ble_eq_true rfl) ⟨Nat.zero_le _, Nat.zero_le _⟩ dX2_seenOf_62 (fun r_5 er_5 => ?_)
        subst er_5
        refine zz_mVv (ct := (fun (u : Nat → Int32) => zcX cI q a b0 b1 ik u t g)) (cs := zcX cI q a b0 b1 ik ((zsn a.2.2.2.2.2.1 a.1 k w i).1) t g) (As := [.int (nI (zhf a.1 i)), .int (nI (zcod ((w >>> ((zsn a.2.2.2.2.2.1 a.1 k w i).2)) &&& ((2 ^ (zhf a.1 i)) - 1))))]) (rest := []) ⟨hx, hb, hml, hown, hts⟩ (c_X2_goSecond l D cI cZ hs ta H.size q a b0 b1 ik ((zsn a.2.2.2.2.2.1 a.1 k w i).1) t g (zhf a.1 i) (zcod ((w >>> ((zsn a.2.2.2.2.2.1 a.1 k w i).2)) &&& ((2 ^ (zhf a.1 i)) - 1))) (zhf_le hI.1.2) (zcod_lt (Nat.lt_of_le_of_lt (Nat.le_trans Nat.and_le_left (Nat.shiftRight_le _ _)) hw))) (fun _ => rfl) (cwV 2 hts gX2_seenOf_X2_goSecond rfl rfl rfl (by decide +kernel) ⟨Nat.le_of_ble_eq_true rfl, Nat.le_of_ble_eq_true rfl⟩) (va_recv hK hP (ci := 2) (q0 := 0) rfl rfl) hP hD hG hS hA hAz rfl hl.1 rfl (Nat.le_of_ble_eq_true rfl) ⟨Nat.zero_le _, Nat.zero_le _⟩ dX2_seenOf_65 (fun u_7 H locs eu_7 hP hD hS => ?_)
        subst eu_7
        have hP : va_P D vwCl (zcX cI q a b0 b1 ik (zg2 (zhf a.1 i) (zcod ((w >>> ((zsn a.2.2.2.2.2.1 a.1 k w i).2)) &&& ((2 ^ (zhf a.1 i)) - 1))) ((zsn a.2.2.2.2.2.1 a.1 k w i).1) (zhf a.1 i)) t g) H := hP
        have hD : va_D A (zcX cI q a b0 b1 ik (zg2 (zhf a.1 i) (zcod ((w >>> ((zsn a.2.2.2.2.2.1 a.1 k w i).2)) &&& ((2 ^ (zhf a.1 i)) - 1))) ((zsn a.2.2.2.2.2.1 a.1 k w i).1) (zhf a.1 i)) t g) := hD
        refine lv_iload_n hx hb dX2_seenOf_68 rfl (lv_at hl 1 rfl) ?_
        refine lv_iload hx hb dX2_seenOf_69 (lv_at hl 0 rfl) ?_
        refine lv_iadd hx hb dX2_seenOf_71 ?_
        refine zz_topi (nI (((zsn a.2.2.2.2.2.1 a.1 k w i).2) + (zhf a.1 i))) (zz_addn rfl rfl) ?_
        refine lv_istore_n (lv' := [(3, .int (nI (((zsn a.2.2.2.2.2.1 a.1 k w i).2) + (zhf a.1 i)))), (4, .int (nI (zhf a.1 i))), (0, .ref (q 0)), (1, .int (nI k)), (2, .int (nI w))]) hx hb dX2_seenOf_72 rfl hl (by decide) rfl (fun ls hl => ?_)
        refine lv_iload hx hb dX2_seenOf_73 (lv_at hl 1 rfl) ?_
        refine lv_iconst (v := 1) hx hb dX2_seenOf_75 (by decide) ?_
        refine lv_ishr hx hb dX2_seenOf_76 ?_
        refine zz_topi (nI (zhf a.1 (i + 1))) (by rw [zz_shrn rfl (show (1 : Int32) = nI 1 from rfl) (by have := zhf_le (i := i) hI.1.2; omega) (by decide), zhf_next]) ?_
        refine lv_istore (lv' := [(4, .int (nI (zhf a.1 (i + 1)))), (3, .int (nI (((zsn a.2.2.2.2.2.1 a.1 k w i).2) + (zhf a.1 i)))), (0, .ref (q 0)), (1, .int (nI k)), (2, .int (nI w))]) hx hb dX2_seenOf_77 hl (by decide) rfl (fun ls hl => ?_)
        refine lv_goto (tgt := 28) hx hb dX2_seenOf_79 (by decide) ?_
        rw [show ((nI (((zsn a.2.2.2.2.2.1 a.1 k w i).2) + (zhf a.1 i))) : Int32) = (nI ((zsn a.2.2.2.2.2.1 a.1 k w (i + 1)).2)) from by simp only [zsn, c_3, c_4, not_true_eq_false, not_false_eq_true, and_self, and_true, true_and, and_false, false_and, or_self, or_true, true_or, or_false, false_or, if_true, if_false, ↓reduceIte, Bool.false_eq_true, iff_self, iff_true, iff_false, true_iff, false_iff, Nat.add_zero]] at hl
        exact ihi (trivial) _ _ ls (by simp only [zsn, c_3, c_4, not_true_eq_false, not_false_eq_true, and_self, and_true, true_and, and_false, false_and, or_self, or_true, true_or, or_false, false_or, if_true, if_false, ↓reduceIte, Bool.false_eq_true, iff_self, iff_true, iff_false, true_iff, false_iff, Nat.add_zero]; exact ⟨hP, hD, hS⟩) (lv_sub hl [0, 1, 2, 3, 4] rfl)
      · replace c_4 := (zhf_bit hi (by omega)).mp (zI_0 (Nat.lt_of_le_of_lt Nat.and_le_left (by omega)) c_4)
        refine lv_aload_n hx hb dX2_seenOf_40 rfl (lv_at hl 2 rfl) ?_
        refine lv_iload hx hb dX2_seenOf_41 (lv_at hl 0 rfl) ?_
        refine zz_mVv (ct := (fun (u : Nat → Int32) => zcX cI q a b0 b1 ik u t g)) (cs := zcX cI q a b0 b1 ik ((zsn a.2.2.2.2.2.1 a.1 k w i).1) t g) (As := [.int (nI (zhf a.1 i))]) (rest := []) ⟨hx, hb, hml, hown, hts⟩ (c_X2_goFirst l D cI cZ hs ta H.size q a b0 b1 ik ((zsn a.2.2.2.2.2.1 a.1 k w i).1) t g (zhf a.1 i) (zhf_le hI.1.2)) (fun _ => rfl) (cwV 1 hts gX2_seenOf_X2_goFirst rfl rfl rfl (by decide +kernel) ⟨Nat.le_of_ble_eq_true rfl, Nat.le_of_ble_eq_true rfl⟩) (va_recv hK hP (ci := 2) (q0 := 0) rfl rfl) hP hD hG hS hA hAz rfl hl.1 rfl (Nat.le_of_ble_eq_true rfl) ⟨Nat.zero_le _, Nat.zero_le _⟩ dX2_seenOf_43 (fun u_9 H locs eu_9 hP hD hS => ?_)
        subst eu_9
        have hP : va_P D vwCl (zcX cI q a b0 b1 ik (zg1 (zhf a.1 i) ((zsn a.2.2.2.2.2.1 a.1 k w i).1) (zhf a.1 i)) t g) H := hP
        have hD : va_D A (zcX cI q a b0 b1 ik (zg1 (zhf a.1 i) ((zsn a.2.2.2.2.2.1 a.1 k w i).1) (zhf a.1 i)) t g) := hD
        refine lv_goto (tgt := 73) hx hb dX2_seenOf_46 (by decide) ?_
        refine lv_iload hx hb dX2_seenOf_73 (lv_at hl 0 rfl) ?_
        refine lv_iconst (v := 1) hx hb dX2_seenOf_75 (by decide) ?_
        refine lv_ishr hx hb dX2_seenOf_76 ?_
        refine zz_topi (nI (zhf a.1 (i + 1))) (by rw [zz_shrn rfl (show (1 : Int32) = nI 1 from rfl) (by have := zhf_le (i := i) hI.1.2; omega) (by decide), zhf_next]) ?_
        refine lv_istore (lv' := [(4, .int (nI (zhf a.1 (i + 1)))), (3, .int (nI ((zsn a.2.2.2.2.2.1 a.1 k w i).2))), (0, .ref (q 0)), (1, .int (nI k)), (2, .int (nI w))]) hx hb dX2_seenOf_77 hl (by decide) rfl (fun ls hl => ?_)
        refine lv_goto (tgt := 28) hx hb dX2_seenOf_79 (by decide) ?_
        rw [show ((nI ((zsn a.2.2.2.2.2.1 a.1 k w i).2)) : Int32) = (nI ((zsn a.2.2.2.2.2.1 a.1 k w (i + 1)).2)) from by simp only [zsn, c_3, c_4, not_true_eq_false, not_false_eq_true, and_self, and_true, true_and, and_false, false_and, or_self, or_true, true_or, or_false, false_or, if_true, if_false, ↓reduceIte, Bool.false_eq_true, iff_self, iff_true, iff_false, true_iff, false_iff, Nat.add_zero]] at hl
        exact ihi (trivial) _ _ ls (by simp only [zsn, c_3, c_4, not_true_eq_false, not_false_eq_true, and_self, and_true, true_and, and_false, false_and, or_self, or_true, true_or, or_false, false_or, if_true, if_false, ↓reduceIte, Bool.false_eq_true, iff_self, iff_true, iff_false, true_iff, false_iff, Nat.add_zero]; exact ⟨hP, hD, hS⟩) (lv_sub hl [0, 1, 2, 3, 4] rfl)
set_option maxHeartbeats 4000000 in
set_option maxRecDepth 100000 in
theorem c_X2_rowRead (l : Launch) (D : va_G) (cI cZ : ClassId) (hs ta : Nat) (sz : Nat) (q : Nat → Nat) (a : ZA) (b0 : ZA) (b1 : ZA) (ik : Nat) (ha : Nat → Int32) (t : ZR) (g : ZR) (hI : zInv a) : Met l yX2_rowRead wsX2_rowRead ({ frames := 4, cells := 0, slots := 0, locals := 89 }) (va_Pc [.ref (q 0)] (fun U => U.heap.size = sz ∧ zPre D (zTy cI cZ) hs ta (zcX cI q a b0 b1 ik ha t g) U)) (va_Qi (fun (r : Int32) (u : Nat → Int32) => r = nI (zrr a (2 ^ a.1))) (fun (u : Nat → Int32) t9 => va_P D vwCl (zcX cI q a b0 b1 ik u t g) t9.heap) (va_A (zcX cI q a b0 b1 ik ha t g) sz)) 0 0 (va_A (zcX cI q a b0 b1 ik ha t g) sz) := by
  refine Met.ofW (cc := cX2_rowRead) (maxL := 3) (ret := (some .int)) (by decide) rfl ?_
  intro p e s m args below meth c s₁ B hml hv0
  obtain ⟨rfl, hsz, hP, hD0, hG⟩ := hv0
  have hx := B.exec
  have hb := B.bytes
  have hr := B.returns
  have hts := atoms_spec (ws := wsX2_rowRead) B.pre
  have hown : s.vm.findClass RX2 = some m.cls := findClass_of_methodNamed B.named
  have hlocks := B.notSynchronized
  subst hsz
  have hD := hD0.self (sz := s.heap.size)
  have hAz0 : ∀ y9, va_A (zcX cI q a b0 b1 ik ha t g) s.heap.size y9 → hs ≤ y9 := zA_of hD0 (fun y9 h => Nat.le_trans hG.2.2.2.2 h) (va_S.rf (A := zA hs) (H0 := s.heap))
  generalize hAe : va_A (zcX cI q a b0 b1 ik ha t g) s.heap.size = A at hD hAz0 ⊢
  have hA : ∀ y9 : Nat, s.heap.size ≤ y9 → A y9 := fun y9 h => by rw [← hAe]; exact Or.inr h
  have hS : va_S A s.heap s.heap [] := va_S.rf
  have hAz : ∀ y9, A y9 → hs ≤ y9 := hAz0
  have hK := hG.1
  have hl := lv_entry ([.ref (q 0)]) (n := 3) (Nat.le_of_ble_eq_true rfl)
  rw [lg_entry_eq]
  generalize (lg_sl ([.ref (q 0)]) ++ List.replicate (3 - (lg_sl ([.ref (q 0)])).length) Slot.unset).toArray = ls at hl ⊢
  have hl : lv_has ls 3 [(0, .ref (q 0))] := hl
  refine lv_iconst (v := 0) hx hb dX2_rowRead_0 (by decide) ?_
  refine lv_istore_n (lv' := [(1, .int 0), (0, .ref (q 0))]) hx hb dX2_rowRead_1 rfl hl (by decide) rfl (fun ls hl => ?_)
  refine lv_iconst (v := 0) hx hb dX2_rowRead_2 (by decide) ?_
  refine lv_istore_n (lv' := [(2, .int 0), (1, .int 0), (0, .ref (q 0))]) hx hb dX2_rowRead_3 rfl hl (by decide) rfl (fun ls hl => ?_)
  have hl : lv_has ls 3 [(2, .int (nI 0)), (1, .int (nI (zrr a 0))), (0, .ref (q 0))] := hl
  refine zz_forHJ (P := fun H locs g => W p l e _ s m _ below meth c H locs _ _ _ g) (nL := 3) (2 ^ a.1) (fun i => [(2, .int (nI i)), (1, .int (nI (zrr a i))), (0, .ref (q 0))]) (fun i H locs => ∃ hx1 : Nat → Int32, va_P D vwCl (zcX cI q a b0 b1 ik hx1 t g) H ∧ va_D A (zcX cI q a b0 b1 ik hx1 t g) ∧ va_S A s.heap H locs) (J := fun _ => True) ?_ ?_ (⟨_, hP, hD, hS⟩) (trivial) ((lv_sub hl [0, 1, 2] rfl))
  · intro H locs ls hJ hI0 hl
    obtain ⟨hx1, hP, hD, hS⟩ := hI0
    refine lv_iload_n hx hb dX2_rowRead_4 rfl (lv_at hl 0 rfl) ?_
    refine lv_aload_n hx hb dX2_rowRead_5 rfl (lv_at hl 2 rfl) ?_
    refine zz_cVi (cs := zcX cI q a b0 b1 ik hx1 t g) (As := []) (rest := [.int (nI ((2 ^ a.1)))]) ⟨hx, hb, hml, hown, hts⟩ (c_X2_places l D cI cZ hs ta q a b0 b1 ik hx1 t g hI.1.2) (cwV 0 hts gX2_rowRead_X2_places rfl rfl rfl (by decide +kernel) ⟨Nat.le_of_ble_eq_true rfl, Nat.le_of_ble_eq_true rfl⟩) (va_recv hK hP (ci := 2) (q0 := 0) rfl rfl) hP hD hG hS hAz rfl hl.1 rfl (Nat.le_of_ble_eq_true rfl) ⟨Nat.zero_le _, Nat.zero_le _⟩ dX2_rowRead_6 (fun r_1 er_1 => ?_)
    subst er_1
    refine lv_icmp_ge (tgt := 41) hx hb dX2_rowRead_9 (by decide) (fun c_2 => ?_) (fun c_2 => ?_)
    · replace c_2 := Int32.not_lt.mpr c_2
      refine lv_iload_n hx hb dX2_rowRead_41 rfl (lv_at hl 1 rfl) ?_
      exact W.iret (v := (nI (zrr a (2 ^ a.1)))) hx hb hr (fun t9 ht hW => ⟨⟨_, hx1, rfl, (rfl), zP_ht ht hP⟩, hS.F ht⟩) hS.2.2 dX2_rowRead_42
    · replace c_2 := Int32.not_le.mp c_2
      exact absurd c_2 (nI_nlt (Nat.le_refl _) (by have := zNp hI; omega))
  · intro i hi hJ ihi H locs ls hI0 hl
    obtain ⟨hx1, hP, hD, hS⟩ := hI0
    refine lv_iload_n hx hb dX2_rowRead_4 rfl (lv_at hl 0 rfl) ?_
    refine lv_aload_n hx hb dX2_rowRead_5 rfl (lv_at hl 2 rfl) ?_
    refine zz_cVi (cs := zcX cI q a b0 b1 ik hx1 t g) (As := []) (rest := [.int (nI i)]) ⟨hx, hb, hml, hown, hts⟩ (c_X2_places l D cI cZ hs ta q a b0 b1 ik hx1 t g hI.1.2) (cwV 0 hts gX2_rowRead_X2_places rfl rfl rfl (by decide +kernel) ⟨Nat.le_of_ble_eq_true rfl, Nat.le_of_ble_eq_true rfl⟩) (va_recv hK hP (ci := 2) (q0 := 0) rfl rfl) hP hD hG hS hAz rfl hl.1 rfl (Nat.le_of_ble_eq_true rfl) ⟨Nat.zero_le _, Nat.zero_le _⟩ dX2_rowRead_6 (fun r_3 er_3 => ?_)
    subst er_3
    refine lv_icmp_ge (tgt := 41) hx hb dX2_rowRead_9 (by decide) (fun c_4 => ?_) (fun c_4 => ?_)
    · replace c_4 := Int32.not_lt.mpr c_4
      exact absurd (nI_lt hi (by have := zNp hI; omega)) c_4
    · replace c_4 := Int32.not_le.mp c_4
      refine lv_aload_n hx hb dX2_rowRead_12 rfl (lv_at hl 2 rfl) ?_
      refine lv_iload_n hx hb dX2_rowRead_13 rfl (lv_at hl 0 rfl) ?_
      refine zz_cVi (cs := zcX cI q a b0 b1 ik hx1 t g) (As := [.int (nI i)]) (rest := []) ⟨hx, hb, hml, hown, hts⟩ (c_X2_isFree l D cI cZ hs ta q a b0 b1 ik hx1 t g i hI (by have := zNp hI; omega)) (cwV 1 hts gX2_rowRead_X2_isFree rfl rfl rfl (by decide +kernel) ⟨Nat.le_of_ble_eq_true rfl, Nat.le_of_ble_eq_true rfl⟩) (va_recv hK hP (ci := 2) (q0 := 0) rfl rfl) hP hD hG hS hAz rfl hl.1 rfl (Nat.le_of_ble_eq_true rfl) ⟨Nat.zero_le _, Nat.zero_le _⟩ dX2_rowRead_14 (fun r_5 er_5 => ?_)
      refine lv_if_eq (tgt := 35) hx hb dX2_rowRead_17 (by decide) (fun c_6 => ?_) (fun c_6 => ?_)
      · replace c_6 := Classical.not_not.mp (zB_f er_5 c_6)
        refine lv_iinc (v := (nI (i + 1))) (lv' := [(2, .int (nI (i + 1))), (1, .int (nI (zrr a i))), (0, .ref (q 0))]) hx hb dX2_rowRead_35 hl (k := 0) rfl (zz_inc _) (by decide) rfl (fun ls hl => ?_)
        refine lv_goto (tgt := 4) hx hb dX2_rowRead_38 (by decide) ?_
        rw [show ((nI (zrr a i)) : Int32) = (nI (zrr a (i + 1))) from by simp only [zrr, c_4, c_6, not_true_eq_false, not_false_eq_true, and_self, and_true, true_and, and_false, false_and, or_self, or_true, true_or, or_false, false_or, if_true, if_false, ↓reduceIte, Bool.false_eq_true, iff_self, iff_true, iff_false, true_iff, false_iff, Nat.add_zero]] at hl
        have hl : lv_has ls 3 [(2, .int (nI ((i + 1)))), (1, .int (nI (zrr a (i + 1)))), (0, .ref (q 0))] := hl
        exact ihi (trivial) _ _ ls (⟨_, hP, hD, hS⟩) (lv_sub hl [0, 1, 2] rfl)
      · replace c_6 := zB_t er_5 c_6
        refine lv_aload_n hx hb dX2_rowRead_20 rfl (lv_at hl 2 rfl) ?_
        refine lv_iload_n hx hb dX2_rowRead_21 rfl (lv_at hl 0 rfl) ?_
        refine lv_iload_n hx hb dX2_rowRead_22 rfl (lv_at hl 1 rfl) ?_
        refine zz_mVi (ct := (fun (u : Nat → Int32) => zcX cI q a b0 b1 ik u t g)) (cs := zcX cI q a b0 b1 ik hx1 t g) (As := [.int (nI i), .int (nI (zrr a i))]) (rest := []) ⟨hx, hb, hml, hown, hts⟩ (c_X2_seenOf l D cI cZ hs ta H.size q a b0 b1 ik hx1 t g i (zrr a i) hI (by have := zNp hI; omega) (zrr_16 a (by have := zNp hI; omega))) (fun _ => rfl) (cwV 2 hts gX2_rowRead_X2_seenOf rfl rfl rfl (by decide +kernel) ⟨Nat.le_of_ble_eq_true rfl, Nat.le_of_ble_eq_true rfl⟩) (va_recv hK hP (ci := 2) (q0 := 0) rfl rfl) hP hD hG hS hA hAz rfl hl.1 rfl (Nat.le_of_ble_eq_true rfl) ⟨Nat.zero_le _, Nat.zero_le _⟩ dX2_rowRead_23 (fun r_7 u_8 H locs eu_8 hP hD hS => ?_)
        subst eu_8
        have hP : va_P D vwCl (zcX cI q a b0 b1 ik u_8 t g) H := hP
        have hD : va_D A (zcX cI q a b0 b1 ik u_8 t g) := hD
        refine lv_if_ge (tgt := 35) hx hb dX2_rowRead_26 (by decide) (fun c_9 => ?_) (fun c_9 => ?_)
        · replace c_9 := Int32.not_lt.mpr c_9
          refine lv_iinc (v := (nI (i + 1))) (lv' := [(2, .int (nI (i + 1))), (1, .int (nI (zrr a i))), (0, .ref (q 0))]) hx hb dX2_rowRead_35 hl (k := 0) rfl (zz_inc _) (by decide) rfl (fun ls hl => ?_)
          refine lv_goto (tgt := 4) hx hb dX2_rowRead_38 (by decide) ?_
          rw [show ((nI (zrr a i)) : Int32) = (nI (zrr a (i + 1))) from by simp only [zrr, c_4, c_6, c_9, not_true_eq_false, not_false_eq_true, and_self, and_true, true_and, and_false, false_and, or_self, or_true, true_or, or_false, false_or, if_true, if_false, ↓reduceIte, Bool.false_eq_true, iff_self, iff_true, iff_false, true_iff, false_iff, Nat.add_zero]] at hl
          have hl : lv_has ls 3 [(2, .int (nI ((i + 1)))), (1, .int (nI (zrr a (i + 1)))), (0, .ref (q 0))] := hl
          exact ihi (trivial) _ _ ls (⟨_, hP, hD, hS⟩) (lv_sub hl [0, 1, 2] rfl)
        · replace c_9 := Int32.not_le.mp c_9
          refine lv_iload_n hx hb dX2_rowRead_29 rfl (lv_at hl 1 rfl) ?_
          refine lv_iconst (v := 1) hx hb dX2_rowRead_30 (by decide) ?_
          refine lv_iload_n hx hb dX2_rowRead_31 rfl (lv_at hl 0 rfl) ?_
          refine lv_ishl hx hb dX2_rowRead_32 ?_
          refine zz_topi (nI (2 ^ i)) (zz_shl1n rfl (by have := zNp hI; omega)) ?_
          refine lv_ior hx hb dX2_rowRead_33 ?_
          refine zz_topi (nI ((zrr a i) ||| (2 ^ i))) (zz_orn rfl rfl) ?_
          refine lv_istore_n (lv' := [(1, .int (nI ((zrr a i) ||| (2 ^ i)))), (2, .int (nI i)), (0, .ref (q 0))]) hx hb dX2_rowRead_34 rfl hl (by decide) rfl (fun ls hl => ?_)
          refine lv_iinc (v := (nI (i + 1))) (lv' := [(2, .int (nI (i + 1))), (1, .int (nI ((zrr a i) ||| (2 ^ i)))), (0, .ref (q 0))]) hx hb dX2_rowRead_35 hl (k := 1) rfl (zz_inc _) (by decide) rfl (fun ls hl => ?_)
          refine lv_goto (tgt := 4) hx hb dX2_rowRead_38 (by decide) ?_
          rw [show ((nI ((zrr a i) ||| (2 ^ i))) : Int32) = (nI (zrr a (i + 1))) from by simp only [zrr, c_4, c_6, c_9, not_true_eq_false, not_false_eq_true, and_self, and_true, true_and, and_false, false_and, or_self, or_true, true_or, or_false, false_or, if_true, if_false, ↓reduceIte, Bool.false_eq_true, iff_self, iff_true, iff_false, true_iff, false_iff, Nat.add_zero]] at hl
          have hl : lv_has ls 3 [(2, .int (nI ((i + 1)))), (1, .int (nI (zrr a (i + 1)))), (0, .ref (q 0))] := hl
          exact ihi (trivial) _ _ ls (⟨_, hP, hD, hS⟩) (lv_sub hl [0, 1, 2] rfl)
set_option maxHeartbeats 4000000 in
set_option maxRecDepth 100000 in
theorem c_X2_fineOf (l : Launch) (D : va_G) (cI cZ : ClassId) (hs ta : Nat) (sz : Nat) (q : Nat → Nat) (a : ZA) (b0 : ZA) (b1 : ZA) (ik : Nat) (ha : Nat → Int32) (t : ZR) (g : ZR) (w : Nat) (hI : zInv a) (hw : w < 65536) : Met l yX2_fineOf wsX2_fineOf ({ frames := 4, cells := 0, slots := 0, locals := 89 }) (va_Pc [.ref (q 0), .int (nI w)] (fun U => U.heap.size = sz ∧ zPre D (zTy cI cZ) hs ta (zcX cI q a b0 b1 ik ha t g) U)) (va_Qi (fun (r : Int32) (u : Nat → Int32) => r = zfi a.2.2.2.2.2.1 a.1 w (2 ^ a.1)) (fun (u : Nat → Int32) t9 => va_P D vwCl (zcX cI q a b0 b1 ik u t g) t9.heap) (va_A (zcX cI q a b0 b1 ik ha t g) sz)) 0 0 (va_A (zcX cI q a b0 b1 ik ha t g) sz) := by
  refine Met.ofW (cc := cX2_fineOf) (maxL := 4) (ret := (some .int)) (by decide) rfl ?_
  intro p e s m args below meth c s₁ B hml hv0
  obtain ⟨rfl, hsz, hP, hD0, hG⟩ := hv0
  have hx := B.exec
  have hb := B.bytes
  have hr := B.returns
  have hts := atoms_spec (ws := wsX2_fineOf) B.pre
  have hown : s.vm.findClass RX2 = some m.cls := findClass_of_methodNamed B.named
  have hlocks := B.notSynchronized
  subst hsz
  have hD := hD0.self (sz := s.heap.size)
  have hAz0 : ∀ y9, va_A (zcX cI q a b0 b1 ik ha t g) s.heap.size y9 → hs ≤ y9 := zA_of hD0 (fun y9 h => Nat.le_trans hG.2.2.2.2 h) (va_S.rf (A := zA hs) (H0 := s.heap))
  generalize hAe : va_A (zcX cI q a b0 b1 ik ha t g) s.heap.size = A at hD hAz0 ⊢
  have hA : ∀ y9 : Nat, s.heap.size ≤ y9 → A y9 := fun y9 h => by rw [← hAe]; exact Or.inr h
  have hS : va_S A s.heap s.heap [] := va_S.rf
  have hAz : ∀ y9, A y9 → hs ≤ y9 := hAz0
  have hK := hG.1
  have hl := lv_entry ([.ref (q 0), .int (nI w)]) (n := 4) (Nat.le_of_ble_eq_true rfl)
  rw [lg_entry_eq]
  generalize (lg_sl ([.ref (q 0), .int (nI w)]) ++ List.replicate (4 - (lg_sl ([.ref (q 0), .int (nI w)])).length) Slot.unset).toArray = ls at hl ⊢
  have hl : lv_has ls 4 [(0, .ref (q 0)), (1, .int (nI w))] := hl
  refine lv_iconst (v := 0) hx hb dX2_fineOf_0 (by decide) ?_
  refine lv_istore_n (lv' := [(2, .int 0), (0, .ref (q 0)), (1, .int (nI w))]) hx hb dX2_fineOf_1 rfl hl (by decide) rfl (fun ls hl => ?_)
  refine lv_iconst (v := 0) hx hb dX2_fineOf_2 (by decide) ?_
  refine lv_istore_n (lv' := [(3, .int 0), (2, .int 0), (0, .ref (q 0)), (1, .int (nI w))]) hx hb dX2_fineOf_3 rfl hl (by decide) rfl (fun ls hl => ?_)
  have hl : lv_has ls 4 [(3, .int (nI 0)), (2, .int (zfi a.2.2.2.2.2.1 a.1 w 0)), (0, .ref (q 0)), (1, .int (nI w))] := hl
  refine zz_forHJ (P := fun H locs g => W p l e _ s m _ below meth c H locs _ _ _ g) (nL := 4) (2 ^ a.1) (fun i => [(3, .int (nI i)), (2, .int (zfi a.2.2.2.2.2.1 a.1 w i)), (0, .ref (q 0)), (1, .int (nI w))]) (fun i H locs => ∃ hx1 : Nat → Int32, va_P D vwCl (zcX cI q a b0 b1 ik hx1 t g) H ∧ va_D A (zcX cI q a b0 b1 ik hx1 t g) ∧ va_S A s.heap H locs) (J := fun _ => True) ?_ ?_ (⟨_, hP, hD, hS⟩) (trivial) ((lv_sub hl [0, 1, 2, 3] rfl))
  · intro H locs ls hJ hI0 hl
    obtain ⟨hx1, hP, hD, hS⟩ := hI0
    refine lv_iload_n hx hb dX2_fineOf_4 rfl (lv_at hl 0 rfl) ?_
    refine lv_aload_n hx hb dX2_fineOf_5 rfl (lv_at hl 2 rfl) ?_
    refine zz_cVi (cs := zcX cI q a b0 b1 ik hx1 t g) (As := []) (rest := [.int (nI ((2 ^ a.1)))]) ⟨hx, hb, hml, hown, hts⟩ (c_X2_places l D cI cZ hs ta q a b0 b1 ik hx1 t g hI.1.2) (cwV 0 hts gX2_fineOf_X2_places rfl rfl rfl (by decide +kernel) ⟨Nat.le_of_ble_eq_true rfl, Nat.le_of_ble_eq_true rfl⟩) (va_recv hK hP (ci := 2) (q0 := 0) rfl rfl) hP hD hG hS hAz rfl hl.1 rfl (Nat.le_of_ble_eq_true rfl) ⟨Nat.zero_le _, Nat.zero_le _⟩ dX2_fineOf_6 (fun r_1 er_1 => ?_)
    subst er_1
    refine lv_icmp_ge (tgt := 35) hx hb dX2_fineOf_9 (by decide) (fun c_2 => ?_) (fun c_2 => ?_)
    · replace c_2 := Int32.not_lt.mpr c_2
      refine lv_iload_n hx hb dX2_fineOf_35 rfl (lv_at hl 1 rfl) ?_
      exact W.iret (v := (zfi a.2.2.2.2.2.1 a.1 w (2 ^ a.1))) hx hb hr (fun t9 ht hW => ⟨⟨_, hx1, rfl, (rfl), zP_ht ht hP⟩, hS.F ht⟩) hS.2.2 dX2_fineOf_36
    · replace c_2 := Int32.not_le.mp c_2
      exact absurd c_2 (nI_nlt (Nat.le_refl _) (by have := zNp hI; omega))
  · intro i hi hJ ihi H locs ls hI0 hl
    obtain ⟨hx1, hP, hD, hS⟩ := hI0
    refine lv_iload_n hx hb dX2_fineOf_4 rfl (lv_at hl 0 rfl) ?_
    refine lv_aload_n hx hb dX2_fineOf_5 rfl (lv_at hl 2 rfl) ?_
    refine zz_cVi (cs := zcX cI q a b0 b1 ik hx1 t g) (As := []) (rest := [.int (nI i)]) ⟨hx, hb, hml, hown, hts⟩ (c_X2_places l D cI cZ hs ta q a b0 b1 ik hx1 t g hI.1.2) (cwV 0 hts gX2_fineOf_X2_places rfl rfl rfl (by decide +kernel) ⟨Nat.le_of_ble_eq_true rfl, Nat.le_of_ble_eq_true rfl⟩) (va_recv hK hP (ci := 2) (q0 := 0) rfl rfl) hP hD hG hS hAz rfl hl.1 rfl (Nat.le_of_ble_eq_true rfl) ⟨Nat.zero_le _, Nat.zero_le _⟩ dX2_fineOf_6 (fun r_3 er_3 => ?_)
    subst er_3
    refine lv_icmp_ge (tgt := 35) hx hb dX2_fineOf_9 (by decide) (fun c_4 => ?_) (fun c_4 => ?_)
    · replace c_4 := Int32.not_lt.mpr c_4
      exact absurd (nI_lt hi (by have := zNp hI; omega)) c_4
    · replace c_4 := Int32.not_le.mp c_4
      refine lv_iload_n hx hb dX2_fineOf_12 rfl (lv_at hl 1 rfl) ?_
      refine lv_aload_n hx hb dX2_fineOf_13 rfl (lv_at hl 2 rfl) ?_
      refine lv_iload_n hx hb dX2_fineOf_14 rfl (lv_at hl 0 rfl) ?_
      refine lv_iload_n hx hb dX2_fineOf_15 rfl (lv_at hl 3 rfl) ?_
      refine zz_mVi (ct := (fun (u : Nat → Int32) => zcX cI q a b0 b1 ik u t g)) (cs := zcX cI q a b0 b1 ik hx1 t g) (As := [.int (nI i), .int (nI w)]) (rest := [.int (zfi a.2.2.2.2.2.1 a.1 w i)]) ⟨hx, hb, hml, hown, hts⟩ (c_X2_seenOf l D cI cZ hs ta H.size q a b0 b1 ik hx1 t g i w hI (by have := zNp hI; omega) hw) (fun _ => rfl) (cwV 2 hts gX2_fineOf_X2_seenOf rfl rfl rfl (by decide +kernel) ⟨Nat.le_of_ble_eq_true rfl, Nat.le_of_ble_eq_true rfl⟩) (va_recv hK hP (ci := 2) (q0 := 0) rfl rfl) hP hD hG hS hA hAz rfl hl.1 rfl (Nat.le_of_ble_eq_true rfl) ⟨Nat.zero_le _, Nat.zero_le _⟩ dX2_fineOf_16 (fun r_5 u_6 H locs eu_6 hP hD hS => ?_)
      subst eu_6
      have hP : va_P D vwCl (zcX cI q a b0 b1 ik u_6 t g) H := hP
      have hD : va_D A (zcX cI q a b0 b1 ik u_6 t g) := hD
      refine lv_iload_n hx hb dX2_fineOf_19 rfl (lv_at hl 3 rfl) ?_
      refine lv_iload_n hx hb dX2_fineOf_20 rfl (lv_at hl 0 rfl) ?_
      refine zz_pSi (As := [.int (nI w), .int (nI i)]) (rest := [.int (zsee a.2.2.2.2.2.1 a.1 i w), .int (zfi a.2.2.2.2.2.1 a.1 w i)]) ⟨hx, hb, hml, hown, hts⟩ (c_X2_has l w i (by omega) (by have := zNp hI; omega)) (va_cwS 2 hts gX2_fineOf_X2_has rfl rfl rfl (by decide +kernel) ⟨Nat.le_of_ble_eq_true rfl, Nat.le_of_ble_eq_true rfl⟩) rfl hl.1 rfl (Nat.le_of_ble_eq_true rfl) ⟨Nat.zero_le _, Nat.zero_le _⟩ dX2_fineOf_21 (fun r_7 er_7 => ?_)
      refine zz_pSi (As := [.int (zsee a.2.2.2.2.2.1 a.1 i w), .int r_7]) (rest := [.int (zfi a.2.2.2.2.2.1 a.1 w i)]) ⟨hx, hb, hml, hown, hts⟩ (c_X2_fineOfBit l (zsee a.2.2.2.2.2.1 a.1 i w) r_7) (va_cwS 2 hts gX2_fineOf_X2_fineOfBit rfl rfl rfl (by decide +kernel) ⟨Nat.le_of_ble_eq_true rfl, Nat.le_of_ble_eq_true rfl⟩) rfl hl.1 rfl (Nat.le_of_ble_eq_true rfl) ⟨Nat.zero_le _, Nat.zero_le _⟩ dX2_fineOf_24 (fun r_8 er_8 => ?_)
      subst er_8
      refine zz_topi (zfb (zsee a.2.2.2.2.2.1 a.1 i w) (Nat.testBit w i)) (zfb_of er_7) ?_
      refine lv_iadd hx hb dX2_fineOf_27 ?_
      refine lv_topi (fun v_9 ev_9 => ?_)
      refine lv_istore_n (lv' := [(2, .int v_9), (3, .int (nI i)), (0, .ref (q 0)), (1, .int (nI w))]) hx hb dX2_fineOf_28 rfl hl (by decide) rfl (fun ls hl => ?_)
      refine lv_iinc (v := (nI (i + 1))) (lv' := [(3, .int (nI (i + 1))), (2, .int v_9), (0, .ref (q 0)), (1, .int (nI w))]) hx hb dX2_fineOf_29 hl (k := 1) rfl (zz_inc _) (by decide) rfl (fun ls hl => ?_)
      refine lv_goto (tgt := 4) hx hb dX2_fineOf_32 (by decide) ?_
      obtain rfl : v_9 = (zfi a.2.2.2.2.2.1 a.1 w (i + 1)) := by rw [ev_9]; rfl
      have hl : lv_has ls 4 [(3, .int (nI ((i + 1)))), (2, .int (zfi a.2.2.2.2.2.1 a.1 w (i + 1))), (0, .ref (q 0)), (1, .int (nI w))] := hl
      exact ihi (trivial) _ _ ls (⟨_, hP, hD, hS⟩) (lv_sub hl [0, 1, 2, 3] rfl)
set_option maxHeartbeats 4000000 in
set_option maxRecDepth 100000 in
theorem c_X2_howManyToldOtherwise (l : Launch) (D : va_G) (cI cZ : ClassId) (hs ta : Nat) (q : Nat → Nat) (a : ZA) (b0 : ZA) (b1 : ZA) (ik : Nat) (ha : Nat → Int32) (t : ZR) (g : ZR) (f : Nat) (hI : zInv a) (hf : f < 65536) : Met l yX2_howManyToldOtherwise wsX2_howManyToldOtherwise ({ frames := 1, cells := 0, slots := 0, locals := 21 }) (va_Pc [.ref (q 0), .int (nI f)] (zPre D (zTy cI cZ) hs ta (zcX cI q a b0 b1 ik ha t g))) (vp_Si (fun r : Int32 => r = nI (zct (zun a.2.2.2.2.2.1 f) (2 ^ a.1)))) 0 0 (fun _ => False) := by
  refine Met.ofW (cc := cX2_howManyToldOtherwise) (maxL := 5) (ret := (some .int)) (by decide) rfl ?_
  intro p e s m args below meth c s₁ B hml hv0
  obtain ⟨rfl, hP, hD, hG⟩ := hv0
  have hx := B.exec
  have hb := B.bytes
  have hr := B.returns
  have hts := atoms_spec (ws := wsX2_howManyToldOtherwise) B.pre
  have hown : s.vm.findClass RX2 = some m.cls := findClass_of_methodNamed B.named
  have hlocks := B.notSynchronized
  have hK := hG.1
  have hS : va_S (zA hs) s.heap s.heap [] := va_S.rf
  have hAz : ∀ q, zA hs q → hs ≤ q := fun _ h => h
  have hl := lv_entry ([.ref (q 0), .int (nI f)]) (n := 5) (Nat.le_of_ble_eq_true rfl)
  rw [lg_entry_eq]
  generalize (lg_sl ([.ref (q 0), .int (nI f)]) ++ List.replicate (5 - (lg_sl ([.ref (q 0), .int (nI f)])).length) Slot.unset).toArray = ls at hl ⊢
  have hl : lv_has ls 5 [(0, .ref (q 0)), (1, .int (nI f))] := hl
  have hf10 := hts (.fieldLink RX2 10 "FrozenBits" "now" "LFrozenBits$Facts;") (List.mem_of_getElem? (i := 1) rfl)
  have hiX2 : ∀ w ∈ u_ws RX2 TX2 7, w ∈ wsX2_howManyToldOtherwise := fun w h => List.mem_cons_of_mem _ (List.mem_append_left _ (List.mem_append_right _ h))
  have hn108 := hG.2.1 (.fieldLinkNest "FrozenBits" 108 "FrozenBits$Facts" "measures" "[I" "FrozenBits") (List.mem_of_getElem? (i := 5) rfl)
  have hiX0 : ∀ w ∈ u_ws RX0 TX0 7, w ∈ wsX2_howManyToldOtherwise := fun w h => List.mem_cons_of_mem _ (List.mem_append_right _ h)
  refine lv_iconst (v := 0) hx hb dX2_howManyToldOtherwise_0 (by decide) ?_
  refine lv_istore_n (lv' := [(2, .int 0), (0, .ref (q 0)), (1, .int (nI f))]) hx hb dX2_howManyToldOtherwise_1 rfl hl (by decide) rfl (fun ls hl => ?_)
  refine lv_iconst (v := 0) hx hb dX2_howManyToldOtherwise_2 (by decide) ?_
  refine lv_istore_n (lv' := [(3, .int 0), (2, .int 0), (0, .ref (q 0)), (1, .int (nI f))]) hx hb dX2_howManyToldOtherwise_3 rfl hl (by decide) rfl (fun ls hl => ?_)
  have hl : lv_has ls 5 [(3, .int (nI 0)), (2, .int (nI (zct (zun a.2.2.2.2.2.1 f) 0))), (0, .ref (q 0)), (1, .int (nI f))] := hl
  refine zz_forJ (nL := 5) (2 ^ a.1) (fun i => [(3, .int (nI i)), (2, .int (nI (zct (zun a.2.2.2.2.2.1 f) i))), (0, .ref (q 0)), (1, .int (nI f))]) (J := fun _ => True) ?_ ?_ (trivial) (lv_sub hl [0, 1, 2, 3] rfl)
  · intro hJ ls hl
    refine lv_iload_n hx hb dX2_howManyToldOtherwise_4 rfl (lv_at hl 0 rfl) ?_
    refine lv_aload_n hx hb dX2_howManyToldOtherwise_5 rfl (lv_at hl 2 rfl) ?_
    refine zz_cVi (cs := zcX cI q a b0 b1 ik ha t g) (As := []) (rest := [.int (nI ((2 ^ a.1)))]) ⟨hx, hb, hml, hown, hts⟩ (c_X2_places l D cI cZ hs ta q a b0 b1 ik ha t g hI.1.2) (cwV 0 hts gX2_howManyToldOtherwise_X2_places rfl rfl rfl (by decide +kernel) ⟨Nat.le_of_ble_eq_true rfl, Nat.le_of_ble_eq_true rfl⟩) (va_recv hK hP (ci := 2) (q0 := 0) rfl rfl) hP hD hG hS hAz rfl hl.1 rfl (Nat.le_of_ble_eq_true rfl) ⟨Nat.zero_le _, Nat.zero_le _⟩ dX2_howManyToldOtherwise_6 (fun r_1 er_1 => ?_)
    subst er_1
    refine lv_icmp_ge (tgt := 55) hx hb dX2_howManyToldOtherwise_9 (by decide) (fun c_2 => ?_) (fun c_2 => ?_)
    · replace c_2 := Int32.not_lt.mpr c_2
      refine lv_iload_n hx hb dX2_howManyToldOtherwise_55 rfl (lv_at hl 1 rfl) ?_
      exact W.iret (v := (nI (zct (zun a.2.2.2.2.2.1 f) (2 ^ a.1)))) hx hb hr (fun t9 ht hW => ⟨_, rfl, (by rfl), ht⟩) (fun _ h => absurd h List.not_mem_nil) dX2_howManyToldOtherwise_56
    · replace c_2 := Int32.not_le.mp c_2
      exact absurd c_2 (nI_nlt (Nat.le_refl _) (by have := zNp hI; omega))
  · intro i hi hJ ihi ls hl
    refine lv_iload_n hx hb dX2_howManyToldOtherwise_4 rfl (lv_at hl 0 rfl) ?_
    refine lv_aload_n hx hb dX2_howManyToldOtherwise_5 rfl (lv_at hl 2 rfl) ?_
    refine zz_cVi (cs := zcX cI q a b0 b1 ik ha t g) (As := []) (rest := [.int (nI i)]) ⟨hx, hb, hml, hown, hts⟩ (c_X2_places l D cI cZ hs ta q a b0 b1 ik ha t g hI.1.2) (cwV 0 hts gX2_howManyToldOtherwise_X2_places rfl rfl rfl (by decide +kernel) ⟨Nat.le_of_ble_eq_true rfl, Nat.le_of_ble_eq_true rfl⟩) (va_recv hK hP (ci := 2) (q0 := 0) rfl rfl) hP hD hG hS hAz rfl hl.1 rfl (Nat.le_of_ble_eq_true rfl) ⟨Nat.zero_le _, Nat.zero_le _⟩ dX2_howManyToldOtherwise_6 (fun r_3 er_3 => ?_)
    subst er_3
    refine lv_icmp_ge (tgt := 55) hx hb dX2_howManyToldOtherwise_9 (by decide) (fun c_4 => ?_) (fun c_4 => ?_)
    · replace c_4 := Int32.not_lt.mpr c_4
      exact absurd (nI_lt hi (by have := zNp hI; omega)) c_4
    · replace c_4 := Int32.not_le.mp c_4
      refine lv_aload_n hx hb dX2_howManyToldOtherwise_12 rfl (lv_at hl 2 rfl) ?_
      refine va_get (ci := 2) (C := RX2) (T := TX2) (N := 7) hx hb hts hiX2 hown hK hP 0 rfl rfl 0 (by decide) hf10 (fun _ h9 => h9) rfl dX2_howManyToldOtherwise_13 ?_
      refine va_getN (ci := 0) (C := RX0) (T := TX0) (N := 7) hx hb hts hiX0 hown hK hP 1 rfl rfl 5 (by decide) (va_Nw.use rfl hn108) (fun _ h9 => h9) rfl dX2_howManyToldOtherwise_16 ?_
      refine lv_iload_n hx hb dX2_howManyToldOtherwise_19 rfl (lv_at hl 0 rfl) ?_
      refine zz_iald hx hb hK hP 2 0 rfl rfl (i := i) rfl (by have := zNp hI; omega) (by decide) dX2_howManyToldOtherwise_20 ?_
      refine zz_topi (a.2.2.2.2.2.1 i) (rfl) ?_
      refine lv_istore (lv' := [(4, .int (a.2.2.2.2.2.1 i)), (3, .int (nI i)), (2, .int (nI (zct (zun a.2.2.2.2.2.1 f) i))), (0, .ref (q 0)), (1, .int (nI f))]) hx hb dX2_howManyToldOtherwise_21 hl (by decide) rfl (fun ls hl => ?_)
      refine lv_iload hx hb dX2_howManyToldOtherwise_23 (lv_at hl 0 rfl) ?_
      refine lv_if_eq (tgt := 49) hx hb dX2_howManyToldOtherwise_25 (by decide) (fun c_5 => ?_) (fun c_5 => ?_)
      · refine lv_iinc (v := (nI (i + 1))) (lv' := [(3, .int (nI (i + 1))), (4, .int (a.2.2.2.2.2.1 i)), (2, .int (nI (zct (zun a.2.2.2.2.2.1 f) i))), (0, .ref (q 0)), (1, .int (nI f))]) hx hb dX2_howManyToldOtherwise_49 hl (k := 1) rfl (zz_inc _) (by decide) rfl (fun ls hl => ?_)
        refine lv_goto (tgt := 4) hx hb dX2_howManyToldOtherwise_52 (by decide) ?_
        rw [show ((nI (zct (zun a.2.2.2.2.2.1 f) i)) : Int32) = (nI (zct (zun a.2.2.2.2.2.1 f) (i + 1))) from by simp only [zct, zun, c_4, c_5, decide_true, decide_false, not_true_eq_false, not_false_eq_true, and_self, and_true, true_and, and_false, false_and, or_self, or_true, true_or, or_false, false_or, if_true, if_false, ↓reduceIte, Bool.false_eq_true, iff_self, iff_true, iff_false, true_iff, false_iff, Nat.add_zero]] at hl
        have hl : lv_has ls 5 [(3, .int (nI ((i + 1)))), (4, .int (a.2.2.2.2.2.1 i)), (2, .int (nI (zct (zun a.2.2.2.2.2.1 f) (i + 1)))), (0, .ref (q 0)), (1, .int (nI f))] := hl
        exact ihi (trivial) ls (lv_sub hl [0, 2, 3, 4] rfl)
      · refine lv_iload hx hb dX2_howManyToldOtherwise_28 (lv_at hl 0 rfl) ?_
        refine lv_if_ge (tgt := 37) hx hb dX2_howManyToldOtherwise_30 (by decide) (fun c_6 => ?_) (fun c_6 => ?_)
        · replace c_6 := Int32.not_lt.mpr c_6
          refine lv_iconst (v := 0) hx hb dX2_howManyToldOtherwise_37 (by decide) ?_
          refine lv_iload_n hx hb dX2_howManyToldOtherwise_38 rfl (lv_at hl 4 rfl) ?_
          refine lv_iload_n hx hb dX2_howManyToldOtherwise_39 rfl (lv_at hl 1 rfl) ?_
          refine zz_pSi (As := [.int (nI f), .int (nI i)]) (rest := [.int 0]) ⟨hx, hb, hml, hown, hts⟩ (c_X2_has l f i (by omega) (by have := zNp hI; omega)) (va_cwS 2 hts gX2_howManyToldOtherwise_X2_has rfl rfl rfl (by decide +kernel) ⟨Nat.le_of_ble_eq_true rfl, Nat.le_of_ble_eq_true rfl⟩) rfl hl.1 rfl (Nat.le_of_ble_eq_true rfl) ⟨Nat.zero_le _, Nat.zero_le _⟩ dX2_howManyToldOtherwise_40 (fun r_7 er_7 => ?_)
          refine lv_icmp_eq (tgt := 49) hx hb dX2_howManyToldOtherwise_43 (by decide) (fun c_8 => ?_) (fun c_8 => ?_)
          · replace c_8 := (zB_eq0 er_7).mp c_8
            refine lv_iinc (v := (nI (i + 1))) (lv' := [(3, .int (nI (i + 1))), (4, .int (a.2.2.2.2.2.1 i)), (2, .int (nI (zct (zun a.2.2.2.2.2.1 f) i))), (0, .ref (q 0)), (1, .int (nI f))]) hx hb dX2_howManyToldOtherwise_49 hl (k := 1) rfl (zz_inc _) (by decide) rfl (fun ls hl => ?_)
            refine lv_goto (tgt := 4) hx hb dX2_howManyToldOtherwise_52 (by decide) ?_
            rw [show ((nI (zct (zun a.2.2.2.2.2.1 f) i)) : Int32) = (nI (zct (zun a.2.2.2.2.2.1 f) (i + 1))) from by simp only [zct, zun, c_4, c_5, c_6, c_8, decide_true, decide_false, not_true_eq_false, not_false_eq_true, and_self, and_true, true_and, and_false, false_and, or_self, or_true, true_or, or_false, false_or, if_true, if_false, ↓reduceIte, Bool.false_eq_true, iff_self, iff_true, iff_false, true_iff, false_iff, Nat.add_zero]] at hl
            have hl : lv_has ls 5 [(3, .int (nI ((i + 1)))), (4, .int (a.2.2.2.2.2.1 i)), (2, .int (nI (zct (zun a.2.2.2.2.2.1 f) (i + 1)))), (0, .ref (q 0)), (1, .int (nI f))] := hl
            exact ihi (trivial) ls (lv_sub hl [0, 2, 3, 4] rfl)
          · replace c_8 := Classical.not_not.mp (fun q => c_8 ((zB_eq0 er_7).mpr q))
            refine lv_iinc (v := (nI ((zct (zun a.2.2.2.2.2.1 f) i) + 1))) (lv' := [(2, .int (nI ((zct (zun a.2.2.2.2.2.1 f) i) + 1))), (4, .int (a.2.2.2.2.2.1 i)), (3, .int (nI i)), (0, .ref (q 0)), (1, .int (nI f))]) hx hb dX2_howManyToldOtherwise_46 hl (k := 2) rfl (zz_inc _) (by decide) rfl (fun ls hl => ?_)
            refine lv_iinc (v := (nI (i + 1))) (lv' := [(3, .int (nI (i + 1))), (2, .int (nI ((zct (zun a.2.2.2.2.2.1 f) i) + 1))), (4, .int (a.2.2.2.2.2.1 i)), (0, .ref (q 0)), (1, .int (nI f))]) hx hb dX2_howManyToldOtherwise_49 hl (k := 2) rfl (zz_inc _) (by decide) rfl (fun ls hl => ?_)
            refine lv_goto (tgt := 4) hx hb dX2_howManyToldOtherwise_52 (by decide) ?_
            rw [show ((nI ((zct (zun a.2.2.2.2.2.1 f) i) + 1)) : Int32) = (nI (zct (zun a.2.2.2.2.2.1 f) (i + 1))) from by simp only [zct, zun, c_4, c_5, c_6, c_8, decide_true, decide_false, not_true_eq_false, not_false_eq_true, and_self, and_true, true_and, and_false, false_and, or_self, or_true, true_or, or_false, false_or, if_true, if_false, ↓reduceIte, Bool.false_eq_true, iff_self, iff_true, iff_false, true_iff, false_iff, Nat.add_zero]] at hl
            have hl : lv_has ls 5 [(3, .int (nI ((i + 1)))), (2, .int (nI (zct (zun a.2.2.2.2.2.1 f) (i + 1)))), (4, .int (a.2.2.2.2.2.1 i)), (0, .ref (q 0)), (1, .int (nI f))] := hl
            exact ihi (trivial) ls (lv_sub hl [0, 1, 3, 4] rfl)
        · replace c_6 := Int32.not_le.mp c_6
          refine lv_iconst (v := 1) hx hb dX2_howManyToldOtherwise_33 (by decide) ?_
          refine lv_goto (tgt := 38) hx hb dX2_howManyToldOtherwise_34 (by decide) ?_
          refine lv_iload_n hx hb dX2_howManyToldOtherwise_38 rfl (lv_at hl 4 rfl) ?_
          refine lv_iload_n hx hb dX2_howManyToldOtherwise_39 rfl (lv_at hl 1 rfl) ?_
          refine zz_pSi (As := [.int (nI f), .int (nI i)]) (rest := [.int 1]) ⟨hx, hb, hml, hown, hts⟩ (c_X2_has l f i (by omega) (by have := zNp hI; omega)) (va_cwS 2 hts gX2_howManyToldOtherwise_X2_has rfl rfl rfl (by decide +kernel) ⟨Nat.le_of_ble_eq_true rfl, Nat.le_of_ble_eq_true rfl⟩) rfl hl.1 rfl (Nat.le_of_ble_eq_true rfl) ⟨Nat.zero_le _, Nat.zero_le _⟩ dX2_howManyToldOtherwise_40 (fun r_9 er_9 => ?_)
          refine lv_icmp_eq (tgt := 49) hx hb dX2_howManyToldOtherwise_43 (by decide) (fun c_10 => ?_) (fun c_10 => ?_)
          · replace c_10 := (zB_eq1 er_9).mp c_10
            refine lv_iinc (v := (nI (i + 1))) (lv' := [(3, .int (nI (i + 1))), (4, .int (a.2.2.2.2.2.1 i)), (2, .int (nI (zct (zun a.2.2.2.2.2.1 f) i))), (0, .ref (q 0)), (1, .int (nI f))]) hx hb dX2_howManyToldOtherwise_49 hl (k := 1) rfl (zz_inc _) (by decide) rfl (fun ls hl => ?_)
            refine lv_goto (tgt := 4) hx hb dX2_howManyToldOtherwise_52 (by decide) ?_
            rw [show ((nI (zct (zun a.2.2.2.2.2.1 f) i)) : Int32) = (nI (zct (zun a.2.2.2.2.2.1 f) (i + 1))) from by simp only [zct, zun, c_4, c_5, c_6, c_10, decide_true, decide_false, not_true_eq_false, not_false_eq_true, and_self, and_true, true_and, and_false, false_and, or_self, or_true, true_or, or_false, false_or, if_true, if_false, ↓reduceIte, Bool.false_eq_true, iff_self, iff_true, iff_false, true_iff, false_iff, Nat.add_zero]] at hl
            have hl : lv_has ls 5 [(3, .int (nI ((i + 1)))), (4, .int (a.2.2.2.2.2.1 i)), (2, .int (nI (zct (zun a.2.2.2.2.2.1 f) (i + 1)))), (0, .ref (q 0)), (1, .int (nI f))] := hl
            exact ihi (trivial) ls (lv_sub hl [0, 2, 3, 4] rfl)
          · replace c_10 := (not_congr (zB_eq1 er_9)).mp c_10
            refine lv_iinc (v := (nI ((zct (zun a.2.2.2.2.2.1 f) i) + 1))) (lv' := [(2, .int (nI ((zct (zun a.2.2.2.2.2.1 f) i) + 1))), (4, .int (a.2.2.2.2.2.1 i)), (3, .int (nI i)), (0, .ref (q 0)), (1, .int (nI f))]) hx hb dX2_howManyToldOtherwise_46 hl (k := 2) rfl (zz_inc _) (by decide) rfl (fun ls hl => ?_)
            refine lv_iinc (v := (nI (i + 1))) (lv' := [(3, .int (nI (i + 1))), (2, .int (nI ((zct (zun a.2.2.2.2.2.1 f) i) + 1))), (4, .int (a.2.2.2.2.2.1 i)), (0, .ref (q 0)), (1, .int (nI f))]) hx hb dX2_howManyToldOtherwise_49 hl (k := 2) rfl (zz_inc _) (by decide) rfl (fun ls hl => ?_)
            refine lv_goto (tgt := 4) hx hb dX2_howManyToldOtherwise_52 (by decide) ?_
            rw [show ((nI ((zct (zun a.2.2.2.2.2.1 f) i) + 1)) : Int32) = (nI (zct (zun a.2.2.2.2.2.1 f) (i + 1))) from by simp only [zct, zun, c_4, c_5, c_6, c_10, decide_true, decide_false, not_true_eq_false, not_false_eq_true, and_self, and_true, true_and, and_false, false_and, or_self, or_true, true_or, or_false, false_or, if_true, if_false, ↓reduceIte, Bool.false_eq_true, iff_self, iff_true, iff_false, true_iff, false_iff, Nat.add_zero]] at hl
            have hl : lv_has ls 5 [(3, .int (nI ((i + 1)))), (2, .int (nI (zct (zun a.2.2.2.2.2.1 f) (i + 1)))), (4, .int (a.2.2.2.2.2.1 i)), (0, .ref (q 0)), (1, .int (nI f))] := hl
            exact ihi (trivial) ls (lv_sub hl [0, 1, 3, 4] rfl)
