set_option maxHeartbeats 4000000 in
set_option maxRecDepth 100000 in
theorem c_X2_growBy (l : Launch) (D : va_G) (cI cZ : ClassId) (hs ta : Nat) (sz : Nat) (q : Nat → Nat) (a : ZA) (b0 : ZA) (b1 : ZA) (ik : Nat) (ha : Nat → Int32) (t : ZR) (g : ZR) (k : Nat) (L : ZL) (hI : zInv a) (hk : k < 16) (hL : zRL t L) (hL8 : L.length ≤ 8) : Met l yX2_growBy wsX2_growBy ({ frames := 4, cells := 0, slots := 0, locals := 89 }) (va_Pc [.ref (q 0), .int (nI k)] (fun U => U.heap.size = sz ∧ zPre D (zTy cI cZ) hs ta (zcX cI q a b0 b1 ik ha t g) U)) (va_Qv (fun (u : (Nat → Int32) × ZR) => zRL u.2 (zgr a k L L.length)) (fun (u : (Nat → Int32) × ZR) t9 => va_P D vwCl (zcX cI q a b0 b1 ik u.1 t u.2) t9.heap) (va_A (zcX cI q a b0 b1 ik ha t g) sz)) 0 0 (va_A (zcX cI q a b0 b1 ik ha t g) sz) := by
  refine Met.ofW (cc := cX2_growBy) (maxL := 6) (ret := none) (by decide) rfl ?_
  intro p e s m args below meth c s₁ B hml hv0
  obtain ⟨rfl, hsz, hP, hD0, hG⟩ := hv0
  have hx := B.exec
  have hb := B.bytes
  have hr := B.returns
  have hts := atoms_spec (ws := wsX2_growBy) B.pre
  have hown : s.vm.findClass RX2 = some m.cls := findClass_of_methodNamed B.named
  have hlocks := B.notSynchronized
  subst hsz
  have hD := hD0.self (sz := s.heap.size)
  have hAz0 : ∀ y9, va_A (zcX cI q a b0 b1 ik ha t g) s.heap.size y9 → hs ≤ y9 := zA_of hD0 (fun y9 h => Nat.le_trans hG.2.2.2.2 h) (va_S.rf (A := zA hs) (H0 := s.heap))
  generalize hAe : va_A (zcX cI q a b0 b1 ik ha t g) s.heap.size = A at hD hAz0 ⊢
  have hA : ∀ y9 : Nat, s.heap.size ≤ y9 → A y9 := fun y9 h => by rw [← hAe]; exact Or.inr h
  have hS : va_S A s.heap s.heap [] := va_S.rf
  have hAz : ∀ y9, A y9 → hs ≤ y9 := hAz0
  have hK := hG.1
  have hl := lv_entry ([.ref (q 0), .int (nI k)]) (n := 6) (Nat.le_of_ble_eq_true rfl)
  rw [lg_entry_eq]
  generalize (lg_sl ([.ref (q 0), .int (nI k)]) ++ List.replicate (6 - (lg_sl ([.ref (q 0), .int (nI k)])).length) Slot.unset).toArray = ls at hl ⊢
  have hl : lv_has ls 6 [(0, .ref (q 0)), (1, .int (nI k))] := hl
  have hf37 := hts (.fieldLink RX2 37 "FrozenBits" "grown" "LFrozenBits$FinedRows;") (List.mem_of_getElem? (i := 1) rfl)
  have hiX2 : ∀ w ∈ u_ws RX2 TX2 7, w ∈ wsX2_growBy := fun w h => List.mem_cons_of_mem _ (List.mem_append_left _ (List.mem_append_left _ (List.mem_append_right _ h)))
  have hf33 := hts (.fieldLink RX2 33 "FrozenBits" "told" "LFrozenBits$FinedRows;") (List.mem_of_getElem? (i := 2) rfl)
  have hn137 := hG.2.1 (.fieldLinkNest "FrozenBits" 137 "FrozenBits$FinedRows" "size" "I" "FrozenBits") (List.mem_of_getElem? (i := 9) rfl)
  have hiX1 : ∀ w ∈ u_ws RX1 TX1 3, w ∈ wsX2_growBy := fun w h => List.mem_cons_of_mem _ (List.mem_append_left _ (List.mem_append_right _ h))
  have hn143 := hG.2.1 (.fieldLinkNest "FrozenBits" 143 "FrozenBits$FinedRows" "rows" "[I" "FrozenBits") (List.mem_of_getElem? (i := 7) rfl)
  have hn146 := hG.2.1 (.fieldLinkNest "FrozenBits" 146 "FrozenBits$FinedRows" "fines" "[I" "FrozenBits") (List.mem_of_getElem? (i := 8) rfl)
  refine lv_aload_n hx hb dX2_growBy_0 rfl (lv_at hl 0 rfl) ?_
  refine va_get (ci := 2) (C := RX2) (T := TX2) (N := 7) hx hb hts hiX2 hown hK hP 0 rfl rfl 6 (by decide) hf37 (fun _ h9 => h9) rfl dX2_growBy_1 ?_
  refine zz_nVv (ct := fun (u : ZR) => zcR cI (q 14) (q 15) (q 16) u) (cn := fun (u : ZR) => zcX cI q a b0 b1 ik ha t u) (cs := zcR cI (q 14) (q 15) (q 16) g) (As := []) (rest := []) ⟨hx, hb, hml, hown, hts⟩ (c_X1_clear l D cI cZ hs ta s.heap.size (q 14) (q 15) (q 16) g) (fun _ => rfl) (cwV 0 hts gX2_growBy_X1_clear rfl rfl rfl (by decide +kernel) ⟨Nat.le_of_ble_eq_true rfl, Nat.le_of_ble_eq_true rfl⟩) (va_recv hK hP (ci := 1) (q0 := 14) rfl rfl) hP hD [14, 15, 16] [0, 1, 2, 3, 4, 5, 6, 7, 8, 9, 10, 11, 12, 13] [0, 1, 2, 3, 4, 5, 6, 7, 8, 9, 10, 11, 12, 13, 14, 15, 16] (nW := 17) rfl (by decide) (by decide) (by decide) rfl (by decide) (fun _ => rfl) (fun _ => rfl) (fun _ => rfl) hG hS hA hAz rfl hl.1 rfl (Nat.le_of_ble_eq_true rfl) ⟨Nat.zero_le _, Nat.zero_le _⟩ dX2_growBy_4 (fun u_2 H locs eu_2 hP hD hS => ?_)
  subst eu_2
  have hP : va_P D vwCl (zcX cI q a b0 b1 ik ha t (g.1, g.2.1, 0)) H := hP
  have hD : va_D A (zcX cI q a b0 b1 ik ha t (g.1, g.2.1, 0)) := hD
  refine lv_iconst (v := 0) hx hb dX2_growBy_7 (by decide) ?_
  refine lv_istore_n (lv' := [(2, .int 0), (0, .ref (q 0)), (1, .int (nI k))]) hx hb dX2_growBy_8 rfl hl (by decide) rfl (fun ls hl => ?_)
  have hl : lv_has ls 6 [(2, .int (nI 0)), (0, .ref (q 0)), (1, .int (nI k))] := hl
  refine zz_forHJ (P := fun H locs g => W p l e _ s m _ below meth c H locs _ _ _ g) (nL := 6) (L.length) (fun i => [(2, .int (nI i)), (0, .ref (q 0)), (1, .int (nI k))]) (fun i H locs => ∃ hx1 : Nat → Int32, ∃ g1 : ZR, zRL g1 (zgr a k L i) ∧ va_P D vwCl (zcX cI q a b0 b1 ik hx1 t g1) H ∧ va_D A (zcX cI q a b0 b1 ik hx1 t g1) ∧ va_S A s.heap H locs) (J := fun _ => True) ?_ ?_ (⟨_, _, zRL_0 _ _, hP, hD, hS⟩) (trivial) ((lv_sub hl [0, 1, 2] rfl))
  · intro H locs ls hJ hI0 hl
    obtain ⟨hx1, g1, hEx, hP, hD, hS⟩ := hI0
    refine lv_iload_n hx hb dX2_growBy_9 rfl (lv_at hl 0 rfl) ?_
    refine lv_aload_n hx hb dX2_growBy_10 rfl (lv_at hl 1 rfl) ?_
    refine va_get (ci := 2) (C := RX2) (T := TX2) (N := 7) hx hb hts hiX2 hown hK hP 0 rfl rfl 5 (by decide) hf33 (fun _ h9 => h9) rfl dX2_growBy_11 ?_
    refine va_getN (ci := 1) (C := RX1) (T := TX1) (N := 3) hx hb hts hiX1 hown hK hP 11 rfl rfl 2 (by decide) (va_Nw.use rfl hn137) (fun _ h9 => h9) rfl dX2_growBy_14 ?_
    refine zz_topi (nI (L.length)) (by rw [hL.1]) ?_
    refine lv_icmp_ge (tgt := 101) hx hb dX2_growBy_17 (by decide) (fun c_3 => ?_) (fun c_3 => ?_)
    · replace c_3 := Int32.not_lt.mpr c_3
      exact W.vret hx hb hr (fun t9 ht hW => ⟨⟨(hx1, g1), rfl, (hEx), zP_ht ht hP⟩, hS.F ht⟩) hS.2.2 dX2_growBy_101
    · replace c_3 := Int32.not_le.mp c_3
      exact absurd c_3 (nI_nlt (Nat.le_refl _) (by omega))
  · intro i hi hJ ihi H locs ls hI0 hl
    obtain ⟨hx1, g1, hEx, hP, hD, hS⟩ := hI0
    refine lv_iload_n hx hb dX2_growBy_9 rfl (lv_at hl 0 rfl) ?_
    refine lv_aload_n hx hb dX2_growBy_10 rfl (lv_at hl 1 rfl) ?_
    refine va_get (ci := 2) (C := RX2) (T := TX2) (N := 7) hx hb hts hiX2 hown hK hP 0 rfl rfl 5 (by decide) hf33 (fun _ h9 => h9) rfl dX2_growBy_11 ?_
    refine va_getN (ci := 1) (C := RX1) (T := TX1) (N := 3) hx hb hts hiX1 hown hK hP 11 rfl rfl 2 (by decide) (va_Nw.use rfl hn137) (fun _ h9 => h9) rfl dX2_growBy_14 ?_
    refine zz_topi (nI (L.length)) (by rw [hL.1]) ?_
    refine lv_icmp_ge (tgt := 101) hx hb dX2_growBy_17 (by decide) (fun c_4 => ?_) (fun c_4 => ?_)
    · replace c_4 := Int32.not_lt.mpr c_4
      exact absurd (nI_lt hi (by omega)) c_4
    · replace c_4 := Int32.not_le.mp c_4
      refine lv_aload_n hx hb dX2_growBy_20 rfl (lv_at hl 1 rfl) ?_
      refine va_get (ci := 2) (C := RX2) (T := TX2) (N := 7) hx hb hts hiX2 hown hK hP 0 rfl rfl 5 (by decide) hf33 (fun _ h9 => h9) rfl dX2_growBy_21 ?_
      refine va_getN (ci := 1) (C := RX1) (T := TX1) (N := 3) hx hb hts hiX1 hown hK hP 11 rfl rfl 0 (by decide) (va_Nw.use rfl hn143) (fun _ h9 => h9) rfl dX2_growBy_24 ?_
      refine lv_iload_n hx hb dX2_growBy_27 rfl (lv_at hl 0 rfl) ?_
      refine zz_iald hx hb hK hP 12 0 rfl rfl (i := i) rfl (by omega) (by decide) dX2_growBy_28 ?_
      refine zz_topi (nI ((L.getD i (0, 0)).1)) ((hL.2 i hi).1) ?_
      refine lv_istore_n (lv' := [(3, .int (nI ((L.getD i (0, 0)).1))), (2, .int (nI i)), (0, .ref (q 0)), (1, .int (nI k))]) hx hb dX2_growBy_29 rfl hl (by decide) rfl (fun ls hl => ?_)
      refine lv_aload_n hx hb dX2_growBy_30 rfl (lv_at hl 2 rfl) ?_
      refine va_get (ci := 2) (C := RX2) (T := TX2) (N := 7) hx hb hts hiX2 hown hK hP 0 rfl rfl 5 (by decide) hf33 (fun _ h9 => h9) rfl dX2_growBy_31 ?_
      refine va_getN (ci := 1) (C := RX1) (T := TX1) (N := 3) hx hb hts hiX1 hown hK hP 11 rfl rfl 1 (by decide) (va_Nw.use rfl hn146) (fun _ h9 => h9) rfl dX2_growBy_34 ?_
      refine lv_iload_n hx hb dX2_growBy_37 rfl (lv_at hl 1 rfl) ?_
      refine zz_iald hx hb hK hP 13 0 rfl rfl (i := i) rfl (by omega) (by decide) dX2_growBy_38 ?_
      refine zz_topi ((L.getD i (0, 0)).2) ((hL.2 i hi).2.1) ?_
      refine zz_topi ((L.getD i (0, 0)).2) (rfl) ?_
      refine lv_istore (lv' := [(4, .int ((L.getD i (0, 0)).2)), (3, .int (nI ((L.getD i (0, 0)).1))), (2, .int (nI i)), (0, .ref (q 0)), (1, .int (nI k))]) hx hb dX2_growBy_39 hl (by decide) rfl (fun ls hl => ?_)
      refine lv_aload_n hx hb dX2_growBy_41 rfl (lv_at hl 3 rfl) ?_
      refine lv_iload_n hx hb dX2_growBy_42 rfl (lv_at hl 4 rfl) ?_
      refine lv_iload_n hx hb dX2_growBy_43 rfl (lv_at hl 1 rfl) ?_
      refine zz_mVi (ct := (fun (u : Nat → Int32) => zcX cI q a b0 b1 ik u t g1)) (cs := zcX cI q a b0 b1 ik hx1 t g1) (As := [.int (nI k), .int (nI ((L.getD i (0, 0)).1))]) (rest := []) ⟨hx, hb, hml, hown, hts⟩ (c_X2_seenOf l D cI cZ hs ta H.size q a b0 b1 ik hx1 t g1 k ((L.getD i (0, 0)).1) hI hk ((hL.2 i hi).2.2)) (fun _ => rfl) (cwV 2 hts gX2_growBy_X2_seenOf rfl rfl rfl (by decide +kernel) ⟨Nat.le_of_ble_eq_true rfl, Nat.le_of_ble_eq_true rfl⟩) (va_recv hK hP (ci := 2) (q0 := 0) rfl rfl) hP hD hG hS hA hAz rfl hl.1 rfl (Nat.le_of_ble_eq_true rfl) ⟨Nat.zero_le _, Nat.zero_le _⟩ dX2_growBy_44 (fun r_5 u_6 H locs eu_6 hP hD hS => ?_)
      subst eu_6
      have hP : va_P D vwCl (zcX cI q a b0 b1 ik u_6 t g1) H := hP
      have hD : va_D A (zcX cI q a b0 b1 ik u_6 t g1) := hD
      refine zz_topi (zsee a.2.2.2.2.2.1 a.1 k (L.getD i (0, 0)).1) (rfl) ?_
      refine lv_istore (lv' := [(5, .int (zsee a.2.2.2.2.2.1 a.1 k (L.getD i (0, 0)).1)), (4, .int ((L.getD i (0, 0)).2)), (3, .int (nI ((L.getD i (0, 0)).1))), (2, .int (nI i)), (0, .ref (q 0)), (1, .int (nI k))]) hx hb dX2_growBy_47 hl (by decide) rfl (fun ls hl => ?_)
      refine lv_aload_n hx hb dX2_growBy_49 rfl (lv_at hl 4 rfl) ?_
      refine va_get (ci := 2) (C := RX2) (T := TX2) (N := 7) hx hb hts hiX2 hown hK hP 0 rfl rfl 6 (by decide) hf37 (fun _ h9 => h9) rfl dX2_growBy_50 ?_
      refine lv_iload_n hx hb dX2_growBy_53 rfl (lv_at hl 2 rfl) ?_
      refine lv_iload hx hb dX2_growBy_54 (lv_at hl 1 rfl) ?_
      refine lv_iload hx hb dX2_growBy_56 (lv_at hl 0 rfl) ?_
      refine lv_iconst (v := 0) hx hb dX2_growBy_58 (by decide) ?_
      refine zz_pSi (As := [.int (zsee a.2.2.2.2.2.1 a.1 k (L.getD i (0, 0)).1), .int 0]) (rest := [.int ((L.getD i (0, 0)).2), .int (nI ((L.getD i (0, 0)).1)), .ref (q 14)]) ⟨hx, hb, hml, hown, hts⟩ (c_X2_fineOfBit l (zsee a.2.2.2.2.2.1 a.1 k (L.getD i (0, 0)).1) 0) (va_cwS 2 hts gX2_growBy_X2_fineOfBit rfl rfl rfl (by decide +kernel) ⟨Nat.le_of_ble_eq_true rfl, Nat.le_of_ble_eq_true rfl⟩) rfl hl.1 rfl (Nat.le_of_ble_eq_true rfl) ⟨Nat.zero_le _, Nat.zero_le _⟩ dX2_growBy_59 (fun r_7 er_7 => ?_)
      subst er_7
      refine zz_topi (zfb (zsee a.2.2.2.2.2.1 a.1 k (L.getD i (0, 0)).1) false) (by simp [zfb]) ?_
      refine lv_iadd hx hb dX2_growBy_62 ?_
      refine zz_nVv (ct := fun (u : ZR) => zcR cI (q 14) (q 15) (q 16) u) (cn := fun (u : ZR) => zcX cI q a b0 b1 ik u_6 t u) (cs := zcR cI (q 14) (q 15) (q 16) g1) (As := [.int (nI ((L.getD i (0, 0)).1)), .int (((L.getD i (0, 0)).2) + (zfb (zsee a.2.2.2.2.2.1 a.1 k (L.getD i (0, 0)).1) false))]) (rest := []) ⟨hx, hb, hml, hown, hts⟩ (c_X1_add l D cI cZ hs ta H.size (q 14) (q 15) (q 16) g1 (nI ((L.getD i (0, 0)).1)) (((L.getD i (0, 0)).2) + (zfb (zsee a.2.2.2.2.2.1 a.1 k (L.getD i (0, 0)).1) false)) (zpos (zgr a k L i) ((L.getD i (0, 0)).1, (L.getD i (0, 0)).2 + zfb (zsee a.2.2.2.2.2.1 a.1 k (L.getD i (0, 0)).1) false) (zgr a k L i).length) (by rw [hEx.1]; have := zgr_len a k L i; omega) (by rw [hEx.1]; exact zpos_le _ _ _) (zRL_hp1 (x := ((L.getD i (0, 0)).1, (L.getD i (0, 0)).2 + zfb (zsee a.2.2.2.2.2.1 a.1 k (L.getD i (0, 0)).1) false)) hEx ((hL.2 i hi).2.2)) (zRL_hp2 (x := ((L.getD i (0, 0)).1, (L.getD i (0, 0)).2 + zfb (zsee a.2.2.2.2.2.1 a.1 k (L.getD i (0, 0)).1) false)) hEx ((hL.2 i hi).2.2))) (fun _ => rfl) (cwV 2 hts gX2_growBy_X1_add rfl rfl rfl (by decide +kernel) ⟨Nat.le_of_ble_eq_true rfl, Nat.le_of_ble_eq_true rfl⟩) (va_recv hK hP (ci := 1) (q0 := 14) rfl rfl) hP hD [14, 15, 16] [0, 1, 2, 3, 4, 5, 6, 7, 8, 9, 10, 11, 12, 13] [0, 1, 2, 3, 4, 5, 6, 7, 8, 9, 10, 11, 12, 13, 14, 15, 16] (nW := 17) rfl (by decide) (by decide) (by decide) rfl (by decide) (fun _ => rfl) (fun _ => rfl) (fun _ => rfl) hG hS hA hAz rfl hl.1 rfl (Nat.le_of_ble_eq_true rfl) ⟨Nat.zero_le _, Nat.zero_le _⟩ dX2_growBy_63 (fun u_9 H locs eu_9 hP hD hS => ?_)
      have hEx : zRL u_9 (zins (zgr a k L i) ((L.getD i (0, 0)).1, (L.getD i (0, 0)).2 + zfb (zsee a.2.2.2.2.2.1 a.1 k (L.getD i (0, 0)).1) false)) := by rw [eu_9]; exact zRL_ins (x := ((L.getD i (0, 0)).1, (L.getD i (0, 0)).2 + zfb (zsee a.2.2.2.2.2.1 a.1 k (L.getD i (0, 0)).1) false)) hEx ((hL.2 i hi).2.2)
      have hP : va_P D vwCl (zcX cI q a b0 b1 ik u_6 t u_9) H := hP
      have hD : va_D A (zcX cI q a b0 b1 ik u_6 t u_9) := hD
      refine lv_aload_n hx hb dX2_growBy_66 rfl (lv_at hl 4 rfl) ?_
      refine lv_iload_n hx hb dX2_growBy_67 rfl (lv_at hl 5 rfl) ?_
      refine zz_cVi (cs := zcX cI q a b0 b1 ik u_6 t u_9) (As := [.int (nI k)]) (rest := []) ⟨hx, hb, hml, hown, hts⟩ (c_X2_isFree l D cI cZ hs ta q a b0 b1 ik u_6 t u_9 k hI hk) (cwV 1 hts gX2_growBy_X2_isFree rfl rfl rfl (by decide +kernel) ⟨Nat.le_of_ble_eq_true rfl, Nat.le_of_ble_eq_true rfl⟩) (va_recv hK hP (ci := 2) (q0 := 0) rfl rfl) hP hD hG hS hAz rfl hl.1 rfl (Nat.le_of_ble_eq_true rfl) ⟨Nat.zero_le _, Nat.zero_le _⟩ dX2_growBy_68 (fun r_10 er_10 => ?_)
      refine lv_if_eq (tgt := 95) hx hb dX2_growBy_71 (by decide) (fun c_11 => ?_) (fun c_11 => ?_)
      · replace c_11 := Classical.not_not.mp (zB_f er_10 c_11)
        refine lv_iinc (v := (nI (i + 1))) (lv' := [(2, .int (nI (i + 1))), (5, .int (zsee a.2.2.2.2.2.1 a.1 k (L.getD i (0, 0)).1)), (4, .int ((L.getD i (0, 0)).2)), (3, .int (nI ((L.getD i (0, 0)).1))), (0, .ref (q 0)), (1, .int (nI k))]) hx hb dX2_growBy_95 hl (k := 3) rfl (zz_inc _) (by decide) rfl (fun ls hl => ?_)
        refine lv_goto (tgt := 9) hx hb dX2_growBy_98 (by decide) ?_
        have hl : lv_has ls 6 [(2, .int (nI ((i + 1)))), (5, .int (zsee a.2.2.2.2.2.1 a.1 k (L.getD i (0, 0)).1)), (4, .int ((L.getD i (0, 0)).2)), (3, .int (nI ((L.getD i (0, 0)).1))), (0, .ref (q 0)), (1, .int (nI k))] := hl
        exact ihi (trivial) _ _ ls (⟨_, _, by simp only [zgr, c_4, c_11, not_true_eq_false, not_false_eq_true, and_self, and_true, true_and, and_false, false_and, or_self, or_true, true_or, or_false, false_or, if_true, if_false, ↓reduceIte, Bool.false_eq_true, iff_self, iff_true, iff_false, true_iff, false_iff, Nat.add_zero]; exact hEx, hP, hD, hS⟩) (lv_sub hl [0, 4, 5] rfl)
      · replace c_11 := zB_t er_10 c_11
        refine lv_aload_n hx hb dX2_growBy_74 rfl (lv_at hl 4 rfl) ?_
        refine va_get (ci := 2) (C := RX2) (T := TX2) (N := 7) hx hb hts hiX2 hown hK hP 0 rfl rfl 6 (by decide) hf37 (fun _ h9 => h9) rfl dX2_growBy_75 ?_
        refine lv_iload_n hx hb dX2_growBy_78 rfl (lv_at hl 2 rfl) ?_
        refine lv_iconst (v := 1) hx hb dX2_growBy_79 (by decide) ?_
        refine lv_iload_n hx hb dX2_growBy_80 rfl (lv_at hl 5 rfl) ?_
        refine lv_ishl hx hb dX2_growBy_81 ?_
        refine zz_topi (nI (2 ^ k)) (zz_shl1n rfl (by omega)) ?_
        refine lv_ior hx hb dX2_growBy_82 ?_
        refine zz_topi (nI (((L.getD i (0, 0)).1) ||| (2 ^ k))) (zz_orn rfl rfl) ?_
        refine lv_iload hx hb dX2_growBy_83 (lv_at hl 1 rfl) ?_
        refine lv_iload hx hb dX2_growBy_85 (lv_at hl 0 rfl) ?_
        refine lv_iconst (v := 1) hx hb dX2_growBy_87 (by decide) ?_
        refine zz_pSi (As := [.int (zsee a.2.2.2.2.2.1 a.1 k (L.getD i (0, 0)).1), .int 1]) (rest := [.int ((L.getD i (0, 0)).2), .int (nI (((L.getD i (0, 0)).1) ||| (2 ^ k))), .ref (q 14)]) ⟨hx, hb, hml, hown, hts⟩ (c_X2_fineOfBit l (zsee a.2.2.2.2.2.1 a.1 k (L.getD i (0, 0)).1) 1) (va_cwS 2 hts gX2_growBy_X2_fineOfBit rfl rfl rfl (by decide +kernel) ⟨Nat.le_of_ble_eq_true rfl, Nat.le_of_ble_eq_true rfl⟩) rfl hl.1 rfl (Nat.le_of_ble_eq_true rfl) ⟨Nat.zero_le _, Nat.zero_le _⟩ dX2_growBy_88 (fun r_12 er_12 => ?_)
        subst er_12
        refine zz_topi (zfb (zsee a.2.2.2.2.2.1 a.1 k (L.getD i (0, 0)).1) true) (by simp [zfb]) ?_
        refine lv_iadd hx hb dX2_growBy_91 ?_
        refine zz_nVv (ct := fun (u : ZR) => zcR cI (q 14) (q 15) (q 16) u) (cn := fun (u : ZR) => zcX cI q a b0 b1 ik u_6 t u) (cs := zcR cI (q 14) (q 15) (q 16) u_9) (As := [.int (nI (((L.getD i (0, 0)).1) ||| (2 ^ k))), .int (((L.getD i (0, 0)).2) + (zfb (zsee a.2.2.2.2.2.1 a.1 k (L.getD i (0, 0)).1) true))]) (rest := []) ⟨hx, hb, hml, hown, hts⟩ (c_X1_add l D cI cZ hs ta H.size (q 14) (q 15) (q 16) u_9 (nI (((L.getD i (0, 0)).1) ||| (2 ^ k))) (((L.getD i (0, 0)).2) + (zfb (zsee a.2.2.2.2.2.1 a.1 k (L.getD i (0, 0)).1) true)) (zpos (zins (zgr a k L i) ((L.getD i (0, 0)).1, (L.getD i (0, 0)).2 + zfb (zsee a.2.2.2.2.2.1 a.1 k (L.getD i (0, 0)).1) false)) ((L.getD i (0, 0)).1 ||| 2 ^ k, (L.getD i (0, 0)).2 + zfb (zsee a.2.2.2.2.2.1 a.1 k (L.getD i (0, 0)).1) true) (zins (zgr a k L i) ((L.getD i (0, 0)).1, (L.getD i (0, 0)).2 + zfb (zsee a.2.2.2.2.2.1 a.1 k (L.getD i (0, 0)).1) false)).length) (by rw [hEx.1]; rw [zins_len]; have := zgr_len a k L i; omega) (by rw [hEx.1]; exact zpos_le _ _ _) (zRL_hp1 (x := ((L.getD i (0, 0)).1 ||| 2 ^ k, (L.getD i (0, 0)).2 + zfb (zsee a.2.2.2.2.2.1 a.1 k (L.getD i (0, 0)).1) true)) hEx (Nat.or_lt_two_pow (n := 16) (hL.2 i hi).2.2 (zp2_16 hk))) (zRL_hp2 (x := ((L.getD i (0, 0)).1 ||| 2 ^ k, (L.getD i (0, 0)).2 + zfb (zsee a.2.2.2.2.2.1 a.1 k (L.getD i (0, 0)).1) true)) hEx (Nat.or_lt_two_pow (n := 16) (hL.2 i hi).2.2 (zp2_16 hk)))) (fun _ => rfl) (cwV 2 hts gX2_growBy_X1_add rfl rfl rfl (by decide +kernel) ⟨Nat.le_of_ble_eq_true rfl, Nat.le_of_ble_eq_true rfl⟩) (va_recv hK hP (ci := 1) (q0 := 14) rfl rfl) hP hD [14, 15, 16] [0, 1, 2, 3, 4, 5, 6, 7, 8, 9, 10, 11, 12, 13] [0, 1, 2, 3, 4, 5, 6, 7, 8, 9, 10, 11, 12, 13, 14, 15, 16] (nW := 17) rfl (by decide) (by decide) (by decide) rfl (by decide) (fun _ => rfl) (fun _ => rfl) (fun _ => rfl) hG hS hA hAz rfl hl.1 rfl (Nat.le_of_ble_eq_true rfl) ⟨Nat.zero_le _, Nat.zero_le _⟩ dX2_growBy_92 (fun u_14 H locs eu_14 hP hD hS => ?_)
        have hEx : zRL u_14 (zins (zins (zgr a k L i) ((L.getD i (0, 0)).1, (L.getD i (0, 0)).2 + zfb (zsee a.2.2.2.2.2.1 a.1 k (L.getD i (0, 0)).1) false)) ((L.getD i (0, 0)).1 ||| 2 ^ k, (L.getD i (0, 0)).2 + zfb (zsee a.2.2.2.2.2.1 a.1 k (L.getD i (0, 0)).1) true)) := by rw [eu_14]; exact zRL_ins (x := ((L.getD i (0, 0)).1 ||| 2 ^ k, (L.getD i (0, 0)).2 + zfb (zsee a.2.2.2.2.2.1 a.1 k (L.getD i (0, 0)).1) true)) hEx (Nat.or_lt_two_pow (n := 16) (hL.2 i hi).2.2 (zp2_16 hk))
        have hP : va_P D vwCl (zcX cI q a b0 b1 ik u_6 t u_14) H := hP
        have hD : va_D A (zcX cI q a b0 b1 ik u_6 t u_14) := hD
        refine lv_iinc (v := (nI (i + 1))) (lv' := [(2, .int (nI (i + 1))), (5, .int (zsee a.2.2.2.2.2.1 a.1 k (L.getD i (0, 0)).1)), (4, .int ((L.getD i (0, 0)).2)), (3, .int (nI ((L.getD i (0, 0)).1))), (0, .ref (q 0)), (1, .int (nI k))]) hx hb dX2_growBy_95 hl (k := 3) rfl (zz_inc _) (by decide) rfl (fun ls hl => ?_)
        refine lv_goto (tgt := 9) hx hb dX2_growBy_98 (by decide) ?_
        have hl : lv_has ls 6 [(2, .int (nI ((i + 1)))), (5, .int (zsee a.2.2.2.2.2.1 a.1 k (L.getD i (0, 0)).1)), (4, .int ((L.getD i (0, 0)).2)), (3, .int (nI ((L.getD i (0, 0)).1))), (0, .ref (q 0)), (1, .int (nI k))] := hl
        exact ihi (trivial) _ _ ls (⟨_, _, by simp only [zgr, c_4, c_11, not_true_eq_false, not_false_eq_true, and_self, and_true, true_and, and_false, false_and, or_self, or_true, true_or, or_false, false_or, if_true, if_false, ↓reduceIte, Bool.false_eq_true, iff_self, iff_true, iff_false, true_iff, false_iff, Nat.add_zero]; exact hEx, hP, hD, hS⟩) (lv_sub hl [0, 4, 5] rfl)
set_option maxHeartbeats 4000000 in
set_option maxRecDepth 100000 in
theorem c_X2_tellKept (l : Launch) (D : va_G) (cI cZ : ClassId) (hs ta : Nat) (sz : Nat) (q : Nat → Nat) (a : ZA) (b0 : ZA) (b1 : ZA) (ik : Nat) (ha : Nat → Int32) (t : ZR) (g : ZR) (hI : zInv a) : Met l yX2_tellKept wsX2_tellKept ({ frames := 5, cells := 0, slots := 0, locals := 114 }) (va_Pc [.ref (q 0)] (fun U => U.heap.size = sz ∧ zPre D (zTy cI cZ) hs ta (zcX cI q a b0 b1 ik ha t g) U)) (va_Qv (fun (u : (Nat → Int32) × ZR × ZR) => zRL u.2.1 (zkp a (2 ^ a.1))) (fun (u : (Nat → Int32) × ZR × ZR) t9 => va_P D vwCl (zcX cI q a b0 b1 ik u.1 u.2.1 u.2.2) t9.heap) (va_A (zcX cI q a b0 b1 ik ha t g) sz)) 0 0 (va_A (zcX cI q a b0 b1 ik ha t g) sz) := by
  refine Met.ofW (cc := cX2_tellKept) (maxL := 2) (ret := none) (by decide) rfl ?_
  intro p e s m args below meth c s₁ B hml hv0
  obtain ⟨rfl, hsz, hP, hD0, hG⟩ := hv0
  have hx := B.exec
  have hb := B.bytes
  have hr := B.returns
  have hts := atoms_spec (ws := wsX2_tellKept) B.pre
  have hown : s.vm.findClass RX2 = some m.cls := findClass_of_methodNamed B.named
  have hlocks := B.notSynchronized
  subst hsz
  have hD := hD0.self (sz := s.heap.size)
  have hAz0 : ∀ y9, va_A (zcX cI q a b0 b1 ik ha t g) s.heap.size y9 → hs ≤ y9 := zA_of hD0 (fun y9 h => Nat.le_trans hG.2.2.2.2 h) (va_S.rf (A := zA hs) (H0 := s.heap))
  generalize hAe : va_A (zcX cI q a b0 b1 ik ha t g) s.heap.size = A at hD hAz0 ⊢
  have hA : ∀ y9 : Nat, s.heap.size ≤ y9 → A y9 := fun y9 h => by rw [← hAe]; exact Or.inr h
  have hS : va_S A s.heap s.heap [] := va_S.rf
  have hAz : ∀ y9, A y9 → hs ≤ y9 := hAz0
  have hK := hG.1
  have hl := lv_entry ([.ref (q 0)]) (n := 2) (Nat.le_of_ble_eq_true rfl)
  rw [lg_entry_eq]
  generalize (lg_sl ([.ref (q 0)]) ++ List.replicate (2 - (lg_sl ([.ref (q 0)])).length) Slot.unset).toArray = ls at hl ⊢
  have hl : lv_has ls 2 [(0, .ref (q 0))] := hl
  have hf33 := hts (.fieldLink RX2 33 "FrozenBits" "told" "LFrozenBits$FinedRows;") (List.mem_of_getElem? (i := 1) rfl)
  have hiX2 : ∀ w ∈ u_ws RX2 TX2 7, w ∈ wsX2_tellKept := fun w h => List.mem_cons_of_mem _ (List.mem_append_left _ (List.mem_append_left _ (List.mem_append_right _ h)))
  have hf37 := hts (.fieldLink RX2 37 "FrozenBits" "grown" "LFrozenBits$FinedRows;") (List.mem_of_getElem? (i := 2) rfl)
  have hf10 := hts (.fieldLink RX2 10 "FrozenBits" "now" "LFrozenBits$Facts;") (List.mem_of_getElem? (i := 3) rfl)
  have hn131 := hG.2.1 (.fieldLinkNest "FrozenBits" 131 "FrozenBits$Facts" "most" "I" "FrozenBits") (List.mem_of_getElem? (i := 4) rfl)
  have hiX0 : ∀ w ∈ u_ws RX0 TX0 7, w ∈ wsX2_tellKept := fun w h => List.mem_cons_of_mem _ (List.mem_append_left _ (List.mem_append_right _ h))
  refine lv_aload_n hx hb dX2_tellKept_0 rfl (lv_at hl 0 rfl) ?_
  refine va_get (ci := 2) (C := RX2) (T := TX2) (N := 7) hx hb hts hiX2 hown hK hP 0 rfl rfl 5 (by decide) hf33 (fun _ h9 => h9) rfl dX2_tellKept_1 ?_
  refine zz_nVv (ct := fun (u : ZR) => zcR cI (q 11) (q 12) (q 13) u) (cn := fun (u : ZR) => zcX cI q a b0 b1 ik ha u g) (cs := zcR cI (q 11) (q 12) (q 13) t) (As := []) (rest := []) ⟨hx, hb, hml, hown, hts⟩ (c_X1_clear l D cI cZ hs ta s.heap.size (q 11) (q 12) (q 13) t) (fun _ => rfl) (cwV 0 hts gX2_tellKept_X1_clear rfl rfl rfl (by decide +kernel) ⟨Nat.le_of_ble_eq_true rfl, Nat.le_of_ble_eq_true rfl⟩) (va_recv hK hP (ci := 1) (q0 := 11) rfl rfl) hP hD [11, 12, 13] [0, 1, 2, 3, 4, 5, 6, 7, 8, 9, 10, 14, 15, 16] [0, 1, 2, 3, 4, 5, 6, 7, 8, 9, 10, 14, 15, 16, 11, 12, 13] (nW := 17) rfl (by decide) (by decide) (by decide) rfl (by decide) (fun _ => rfl) (fun _ => rfl) (fun _ => rfl) hG hS hA hAz rfl hl.1 rfl (Nat.le_of_ble_eq_true rfl) ⟨Nat.zero_le _, Nat.zero_le _⟩ dX2_tellKept_4 (fun u_2 H locs eu_2 hP hD hS => ?_)
  subst eu_2
  have hP : va_P D vwCl (zcX cI q a b0 b1 ik ha (t.1, t.2.1, 0) g) H := hP
  have hD : va_D A (zcX cI q a b0 b1 ik ha (t.1, t.2.1, 0) g) := hD
  refine lv_aload_n hx hb dX2_tellKept_7 rfl (lv_at hl 0 rfl) ?_
  refine va_get (ci := 2) (C := RX2) (T := TX2) (N := 7) hx hb hts hiX2 hown hK hP 0 rfl rfl 5 (by decide) hf33 (fun _ h9 => h9) rfl dX2_tellKept_8 ?_
  refine lv_iconst (v := 0) hx hb dX2_tellKept_11 (by decide) ?_
  refine lv_iconst (v := 0) hx hb dX2_tellKept_12 (by decide) ?_
  refine zz_nVv (ct := fun (u : ZR) => zcR cI (q 11) (q 12) (q 13) u) (cn := fun (u : ZR) => zcX cI q a b0 b1 ik ha u g) (cs := zcR cI (q 11) (q 12) (q 13) (t.1, t.2.1, 0)) (As := [.int 0, .int 0]) (rest := []) ⟨hx, hb, hml, hown, hts⟩ (c_X1_add l D cI cZ hs ta H.size (q 11) (q 12) (q 13) (t.1, t.2.1, 0) 0 0 0 (show 0 < 16 by decide) (Nat.zero_le _) (fun j _ h => absurd h (Nat.not_lt_zero _)) (Or.inl rfl)) (fun _ => rfl) (cwV 2 hts gX2_tellKept_X1_add rfl rfl rfl (by decide +kernel) ⟨Nat.le_of_ble_eq_true rfl, Nat.le_of_ble_eq_true rfl⟩) (va_recv hK hP (ci := 1) (q0 := 11) rfl rfl) hP hD [11, 12, 13] [0, 1, 2, 3, 4, 5, 6, 7, 8, 9, 10, 14, 15, 16] [0, 1, 2, 3, 4, 5, 6, 7, 8, 9, 10, 14, 15, 16, 11, 12, 13] (nW := 17) rfl (by decide) (by decide) (by decide) rfl (by decide) (fun _ => rfl) (fun _ => rfl) (fun _ => rfl) hG hS hA hAz rfl hl.1 rfl (Nat.le_of_ble_eq_true rfl) ⟨Nat.zero_le _, Nat.zero_le _⟩ dX2_tellKept_13 (fun u_4 H locs eu_4 hP hD hS => ?_)
  have hEx : zRL u_4 [(0, 0)] := by rw [eu_4]; exact zRL_ins (x := (0, 0)) (zRL_0 _ _) (by decide)
  have hP : va_P D vwCl (zcX cI q a b0 b1 ik ha u_4 g) H := hP
  have hD : va_D A (zcX cI q a b0 b1 ik ha u_4 g) := hD
  refine lv_iconst (v := 0) hx hb dX2_tellKept_16 (by decide) ?_
  refine lv_istore_n (lv' := [(1, .int 0), (0, .ref (q 0))]) hx hb dX2_tellKept_17 rfl hl (by decide) rfl (fun ls hl => ?_)
  have hl : lv_has ls 2 [(1, .int (nI 0)), (0, .ref (q 0))] := hl
  refine zz_forHJ (P := fun H locs g => W p l e _ s m _ below meth c H locs _ _ _ g) (nL := 2) (2 ^ a.1) (fun i => [(1, .int (nI i)), (0, .ref (q 0))]) (fun i H locs => ∃ hx1 : Nat → Int32, ∃ t1 : ZR, ∃ g1 : ZR, zRL t1 (zkp a i) ∧ va_P D vwCl (zcX cI q a b0 b1 ik hx1 t1 g1) H ∧ va_D A (zcX cI q a b0 b1 ik hx1 t1 g1) ∧ va_S A s.heap H locs) (J := fun _ => True) ?_ ?_ (⟨_, _, _, hEx, hP, hD, hS⟩) (trivial) ((lv_sub hl [0, 1] rfl))
  · intro H locs ls hJ hI0 hl
    obtain ⟨hx1, t1, g1, hEx, hP, hD, hS⟩ := hI0
    refine lv_iload_n hx hb dX2_tellKept_18 rfl (lv_at hl 0 rfl) ?_
    refine lv_aload_n hx hb dX2_tellKept_19 rfl (lv_at hl 1 rfl) ?_
    refine zz_cVi (cs := zcX cI q a b0 b1 ik hx1 t1 g1) (As := []) (rest := [.int (nI ((2 ^ a.1)))]) ⟨hx, hb, hml, hown, hts⟩ (c_X2_places l D cI cZ hs ta q a b0 b1 ik hx1 t1 g1 hI.1.2) (cwV 0 hts gX2_tellKept_X2_places rfl rfl rfl (by decide +kernel) ⟨Nat.le_of_ble_eq_true rfl, Nat.le_of_ble_eq_true rfl⟩) (va_recv hK hP (ci := 2) (q0 := 0) rfl rfl) hP hD hG hS hAz rfl hl.1 rfl (Nat.le_of_ble_eq_true rfl) ⟨Nat.zero_le _, Nat.zero_le _⟩ dX2_tellKept_20 (fun r_5 er_5 => ?_)
    subst er_5
    refine lv_icmp_ge (tgt := 55) hx hb dX2_tellKept_23 (by decide) (fun c_6 => ?_) (fun c_6 => ?_)
    · replace c_6 := Int32.not_lt.mpr c_6
      exact W.vret hx hb hr (fun t9 ht hW => ⟨⟨(hx1, t1, g1), rfl, (hEx), zP_ht ht hP⟩, hS.F ht⟩) hS.2.2 dX2_tellKept_55
    · replace c_6 := Int32.not_le.mp c_6
      exact absurd c_6 (nI_nlt (Nat.le_refl _) (by have := zNp hI; omega))
  · intro i hi hJ ihi H locs ls hI0 hl
    obtain ⟨hx1, t1, g1, hEx, hP, hD, hS⟩ := hI0
    refine lv_iload_n hx hb dX2_tellKept_18 rfl (lv_at hl 0 rfl) ?_
    refine lv_aload_n hx hb dX2_tellKept_19 rfl (lv_at hl 1 rfl) ?_
    refine zz_cVi (cs := zcX cI q a b0 b1 ik hx1 t1 g1) (As := []) (rest := [.int (nI i)]) ⟨hx, hb, hml, hown, hts⟩ (c_X2_places l D cI cZ hs ta q a b0 b1 ik hx1 t1 g1 hI.1.2) (cwV 0 hts gX2_tellKept_X2_places rfl rfl rfl (by decide +kernel) ⟨Nat.le_of_ble_eq_true rfl, Nat.le_of_ble_eq_true rfl⟩) (va_recv hK hP (ci := 2) (q0 := 0) rfl rfl) hP hD hG hS hAz rfl hl.1 rfl (Nat.le_of_ble_eq_true rfl) ⟨Nat.zero_le _, Nat.zero_le _⟩ dX2_tellKept_20 (fun r_7 er_7 => ?_)
    subst er_7
    refine lv_icmp_ge (tgt := 55) hx hb dX2_tellKept_23 (by decide) (fun c_8 => ?_) (fun c_8 => ?_)
    · replace c_8 := Int32.not_lt.mpr c_8
      exact absurd (nI_lt hi (by have := zNp hI; omega)) c_8
    · replace c_8 := Int32.not_le.mp c_8
      refine lv_aload_n hx hb dX2_tellKept_26 rfl (lv_at hl 1 rfl) ?_
      refine lv_iload_n hx hb dX2_tellKept_27 rfl (lv_at hl 0 rfl) ?_
      refine zz_mVv (ct := (fun (u : (Nat → Int32) × ZR) => zcX cI q a b0 b1 ik u.1 t1 u.2)) (cs := zcX cI q a b0 b1 ik hx1 t1 g1) (As := [.int (nI i)]) (rest := []) ⟨hx, hb, hml, hown, hts⟩ (c_X2_growBy l D cI cZ hs ta H.size q a b0 b1 ik hx1 t1 g1 i (zkp a i) hI (by have := zNp hI; omega) hEx (zkp_len hI i)) (fun _ => rfl) (cwV 1 hts gX2_tellKept_X2_growBy rfl rfl rfl (by decide +kernel) ⟨Nat.le_of_ble_eq_true rfl, Nat.le_of_ble_eq_true rfl⟩) (va_recv hK hP (ci := 2) (q0 := 0) rfl rfl) hP hD hG hS hA hAz rfl hl.1 rfl (Nat.le_of_ble_eq_true rfl) ⟨Nat.zero_le _, Nat.zero_le _⟩ dX2_tellKept_28 (fun u_10 H locs eu_10 hP hD hS => ?_)
      have hP : va_P D vwCl (zcX cI q a b0 b1 ik u_10.1 t1 u_10.2) H := hP
      have hD : va_D A (zcX cI q a b0 b1 ik u_10.1 t1 u_10.2) := hD
      refine lv_aload_n hx hb dX2_tellKept_31 rfl (lv_at hl 1 rfl) ?_
      refine va_get (ci := 2) (C := RX2) (T := TX2) (N := 7) hx hb hts hiX2 hown hK hP 0 rfl rfl 5 (by decide) hf33 (fun _ h9 => h9) rfl dX2_tellKept_32 ?_
      refine lv_aload_n hx hb dX2_tellKept_35 rfl (lv_at hl 1 rfl) ?_
      refine va_get (ci := 2) (C := RX2) (T := TX2) (N := 7) hx hb hts hiX2 hown hK hP 0 rfl rfl 6 (by decide) hf37 (fun _ h9 => h9) rfl dX2_tellKept_36 ?_
      refine lv_aload_n hx hb dX2_tellKept_39 rfl (lv_at hl 1 rfl) ?_
      refine va_get (ci := 2) (C := RX2) (T := TX2) (N := 7) hx hb hts hiX2 hown hK hP 0 rfl rfl 0 (by decide) hf10 (fun _ h9 => h9) rfl dX2_tellKept_40 ?_
      refine va_getN (ci := 0) (C := RX0) (T := TX0) (N := 7) hx hb hts hiX0 hown hK hP 1 rfl rfl 4 (by decide) (va_Nw.use rfl hn131) (fun _ h9 => h9) rfl dX2_tellKept_43 ?_
      refine zz_nVv (ct := fun (u : ZR) => zcR cI (q 11) (q 12) (q 13) u ++ zcR cI (q 14) (q 15) (q 16) u_10.2) (cn := fun (u : ZR) => zcX cI q a b0 b1 ik u_10.1 u u_10.2) (cs := zcR cI (q 11) (q 12) (q 13) t1 ++ zcR cI (q 14) (q 15) (q 16) u_10.2) (As := [.ref (q 14), .int (nI (a.2.2.2.2.1))]) (rest := []) ⟨hx, hb, hml, hown, hts⟩ (c_X1_takeFirst l D cI cZ hs ta H.size (q 11) (q 12) (q 13) (q 14) (q 15) (q 16) t1 u_10.2 a.2.2.2.2.1 (by have := hI.2.2.2.1.2; omega) (by rw [eu_10.1]; have := zgr_len a i (zkp a i) (zkp a i).length; have := zkp_len hI i; omega)) (fun _ => rfl) (cwV 2 hts gX2_tellKept_X1_takeFirst rfl rfl rfl (by decide +kernel) ⟨Nat.le_of_ble_eq_true rfl, Nat.le_of_ble_eq_true rfl⟩) (va_recv hK hP (ci := 1) (q0 := 11) rfl rfl) hP hD [11, 12, 13, 14, 15, 16] [0, 1, 2, 3, 4, 5, 6, 7, 8, 9, 10] [0, 1, 2, 3, 4, 5, 6, 7, 8, 9, 10, 11, 12, 13, 14, 15, 16] (nW := 17) rfl (by decide) (by decide) (by decide) rfl (by decide) (fun _ => rfl) (fun _ => rfl) (fun _ => rfl) hG hS hA hAz rfl hl.1 rfl (Nat.le_of_ble_eq_true rfl) ⟨Nat.zero_le _, Nat.zero_le _⟩ dX2_tellKept_46 (fun u_12 H locs eu_12 hP hD hS => ?_)
      have hEx : zRL u_12 (zkp a (i + 1)) := by rw [eu_12]; exact zRL_take (t := t) eu_10 _ _ _
      have hP : va_P D vwCl (zcX cI q a b0 b1 ik u_10.1 u_12 u_10.2) H := hP
      have hD : va_D A (zcX cI q a b0 b1 ik u_10.1 u_12 u_10.2) := hD
      refine lv_iinc (v := (nI (i + 1))) (lv' := [(1, .int (nI (i + 1))), (0, .ref (q 0))]) hx hb dX2_tellKept_49 hl (k := 0) rfl (zz_inc _) (by decide) rfl (fun ls hl => ?_)
      refine lv_goto (tgt := 18) hx hb dX2_tellKept_52 (by decide) ?_
      have hl : lv_has ls 2 [(1, .int (nI ((i + 1)))), (0, .ref (q 0))] := hl
      exact ihi (trivial) _ _ ls (⟨_, _, _, hEx, hP, hD, hS⟩) (lv_sub hl [0, 1] rfl)
set_option maxHeartbeats 4000000 in
set_option maxRecDepth 100000 in
theorem c_X2_firstThatHolds (l : Launch) (D : va_G) (cI cZ : ClassId) (hs ta : Nat) (q : Nat → Nat) (a : ZA) (b0 : ZA) (b1 : ZA) (ik : Nat) (ha : Nat → Int32) (t : ZR) (g : ZR) (L : ZL) (hI : zInv a) (hL : zRL t L) (hL8 : L.length ≤ 8) : Met l yX2_firstThatHolds wsX2_firstThatHolds ({ frames := 2, cells := 0, slots := 0, locals := 42 }) (va_Pc [.ref (q 0)] (zPre D (zTy cI cZ) hs ta (zcX cI q a b0 b1 ik ha t g))) (vp_Si (fun r : Int32 => r = zfr (zff (fun j => zhd a (L.getD j (0, 0)).1) L.length))) 0 0 (fun _ => False) := by
  refine Met.ofW (cc := cX2_firstThatHolds) (maxL := 2) (ret := (some .int)) (by decide) rfl ?_
  intro p e s m args below meth c s₁ B hml hv0
  obtain ⟨rfl, hP, hD, hG⟩ := hv0
  have hx := B.exec
  have hb := B.bytes
  have hr := B.returns
  have hts := atoms_spec (ws := wsX2_firstThatHolds) B.pre
  have hown : s.vm.findClass RX2 = some m.cls := findClass_of_methodNamed B.named
  have hlocks := B.notSynchronized
  have hK := hG.1
  have hS : va_S (zA hs) s.heap s.heap [] := va_S.rf
  have hAz : ∀ q, zA hs q → hs ≤ q := fun _ h => h
  have hl := lv_entry ([.ref (q 0)]) (n := 2) (Nat.le_of_ble_eq_true rfl)
  rw [lg_entry_eq]
  generalize (lg_sl ([.ref (q 0)]) ++ List.replicate (2 - (lg_sl ([.ref (q 0)])).length) Slot.unset).toArray = ls at hl ⊢
  have hl : lv_has ls 2 [(0, .ref (q 0))] := hl
  have hf33 := hts (.fieldLink RX2 33 "FrozenBits" "told" "LFrozenBits$FinedRows;") (List.mem_of_getElem? (i := 1) rfl)
  have hiX2 : ∀ w ∈ u_ws RX2 TX2 7, w ∈ wsX2_firstThatHolds := fun w h => List.mem_cons_of_mem _ (List.mem_append_left _ (List.mem_append_left _ (List.mem_append_right _ h)))
  have hn137 := hG.2.1 (.fieldLinkNest "FrozenBits" 137 "FrozenBits$FinedRows" "size" "I" "FrozenBits") (List.mem_of_getElem? (i := 9) rfl)
  have hiX1 : ∀ w ∈ u_ws RX1 TX1 3, w ∈ wsX2_firstThatHolds := fun w h => List.mem_cons_of_mem _ (List.mem_append_left _ (List.mem_append_right _ h))
  have hf10 := hts (.fieldLink RX2 10 "FrozenBits" "now" "LFrozenBits$Facts;") (List.mem_of_getElem? (i := 2) rfl)
  have hn143 := hG.2.1 (.fieldLinkNest "FrozenBits" 143 "FrozenBits$FinedRows" "rows" "[I" "FrozenBits") (List.mem_of_getElem? (i := 7) rfl)
  refine lv_iconst (v := 0) hx hb dX2_firstThatHolds_0 (by decide) ?_
  refine lv_istore_n (lv' := [(1, .int 0), (0, .ref (q 0))]) hx hb dX2_firstThatHolds_1 rfl hl (by decide) rfl (fun ls hl => ?_)
  have hl : lv_has ls 2 [(1, .int (nI 0)), (0, .ref (q 0))] := hl
  refine zz_forJ (nL := 2) (L.length) (fun i => [(1, .int (nI i)), (0, .ref (q 0))]) (J := fun i => ∀ j, j < i → zhd a (L.getD j (0, 0)).1 = false) ?_ ?_ (fun j h => absurd h (Nat.not_lt_zero _)) (lv_sub hl [0, 1] rfl)
  · intro hJ ls hl
    refine lv_iload_n hx hb dX2_firstThatHolds_2 rfl (lv_at hl 0 rfl) ?_
    refine lv_aload_n hx hb dX2_firstThatHolds_3 rfl (lv_at hl 1 rfl) ?_
    refine va_get (ci := 2) (C := RX2) (T := TX2) (N := 7) hx hb hts hiX2 hown hK hP 0 rfl rfl 5 (by decide) hf33 (fun _ h9 => h9) rfl dX2_firstThatHolds_4 ?_
    refine va_getN (ci := 1) (C := RX1) (T := TX1) (N := 3) hx hb hts hiX1 hown hK hP 11 rfl rfl 2 (by decide) (va_Nw.use rfl hn137) (fun _ h9 => h9) rfl dX2_firstThatHolds_7 ?_
    refine zz_topi (nI (L.length)) (by rw [hL.1]) ?_
    refine lv_icmp_ge (tgt := 40) hx hb dX2_firstThatHolds_10 (by decide) (fun c_1 => ?_) (fun c_1 => ?_)
    · replace c_1 := Int32.not_lt.mpr c_1
      refine lv_bipush (v := (-6)) hx hb dX2_firstThatHolds_40 (by decide) ?_
      exact W.iret (v := (-6)) hx hb hr (fun t9 ht hW => ⟨_, rfl, (by rw [zff_none hJ]; rfl), ht⟩) (fun _ h => absurd h List.not_mem_nil) dX2_firstThatHolds_42
    · replace c_1 := Int32.not_le.mp c_1
      exact absurd c_1 (nI_nlt (Nat.le_refl _) (by omega))
  · intro i hi hJ ihi ls hl
    refine lv_iload_n hx hb dX2_firstThatHolds_2 rfl (lv_at hl 0 rfl) ?_
    refine lv_aload_n hx hb dX2_firstThatHolds_3 rfl (lv_at hl 1 rfl) ?_
    refine va_get (ci := 2) (C := RX2) (T := TX2) (N := 7) hx hb hts hiX2 hown hK hP 0 rfl rfl 5 (by decide) hf33 (fun _ h9 => h9) rfl dX2_firstThatHolds_4 ?_
    refine va_getN (ci := 1) (C := RX1) (T := TX1) (N := 3) hx hb hts hiX1 hown hK hP 11 rfl rfl 2 (by decide) (va_Nw.use rfl hn137) (fun _ h9 => h9) rfl dX2_firstThatHolds_7 ?_
    refine zz_topi (nI (L.length)) (by rw [hL.1]) ?_
    refine lv_icmp_ge (tgt := 40) hx hb dX2_firstThatHolds_10 (by decide) (fun c_2 => ?_) (fun c_2 => ?_)
    · replace c_2 := Int32.not_lt.mpr c_2
      exact absurd (nI_lt hi (by omega)) c_2
    · replace c_2 := Int32.not_le.mp c_2
      refine lv_aload_n hx hb dX2_firstThatHolds_13 rfl (lv_at hl 1 rfl) ?_
      refine va_get (ci := 2) (C := RX2) (T := TX2) (N := 7) hx hb hts hiX2 hown hK hP 0 rfl rfl 0 (by decide) hf10 (fun _ h9 => h9) rfl dX2_firstThatHolds_14 ?_
      refine lv_aload_n hx hb dX2_firstThatHolds_17 rfl (lv_at hl 1 rfl) ?_
      refine va_get (ci := 2) (C := RX2) (T := TX2) (N := 7) hx hb hts hiX2 hown hK hP 0 rfl rfl 5 (by decide) hf33 (fun _ h9 => h9) rfl dX2_firstThatHolds_18 ?_
      refine va_getN (ci := 1) (C := RX1) (T := TX1) (N := 3) hx hb hts hiX1 hown hK hP 11 rfl rfl 0 (by decide) (va_Nw.use rfl hn143) (fun _ h9 => h9) rfl dX2_firstThatHolds_21 ?_
      refine lv_iload_n hx hb dX2_firstThatHolds_24 rfl (lv_at hl 0 rfl) ?_
      refine zz_iald hx hb hK hP 12 0 rfl rfl (i := i) rfl (by omega) (by decide) dX2_firstThatHolds_25 ?_
      refine zz_topi (nI ((L.getD i (0, 0)).1)) ((hL.2 i hi).1) ?_
      refine zz_cVi (cs := zcF cI (q 1) (q 2) (q 3) a) (As := [.int (nI ((L.getD i (0, 0)).1))]) (rest := []) ⟨hx, hb, hml, hown, hts⟩ (c_X0_holds l D cI cZ hs ta (q 1) (q 2) (q 3) a ((L.getD i (0, 0)).1) hI ((hL.2 i hi).2.2)) (cwV 1 hts gX2_firstThatHolds_X0_holds rfl rfl rfl (by decide +kernel) ⟨Nat.le_of_ble_eq_true rfl, Nat.le_of_ble_eq_true rfl⟩) (va_recv hK hP (ci := 0) (q0 := 1) rfl rfl) (hP.sub (ws' := zcF cI (q 1) (q 2) (q 3) a) [1, 2, 3] rfl) (hD.sub (ws' := zcF cI (q 1) (q 2) (q 3) a) [1, 2, 3] (by decide) rfl) hG hS hAz rfl hl.1 rfl (Nat.le_of_ble_eq_true rfl) ⟨Nat.zero_le _, Nat.zero_le _⟩ dX2_firstThatHolds_26 (fun r_3 er_3 => ?_)
      refine lv_if_eq (tgt := 34) hx hb dX2_firstThatHolds_29 (by decide) (fun c_4 => ?_) (fun c_4 => ?_)
      · replace c_4 := zB_f er_3 c_4
        refine lv_iinc (v := (nI (i + 1))) (lv' := [(1, .int (nI (i + 1))), (0, .ref (q 0))]) hx hb dX2_firstThatHolds_34 hl (k := 0) rfl (zz_inc _) (by decide) rfl (fun ls hl => ?_)
        refine lv_goto (tgt := 2) hx hb dX2_firstThatHolds_37 (by decide) ?_
        have hl : lv_has ls 2 [(1, .int (nI ((i + 1)))), (0, .ref (q 0))] := hl
        exact ihi (fun j hj => (Nat.lt_or_ge j i).elim (hJ j) (fun q => (show j = i by omega) ▸ Bool.eq_false_iff.mpr c_4)) ls (lv_sub hl [0, 1] rfl)
      · replace c_4 := zB_t er_3 c_4
        refine lv_iload_n hx hb dX2_firstThatHolds_32 rfl (lv_at hl 0 rfl) ?_
        exact W.iret (v := (nI i)) hx hb hr (fun t9 ht hW => ⟨_, rfl, (by rw [zff_some hi c_4 hJ]; rfl), ht⟩) (fun _ h => absurd h List.not_mem_nil) dX2_firstThatHolds_33
set_option maxHeartbeats 4000000 in
set_option maxRecDepth 100000 in
theorem c_X2_imageAt (l : Launch) (D : va_G) (cI cZ : ClassId) (hs ta : Nat) (q : Nat → Nat) (a : ZA) (b0 : ZA) (b1 : ZA) (ik : Nat) (ha : Nat → Int32) (t : ZR) (g : ZR) (p0 : Int32) : Met l yX2_imageAt wsX2_imageAt ({ frames := 0, cells := 0, slots := 0, locals := 0 }) (va_Pc [.ref (q 0), .int p0] (zPre D (zTy cI cZ) hs ta (zcX cI q a b0 b1 ik ha t g))) (zQr (fun r : Nat => r = if p0 = 0 then q 4 else q 7)) 0 0 (fun _ => False) := by
  refine Met.ofW (cc := cX2_imageAt) (maxL := 2) (ret := (some (.object "FrozenBits$Facts"))) (by decide) rfl ?_
  intro p e s m args below meth c s₁ B hml hv0
  obtain ⟨rfl, hP, hD, hG⟩ := hv0
  have hx := B.exec
  have hb := B.bytes
  have hr := B.returns
  have hts := atoms_spec (ws := wsX2_imageAt) B.pre
  have hown : s.vm.findClass RX2 = some m.cls := findClass_of_methodNamed B.named
  have hlocks := B.notSynchronized
  have hK := hG.1
  have hS : va_S (zA hs) s.heap s.heap [] := va_S.rf
  have hAz : ∀ q, zA hs q → hs ≤ q := fun _ h => h
  have hl := lv_entry ([.ref (q 0), .int p0]) (n := 2) (Nat.le_of_ble_eq_true rfl)
  rw [lg_entry_eq]
  generalize (lg_sl ([.ref (q 0), .int p0]) ++ List.replicate (2 - (lg_sl ([.ref (q 0), .int p0])).length) Slot.unset).toArray = ls at hl ⊢
  have hl : lv_has ls 2 [(0, .ref (q 0)), (1, .int p0)] := hl
  have hf19 := hts (.fieldLink RX2 19 "FrozenBits" "secondImage" "LFrozenBits$Facts;") (List.mem_of_getElem? (i := 2) rfl)
  have hiX2 : ∀ w ∈ u_ws RX2 TX2 7, w ∈ wsX2_imageAt := fun w h => List.mem_cons_of_mem _ (List.mem_append_right _ h)
  have hf16 := hts (.fieldLink RX2 16 "FrozenBits" "firstImage" "LFrozenBits$Facts;") (List.mem_of_getElem? (i := 1) rfl)
  refine lv_iload_n hx hb dX2_imageAt_0 rfl (lv_at hl 1 rfl) ?_
  refine lv_if_ne (tgt := 11) hx hb dX2_imageAt_1 (by decide) (fun c_1 => ?_) (fun c_1 => ?_)
  · refine lv_aload_n hx hb dX2_imageAt_11 rfl (lv_at hl 0 rfl) ?_
    refine va_get (ci := 2) (C := RX2) (T := TX2) (N := 7) hx hb hts hiX2 hown hK hP 0 rfl rfl 2 (by decide) hf19 (fun _ h9 => h9) rfl dX2_imageAt_12 ?_
    exact W.aret (v := .ref (q 7)) hx hb hr (Or.inl ⟨_, rfl⟩) (Or.inr ⟨_, rfl⟩) (fun t9 ht hW => ⟨_, rfl, (by simp only [c_1, not_true_eq_false, not_false_eq_true, and_self, and_true, true_and, and_false, false_and, or_self, or_true, true_or, or_false, false_or, if_true, if_false, ↓reduceIte, Bool.false_eq_true, iff_self, iff_true, iff_false, true_iff, false_iff, Nat.add_zero]), ht⟩) (fun _ h => absurd h List.not_mem_nil) dX2_imageAt_15
  · refine lv_aload_n hx hb dX2_imageAt_4 rfl (lv_at hl 0 rfl) ?_
    refine va_get (ci := 2) (C := RX2) (T := TX2) (N := 7) hx hb hts hiX2 hown hK hP 0 rfl rfl 1 (by decide) hf16 (fun _ h9 => h9) rfl dX2_imageAt_5 ?_
    refine lv_goto (tgt := 15) hx hb dX2_imageAt_8 (by decide) ?_
    exact W.aret (v := .ref (q 4)) hx hb hr (Or.inl ⟨_, rfl⟩) (Or.inr ⟨_, rfl⟩) (fun t9 ht hW => ⟨_, rfl, (by simp only [c_1, not_true_eq_false, not_false_eq_true, and_self, and_true, true_and, and_false, false_and, or_self, or_true, true_or, or_false, false_or, if_true, if_false, ↓reduceIte, Bool.false_eq_true, iff_self, iff_true, iff_false, true_iff, false_iff, Nat.add_zero]), ht⟩) (fun _ h => absurd h List.not_mem_nil) dX2_imageAt_15
set_option maxHeartbeats 4000000 in
set_option maxRecDepth 100000 in
theorem c_X2_checkCounted (l : Launch) (D : va_G) (cI cZ : ClassId) (hs ta : Nat) (q : Nat → Nat) (a : ZA) (b0 : ZA) (b1 : ZA) (ik : Nat) (ha : Nat → Int32) (t : ZR) (g : ZR) (p0 : Int32) (hI : zInv a) : Met l yX2_checkCounted wsX2_checkCounted ({ frames := 0, cells := 0, slots := 0, locals := 0 }) (va_Pc [.ref (q 0), .int p0] (zPre D (zTy cI cZ) hs ta (zcX cI q a b0 b1 ik ha t g))) (vp_Si (fun r : Int32 => r = zcc a p0)) 0 0 (fun _ => False) := by
  refine Met.ofW (cc := cX2_checkCounted) (maxL := 2) (ret := (some .int)) (by decide) rfl ?_
  intro p e s m args below meth c s₁ B hml hv0
  obtain ⟨rfl, hP, hD, hG⟩ := hv0
  have hx := B.exec
  have hb := B.bytes
  have hr := B.returns
  have hts := atoms_spec (ws := wsX2_checkCounted) B.pre
  have hown : s.vm.findClass RX2 = some m.cls := findClass_of_methodNamed B.named
  have hlocks := B.notSynchronized
  have hK := hG.1
  have hS : va_S (zA hs) s.heap s.heap [] := va_S.rf
  have hAz : ∀ q, zA hs q → hs ≤ q := fun _ h => h
  have hl := lv_entry ([.ref (q 0), .int p0]) (n := 2) (Nat.le_of_ble_eq_true rfl)
  rw [lg_entry_eq]
  generalize (lg_sl ([.ref (q 0), .int p0]) ++ List.replicate (2 - (lg_sl ([.ref (q 0), .int p0])).length) Slot.unset).toArray = ls at hl ⊢
  have hl : lv_has ls 2 [(0, .ref (q 0)), (1, .int p0)] := hl
  have hf10 := hts (.fieldLink RX2 10 "FrozenBits" "now" "LFrozenBits$Facts;") (List.mem_of_getElem? (i := 1) rfl)
  have hiX2 : ∀ w ∈ u_ws RX2 TX2 7, w ∈ wsX2_checkCounted := fun w h => List.mem_cons_of_mem _ (List.mem_append_left _ (List.mem_append_right _ h))
  have hn152 := hG.2.1 (.fieldLinkNest "FrozenBits" 152 "FrozenBits$Facts" "checks" "[I" "FrozenBits") (List.mem_of_getElem? (i := 6) rfl)
  have hiX0 : ∀ w ∈ u_ws RX0 TX0 7, w ∈ wsX2_checkCounted := fun w h => List.mem_cons_of_mem _ (List.mem_append_right _ h)
  refine lv_iload_n hx hb dX2_checkCounted_0 rfl (lv_at hl 1 rfl) ?_
  refine lv_bipush (v := 10) hx hb dX2_checkCounted_1 (by decide) ?_
  refine lv_icmp_lt (tgt := 12) hx hb dX2_checkCounted_3 (by decide) (fun c_1 => ?_) (fun c_1 => ?_)
  · refine lv_bipush (v := (-2)) hx hb dX2_checkCounted_12 (by decide) ?_
    exact W.iret (v := (-2)) hx hb hr (fun t9 ht hW => ⟨_, rfl, (by simp only [zcc, c_1, not_true_eq_false, not_false_eq_true, and_self, and_true, true_and, and_false, false_and, or_self, or_true, true_or, or_false, false_or, if_true, if_false, ↓reduceIte, Bool.false_eq_true, iff_self, iff_true, iff_false, true_iff, false_iff, Nat.add_zero]), ht⟩) (fun _ h => absurd h List.not_mem_nil) dX2_checkCounted_14
  · refine lv_iload_n hx hb dX2_checkCounted_6 rfl (lv_at hl 1 rfl) ?_
    refine lv_bipush (v := 13) hx hb dX2_checkCounted_7 (by decide) ?_
    refine lv_icmp_lt (tgt := 15) hx hb dX2_checkCounted_9 (by decide) (fun c_2 => ?_) (fun c_2 => ?_)
    · obtain ⟨k0, hk0, rfl⟩ := zrange (lo := 10) (hi := 13) c_1 c_2 (by decide) (by decide)
      refine lv_aload_n hx hb dX2_checkCounted_15 rfl (lv_at hl 0 rfl) ?_
      refine va_get (ci := 2) (C := RX2) (T := TX2) (N := 7) hx hb hts hiX2 hown hK hP 0 rfl rfl 0 (by decide) hf10 (fun _ h9 => h9) rfl dX2_checkCounted_16 ?_
      refine va_getN (ci := 0) (C := RX0) (T := TX0) (N := 7) hx hb hts hiX0 hown hK hP 1 rfl rfl 6 (by decide) (va_Nw.use rfl hn152) (fun _ h9 => h9) rfl dX2_checkCounted_19 ?_
      refine lv_iload_n hx hb dX2_checkCounted_22 rfl (lv_at hl 1 rfl) ?_
      refine lv_bipush (v := 10) hx hb dX2_checkCounted_23 (by decide) ?_
      refine lv_isub hx hb dX2_checkCounted_25 ?_
      refine zz_topi (nI ((10 + k0) - 10)) (zz_subn rfl (show (10 : Int32) = nI 10 from rfl) (by omega)) ?_
      refine zz_iald hx hb hK hP 3 0 rfl rfl (i := k0) (by rw [Nat.add_sub_cancel_left]) (by omega) (by decide) dX2_checkCounted_26 ?_
      exact W.iret (v := (a.2.2.2.2.2.2 k0)) hx hb hr (fun t9 ht hW => ⟨_, rfl, (by simp only [zcc, c_1, c_2, not_true_eq_false, not_false_eq_true, and_self, and_true, true_and, and_false, false_and, or_self, or_true, true_or, or_false, false_or, if_true, if_false, ↓reduceIte, Bool.false_eq_true, iff_self, iff_true, iff_false, true_iff, false_iff, Nat.add_zero]; rw [nI_clamp (by omega), Nat.add_sub_cancel_left]), ht⟩) (fun _ h => absurd h List.not_mem_nil) dX2_checkCounted_27
    · refine lv_bipush (v := (-2)) hx hb dX2_checkCounted_12 (by decide) ?_
      exact W.iret (v := (-2)) hx hb hr (fun t9 ht hW => ⟨_, rfl, (by simp only [zcc, c_1, c_2, not_true_eq_false, not_false_eq_true, and_self, and_true, true_and, and_false, false_and, or_self, or_true, true_or, or_false, false_or, if_true, if_false, ↓reduceIte, Bool.false_eq_true, iff_self, iff_true, iff_false, true_iff, false_iff, Nat.add_zero]), ht⟩) (fun _ h => absurd h List.not_mem_nil) dX2_checkCounted_14
