set_option maxHeartbeats 4000000 in
set_option maxRecDepth 100000 in
theorem c_X3_openFor (l : Launch) (D : va_G) (cI cZ : ClassId) (hs ta : Nat) (q : Nat → Nat) (a : ZA) (im : Nat → Int32) (kp : Nat → Int32) (lf : Nat → Int32) (rw : Nat → Int32) (fn : Nat → Int32) (kn : Nat) (v : Nat) (hI : zInv a) (hv : v < 2 ^ 2 ^ a.1) : Met l yX3_openFor wsX3_openFor ({ frames := 2, cells := 0, slots := 0, locals := 40 }) (va_Pc [.ref (q 0), .int (nI v)] (zPre D (zTy cI cZ) hs ta (zcM cI cZ q (zst a) im kp lf rw fn kn))) (vp_Si (fun r : Int32 => r = nI (zXo a v))) 0 0 (fun _ => False) := by
  refine Met.ofW (cc := cX3_openFor) (maxL := 7) (ret := (some .int)) (by decide) rfl ?_
  intro p e s m args below meth c s₁ B hml hv0
  obtain ⟨rfl, hP, hD, hG⟩ := hv0
  have hx := B.exec
  have hb := B.bytes
  have hr := B.returns
  have hts := atoms_spec (ws := wsX3_openFor) B.pre
  have hown : s.vm.findClass RX3 = some m.cls := findClass_of_methodNamed B.named
  have hlocks := B.notSynchronized
  have hK := hG.1
  have hS : va_S (zA hs) s.heap s.heap [] := va_S.rf
  have hAz : ∀ q, zA hs q → hs ≤ q := fun _ h => h
  have hl := lv_entry ([.ref (q 0), .int (nI v)]) (n := 7) (Nat.le_of_ble_eq_true rfl)
  rw [lg_entry_eq]
  generalize (lg_sl ([.ref (q 0), .int (nI v)]) ++ List.replicate (7 - (lg_sl ([.ref (q 0), .int (nI v)])).length) Slot.unset).toArray = ls at hl ⊢
  have hl : lv_has ls 7 [(0, .ref (q 0)), (1, .int (nI v))] := hl
  have h16 := zNp hI
  have hT : ∀ i, ztl a v i < 65536 := ztl_lt hI v
  have h65 := zNN hI
  have h65p := Nat.two_pow_pos (2 ^ a.1)
  have hf16 := zfre_lt hI
  refine lv_iconst (v := 1) hx hb dX3_openFor_0 (by decide) ?_
  refine lv_aload_n hx hb dX3_openFor_1 rfl (lv_at hl 0 rfl) ?_
  refine zz_cVi (cs := zcM cI cZ q (zst a) im kp lf rw fn kn) (As := []) (rest := [.int 1]) ⟨hx, hb, hml, hown, hts⟩ (c_X3_places l D cI cZ hs ta q a im kp lf rw fn kn hI.1.2) (cwV 0 hts gX3_openFor_X3_places rfl rfl rfl (by decide +kernel) ⟨Nat.le_of_ble_eq_true rfl, Nat.le_of_ble_eq_true rfl⟩) (va_recv hK hP (ci := 3) (q0 := 0) rfl rfl) hP hD hG hS hAz rfl hl.1 rfl (Nat.le_of_ble_eq_true rfl) ⟨Nat.zero_le _, Nat.zero_le _⟩ dX3_openFor_2 (fun r_1 er_1 => ?_)
  subst er_1
  refine lv_ishl hx hb dX3_openFor_5 ?_
  refine zz_topi (nI (2 ^ (2 ^ a.1))) (zz_shl1n rfl (by omega)) ?_
  refine lv_iconst (v := 1) hx hb dX3_openFor_6 (by decide) ?_
  refine lv_isub hx hb dX3_openFor_7 ?_
  refine zz_topi (nI ((2 ^ (2 ^ a.1)) - 1)) (zz_subn rfl (show (1 : Int32) = nI 1 from rfl) (Nat.one_le_two_pow)) ?_
  refine lv_iload_n hx hb dX3_openFor_8 rfl (lv_at hl 1 rfl) ?_
  refine lv_iconst (v := (-1)) hx hb dX3_openFor_9 (by decide) ?_
  refine lv_ixor hx hb dX3_openFor_10 ?_
  refine lv_iand hx hb dX3_openFor_11 ?_
  refine zz_topi (nI (ztl a v 0)) (zn_andn (by omega)) ?_
  refine lv_istore_n (lv' := [(2, .int (nI (ztl a v 0))), (0, .ref (q 0)), (1, .int (nI v))]) hx hb dX3_openFor_12 rfl hl (by decide) rfl (fun ls hl => ?_)
  refine lv_aload_n hx hb dX3_openFor_13 rfl (lv_at hl 1 rfl) ?_
  refine zz_cVi (cs := zcM cI cZ q (zst a) im kp lf rw fn kn) (As := []) (rest := []) ⟨hx, hb, hml, hown, hts⟩ (c_X3_places l D cI cZ hs ta q a im kp lf rw fn kn hI.1.2) (cwV 0 hts gX3_openFor_X3_places rfl rfl rfl (by decide +kernel) ⟨Nat.le_of_ble_eq_true rfl, Nat.le_of_ble_eq_true rfl⟩) (va_recv hK hP (ci := 3) (q0 := 0) rfl rfl) hP hD hG hS hAz rfl hl.1 rfl (Nat.le_of_ble_eq_true rfl) ⟨Nat.zero_le _, Nat.zero_le _⟩ dX3_openFor_14 (fun r_2 er_2 => ?_)
  subst er_2
  refine lv_iconst (v := 2) hx hb dX3_openFor_17 (by decide) ?_
  refine lv_idiv hx hb dX3_openFor_18 (by decide) ?_
  refine zz_topi (nI ((2 ^ a.1) / 2)) (zz_divn rfl (show (2 : Int32) = nI 2 from rfl) (by omega) (by decide) (by decide)) ?_
  refine lv_istore_n (lv' := [(3, .int (nI ((2 ^ a.1) / 2))), (2, .int (nI (ztl a v 0))), (0, .ref (q 0)), (1, .int (nI v))]) hx hb dX3_openFor_19 rfl hl (by decide) rfl (fun ls hl => ?_)
  have hl : lv_has ls 7 [(3, .int (nI (zhf a.1 0))), (2, .int (nI (ztl a v 0))), (0, .ref (q 0)), (1, .int (nI v))] := hl
  refine zz_forJ (nL := 7) (a.1) (fun j => [(3, .int (nI (zhf a.1 j))), (2, .int (nI (ztl a v j))), (0, .ref (q 0)), (1, .int (nI v))]) (J := fun _ => True) ?_ ?_ (trivial) (lv_sub hl [0, 1, 2, 3] rfl)
  · intro hJ ls hl
    refine lv_iload_n hx hb dX3_openFor_20 rfl (lv_at hl 0 rfl) ?_
    refine lv_if_le (tgt := 103) hx hb dX3_openFor_21 (by decide) (fun c_3 => ?_) (fun c_3 => ?_)
    · replace c_3 := Int32.not_lt.mpr c_3
      refine lv_aload_n hx hb dX3_openFor_103 rfl (lv_at hl 2 rfl) ?_
      refine zz_cVi (cs := zcM cI cZ q (zst a) im kp lf rw fn kn) (As := []) (rest := []) ⟨hx, hb, hml, hown, hts⟩ (c_X3_free l D cI cZ hs ta q a im kp lf rw fn kn hI) (cwV 0 hts gX3_openFor_X3_free rfl rfl rfl (by decide +kernel) ⟨Nat.le_of_ble_eq_true rfl, Nat.le_of_ble_eq_true rfl⟩) (va_recv hK hP (ci := 3) (q0 := 0) rfl rfl) hP hD hG hS hAz rfl hl.1 rfl (Nat.le_of_ble_eq_true rfl) ⟨Nat.zero_le _, Nat.zero_le _⟩ dX3_openFor_104 (fun r_4 er_4 => ?_)
      subst er_4
      refine lv_iload_n hx hb dX3_openFor_107 rfl (lv_at hl 1 rfl) ?_
      refine lv_iconst (v := (-1)) hx hb dX3_openFor_108 (by decide) ?_
      refine lv_ixor hx hb dX3_openFor_109 ?_
      refine lv_iand hx hb dX3_openFor_110 ?_
      refine zz_topi (nI (zXo a v)) (by rw [zn_andn hf16]; exact congrArg nI (zopen_eq hI hv)) ?_
      exact W.iret (v := (nI (zXo a v))) hx hb hr (fun t9 ht hW => ⟨_, rfl, (by rfl), ht⟩) (fun _ h => absurd h List.not_mem_nil) dX3_openFor_111
    · replace c_3 := Int32.not_le.mp c_3
      exact absurd c_3 (by unfold zhf; rw [Nat.sub_self]; decide)
  · intro j hj hJ ihj ls hl
    have hz8 := zhf_le (i := j) hI.1.2
    refine lv_iload_n hx hb dX3_openFor_20 rfl (lv_at hl 0 rfl) ?_
    refine lv_if_le (tgt := 103) hx hb dX3_openFor_21 (by decide) (fun c_5 => ?_) (fun c_5 => ?_)
    · replace c_5 := Int32.not_lt.mpr c_5
      exact absurd (nI_lt (zhf_pos hj) (by omega)) c_5
    · replace c_5 := Int32.not_le.mp c_5
      refine lv_iconst (v := 0) hx hb dX3_openFor_24 (by decide) ?_
      refine lv_istore (lv' := [(4, .int 0), (3, .int (nI (zhf a.1 j))), (2, .int (nI (ztl a v j))), (0, .ref (q 0)), (1, .int (nI v))]) hx hb dX3_openFor_25 hl (by decide) rfl (fun ls hl => ?_)
      refine lv_iconst (v := 0) hx hb dX3_openFor_27 (by decide) ?_
      refine lv_istore (lv' := [(5, .int 0), (4, .int 0), (3, .int (nI (zhf a.1 j))), (2, .int (nI (ztl a v j))), (0, .ref (q 0)), (1, .int (nI v))]) hx hb dX3_openFor_28 hl (by decide) rfl (fun ls hl => ?_)
      have hl : lv_has ls 7 [(5, .int (nI 0)), (4, .int (nI (zon (ztl a v j) (zhf a.1 j) 0))), (3, .int (nI (zhf a.1 j))), (2, .int (nI (ztl a v j))), (0, .ref (q 0)), (1, .int (nI v))] := hl
      refine zz_forJ (nL := 7) (2 ^ a.1) (fun i => [(5, .int (nI i)), (4, .int (nI (zon (ztl a v j) (zhf a.1 j) i))), (3, .int (nI (zhf a.1 j))), (2, .int (nI (ztl a v j))), (0, .ref (q 0)), (1, .int (nI v))]) (J := fun _ => True) ?_ ?_ (trivial) (lv_sub hl [0, 1, 2, 3, 4, 5] rfl)
      · intro hJ ls hl
        refine lv_iload hx hb dX3_openFor_30 (lv_at hl 0 rfl) ?_
        refine lv_aload_n hx hb dX3_openFor_32 rfl (lv_at hl 4 rfl) ?_
        refine zz_cVi (cs := zcM cI cZ q (zst a) im kp lf rw fn kn) (As := []) (rest := [.int (nI ((2 ^ a.1)))]) ⟨hx, hb, hml, hown, hts⟩ (c_X3_places l D cI cZ hs ta q a im kp lf rw fn kn hI.1.2) (cwV 0 hts gX3_openFor_X3_places rfl rfl rfl (by decide +kernel) ⟨Nat.le_of_ble_eq_true rfl, Nat.le_of_ble_eq_true rfl⟩) (va_recv hK hP (ci := 3) (q0 := 0) rfl rfl) hP hD hG hS hAz rfl hl.1 rfl (Nat.le_of_ble_eq_true rfl) ⟨Nat.zero_le _, Nat.zero_le _⟩ dX3_openFor_33 (fun r_6 er_6 => ?_)
        subst er_6
        refine lv_icmp_ge (tgt := 93) hx hb dX3_openFor_36 (by decide) (fun c_7 => ?_) (fun c_7 => ?_)
        · replace c_7 := Int32.not_lt.mpr c_7
          refine lv_iload hx hb dX3_openFor_93 (lv_at hl 1 rfl) ?_
          refine lv_istore_n (lv' := [(2, .int (nI (zon (ztl a v j) (zhf a.1 j) (2 ^ a.1)))), (5, .int (nI ((2 ^ a.1)))), (4, .int (nI (zon (ztl a v j) (zhf a.1 j) (2 ^ a.1)))), (3, .int (nI (zhf a.1 j))), (0, .ref (q 0)), (1, .int (nI v))]) hx hb dX3_openFor_95 rfl hl (by decide) rfl (fun ls hl => ?_)
          refine lv_iload_n hx hb dX3_openFor_96 rfl (lv_at hl 3 rfl) ?_
          refine lv_iconst (v := 2) hx hb dX3_openFor_97 (by decide) ?_
          refine lv_idiv hx hb dX3_openFor_98 (by decide) ?_
          refine zz_topi (nI (zhf a.1 (j + 1))) (by rw [zz_divn rfl (show (2 : Int32) = nI 2 from rfl) (by omega) (by decide) (by decide), ← zhf_next, Nat.shiftRight_eq_div_pow]) ?_
          refine lv_istore_n (lv' := [(3, .int (nI (zhf a.1 (j + 1)))), (2, .int (nI (zon (ztl a v j) (zhf a.1 j) (2 ^ a.1)))), (5, .int (nI ((2 ^ a.1)))), (4, .int (nI (zon (ztl a v j) (zhf a.1 j) (2 ^ a.1)))), (0, .ref (q 0)), (1, .int (nI v))]) hx hb dX3_openFor_99 rfl hl (by decide) rfl (fun ls hl => ?_)
          refine lv_goto (tgt := 20) hx hb dX3_openFor_100 (by decide) ?_
          have hl : lv_has ls 7 [(3, .int (nI (zhf a.1 (j + 1)))), (2, .int (nI (ztl a v (j + 1)))), (5, .int (nI ((2 ^ a.1)))), (4, .int (nI (zon (ztl a v j) (zhf a.1 j) (2 ^ a.1)))), (0, .ref (q 0)), (1, .int (nI v))] := hl
          exact ihj (trivial) ls (lv_sub hl [0, 1, 4, 5] rfl)
        · replace c_7 := Int32.not_le.mp c_7
          exact absurd c_7 (nI_nlt (Nat.le_refl _) (by omega))
      · intro i hi hJ ihi ls hl
        refine lv_iload hx hb dX3_openFor_30 (lv_at hl 0 rfl) ?_
        refine lv_aload_n hx hb dX3_openFor_32 rfl (lv_at hl 4 rfl) ?_
        refine zz_cVi (cs := zcM cI cZ q (zst a) im kp lf rw fn kn) (As := []) (rest := [.int (nI i)]) ⟨hx, hb, hml, hown, hts⟩ (c_X3_places l D cI cZ hs ta q a im kp lf rw fn kn hI.1.2) (cwV 0 hts gX3_openFor_X3_places rfl rfl rfl (by decide +kernel) ⟨Nat.le_of_ble_eq_true rfl, Nat.le_of_ble_eq_true rfl⟩) (va_recv hK hP (ci := 3) (q0 := 0) rfl rfl) hP hD hG hS hAz rfl hl.1 rfl (Nat.le_of_ble_eq_true rfl) ⟨Nat.zero_le _, Nat.zero_le _⟩ dX3_openFor_33 (fun r_8 er_8 => ?_)
        subst er_8
        refine lv_icmp_ge (tgt := 93) hx hb dX3_openFor_36 (by decide) (fun c_9 => ?_) (fun c_9 => ?_)
        · replace c_9 := Int32.not_lt.mpr c_9
          exact absurd (nI_lt hi (by omega)) c_9
        · replace c_9 := Int32.not_le.mp c_9
          refine lv_iload_n hx hb dX3_openFor_39 rfl (lv_at hl 3 rfl) ?_
          refine lv_iload hx hb dX3_openFor_40 (lv_at hl 0 rfl) ?_
          refine lv_ishr hx hb dX3_openFor_42 ?_
          refine zz_topi (nI ((ztl a v j) >>> i)) (zz_shrn rfl rfl (by have := hT j; omega) (by omega)) ?_
          refine lv_iconst (v := 1) hx hb dX3_openFor_43 (by decide) ?_
          refine lv_iand hx hb dX3_openFor_44 ?_
          refine zz_topi (nI (((ztl a v j) >>> i) &&& 1)) (zz_andn rfl (show (1 : Int32) = nI 1 from rfl)) ?_
          refine lv_istore (lv' := [(6, .int (nI (((ztl a v j) >>> i) &&& 1))), (5, .int (nI i)), (4, .int (nI (zon (ztl a v j) (zhf a.1 j) i))), (3, .int (nI (zhf a.1 j))), (2, .int (nI (ztl a v j))), (0, .ref (q 0)), (1, .int (nI v))]) hx hb dX3_openFor_45 hl (by decide) rfl (fun ls hl => ?_)
          refine lv_iload hx hb dX3_openFor_47 (lv_at hl 2 rfl) ?_
          refine lv_iload hx hb dX3_openFor_49 (lv_at hl 1 rfl) ?_
          refine lv_iload_n hx hb dX3_openFor_51 rfl (lv_at hl 3 rfl) ?_
          refine lv_idiv hx hb dX3_openFor_52 (nI_ne0 (zhf_pos hj) (by omega)) ?_
          refine zz_topi (nI (i / (zhf a.1 j))) (zz_divn rfl rfl (by omega) (zhf_pos hj) (by omega)) ?_
          refine lv_iconst (v := 2) hx hb dX3_openFor_53 (by decide) ?_
          refine lv_irem hx hb dX3_openFor_54 (by decide) ?_
          refine zz_topi (nI ((i / (zhf a.1 j)) % 2)) (zz_remn rfl (show (2 : Int32) = nI 2 from rfl) (Nat.lt_of_le_of_lt (Nat.div_le_self _ _) (by omega)) (by decide) (by decide)) ?_
          refine lv_if_ne (tgt := 70) hx hb dX3_openFor_55 (by decide) (fun c_10 => ?_) (fun c_10 => ?_)
          · replace c_10 := zI_n0 c_10
            refine lv_iload hx hb dX3_openFor_70 (lv_at hl 0 rfl) ?_
            refine lv_iload_n hx hb dX3_openFor_72 rfl (lv_at hl 4 rfl) ?_
            refine lv_iload hx hb dX3_openFor_73 (lv_at hl 1 rfl) ?_
            refine lv_iload_n hx hb dX3_openFor_75 rfl (lv_at hl 3 rfl) ?_
            refine lv_isub hx hb dX3_openFor_76 ?_
            refine zz_topi (nI (i - zhf a.1 j)) (pk_sub (zdiv_ge c_10)) ?_
            refine lv_ishr hx hb dX3_openFor_77 ?_
            refine zz_topi (nI ((ztl a v j) >>> (i - zhf a.1 j))) (zz_shrn rfl rfl (by have := hT j; omega) (by omega)) ?_
            refine lv_iconst (v := 1) hx hb dX3_openFor_78 (by decide) ?_
            refine lv_iand hx hb dX3_openFor_79 ?_
            refine zz_topi (nI (((ztl a v j) >>> (i - zhf a.1 j)) &&& 1)) (zz_andn rfl (show (1 : Int32) = nI 1 from rfl)) ?_
            refine lv_ior hx hb dX3_openFor_80 ?_
            refine zz_topi (nI (zob (ztl a v j) (zhf a.1 j) i)) (by rw [zob, if_neg c_10, fa_or]) ?_
            refine lv_iload hx hb dX3_openFor_81 (lv_at hl 1 rfl) ?_
            refine lv_ishl hx hb dX3_openFor_83 ?_
            refine zz_topi (nI ((zob (ztl a v j) (zhf a.1 j) i) <<< i)) (zz_shln rfl rfl (by omega) (zb_shl (zob_le _ _ _) (by omega))) ?_
            refine lv_ior hx hb dX3_openFor_84 ?_
            refine zz_topi (nI ((zon (ztl a v j) (zhf a.1 j) i) ||| ((zob (ztl a v j) (zhf a.1 j) i) <<< i))) (zz_orn rfl rfl) ?_
            refine lv_istore (lv' := [(4, .int (nI ((zon (ztl a v j) (zhf a.1 j) i) ||| ((zob (ztl a v j) (zhf a.1 j) i) <<< i)))), (6, .int (nI (((ztl a v j) >>> i) &&& 1))), (5, .int (nI i)), (3, .int (nI (zhf a.1 j))), (2, .int (nI (ztl a v j))), (0, .ref (q 0)), (1, .int (nI v))]) hx hb dX3_openFor_85 hl (by decide) rfl (fun ls hl => ?_)
            refine lv_iinc (v := (nI (i + 1))) (lv' := [(5, .int (nI (i + 1))), (4, .int (nI ((zon (ztl a v j) (zhf a.1 j) i) ||| ((zob (ztl a v j) (zhf a.1 j) i) <<< i)))), (6, .int (nI (((ztl a v j) >>> i) &&& 1))), (3, .int (nI (zhf a.1 j))), (2, .int (nI (ztl a v j))), (0, .ref (q 0)), (1, .int (nI v))]) hx hb dX3_openFor_87 hl (k := 2) rfl (zz_inc _) (by decide) rfl (fun ls hl => ?_)
            refine lv_goto (tgt := 30) hx hb dX3_openFor_90 (by decide) ?_
            have hl : lv_has ls 7 [(5, .int (nI ((i + 1)))), (4, .int (nI (zon (ztl a v j) (zhf a.1 j) (i + 1)))), (6, .int (nI (((ztl a v j) >>> i) &&& 1))), (3, .int (nI (zhf a.1 j))), (2, .int (nI (ztl a v j))), (0, .ref (q 0)), (1, .int (nI v))] := hl
            exact ihi (trivial) ls (lv_sub hl [0, 1, 3, 4, 5, 6] rfl)
          · replace c_10 := zI_0 (Nat.lt_of_lt_of_le (Nat.mod_lt _ (by decide)) (by decide)) c_10
            refine lv_iload hx hb dX3_openFor_58 (lv_at hl 0 rfl) ?_
            refine lv_iload_n hx hb dX3_openFor_60 rfl (lv_at hl 4 rfl) ?_
            refine lv_iload hx hb dX3_openFor_61 (lv_at hl 1 rfl) ?_
            refine lv_iload_n hx hb dX3_openFor_63 rfl (lv_at hl 3 rfl) ?_
            refine lv_iadd hx hb dX3_openFor_64 ?_
            refine zz_topi (nI (i + (zhf a.1 j))) (zz_addn rfl rfl) ?_
            refine lv_ishr hx hb dX3_openFor_65 ?_
            refine zz_topi (nI ((ztl a v j) >>> (i + (zhf a.1 j)))) (zz_shrn rfl rfl (by have := hT j; omega) (by omega)) ?_
            refine lv_iand hx hb dX3_openFor_66 ?_
            refine zz_topi (nI (zob (ztl a v j) (zhf a.1 j) i)) (by rw [zob, if_pos c_10, fa_and]) ?_
            refine lv_goto (tgt := 81) hx hb dX3_openFor_67 (by decide) ?_
            refine lv_iload hx hb dX3_openFor_81 (lv_at hl 1 rfl) ?_
            refine lv_ishl hx hb dX3_openFor_83 ?_
            refine zz_topi (nI ((zob (ztl a v j) (zhf a.1 j) i) <<< i)) (zz_shln rfl rfl (by omega) (zb_shl (zob_le _ _ _) (by omega))) ?_
            refine lv_ior hx hb dX3_openFor_84 ?_
            refine zz_topi (nI ((zon (ztl a v j) (zhf a.1 j) i) ||| ((zob (ztl a v j) (zhf a.1 j) i) <<< i))) (zz_orn rfl rfl) ?_
            refine lv_istore (lv' := [(4, .int (nI ((zon (ztl a v j) (zhf a.1 j) i) ||| ((zob (ztl a v j) (zhf a.1 j) i) <<< i)))), (6, .int (nI (((ztl a v j) >>> i) &&& 1))), (5, .int (nI i)), (3, .int (nI (zhf a.1 j))), (2, .int (nI (ztl a v j))), (0, .ref (q 0)), (1, .int (nI v))]) hx hb dX3_openFor_85 hl (by decide) rfl (fun ls hl => ?_)
            refine lv_iinc (v := (nI (i + 1))) (lv' := [(5, .int (nI (i + 1))), (4, .int (nI ((zon (ztl a v j) (zhf a.1 j) i) ||| ((zob (ztl a v j) (zhf a.1 j) i) <<< i)))), (6, .int (nI (((ztl a v j) >>> i) &&& 1))), (3, .int (nI (zhf a.1 j))), (2, .int (nI (ztl a v j))), (0, .ref (q 0)), (1, .int (nI v))]) hx hb dX3_openFor_87 hl (k := 2) rfl (zz_inc _) (by decide) rfl (fun ls hl => ?_)
            refine lv_goto (tgt := 30) hx hb dX3_openFor_90 (by decide) ?_
            have hl : lv_has ls 7 [(5, .int (nI ((i + 1)))), (4, .int (nI (zon (ztl a v j) (zhf a.1 j) (i + 1)))), (6, .int (nI (((ztl a v j) >>> i) &&& 1))), (3, .int (nI (zhf a.1 j))), (2, .int (nI (ztl a v j))), (0, .ref (q 0)), (1, .int (nI v))] := hl
            exact ihi (trivial) ls (lv_sub hl [0, 1, 3, 4, 5, 6] rfl)
set_option maxHeartbeats 4000000 in
set_option maxRecDepth 100000 in
theorem c_X3_open (l : Launch) (D : va_G) (cI cZ : ClassId) (hs ta : Nat) (q : Nat → Nat) (a : ZA) (im : Nat → Int32) (kp : Nat → Int32) (lf : Nat → Int32) (rw : Nat → Int32) (fn : Nat → Int32) (kn : Nat) (p0 : Int32) (p1 : Int32) (hI : zInv a) : Met l yX3_open wsX3_open ({ frames := 3, cells := 0, slots := 0, locals := 66 }) (va_Pc [.ref (q 0), .int p0, .int p1] (zPre D (zTy cI cZ) hs ta (zcM cI cZ q (zst a) im kp lf rw fn kn))) (vp_Si (fun r : Int32 => r = zq_open a p0 p1)) 0 0 (fun _ => False) := by
  refine Met.ofW (cc := cX3_open) (maxL := 3) (ret := (some .int)) (by decide) rfl ?_
  intro p e s m args below meth c s₁ B hml hv0
  obtain ⟨rfl, hP, hD, hG⟩ := hv0
  have hx := B.exec
  have hb := B.bytes
  have hr := B.returns
  have hts := atoms_spec (ws := wsX3_open) B.pre
  have hown : s.vm.findClass RX3 = some m.cls := findClass_of_methodNamed B.named
  have hlocks := B.notSynchronized
  have hK := hG.1
  have hS : va_S (zA hs) s.heap s.heap [] := va_S.rf
  have hAz : ∀ q, zA hs q → hs ≤ q := fun _ h => h
  have hl := lv_entry ([.ref (q 0), .int p0, .int p1]) (n := 3) (Nat.le_of_ble_eq_true rfl)
  rw [lg_entry_eq]
  generalize (lg_sl ([.ref (q 0), .int p0, .int p1]) ++ List.replicate (3 - (lg_sl ([.ref (q 0), .int p0, .int p1])).length) Slot.unset).toArray = ls at hl ⊢
  have hl : lv_has ls 3 [(0, .ref (q 0)), (1, .int p0), (2, .int p1)] := hl
  refine lv_aload_n hx hb dX3_open_0 rfl (lv_at hl 0 rfl) ?_
  refine lv_iload_n hx hb dX3_open_1 rfl (lv_at hl 1 rfl) ?_
  refine zz_cVi (cs := zcM cI cZ q (zst a) im kp lf rw fn kn) (As := [.int p0]) (rest := []) ⟨hx, hb, hml, hown, hts⟩ (c_X3_isRow l D cI cZ hs ta q a im kp lf rw fn kn p0 hI) (cwV 1 hts gX3_open_X3_isRow rfl rfl rfl (by decide +kernel) ⟨Nat.le_of_ble_eq_true rfl, Nat.le_of_ble_eq_true rfl⟩) (va_recv hK hP (ci := 3) (q0 := 0) rfl rfl) hP hD hG hS hAz rfl hl.1 rfl (Nat.le_of_ble_eq_true rfl) ⟨Nat.zero_le _, Nat.zero_le _⟩ dX3_open_2 (fun r_1 er_1 => ?_)
  refine lv_if_eq (tgt := 17) hx hb dX3_open_5 (by decide) (fun c_2 => ?_) (fun c_2 => ?_)
  · replace c_2 := zB_f er_1 c_2
    refine lv_bipush (v := (-2)) hx hb dX3_open_17 (by decide) ?_
    exact W.iret (v := (-2)) hx hb hr (fun t9 ht hW => ⟨_, rfl, (by simp (decide := true) only [zq_open, zwm, c_2, not_true_eq_false, not_false_eq_true, and_self, and_true, true_and, and_false, false_and, or_self, or_true, true_or, or_false, false_or, if_true, if_false, ↓reduceIte, Bool.false_eq_true, iff_self, iff_true, iff_false, true_iff, false_iff, Nat.add_zero, Nat.or_zero]), ht⟩) (fun _ h => absurd h List.not_mem_nil) dX3_open_19
  · replace c_2 := zB_t er_1 c_2
    refine lv_iload_n hx hb dX3_open_8 rfl (lv_at hl 2 rfl) ?_
    refine lv_iconst (v := 0) hx hb dX3_open_9 (by decide) ?_
    refine lv_iconst (v := 1) hx hb dX3_open_10 (by decide) ?_
    refine zz_pSi (As := [.int p1, .int 0, .int 1]) (rest := []) ⟨hx, hb, hml, hown, hts⟩ (c_X3_in l p1 0 1) (va_cwS 3 hts gX3_open_X3_in rfl rfl rfl (by decide +kernel) ⟨Nat.le_of_ble_eq_true rfl, Nat.le_of_ble_eq_true rfl⟩) rfl hl.1 rfl (Nat.le_of_ble_eq_true rfl) ⟨Nat.zero_le _, Nat.zero_le _⟩ dX3_open_11 (fun r_3 er_3 => ?_)
    refine lv_if_ne (tgt := 20) hx hb dX3_open_14 (by decide) (fun c_4 => ?_) (fun c_4 => ?_)
    · replace c_4 := zB_t er_3 c_4
      obtain ⟨k0, hk0, rfl⟩ := zr0 c_2 (by have := zNN hI; omega)
      refine lv_iload_n hx hb dX3_open_20 rfl (lv_at hl 2 rfl) ?_
      refine lv_if_ne (tgt := 32) hx hb dX3_open_21 (by decide) (fun c_5 => ?_) (fun c_5 => ?_)
      · refine lv_aload_n hx hb dX3_open_32 rfl (lv_at hl 0 rfl) ?_
        refine lv_iload_n hx hb dX3_open_33 rfl (lv_at hl 1 rfl) ?_
        refine zz_cVi (cs := zcM cI cZ q (zst a) im kp lf rw fn kn) (As := [.int (nI k0)]) (rest := []) ⟨hx, hb, hml, hown, hts⟩ (c_X3_openFor l D cI cZ hs ta q a im kp lf rw fn kn k0 hI hk0) (cwV 1 hts gX3_open_X3_openFor rfl rfl rfl (by decide +kernel) ⟨Nat.le_of_ble_eq_true rfl, Nat.le_of_ble_eq_true rfl⟩) (va_recv hK hP (ci := 3) (q0 := 0) rfl rfl) hP hD hG hS hAz rfl hl.1 rfl (Nat.le_of_ble_eq_true rfl) ⟨Nat.zero_le _, Nat.zero_le _⟩ dX3_open_34 (fun r_6 er_6 => ?_)
        subst er_6
        refine zz_pSi (As := [.int (nI (zXo a k0))]) (rest := []) ⟨hx, hb, hml, hown, hts⟩ (c_X3_size l (zXo a k0) (zXo_lt (by have := zNN hI; omega))) (va_cwS 1 hts gX3_open_X3_size rfl rfl rfl (by decide +kernel) ⟨Nat.le_of_ble_eq_true rfl, Nat.le_of_ble_eq_true rfl⟩) rfl hl.1 rfl (Nat.le_of_ble_eq_true rfl) ⟨Nat.zero_le _, Nat.zero_le _⟩ dX3_open_37 (fun r_7 er_7 => ?_)
        subst er_7
        exact W.iret (v := (nI (zpc (zXo a k0)))) hx hb hr (fun t9 ht hW => ⟨_, rfl, (by simp (decide := true) only [zq_open, zwm, c_2, c_4, c_5, not_true_eq_false, not_false_eq_true, and_self, and_true, true_and, and_false, false_and, or_self, or_true, true_or, or_false, false_or, if_true, if_false, ↓reduceIte, Bool.false_eq_true, iff_self, iff_true, iff_false, true_iff, false_iff, Nat.add_zero, Nat.or_zero]; rw [zN_nI (by have := zNN hI; omega)]; rfl), ht⟩) (fun _ h => absurd h List.not_mem_nil) dX3_open_40
      · refine lv_aload_n hx hb dX3_open_24 rfl (lv_at hl 0 rfl) ?_
        refine lv_iload_n hx hb dX3_open_25 rfl (lv_at hl 1 rfl) ?_
        refine zz_cVi (cs := zcM cI cZ q (zst a) im kp lf rw fn kn) (As := [.int (nI k0)]) (rest := []) ⟨hx, hb, hml, hown, hts⟩ (c_X3_openFor l D cI cZ hs ta q a im kp lf rw fn kn k0 hI hk0) (cwV 1 hts gX3_open_X3_openFor rfl rfl rfl (by decide +kernel) ⟨Nat.le_of_ble_eq_true rfl, Nat.le_of_ble_eq_true rfl⟩) (va_recv hK hP (ci := 3) (q0 := 0) rfl rfl) hP hD hG hS hAz rfl hl.1 rfl (Nat.le_of_ble_eq_true rfl) ⟨Nat.zero_le _, Nat.zero_le _⟩ dX3_open_26 (fun r_8 er_8 => ?_)
        subst er_8
        refine lv_goto (tgt := 40) hx hb dX3_open_29 (by decide) ?_
        exact W.iret (v := (nI (zXo a k0))) hx hb hr (fun t9 ht hW => ⟨_, rfl, (by simp (decide := true) only [zq_open, zwm, c_2, c_4, c_5, not_true_eq_false, not_false_eq_true, and_self, and_true, true_and, and_false, false_and, or_self, or_true, true_or, or_false, false_or, if_true, if_false, ↓reduceIte, Bool.false_eq_true, iff_self, iff_true, iff_false, true_iff, false_iff, Nat.add_zero, Nat.or_zero]; rw [zN_nI (by have := zNN hI; omega)]; rfl), ht⟩) (fun _ h => absurd h List.not_mem_nil) dX3_open_40
    · replace c_4 := Classical.not_not.mp (zB_f er_3 c_4)
      refine lv_bipush (v := (-2)) hx hb dX3_open_17 (by decide) ?_
      exact W.iret (v := (-2)) hx hb hr (fun t9 ht hW => ⟨_, rfl, (by simp (decide := true) only [zq_open, zwm, c_2, c_4, not_true_eq_false, not_false_eq_true, and_self, and_true, true_and, and_false, false_and, or_self, or_true, true_or, or_false, false_or, if_true, if_false, ↓reduceIte, Bool.false_eq_true, iff_self, iff_true, iff_false, true_iff, false_iff, Nat.add_zero, Nat.or_zero]), ht⟩) (fun _ h => absurd h List.not_mem_nil) dX3_open_19
set_option maxHeartbeats 4000000 in
set_option maxRecDepth 100000 in
theorem c_X3_fragile (l : Launch) (D : va_G) (cI cZ : ClassId) (hs ta : Nat) (q : Nat → Nat) (a : ZA) (im : Nat → Int32) (kp : Nat → Int32) (lf : Nat → Int32) (rw : Nat → Int32) (fn : Nat → Int32) (kn : Nat) (p0 : Int32) (hI : zInv a) : Met l yX3_fragile wsX3_fragile ({ frames := 3, cells := 0, slots := 0, locals := 66 }) (va_Pc [.ref (q 0), .int p0] (zPre D (zTy cI cZ) hs ta (zcM cI cZ q (zst a) im kp lf rw fn kn))) (vp_Si (fun r : Int32 => r = zq_fragile a p0)) 0 0 (fun _ => False) := by
  refine Met.ofW (cc := cX3_fragile) (maxL := 7) (ret := (some .int)) (by decide) rfl ?_
  intro p e s m args below meth c s₁ B hml hv0
  obtain ⟨rfl, hP, hD, hG⟩ := hv0
  have hx := B.exec
  have hb := B.bytes
  have hr := B.returns
  have hts := atoms_spec (ws := wsX3_fragile) B.pre
  have hown : s.vm.findClass RX3 = some m.cls := findClass_of_methodNamed B.named
  have hlocks := B.notSynchronized
  have hK := hG.1
  have hS : va_S (zA hs) s.heap s.heap [] := va_S.rf
  have hAz : ∀ q, zA hs q → hs ≤ q := fun _ h => h
  have hl := lv_entry ([.ref (q 0), .int p0]) (n := 7) (Nat.le_of_ble_eq_true rfl)
  rw [lg_entry_eq]
  generalize (lg_sl ([.ref (q 0), .int p0]) ++ List.replicate (7 - (lg_sl ([.ref (q 0), .int p0])).length) Slot.unset).toArray = ls at hl ⊢
  have hl : lv_has ls 7 [(0, .ref (q 0)), (1, .int p0)] := hl
  refine lv_iload_n hx hb dX3_fragile_0 rfl (lv_at hl 1 rfl) ?_
  refine lv_iconst (v := 0) hx hb dX3_fragile_1 (by decide) ?_
  refine lv_iconst (v := 2) hx hb dX3_fragile_2 (by decide) ?_
  refine zz_pSi (As := [.int p0, .int 0, .int 2]) (rest := []) ⟨hx, hb, hml, hown, hts⟩ (c_X3_in l p0 0 2) (va_cwS 3 hts gX3_fragile_X3_in rfl rfl rfl (by decide +kernel) ⟨Nat.le_of_ble_eq_true rfl, Nat.le_of_ble_eq_true rfl⟩) rfl hl.1 rfl (Nat.le_of_ble_eq_true rfl) ⟨Nat.zero_le _, Nat.zero_le _⟩ dX3_fragile_3 (fun r_1 er_1 => ?_)
  refine lv_if_ne (tgt := 12) hx hb dX3_fragile_6 (by decide) (fun c_2 => ?_) (fun c_2 => ?_)
  · replace c_2 := zB_t er_1 c_2
    refine lv_bipush (v := (-6)) hx hb dX3_fragile_12 (by decide) ?_
    refine lv_istore_n (lv' := [(2, .int (-6)), (0, .ref (q 0)), (1, .int p0)]) hx hb dX3_fragile_14 rfl hl (by decide) rfl (fun ls hl => ?_)
    refine lv_bipush (v := (-6)) hx hb dX3_fragile_15 (by decide) ?_
    refine lv_istore_n (lv' := [(3, .int (-6)), (2, .int (-6)), (0, .ref (q 0)), (1, .int p0)]) hx hb dX3_fragile_17 rfl hl (by decide) rfl (fun ls hl => ?_)
    refine lv_iconst (v := 0) hx hb dX3_fragile_18 (by decide) ?_
    refine lv_istore (lv' := [(4, .int 0), (3, .int (-6)), (2, .int (-6)), (0, .ref (q 0)), (1, .int p0)]) hx hb dX3_fragile_19 hl (by decide) rfl (fun ls hl => ?_)
    refine lv_iconst (v := 0) hx hb dX3_fragile_21 (by decide) ?_
    refine lv_istore (lv' := [(5, .int 0), (4, .int 0), (3, .int (-6)), (2, .int (-6)), (0, .ref (q 0)), (1, .int p0)]) hx hb dX3_fragile_22 hl (by decide) rfl (fun ls hl => ?_)
    have hl : lv_has ls 7 [(5, .int (nI 0)), (4, .int (nI (zfC (zfs a 0)))), (3, .int (zfF (zfs a 0))), (2, .int (zfL (zfs a 0))), (0, .ref (q 0)), (1, .int p0)] := hl
    refine zz_forJ (nL := 7) (2 ^ 2 ^ a.1) (fun i => [(5, .int (nI i)), (2, .int (zfL (zfs a i))), (3, .int (zfF (zfs a i))), (4, .int (nI (zfC (zfs a i)))), (0, .ref (q 0)), (1, .int p0)]) (J := fun _ => True) ?_ ?_ (trivial) (lv_sub hl [0, 3, 2, 1, 4, 5] rfl)
    · intro hJ ls hl
      refine lv_iload hx hb dX3_fragile_24 (lv_at hl 0 rfl) ?_
      refine lv_iconst (v := 1) hx hb dX3_fragile_26 (by decide) ?_
      refine lv_aload_n hx hb dX3_fragile_27 rfl (lv_at hl 4 rfl) ?_
      refine zz_cVi (cs := zcM cI cZ q (zst a) im kp lf rw fn kn) (As := []) (rest := [.int 1, .int (nI ((2 ^ 2 ^ a.1)))]) ⟨hx, hb, hml, hown, hts⟩ (c_X3_places l D cI cZ hs ta q a im kp lf rw fn kn hI.1.2) (cwV 0 hts gX3_fragile_X3_places rfl rfl rfl (by decide +kernel) ⟨Nat.le_of_ble_eq_true rfl, Nat.le_of_ble_eq_true rfl⟩) (va_recv hK hP (ci := 3) (q0 := 0) rfl rfl) hP hD hG hS hAz rfl hl.1 rfl (Nat.le_of_ble_eq_true rfl) ⟨Nat.zero_le _, Nat.zero_le _⟩ dX3_fragile_28 (fun r_3 er_3 => ?_)
      subst er_3
      refine lv_ishl hx hb dX3_fragile_31 ?_
      refine zz_topi (nI (2 ^ (2 ^ a.1))) (zz_shl1n rfl (by have := zNp hI; omega)) ?_
      refine lv_icmp_ge (tgt := 99) hx hb dX3_fragile_32 (by decide) (fun c_4 => ?_) (fun c_4 => ?_)
      · replace c_4 := Int32.not_lt.mpr c_4
        rcases zfrag_ref hI with ⟨hF, hO⟩ | ⟨hF, hO⟩
        · rw [hO] at hl
          have hl : lv_has ls 7 [(5, .int (nI (2 ^ 2 ^ a.1))), (2, .int (-6)), (3, .int (-6)), (4, .int (nI 0)), (0, .ref (q 0)), (1, .int p0)] := hl
          refine lv_iload_n hx hb dX3_fragile_99 rfl (lv_at hl 1 rfl) ?_
          refine lv_if_lt (tgt := 107) hx hb dX3_fragile_100 (by decide) (fun c_5 => ?_) (fun c_5 => ?_)
          · refine lv_iload_n hx hb dX3_fragile_107 rfl (lv_at hl 1 rfl) ?_
            refine lv_goto (tgt := 122) hx hb dX3_fragile_108 (by decide) ?_
            exact W.iret (v := (-6)) hx hb hr (fun t9 ht hW => ⟨_, rfl, (by simp (decide := true) only [zq_fragile, hF, zwm, c_2, c_4, c_5, not_true_eq_false, not_false_eq_true, and_self, and_true, true_and, and_false, false_and, or_self, or_true, true_or, or_false, false_or, if_true, if_false, ↓reduceIte, Bool.false_eq_true, iff_self, iff_true, iff_false, true_iff, false_iff, Nat.add_zero, Nat.or_zero]), ht⟩) (fun _ h => absurd h List.not_mem_nil) dX3_fragile_122
          · exact absurd c_5 (by decide)
        · rw [hO] at hl
          have hl : lv_has ls 7 [(5, .int (nI (2 ^ 2 ^ a.1))), (2, .int (nI (zlw a.2.2.2.1 (2 ^ a.1)))), (3, .int (nI (zfl a (zlw a.2.2.2.1 (2 ^ a.1))))), (4, .int (nI (zfc a (zlw a.2.2.2.1 (2 ^ a.1))))), (0, .ref (q 0)), (1, .int p0)] := hl
          refine lv_iload_n hx hb dX3_fragile_99 rfl (lv_at hl 1 rfl) ?_
          refine lv_if_lt (tgt := 107) hx hb dX3_fragile_100 (by decide) (fun c_6 => ?_) (fun c_6 => ?_)
          · exact absurd c_6 (nI_pos (by have := zlw_le a.2.2.2.1 (2 ^ a.1); omega))
          · refine lv_iload_n hx hb dX3_fragile_103 rfl (lv_at hl 5 rfl) ?_
            refine lv_if_ne (tgt := 111) hx hb dX3_fragile_104 (by decide) (fun c_7 => ?_) (fun c_7 => ?_)
            · refine lv_iload_n hx hb dX3_fragile_111 rfl (lv_at hl 5 rfl) ?_
              refine lv_iconst (v := 1) hx hb dX3_fragile_112 (by decide) ?_
              refine lv_icmp_ne (tgt := 121) hx hb dX3_fragile_113 (by decide) (fun c_8 => ?_) (fun c_8 => ?_)
              · refine lv_iload_n hx hb dX3_fragile_121 rfl (lv_at hl 2 rfl) ?_
                exact W.iret (v := (nI (zfl a (zlw a.2.2.2.1 (2 ^ a.1))))) hx hb hr (fun t9 ht hW => ⟨_, rfl, (by simp (decide := true) only [zq_fragile, hF, zwm, c_2, c_4, c_6, c_7, c_8, not_true_eq_false, not_false_eq_true, and_self, and_true, true_and, and_false, false_and, or_self, or_true, true_or, or_false, false_or, if_true, if_false, ↓reduceIte, Bool.false_eq_true, iff_self, iff_true, iff_false, true_iff, false_iff, Nat.add_zero, Nat.or_zero]), ht⟩) (fun _ h => absurd h List.not_mem_nil) dX3_fragile_122
              · refine lv_iload hx hb dX3_fragile_116 (lv_at hl 3 rfl) ?_
                refine lv_goto (tgt := 122) hx hb dX3_fragile_118 (by decide) ?_
                exact W.iret (v := (nI (zfc a (zlw a.2.2.2.1 (2 ^ a.1))))) hx hb hr (fun t9 ht hW => ⟨_, rfl, (by simp (decide := true) only [zq_fragile, hF, zwm, c_2, c_4, c_6, c_7, c_8, not_true_eq_false, not_false_eq_true, and_self, and_true, true_and, and_false, false_and, or_self, or_true, true_or, or_false, false_or, if_true, if_false, ↓reduceIte, Bool.false_eq_true, iff_self, iff_true, iff_false, true_iff, false_iff, Nat.add_zero, Nat.or_zero]), ht⟩) (fun _ h => absurd h List.not_mem_nil) dX3_fragile_122
            · refine lv_iload_n hx hb dX3_fragile_107 rfl (lv_at hl 1 rfl) ?_
              refine lv_goto (tgt := 122) hx hb dX3_fragile_108 (by decide) ?_
              exact W.iret (v := (nI (zlw a.2.2.2.1 (2 ^ a.1)))) hx hb hr (fun t9 ht hW => ⟨_, rfl, (by simp (decide := true) only [zq_fragile, hF, zwm, c_2, c_4, c_6, c_7, not_true_eq_false, not_false_eq_true, and_self, and_true, true_and, and_false, false_and, or_self, or_true, true_or, or_false, false_or, if_true, if_false, ↓reduceIte, Bool.false_eq_true, iff_self, iff_true, iff_false, true_iff, false_iff, Nat.add_zero, Nat.or_zero]), ht⟩) (fun _ h => absurd h List.not_mem_nil) dX3_fragile_122
      · replace c_4 := Int32.not_le.mp c_4
        exact absurd c_4 (nI_nlt (Nat.le_refl _) (by have := zNN hI; omega))
    · intro i hi hJ ihi ls hl
      refine lv_iload hx hb dX3_fragile_24 (lv_at hl 0 rfl) ?_
      refine lv_iconst (v := 1) hx hb dX3_fragile_26 (by decide) ?_
      refine lv_aload_n hx hb dX3_fragile_27 rfl (lv_at hl 4 rfl) ?_
      refine zz_cVi (cs := zcM cI cZ q (zst a) im kp lf rw fn kn) (As := []) (rest := [.int 1, .int (nI i)]) ⟨hx, hb, hml, hown, hts⟩ (c_X3_places l D cI cZ hs ta q a im kp lf rw fn kn hI.1.2) (cwV 0 hts gX3_fragile_X3_places rfl rfl rfl (by decide +kernel) ⟨Nat.le_of_ble_eq_true rfl, Nat.le_of_ble_eq_true rfl⟩) (va_recv hK hP (ci := 3) (q0 := 0) rfl rfl) hP hD hG hS hAz rfl hl.1 rfl (Nat.le_of_ble_eq_true rfl) ⟨Nat.zero_le _, Nat.zero_le _⟩ dX3_fragile_28 (fun r_9 er_9 => ?_)
      subst er_9
      refine lv_ishl hx hb dX3_fragile_31 ?_
      refine zz_topi (nI (2 ^ (2 ^ a.1))) (zz_shl1n rfl (by have := zNp hI; omega)) ?_
      refine lv_icmp_ge (tgt := 99) hx hb dX3_fragile_32 (by decide) (fun c_10 => ?_) (fun c_10 => ?_)
      · replace c_10 := Int32.not_lt.mpr c_10
        exact absurd (nI_lt hi (by have := zNN hI; omega)) c_10
      · replace c_10 := Int32.not_le.mp c_10
        refine lv_iload hx hb dX3_fragile_35 (lv_at hl 0 rfl) ?_
        refine zz_pSi (As := [.int (nI i)]) (rest := []) ⟨hx, hb, hml, hown, hts⟩ (c_X3_size l i (by have := zNN hI; omega)) (va_cwS 1 hts gX3_fragile_X3_size rfl rfl rfl (by decide +kernel) ⟨Nat.le_of_ble_eq_true rfl, Nat.le_of_ble_eq_true rfl⟩) rfl hl.1 rfl (Nat.le_of_ble_eq_true rfl) ⟨Nat.zero_le _, Nat.zero_le _⟩ dX3_fragile_37 (fun r_11 er_11 => ?_)
        subst er_11
        refine lv_istore (lv' := [(6, .int (nI (zpc i))), (5, .int (nI i)), (2, .int (zfL (zfs a i))), (3, .int (zfF (zfs a i))), (4, .int (nI (zfC (zfs a i)))), (0, .ref (q 0)), (1, .int p0)]) hx hb dX3_fragile_40 hl (by decide) rfl (fun ls hl => ?_)
        refine lv_iload_n hx hb dX3_fragile_42 rfl (lv_at hl 2 rfl) ?_
        refine lv_if_lt (tgt := 52) hx hb dX3_fragile_43 (by decide) (fun c_12 => ?_) (fun c_12 => ?_)
        · refine lv_aload_n hx hb dX3_fragile_52 rfl (lv_at hl 5 rfl) ?_
          refine lv_iload hx hb dX3_fragile_53 (lv_at hl 1 rfl) ?_
          refine zz_cVi (cs := zcM cI cZ q (zst a) im kp lf rw fn kn) (As := [.int (nI i)]) (rest := []) ⟨hx, hb, hml, hown, hts⟩ (c_X3_openFor l D cI cZ hs ta q a im kp lf rw fn kn i hI hi) (cwV 1 hts gX3_fragile_X3_openFor rfl rfl rfl (by decide +kernel) ⟨Nat.le_of_ble_eq_true rfl, Nat.le_of_ble_eq_true rfl⟩) (va_recv hK hP (ci := 3) (q0 := 0) rfl rfl) hP hD hG hS hAz rfl hl.1 rfl (Nat.le_of_ble_eq_true rfl) ⟨Nat.zero_le _, Nat.zero_le _⟩ dX3_fragile_55 (fun r_13 er_13 => ?_)
          subst er_13
          refine lv_if_eq (tgt := 93) hx hb dX3_fragile_58 (by decide) (fun c_14 => ?_) (fun c_14 => ?_)
          · replace c_14 := zI_0 (by have := zXo_lt (a := a) (show i < 65536 by have := zNN hI; omega); omega) c_14
            refine lv_iinc (v := (nI (i + 1))) (lv' := [(5, .int (nI (i + 1))), (6, .int (nI (zpc i))), (2, .int (zfL (zfs a i))), (3, .int (zfF (zfs a i))), (4, .int (nI (zfC (zfs a i)))), (0, .ref (q 0)), (1, .int p0)]) hx hb dX3_fragile_93 hl (k := 1) rfl (zz_inc _) (by decide) rfl (fun ls hl => ?_)
            refine lv_goto (tgt := 24) hx hb dX3_fragile_96 (by decide) ?_
            rw [show ((zfL (zfs a i)) : Int32) = (zfL (zfs a (i + 1))) from by rw [zfs_skip0 c_14]] at hl
            rw [show ((zfF (zfs a i)) : Int32) = (zfF (zfs a (i + 1))) from by rw [zfs_skip0 c_14]] at hl
            rw [show ((nI (zfC (zfs a i))) : Int32) = (nI (zfC (zfs a (i + 1)))) from by rw [zfs_skip0 c_14]] at hl
            have hl : lv_has ls 7 [(5, .int (nI ((i + 1)))), (6, .int (nI (zpc i))), (2, .int (zfL (zfs a (i + 1)))), (3, .int (zfF (zfs a (i + 1)))), (4, .int (nI (zfC (zfs a (i + 1))))), (0, .ref (q 0)), (1, .int p0)] := hl
            exact ihi (trivial) ls (lv_sub hl [0, 2, 3, 4, 5, 6] rfl)
          · replace c_14 := zI_n0 c_14
            refine lv_iload hx hb dX3_fragile_61 (lv_at hl 0 rfl) ?_
            refine lv_iload_n hx hb dX3_fragile_63 rfl (lv_at hl 2 rfl) ?_
            refine lv_icmp_ne (tgt := 74) hx hb dX3_fragile_64 (by decide) (fun c_15 => ?_) (fun c_15 => ?_)
            · refine lv_iconst (v := 1) hx hb dX3_fragile_74 (by decide) ?_
              refine zz_topi 1 (rfl) ?_
              refine lv_istore (lv' := [(4, .int 1), (6, .int (nI (zpc i))), (5, .int (nI i)), (2, .int (zfL (zfs a i))), (3, .int (zfF (zfs a i))), (0, .ref (q 0)), (1, .int p0)]) hx hb dX3_fragile_75 hl (by decide) rfl (fun ls hl => ?_)
              refine lv_iload hx hb dX3_fragile_77 (lv_at hl 1 rfl) ?_
              refine lv_iload_n hx hb dX3_fragile_79 rfl (lv_at hl 3 rfl) ?_
              refine lv_icmp_ne (tgt := 87) hx hb dX3_fragile_80 (by decide) (fun c_16 => ?_) (fun c_16 => ?_)
              · refine lv_iload hx hb dX3_fragile_87 (lv_at hl 2 rfl) ?_
                refine zz_topi (nI i) (rfl) ?_
                refine lv_istore_n (lv' := [(3, .int (nI i)), (4, .int 1), (6, .int (nI (zpc i))), (5, .int (nI i)), (2, .int (zfL (zfs a i))), (0, .ref (q 0)), (1, .int p0)]) hx hb dX3_fragile_89 rfl hl (by decide) rfl (fun ls hl => ?_)
                refine lv_iload hx hb dX3_fragile_90 (lv_at hl 2 rfl) ?_
                refine zz_topi (nI (zpc i)) (rfl) ?_
                refine lv_istore_n (lv' := [(2, .int (nI (zpc i))), (3, .int (nI i)), (4, .int 1), (6, .int (nI (zpc i))), (5, .int (nI i)), (0, .ref (q 0)), (1, .int p0)]) hx hb dX3_fragile_92 rfl hl (by decide) rfl (fun ls hl => ?_)
                refine lv_iinc (v := (nI (i + 1))) (lv' := [(5, .int (nI (i + 1))), (2, .int (nI (zpc i))), (3, .int (nI i)), (4, .int 1), (6, .int (nI (zpc i))), (0, .ref (q 0)), (1, .int p0)]) hx hb dX3_fragile_93 hl (k := 4) rfl (zz_inc _) (by decide) rfl (fun ls hl => ?_)
                refine lv_goto (tgt := 24) hx hb dX3_fragile_96 (by decide) ?_
                rw [show ((nI (zpc i)) : Int32) = (zfL (zfs a (i + 1))) from by rw [zfs_new c_14 (Or.inl c_12)]; rfl] at hl
                rw [show ((nI i) : Int32) = (zfF (zfs a (i + 1))) from by rw [zfs_new c_14 (Or.inl c_12)]; rfl] at hl
                rw [show (1 : Int32) = (nI (zfC (zfs a (i + 1)))) from by rw [zfs_new c_14 (Or.inl c_12)]; rfl] at hl
                have hl : lv_has ls 7 [(5, .int (nI ((i + 1)))), (2, .int (zfL (zfs a (i + 1)))), (3, .int (zfF (zfs a (i + 1)))), (4, .int (nI (zfC (zfs a (i + 1))))), (6, .int (zfL (zfs a (i + 1)))), (0, .ref (q 0)), (1, .int p0)] := hl
                exact ihi (trivial) ls (lv_sub hl [0, 1, 2, 3, 5, 6] rfl)
              · exact absurd c_16 c_15
            · refine lv_iload hx hb dX3_fragile_67 (lv_at hl 4 rfl) ?_
              refine lv_iconst (v := 1) hx hb dX3_fragile_69 (by decide) ?_
              refine lv_iadd hx hb dX3_fragile_70 ?_
              refine zz_topi (nI ((zfC (zfs a i)) + 1)) (zz_addn rfl (show (1 : Int32) = nI 1 from rfl)) ?_
              refine lv_goto (tgt := 75) hx hb dX3_fragile_71 (by decide) ?_
              refine zz_topi (nI ((zfC (zfs a i)) + 1)) (rfl) ?_
              refine lv_istore (lv' := [(4, .int (nI ((zfC (zfs a i)) + 1))), (6, .int (nI (zpc i))), (5, .int (nI i)), (2, .int (zfL (zfs a i))), (3, .int (zfF (zfs a i))), (0, .ref (q 0)), (1, .int p0)]) hx hb dX3_fragile_75 hl (by decide) rfl (fun ls hl => ?_)
              refine lv_iload hx hb dX3_fragile_77 (lv_at hl 1 rfl) ?_
              refine lv_iload_n hx hb dX3_fragile_79 rfl (lv_at hl 3 rfl) ?_
              refine lv_icmp_ne (tgt := 87) hx hb dX3_fragile_80 (by decide) (fun c_17 => ?_) (fun c_17 => ?_)
              · exact absurd c_15 c_17
              · refine lv_iload_n hx hb dX3_fragile_83 rfl (lv_at hl 4 rfl) ?_
                refine lv_goto (tgt := 89) hx hb dX3_fragile_84 (by decide) ?_
                refine zz_topi (zfF (zfs a i)) (rfl) ?_
                refine lv_istore_n (lv' := [(3, .int (zfF (zfs a i))), (4, .int (nI ((zfC (zfs a i)) + 1))), (6, .int (nI (zpc i))), (5, .int (nI i)), (2, .int (zfL (zfs a i))), (0, .ref (q 0)), (1, .int p0)]) hx hb dX3_fragile_89 rfl hl (by decide) rfl (fun ls hl => ?_)
                refine lv_iload hx hb dX3_fragile_90 (lv_at hl 2 rfl) ?_
                refine zz_topi (nI (zpc i)) (rfl) ?_
                refine lv_istore_n (lv' := [(2, .int (nI (zpc i))), (3, .int (zfF (zfs a i))), (4, .int (nI ((zfC (zfs a i)) + 1))), (6, .int (nI (zpc i))), (5, .int (nI i)), (0, .ref (q 0)), (1, .int p0)]) hx hb dX3_fragile_92 rfl hl (by decide) rfl (fun ls hl => ?_)
                refine lv_iinc (v := (nI (i + 1))) (lv' := [(5, .int (nI (i + 1))), (2, .int (nI (zpc i))), (3, .int (zfF (zfs a i))), (4, .int (nI ((zfC (zfs a i)) + 1))), (6, .int (nI (zpc i))), (0, .ref (q 0)), (1, .int p0)]) hx hb dX3_fragile_93 hl (k := 4) rfl (zz_inc _) (by decide) rfl (fun ls hl => ?_)
                refine lv_goto (tgt := 24) hx hb dX3_fragile_96 (by decide) ?_
                rw [show ((nI (zpc i)) : Int32) = (zfL (zfs a (i + 1))) from absurd (c_15 ▸ c_12) (nI_pos (by have := zpc_le i; omega))] at hl
                rw [show ((zfF (zfs a i)) : Int32) = (zfF (zfs a (i + 1))) from absurd (c_15 ▸ c_12) (nI_pos (by have := zpc_le i; omega))] at hl
                rw [show ((nI ((zfC (zfs a i)) + 1)) : Int32) = (nI (zfC (zfs a (i + 1)))) from absurd (c_15 ▸ c_12) (nI_pos (by have := zpc_le i; omega))] at hl
                have hl : lv_has ls 7 [(5, .int (nI ((i + 1)))), (2, .int (zfL (zfs a (i + 1)))), (3, .int (zfF (zfs a (i + 1)))), (4, .int (nI (zfC (zfs a (i + 1))))), (6, .int (zfL (zfs a (i + 1)))), (0, .ref (q 0)), (1, .int p0)] := hl
                exact ihi (trivial) ls (lv_sub hl [0, 1, 2, 3, 5, 6] rfl)
        · refine lv_iload hx hb dX3_fragile_46 (lv_at hl 0 rfl) ?_
          refine lv_iload_n hx hb dX3_fragile_48 rfl (lv_at hl 2 rfl) ?_
          refine lv_icmp_gt (tgt := 93) hx hb dX3_fragile_49 (by decide) (fun c_18 => ?_) (fun c_18 => ?_)
          · refine lv_iinc (v := (nI (i + 1))) (lv' := [(5, .int (nI (i + 1))), (6, .int (nI (zpc i))), (2, .int (zfL (zfs a i))), (3, .int (zfF (zfs a i))), (4, .int (nI (zfC (zfs a i)))), (0, .ref (q 0)), (1, .int p0)]) hx hb dX3_fragile_93 hl (k := 1) rfl (zz_inc _) (by decide) rfl (fun ls hl => ?_)
            refine lv_goto (tgt := 24) hx hb dX3_fragile_96 (by decide) ?_
            rw [show ((zfL (zfs a i)) : Int32) = (zfL (zfs a (i + 1))) from by rw [zfs_skip1 c_12 c_18]] at hl
            rw [show ((zfF (zfs a i)) : Int32) = (zfF (zfs a (i + 1))) from by rw [zfs_skip1 c_12 c_18]] at hl
            rw [show ((nI (zfC (zfs a i))) : Int32) = (nI (zfC (zfs a (i + 1)))) from by rw [zfs_skip1 c_12 c_18]] at hl
            have hl : lv_has ls 7 [(5, .int (nI ((i + 1)))), (6, .int (nI (zpc i))), (2, .int (zfL (zfs a (i + 1)))), (3, .int (zfF (zfs a (i + 1)))), (4, .int (nI (zfC (zfs a (i + 1))))), (0, .ref (q 0)), (1, .int p0)] := hl
            exact ihi (trivial) ls (lv_sub hl [0, 2, 3, 4, 5, 6] rfl)
          · refine lv_aload_n hx hb dX3_fragile_52 rfl (lv_at hl 5 rfl) ?_
            refine lv_iload hx hb dX3_fragile_53 (lv_at hl 1 rfl) ?_
            refine zz_cVi (cs := zcM cI cZ q (zst a) im kp lf rw fn kn) (As := [.int (nI i)]) (rest := []) ⟨hx, hb, hml, hown, hts⟩ (c_X3_openFor l D cI cZ hs ta q a im kp lf rw fn kn i hI hi) (cwV 1 hts gX3_fragile_X3_openFor rfl rfl rfl (by decide +kernel) ⟨Nat.le_of_ble_eq_true rfl, Nat.le_of_ble_eq_true rfl⟩) (va_recv hK hP (ci := 3) (q0 := 0) rfl rfl) hP hD hG hS hAz rfl hl.1 rfl (Nat.le_of_ble_eq_true rfl) ⟨Nat.zero_le _, Nat.zero_le _⟩ dX3_fragile_55 (fun r_19 er_19 => ?_)
            subst er_19
            refine lv_if_eq (tgt := 93) hx hb dX3_fragile_58 (by decide) (fun c_20 => ?_) (fun c_20 => ?_)
            · replace c_20 := zI_0 (by have := zXo_lt (a := a) (show i < 65536 by have := zNN hI; omega); omega) c_20
              refine lv_iinc (v := (nI (i + 1))) (lv' := [(5, .int (nI (i + 1))), (6, .int (nI (zpc i))), (2, .int (zfL (zfs a i))), (3, .int (zfF (zfs a i))), (4, .int (nI (zfC (zfs a i)))), (0, .ref (q 0)), (1, .int p0)]) hx hb dX3_fragile_93 hl (k := 1) rfl (zz_inc _) (by decide) rfl (fun ls hl => ?_)
              refine lv_goto (tgt := 24) hx hb dX3_fragile_96 (by decide) ?_
              rw [show ((zfL (zfs a i)) : Int32) = (zfL (zfs a (i + 1))) from by rw [zfs_skip0 c_20]] at hl
              rw [show ((zfF (zfs a i)) : Int32) = (zfF (zfs a (i + 1))) from by rw [zfs_skip0 c_20]] at hl
              rw [show ((nI (zfC (zfs a i))) : Int32) = (nI (zfC (zfs a (i + 1)))) from by rw [zfs_skip0 c_20]] at hl
              have hl : lv_has ls 7 [(5, .int (nI ((i + 1)))), (6, .int (nI (zpc i))), (2, .int (zfL (zfs a (i + 1)))), (3, .int (zfF (zfs a (i + 1)))), (4, .int (nI (zfC (zfs a (i + 1))))), (0, .ref (q 0)), (1, .int p0)] := hl
              exact ihi (trivial) ls (lv_sub hl [0, 2, 3, 4, 5, 6] rfl)
            · replace c_20 := zI_n0 c_20
              refine lv_iload hx hb dX3_fragile_61 (lv_at hl 0 rfl) ?_
              refine lv_iload_n hx hb dX3_fragile_63 rfl (lv_at hl 2 rfl) ?_
              refine lv_icmp_ne (tgt := 74) hx hb dX3_fragile_64 (by decide) (fun c_21 => ?_) (fun c_21 => ?_)
              · refine lv_iconst (v := 1) hx hb dX3_fragile_74 (by decide) ?_
                refine zz_topi 1 (rfl) ?_
                refine lv_istore (lv' := [(4, .int 1), (6, .int (nI (zpc i))), (5, .int (nI i)), (2, .int (zfL (zfs a i))), (3, .int (zfF (zfs a i))), (0, .ref (q 0)), (1, .int p0)]) hx hb dX3_fragile_75 hl (by decide) rfl (fun ls hl => ?_)
                refine lv_iload hx hb dX3_fragile_77 (lv_at hl 1 rfl) ?_
                refine lv_iload_n hx hb dX3_fragile_79 rfl (lv_at hl 3 rfl) ?_
                refine lv_icmp_ne (tgt := 87) hx hb dX3_fragile_80 (by decide) (fun c_22 => ?_) (fun c_22 => ?_)
                · refine lv_iload hx hb dX3_fragile_87 (lv_at hl 2 rfl) ?_
                  refine zz_topi (nI i) (rfl) ?_
                  refine lv_istore_n (lv' := [(3, .int (nI i)), (4, .int 1), (6, .int (nI (zpc i))), (5, .int (nI i)), (2, .int (zfL (zfs a i))), (0, .ref (q 0)), (1, .int p0)]) hx hb dX3_fragile_89 rfl hl (by decide) rfl (fun ls hl => ?_)
                  refine lv_iload hx hb dX3_fragile_90 (lv_at hl 2 rfl) ?_
                  refine zz_topi (nI (zpc i)) (rfl) ?_
                  refine lv_istore_n (lv' := [(2, .int (nI (zpc i))), (3, .int (nI i)), (4, .int 1), (6, .int (nI (zpc i))), (5, .int (nI i)), (0, .ref (q 0)), (1, .int p0)]) hx hb dX3_fragile_92 rfl hl (by decide) rfl (fun ls hl => ?_)
                  refine lv_iinc (v := (nI (i + 1))) (lv' := [(5, .int (nI (i + 1))), (2, .int (nI (zpc i))), (3, .int (nI i)), (4, .int 1), (6, .int (nI (zpc i))), (0, .ref (q 0)), (1, .int p0)]) hx hb dX3_fragile_93 hl (k := 4) rfl (zz_inc _) (by decide) rfl (fun ls hl => ?_)
                  refine lv_goto (tgt := 24) hx hb dX3_fragile_96 (by decide) ?_
                  rw [show ((nI (zpc i)) : Int32) = (zfL (zfs a (i + 1))) from by rw [zfs_new c_20 (Or.inr ⟨c_18, c_21⟩)]; rfl] at hl
                  rw [show ((nI i) : Int32) = (zfF (zfs a (i + 1))) from by rw [zfs_new c_20 (Or.inr ⟨c_18, c_21⟩)]; rfl] at hl
                  rw [show (1 : Int32) = (nI (zfC (zfs a (i + 1)))) from by rw [zfs_new c_20 (Or.inr ⟨c_18, c_21⟩)]; rfl] at hl
                  have hl : lv_has ls 7 [(5, .int (nI ((i + 1)))), (2, .int (zfL (zfs a (i + 1)))), (3, .int (zfF (zfs a (i + 1)))), (4, .int (nI (zfC (zfs a (i + 1))))), (6, .int (zfL (zfs a (i + 1)))), (0, .ref (q 0)), (1, .int p0)] := hl
                  exact ihi (trivial) ls (lv_sub hl [0, 1, 2, 3, 5, 6] rfl)
                · exact absurd c_22 c_21
              · refine lv_iload hx hb dX3_fragile_67 (lv_at hl 4 rfl) ?_
                refine lv_iconst (v := 1) hx hb dX3_fragile_69 (by decide) ?_
                refine lv_iadd hx hb dX3_fragile_70 ?_
                refine zz_topi (nI ((zfC (zfs a i)) + 1)) (zz_addn rfl (show (1 : Int32) = nI 1 from rfl)) ?_
                refine lv_goto (tgt := 75) hx hb dX3_fragile_71 (by decide) ?_
                refine zz_topi (nI ((zfC (zfs a i)) + 1)) (rfl) ?_
                refine lv_istore (lv' := [(4, .int (nI ((zfC (zfs a i)) + 1))), (6, .int (nI (zpc i))), (5, .int (nI i)), (2, .int (zfL (zfs a i))), (3, .int (zfF (zfs a i))), (0, .ref (q 0)), (1, .int p0)]) hx hb dX3_fragile_75 hl (by decide) rfl (fun ls hl => ?_)
                refine lv_iload hx hb dX3_fragile_77 (lv_at hl 1 rfl) ?_
                refine lv_iload_n hx hb dX3_fragile_79 rfl (lv_at hl 3 rfl) ?_
                refine lv_icmp_ne (tgt := 87) hx hb dX3_fragile_80 (by decide) (fun c_23 => ?_) (fun c_23 => ?_)
                · exact absurd c_21 c_23
                · refine lv_iload_n hx hb dX3_fragile_83 rfl (lv_at hl 4 rfl) ?_
                  refine lv_goto (tgt := 89) hx hb dX3_fragile_84 (by decide) ?_
                  refine zz_topi (zfF (zfs a i)) (rfl) ?_
                  refine lv_istore_n (lv' := [(3, .int (zfF (zfs a i))), (4, .int (nI ((zfC (zfs a i)) + 1))), (6, .int (nI (zpc i))), (5, .int (nI i)), (2, .int (zfL (zfs a i))), (0, .ref (q 0)), (1, .int p0)]) hx hb dX3_fragile_89 rfl hl (by decide) rfl (fun ls hl => ?_)
                  refine lv_iload hx hb dX3_fragile_90 (lv_at hl 2 rfl) ?_
                  refine zz_topi (nI (zpc i)) (rfl) ?_
                  refine lv_istore_n (lv' := [(2, .int (nI (zpc i))), (3, .int (zfF (zfs a i))), (4, .int (nI ((zfC (zfs a i)) + 1))), (6, .int (nI (zpc i))), (5, .int (nI i)), (0, .ref (q 0)), (1, .int p0)]) hx hb dX3_fragile_92 rfl hl (by decide) rfl (fun ls hl => ?_)
                  refine lv_iinc (v := (nI (i + 1))) (lv' := [(5, .int (nI (i + 1))), (2, .int (nI (zpc i))), (3, .int (zfF (zfs a i))), (4, .int (nI ((zfC (zfs a i)) + 1))), (6, .int (nI (zpc i))), (0, .ref (q 0)), (1, .int p0)]) hx hb dX3_fragile_93 hl (k := 4) rfl (zz_inc _) (by decide) rfl (fun ls hl => ?_)
                  refine lv_goto (tgt := 24) hx hb dX3_fragile_96 (by decide) ?_
                  rw [show ((nI (zpc i)) : Int32) = (zfL (zfs a (i + 1))) from ((zfs_more c_20 c_12 c_21).1.trans c_21.symm).symm] at hl
                  rw [show ((zfF (zfs a i)) : Int32) = (zfF (zfs a (i + 1))) from (zfs_more c_20 c_12 c_21).2.1.symm] at hl
                  rw [show ((nI ((zfC (zfs a i)) + 1)) : Int32) = (nI (zfC (zfs a (i + 1)))) from congrArg nI (zfs_more c_20 c_12 c_21).2.2.symm] at hl
                  have hl : lv_has ls 7 [(5, .int (nI ((i + 1)))), (2, .int (zfL (zfs a (i + 1)))), (3, .int (zfF (zfs a (i + 1)))), (4, .int (nI (zfC (zfs a (i + 1))))), (6, .int (zfL (zfs a (i + 1)))), (0, .ref (q 0)), (1, .int p0)] := hl
                  exact ihi (trivial) ls (lv_sub hl [0, 1, 2, 3, 5, 6] rfl)
  · replace c_2 := Classical.not_not.mp (zB_f er_1 c_2)
    refine lv_bipush (v := (-2)) hx hb dX3_fragile_9 (by decide) ?_
    exact W.iret (v := (-2)) hx hb hr (fun t9 ht hW => ⟨_, rfl, (by simp (decide := true) only [zq_fragile, zwm, c_2, not_true_eq_false, not_false_eq_true, and_self, and_true, true_and, and_false, false_and, or_self, or_true, true_or, or_false, false_or, if_true, if_false, ↓reduceIte, Bool.false_eq_true, iff_self, iff_true, iff_false, true_iff, false_iff, Nat.add_zero, Nat.or_zero]), ht⟩) (fun _ h => absurd h List.not_mem_nil) dX3_fragile_11
set_option maxHeartbeats 4000000 in
set_option maxRecDepth 100000 in
theorem c_X3_image (l : Launch) (D : va_G) (cI cZ : ClassId) (hs ta : Nat) (sz : Nat) (q : Nat → Nat) (a : ZA) (im : Nat → Int32) (kp : Nat → Int32) (lf : Nat → Int32) (rw : Nat → Int32) (fn : Nat → Int32) (kn : Nat) (p0 : Int32) : Met l yX3_image wsX3_image ({ frames := 1, cells := 0, slots := 0, locals := 22 }) (va_Pc [.ref (q 0), .int p0] (fun U => U.heap.size = sz ∧ zPre D (zTy cI cZ) hs ta (zcM cI cZ q (zst a) im kp lf rw fn kn) U)) (va_Qi (fun (r : Int32) (u : (Nat → Int32) × (Nat → Int32)) => (r, u) = if p0 < 0 ∨ 1 < p0 then (-2, im, kp) else if p0 = 0 then (1, fb_put im (zst a) 0 24, upd kp 0 1) else (1, fb_put im (zst a) 24 24, upd kp 1 1)) (fun (u : (Nat → Int32) × (Nat → Int32)) t9 => va_P D vwCl (zcM cI cZ q (zst a) u.1 u.2 lf rw fn kn) t9.heap) (va_A (zcM cI cZ q (zst a) im kp lf rw fn kn) sz)) 0 0 (va_A (zcM cI cZ q (zst a) im kp lf rw fn kn) sz) := by
  refine Met.ofW (cc := cX3_image) (maxL := 3) (ret := (some .int)) (by decide) rfl ?_
  intro p e s m args below meth c s₁ B hml hv0
  obtain ⟨rfl, hsz, hP, hD0, hG⟩ := hv0
  have hx := B.exec
  have hb := B.bytes
  have hr := B.returns
  have hts := atoms_spec (ws := wsX3_image) B.pre
  have hown : s.vm.findClass RX3 = some m.cls := findClass_of_methodNamed B.named
  have hlocks := B.notSynchronized
  subst hsz
  have hD := hD0.self (sz := s.heap.size)
  have hAz0 : ∀ y9, va_A (zcM cI cZ q (zst a) im kp lf rw fn kn) s.heap.size y9 → hs ≤ y9 := zA_of hD0 (fun y9 h => Nat.le_trans hG.2.2.2.2 h) (va_S.rf (A := zA hs) (H0 := s.heap))
  generalize hAe : va_A (zcM cI cZ q (zst a) im kp lf rw fn kn) s.heap.size = A at hD hAz0 ⊢
  have hA : ∀ y9 : Nat, s.heap.size ≤ y9 → A y9 := fun y9 h => by rw [← hAe]; exact Or.inr h
  have hS : va_S A s.heap s.heap [] := va_S.rf
  have hAz : ∀ y9, A y9 → hs ≤ y9 := hAz0
  have hK := hG.1
  have hl := lv_entry ([.ref (q 0), .int p0]) (n := 3) (Nat.le_of_ble_eq_true rfl)
  rw [lg_entry_eq]
  generalize (lg_sl ([.ref (q 0), .int p0]) ++ List.replicate (3 - (lg_sl ([.ref (q 0), .int p0])).length) Slot.unset).toArray = ls at hl ⊢
  have hl : lv_has ls 3 [(0, .ref (q 0)), (1, .int p0)] := hl
  have hf16 := hts (.fieldLink RX3 16 "FrozenBitsModel" "isKept" "[Z") (List.mem_of_getElem? (i := 3) rfl)
  have hiX3 : ∀ w ∈ u_ws RX3 TX3 7, w ∈ wsX3_image := fun w h => List.mem_cons_of_mem _ (List.mem_append_right _ h)
  have hf13 := hts (.fieldLink RX3 13 "FrozenBitsModel" "images" "[I") (List.mem_of_getElem? (i := 1) rfl)
  have hf7 := hts (.fieldLink RX3 7 "FrozenBitsModel" "state" "[I") (List.mem_of_getElem? (i := 2) rfl)
  refine lv_iload_n hx hb dX3_image_0 rfl (lv_at hl 1 rfl) ?_
  refine lv_iconst (v := 0) hx hb dX3_image_1 (by decide) ?_
  refine lv_iconst (v := 1) hx hb dX3_image_2 (by decide) ?_
  refine zz_pSi (As := [.int p0, .int 0, .int 1]) (rest := []) ⟨hx, hb, hml, hown, hts⟩ (c_X3_in l p0 0 1) (va_cwS 3 hts gX3_image_X3_in rfl rfl rfl (by decide +kernel) ⟨Nat.le_of_ble_eq_true rfl, Nat.le_of_ble_eq_true rfl⟩) rfl hl.1 rfl (Nat.le_of_ble_eq_true rfl) ⟨Nat.zero_le _, Nat.zero_le _⟩ dX3_image_3 (fun r_1 er_1 => ?_)
  refine lv_if_ne (tgt := 12) hx hb dX3_image_6 (by decide) (fun c_2 => ?_) (fun c_2 => ?_)
  · replace c_2 := zB_t er_1 c_2
    rcases zin01 c_2 with rfl | rfl
    · refine lv_iconst (v := 0) hx hb dX3_image_12 (by decide) ?_
      refine lv_istore_n (lv' := [(2, .int 0), (0, .ref (q 0)), (1, .int 0)]) hx hb dX3_image_13 rfl hl (by decide) rfl (fun ls hl => ?_)
      have hl : lv_has ls 3 [(2, .int (nI 0)), (0, .ref (q 0)), (1, .int 0)] := hl
      refine zz_forHJ (P := fun H locs g => W p l e _ s m _ below meth c H locs _ _ _ g) (nL := 3) (24) (fun i => [(2, .int (nI i)), (0, .ref (q 0)), (1, .int 0)]) (fun i H locs => va_P D vwCl (zcM cI cZ q (zst a) (fb_put im (zst a) 0 i) kp lf rw fn kn) H ∧ va_D A (zcM cI cZ q (zst a) (fb_put im (zst a) 0 i) kp lf rw fn kn) ∧ va_S A s.heap H locs) (J := fun _ => True) ?_ ?_ (⟨by rw [fb_put_0]; exact hP, by rw [fb_put_0]; exact hD, hS⟩) (trivial) ((lv_sub hl [0, 1, 2] rfl))
      · intro H locs ls hJ hI0 hl
        obtain ⟨hP, hD, hS⟩ := hI0
        refine lv_iload_n hx hb dX3_image_14 rfl (lv_at hl 0 rfl) ?_
        refine lv_bipush (v := 24) hx hb dX3_image_15 (by decide) ?_
        refine lv_icmp_ge (tgt := 43) hx hb dX3_image_17 (by decide) (fun c_3 => ?_) (fun c_3 => ?_)
        · replace c_3 := Int32.not_lt.mpr c_3
          refine lv_aload_n hx hb dX3_image_43 rfl (lv_at hl 1 rfl) ?_
          refine va_get (ci := 3) (C := RX3) (T := TX3) (N := 7) hx hb hts hiX3 hown hK hP 0 rfl rfl 2 (by decide) hf16 (fun _ h9 => h9) rfl dX3_image_44 ?_
          refine lv_iload_n hx hb dX3_image_47 rfl (lv_at hl 2 rfl) ?_
          refine lv_iconst (v := 1) hx hb dX3_image_48 (by decide) ?_
          refine zz_zast hx hb hK hP hD hS 3 1 rfl rfl (i := 0) (show (0 : Int32) = nI 0 from rfl) (by decide) (by decide) dX3_image_49 (fun H locs hP hD hS => ?_)
          have hP : va_P D vwCl (zcM cI cZ q (zst a) (fb_put im (zst a) 0 24) (upd kp 0 1) lf rw fn kn) H := hP
          have hD : va_D A (zcM cI cZ q (zst a) (fb_put im (zst a) 0 24) (upd kp 0 1) lf rw fn kn) := hD
          refine lv_iconst (v := 1) hx hb dX3_image_50 (by decide) ?_
          exact W.iret (v := 1) hx hb hr (fun t9 ht hW => ⟨⟨_, ((fb_put im (zst a) 0 24), (upd kp 0 1)), rfl, (by simp (decide := true) only [c_2, c_3, not_true_eq_false, not_false_eq_true, and_self, and_true, true_and, and_false, false_and, or_self, or_true, true_or, or_false, false_or, if_true, if_false, ↓reduceIte, Bool.false_eq_true, iff_self, iff_true, iff_false, true_iff, false_iff, Nat.add_zero, Nat.or_zero]), zP_ht ht hP⟩, hS.F ht⟩) hS.2.2 dX3_image_51
        · replace c_3 := Int32.not_le.mp c_3
          exact absurd c_3 (nI_nlt (Nat.le_refl _) (by decide))
      · intro i hi hJ ihi H locs ls hI0 hl
        obtain ⟨hP, hD, hS⟩ := hI0
        refine lv_iload_n hx hb dX3_image_14 rfl (lv_at hl 0 rfl) ?_
        refine lv_bipush (v := 24) hx hb dX3_image_15 (by decide) ?_
        refine lv_icmp_ge (tgt := 43) hx hb dX3_image_17 (by decide) (fun c_4 => ?_) (fun c_4 => ?_)
        · replace c_4 := Int32.not_lt.mpr c_4
          exact absurd (nI_lt hi (by decide)) c_4
        · replace c_4 := Int32.not_le.mp c_4
          refine lv_aload_n hx hb dX3_image_20 rfl (lv_at hl 1 rfl) ?_
          refine va_get (ci := 3) (C := RX3) (T := TX3) (N := 7) hx hb hts hiX3 hown hK hP 0 rfl rfl 1 (by decide) hf13 (fun _ h9 => h9) rfl dX3_image_21 ?_
          refine lv_bipush (v := 24) hx hb dX3_image_24 (by decide) ?_
          refine lv_iload_n hx hb dX3_image_26 rfl (lv_at hl 2 rfl) ?_
          refine lv_imul hx hb dX3_image_27 ?_
          refine zz_topi 0 (by decide) ?_
          refine lv_iload_n hx hb dX3_image_28 rfl (lv_at hl 0 rfl) ?_
          refine lv_iadd hx hb dX3_image_29 ?_
          refine zz_topi (nI (0 + i)) (zz_addn (show (0 : Int32) = nI 0 from rfl) rfl) ?_
          refine lv_aload_n hx hb dX3_image_30 rfl (lv_at hl 1 rfl) ?_
          refine va_get (ci := 3) (C := RX3) (T := TX3) (N := 7) hx hb hts hiX3 hown hK hP 0 rfl rfl 0 (by decide) hf7 (fun _ h9 => h9) rfl dX3_image_31 ?_
          refine lv_iload_n hx hb dX3_image_34 rfl (lv_at hl 0 rfl) ?_
          refine zz_iald hx hb hK hP 1 0 rfl rfl (i := i) rfl (by omega) (by decide) dX3_image_35 ?_
          refine zz_iast hx hb hK hP hD hS 2 0 rfl rfl (i := 0 + i) rfl (by omega) (by decide) dX3_image_36 (fun H locs hP hD hS => ?_)
          have hP : va_P D vwCl (zcM cI cZ q (zst a) (upd (fb_put im (zst a) 0 i) (0 + i) ((zst a) i)) kp lf rw fn kn) H := hP
          have hD : va_D A (zcM cI cZ q (zst a) (upd (fb_put im (zst a) 0 i) (0 + i) ((zst a) i)) kp lf rw fn kn) := hD
          rw [fb_put_succ im (zst a)] at hP hD
          have hP : va_P D vwCl (zcM cI cZ q (zst a) (fb_put im (zst a) 0 (i + 1)) kp lf rw fn kn) H := hP
          have hD : va_D A (zcM cI cZ q (zst a) (fb_put im (zst a) 0 (i + 1)) kp lf rw fn kn) := hD
          refine lv_iinc (v := (nI (i + 1))) (lv' := [(2, .int (nI (i + 1))), (0, .ref (q 0)), (1, .int 0)]) hx hb dX3_image_37 hl (k := 0) rfl (zz_inc _) (by decide) rfl (fun ls hl => ?_)
          refine lv_goto (tgt := 14) hx hb dX3_image_40 (by decide) ?_
          have hl : lv_has ls 3 [(2, .int (nI ((i + 1)))), (0, .ref (q 0)), (1, .int 0)] := hl
          exact ihi (trivial) _ _ ls (⟨hP, hD, hS⟩) (lv_sub hl [0, 1, 2] rfl)
    · refine lv_iconst (v := 0) hx hb dX3_image_12 (by decide) ?_
      refine lv_istore_n (lv' := [(2, .int 0), (0, .ref (q 0)), (1, .int 1)]) hx hb dX3_image_13 rfl hl (by decide) rfl (fun ls hl => ?_)
      have hl : lv_has ls 3 [(2, .int (nI 0)), (0, .ref (q 0)), (1, .int 1)] := hl
      refine zz_forHJ (P := fun H locs g => W p l e _ s m _ below meth c H locs _ _ _ g) (nL := 3) (24) (fun i => [(2, .int (nI i)), (0, .ref (q 0)), (1, .int 1)]) (fun i H locs => va_P D vwCl (zcM cI cZ q (zst a) (fb_put im (zst a) 24 i) kp lf rw fn kn) H ∧ va_D A (zcM cI cZ q (zst a) (fb_put im (zst a) 24 i) kp lf rw fn kn) ∧ va_S A s.heap H locs) (J := fun _ => True) ?_ ?_ (⟨by rw [fb_put_0]; exact hP, by rw [fb_put_0]; exact hD, hS⟩) (trivial) ((lv_sub hl [0, 1, 2] rfl))
      · intro H locs ls hJ hI0 hl
        obtain ⟨hP, hD, hS⟩ := hI0
        refine lv_iload_n hx hb dX3_image_14 rfl (lv_at hl 0 rfl) ?_
        refine lv_bipush (v := 24) hx hb dX3_image_15 (by decide) ?_
        refine lv_icmp_ge (tgt := 43) hx hb dX3_image_17 (by decide) (fun c_5 => ?_) (fun c_5 => ?_)
        · replace c_5 := Int32.not_lt.mpr c_5
          refine lv_aload_n hx hb dX3_image_43 rfl (lv_at hl 1 rfl) ?_
          refine va_get (ci := 3) (C := RX3) (T := TX3) (N := 7) hx hb hts hiX3 hown hK hP 0 rfl rfl 2 (by decide) hf16 (fun _ h9 => h9) rfl dX3_image_44 ?_
          refine lv_iload_n hx hb dX3_image_47 rfl (lv_at hl 2 rfl) ?_
          refine lv_iconst (v := 1) hx hb dX3_image_48 (by decide) ?_
          refine zz_zast hx hb hK hP hD hS 3 1 rfl rfl (i := 1) (show (1 : Int32) = nI 1 from rfl) (by decide) (by decide) dX3_image_49 (fun H locs hP hD hS => ?_)
          have hP : va_P D vwCl (zcM cI cZ q (zst a) (fb_put im (zst a) 24 24) (upd kp 1 1) lf rw fn kn) H := hP
          have hD : va_D A (zcM cI cZ q (zst a) (fb_put im (zst a) 24 24) (upd kp 1 1) lf rw fn kn) := hD
          refine lv_iconst (v := 1) hx hb dX3_image_50 (by decide) ?_
          exact W.iret (v := 1) hx hb hr (fun t9 ht hW => ⟨⟨_, ((fb_put im (zst a) 24 24), (upd kp 1 1)), rfl, (by simp (decide := true) only [c_2, c_5, not_true_eq_false, not_false_eq_true, and_self, and_true, true_and, and_false, false_and, or_self, or_true, true_or, or_false, false_or, if_true, if_false, ↓reduceIte, Bool.false_eq_true, iff_self, iff_true, iff_false, true_iff, false_iff, Nat.add_zero, Nat.or_zero]), zP_ht ht hP⟩, hS.F ht⟩) hS.2.2 dX3_image_51
        · replace c_5 := Int32.not_le.mp c_5
          exact absurd c_5 (nI_nlt (Nat.le_refl _) (by decide))
      · intro i hi hJ ihi H locs ls hI0 hl
        obtain ⟨hP, hD, hS⟩ := hI0
        refine lv_iload_n hx hb dX3_image_14 rfl (lv_at hl 0 rfl) ?_
        refine lv_bipush (v := 24) hx hb dX3_image_15 (by decide) ?_
        refine lv_icmp_ge (tgt := 43) hx hb dX3_image_17 (by decide) (fun c_6 => ?_) (fun c_6 => ?_)
        · replace c_6 := Int32.not_lt.mpr c_6
          exact absurd (nI_lt hi (by decide)) c_6
        · replace c_6 := Int32.not_le.mp c_6
          refine lv_aload_n hx hb dX3_image_20 rfl (lv_at hl 1 rfl) ?_
          refine va_get (ci := 3) (C := RX3) (T := TX3) (N := 7) hx hb hts hiX3 hown hK hP 0 rfl rfl 1 (by decide) hf13 (fun _ h9 => h9) rfl dX3_image_21 ?_
          refine lv_bipush (v := 24) hx hb dX3_image_24 (by decide) ?_
          refine lv_iload_n hx hb dX3_image_26 rfl (lv_at hl 2 rfl) ?_
          refine lv_imul hx hb dX3_image_27 ?_
          refine zz_topi 24 (by decide) ?_
          refine lv_iload_n hx hb dX3_image_28 rfl (lv_at hl 0 rfl) ?_
          refine lv_iadd hx hb dX3_image_29 ?_
          refine zz_topi (nI (24 + i)) (zz_addn (show (24 : Int32) = nI 24 from rfl) rfl) ?_
          refine lv_aload_n hx hb dX3_image_30 rfl (lv_at hl 1 rfl) ?_
          refine va_get (ci := 3) (C := RX3) (T := TX3) (N := 7) hx hb hts hiX3 hown hK hP 0 rfl rfl 0 (by decide) hf7 (fun _ h9 => h9) rfl dX3_image_31 ?_
          refine lv_iload_n hx hb dX3_image_34 rfl (lv_at hl 0 rfl) ?_
          refine zz_iald hx hb hK hP 1 0 rfl rfl (i := i) rfl (by omega) (by decide) dX3_image_35 ?_
          refine zz_iast hx hb hK hP hD hS 2 0 rfl rfl (i := 24 + i) rfl (by omega) (by decide) dX3_image_36 (fun H locs hP hD hS => ?_)
          have hP : va_P D vwCl (zcM cI cZ q (zst a) (upd (fb_put im (zst a) 24 i) (24 + i) ((zst a) i)) kp lf rw fn kn) H := hP
          have hD : va_D A (zcM cI cZ q (zst a) (upd (fb_put im (zst a) 24 i) (24 + i) ((zst a) i)) kp lf rw fn kn) := hD
          rw [fb_put_succ im (zst a)] at hP hD
          have hP : va_P D vwCl (zcM cI cZ q (zst a) (fb_put im (zst a) 24 (i + 1)) kp lf rw fn kn) H := hP
          have hD : va_D A (zcM cI cZ q (zst a) (fb_put im (zst a) 24 (i + 1)) kp lf rw fn kn) := hD
          refine lv_iinc (v := (nI (i + 1))) (lv' := [(2, .int (nI (i + 1))), (0, .ref (q 0)), (1, .int 1)]) hx hb dX3_image_37 hl (k := 0) rfl (zz_inc _) (by decide) rfl (fun ls hl => ?_)
          refine lv_goto (tgt := 14) hx hb dX3_image_40 (by decide) ?_
          have hl : lv_has ls 3 [(2, .int (nI ((i + 1)))), (0, .ref (q 0)), (1, .int 1)] := hl
          exact ihi (trivial) _ _ ls (⟨hP, hD, hS⟩) (lv_sub hl [0, 1, 2] rfl)
  · replace c_2 := Classical.not_not.mp (zB_f er_1 c_2)
    refine lv_bipush (v := (-2)) hx hb dX3_image_9 (by decide) ?_
    exact W.iret (v := (-2)) hx hb hr (fun t9 ht hW => ⟨⟨_, (im, kp), rfl, (by simp (decide := true) only [c_2, not_true_eq_false, not_false_eq_true, and_self, and_true, true_and, and_false, false_and, or_self, or_true, true_or, or_false, false_or, if_true, if_false, ↓reduceIte, Bool.false_eq_true, iff_self, iff_true, iff_false, true_iff, false_iff, Nat.add_zero, Nat.or_zero]), zP_ht ht hP⟩, hS.F ht⟩) hS.2.2 dX3_image_11
set_option maxHeartbeats 4000000 in
set_option maxRecDepth 100000 in
theorem c_X3_restore (l : Launch) (D : va_G) (cI cZ : ClassId) (hs ta : Nat) (sz : Nat) (q : Nat → Nat) (a : ZA) (im : Nat → Int32) (kp : Nat → Int32) (lf : Nat → Int32) (rw : Nat → Int32) (fn : Nat → Int32) (kn : Nat) (p0 : Int32) (b0 : ZA) (b1 : ZA) (hb0 : ¬ kp 0 = 0 → ∀ j, j < 24 → im (0 + j) = zst b0 j) (hb1 : ¬ kp 1 = 0 → ∀ j, j < 24 → im (24 + j) = zst b1 j) : Met l yX3_restore wsX3_restore ({ frames := 1, cells := 0, slots := 0, locals := 22 }) (va_Pc [.ref (q 0), .int p0] (fun U => U.heap.size = sz ∧ zPre D (zTy cI cZ) hs ta (zcM cI cZ q (zst a) im kp lf rw fn kn) U)) (va_Qi (fun (r : Int32) (u : ZA) => (r, u) = if p0 < 0 ∨ 1 < p0 then (-2, a) else if p0 = 0 then (if kp 0 = 0 then (-3, a) else (1, b0)) else (if kp 1 = 0 then (-3, a) else (1, b1))) (fun (u : ZA) t9 => va_P D vwCl (zcM cI cZ q (zst u) im kp lf rw fn kn) t9.heap) (va_A (zcM cI cZ q (zst a) im kp lf rw fn kn) sz)) 0 0 (va_A (zcM cI cZ q (zst a) im kp lf rw fn kn) sz) := by
  refine Met.ofW (cc := cX3_restore) (maxL := 3) (ret := (some .int)) (by decide) rfl ?_
  intro p e s m args below meth c s₁ B hml hv0
  obtain ⟨rfl, hsz, hP, hD0, hG⟩ := hv0
  have hx := B.exec
  have hb := B.bytes
  have hr := B.returns
  have hts := atoms_spec (ws := wsX3_restore) B.pre
  have hown : s.vm.findClass RX3 = some m.cls := findClass_of_methodNamed B.named
  have hlocks := B.notSynchronized
  subst hsz
  have hD := hD0.self (sz := s.heap.size)
  have hAz0 : ∀ y9, va_A (zcM cI cZ q (zst a) im kp lf rw fn kn) s.heap.size y9 → hs ≤ y9 := zA_of hD0 (fun y9 h => Nat.le_trans hG.2.2.2.2 h) (va_S.rf (A := zA hs) (H0 := s.heap))
  generalize hAe : va_A (zcM cI cZ q (zst a) im kp lf rw fn kn) s.heap.size = A at hD hAz0 ⊢
  have hA : ∀ y9 : Nat, s.heap.size ≤ y9 → A y9 := fun y9 h => by rw [← hAe]; exact Or.inr h
  have hS : va_S A s.heap s.heap [] := va_S.rf
  have hAz : ∀ y9, A y9 → hs ≤ y9 := hAz0
  have hK := hG.1
  have hl := lv_entry ([.ref (q 0), .int p0]) (n := 3) (Nat.le_of_ble_eq_true rfl)
  rw [lg_entry_eq]
  generalize (lg_sl ([.ref (q 0), .int p0]) ++ List.replicate (3 - (lg_sl ([.ref (q 0), .int p0])).length) Slot.unset).toArray = ls at hl ⊢
  have hl : lv_has ls 3 [(0, .ref (q 0)), (1, .int p0)] := hl
  have hf16 := hts (.fieldLink RX3 16 "FrozenBitsModel" "isKept" "[Z") (List.mem_of_getElem? (i := 1) rfl)
  have hiX3 : ∀ w ∈ u_ws RX3 TX3 7, w ∈ wsX3_restore := fun w h => List.mem_cons_of_mem _ (List.mem_append_right _ h)
  have hf7 := hts (.fieldLink RX3 7 "FrozenBitsModel" "state" "[I") (List.mem_of_getElem? (i := 2) rfl)
  have hf13 := hts (.fieldLink RX3 13 "FrozenBitsModel" "images" "[I") (List.mem_of_getElem? (i := 3) rfl)
  refine lv_iload_n hx hb dX3_restore_0 rfl (lv_at hl 1 rfl) ?_
  refine lv_iconst (v := 0) hx hb dX3_restore_1 (by decide) ?_
  refine lv_iconst (v := 1) hx hb dX3_restore_2 (by decide) ?_
  refine zz_pSi (As := [.int p0, .int 0, .int 1]) (rest := []) ⟨hx, hb, hml, hown, hts⟩ (c_X3_in l p0 0 1) (va_cwS 3 hts gX3_restore_X3_in rfl rfl rfl (by decide +kernel) ⟨Nat.le_of_ble_eq_true rfl, Nat.le_of_ble_eq_true rfl⟩) rfl hl.1 rfl (Nat.le_of_ble_eq_true rfl) ⟨Nat.zero_le _, Nat.zero_le _⟩ dX3_restore_3 (fun r_1 er_1 => ?_)
  refine lv_if_ne (tgt := 12) hx hb dX3_restore_6 (by decide) (fun c_2 => ?_) (fun c_2 => ?_)
  · replace c_2 := zB_t er_1 c_2
    rcases zin01 c_2 with rfl | rfl
    · refine lv_aload_n hx hb dX3_restore_12 rfl (lv_at hl 0 rfl) ?_
      refine va_get (ci := 3) (C := RX3) (T := TX3) (N := 7) hx hb hts hiX3 hown hK hP 0 rfl rfl 2 (by decide) hf16 (fun _ h9 => h9) rfl dX3_restore_13 ?_
      refine lv_iload_n hx hb dX3_restore_16 rfl (lv_at hl 1 rfl) ?_
      refine zz_zald hx hb hK hP 3 1 rfl rfl (i := 0) (show (0 : Int32) = nI 0 from rfl) (by decide) (by decide) dX3_restore_17 ?_
      refine lv_if_ne (tgt := 24) hx hb dX3_restore_18 (by decide) (fun c_3 => ?_) (fun c_3 => ?_)
      · refine lv_iconst (v := 0) hx hb dX3_restore_24 (by decide) ?_
        refine lv_istore_n (lv' := [(2, .int 0), (0, .ref (q 0)), (1, .int 0)]) hx hb dX3_restore_25 rfl hl (by decide) rfl (fun ls hl => ?_)
        have hl : lv_has ls 3 [(2, .int (nI 0)), (0, .ref (q 0)), (1, .int 0)] := hl
        refine zz_forHJ (P := fun H locs g => W p l e _ s m _ below meth c H locs _ _ _ g) (nL := 3) (24) (fun i => [(2, .int (nI i)), (0, .ref (q 0)), (1, .int 0)]) (fun i H locs => va_P D vwCl (zcM cI cZ q (fb_put (zst a) (fun j => im (0 + j)) 0 i) im kp lf rw fn kn) H ∧ va_D A (zcM cI cZ q (fb_put (zst a) (fun j => im (0 + j)) 0 i) im kp lf rw fn kn) ∧ va_S A s.heap H locs) (J := fun _ => True) ?_ ?_ (⟨by rw [fb_put_0]; exact hP, by rw [fb_put_0]; exact hD, hS⟩) (trivial) ((lv_sub hl [0, 1, 2] rfl))
        · intro H locs ls hJ hI0 hl
          obtain ⟨hP, hD, hS⟩ := hI0
          refine lv_iload_n hx hb dX3_restore_26 rfl (lv_at hl 0 rfl) ?_
          refine lv_bipush (v := 24) hx hb dX3_restore_27 (by decide) ?_
          refine lv_icmp_ge (tgt := 55) hx hb dX3_restore_29 (by decide) (fun c_4 => ?_) (fun c_4 => ?_)
          · replace c_4 := Int32.not_lt.mpr c_4
            replace hP := zP_arr hP (k := 1) (g := zst b0) rfl (zrest_st (hb0 c_3))
            refine lv_iconst (v := 1) hx hb dX3_restore_55 (by decide) ?_
            exact W.iret (v := 1) hx hb hr (fun t9 ht hW => ⟨⟨_, b0, rfl, (by simp (decide := true) only [c_2, c_3, c_4, not_true_eq_false, not_false_eq_true, and_self, and_true, true_and, and_false, false_and, or_self, or_true, true_or, or_false, false_or, if_true, if_false, ↓reduceIte, Bool.false_eq_true, iff_self, iff_true, iff_false, true_iff, false_iff, Nat.add_zero, Nat.or_zero]), zP_ht ht hP⟩, hS.F ht⟩) hS.2.2 dX3_restore_56
          · replace c_4 := Int32.not_le.mp c_4
            exact absurd c_4 (nI_nlt (Nat.le_refl _) (by decide))
        · intro i hi hJ ihi H locs ls hI0 hl
          obtain ⟨hP, hD, hS⟩ := hI0
          refine lv_iload_n hx hb dX3_restore_26 rfl (lv_at hl 0 rfl) ?_
          refine lv_bipush (v := 24) hx hb dX3_restore_27 (by decide) ?_
          refine lv_icmp_ge (tgt := 55) hx hb dX3_restore_29 (by decide) (fun c_5 => ?_) (fun c_5 => ?_)
          · replace c_5 := Int32.not_lt.mpr c_5
            exact absurd (nI_lt hi (by decide)) c_5
          · replace c_5 := Int32.not_le.mp c_5
            refine lv_aload_n hx hb dX3_restore_32 rfl (lv_at hl 1 rfl) ?_
            refine va_get (ci := 3) (C := RX3) (T := TX3) (N := 7) hx hb hts hiX3 hown hK hP 0 rfl rfl 0 (by decide) hf7 (fun _ h9 => h9) rfl dX3_restore_33 ?_
            refine lv_iload_n hx hb dX3_restore_36 rfl (lv_at hl 0 rfl) ?_
            refine lv_aload_n hx hb dX3_restore_37 rfl (lv_at hl 1 rfl) ?_
            refine va_get (ci := 3) (C := RX3) (T := TX3) (N := 7) hx hb hts hiX3 hown hK hP 0 rfl rfl 1 (by decide) hf13 (fun _ h9 => h9) rfl dX3_restore_38 ?_
            refine lv_bipush (v := 24) hx hb dX3_restore_41 (by decide) ?_
            refine lv_iload_n hx hb dX3_restore_43 rfl (lv_at hl 2 rfl) ?_
            refine lv_imul hx hb dX3_restore_44 ?_
            refine zz_topi 0 (by decide) ?_
            refine lv_iload_n hx hb dX3_restore_45 rfl (lv_at hl 0 rfl) ?_
            refine lv_iadd hx hb dX3_restore_46 ?_
            refine zz_topi (nI (0 + i)) (zz_addn (show (0 : Int32) = nI 0 from rfl) rfl) ?_
            refine zz_iald hx hb hK hP 2 0 rfl rfl (i := 0 + i) rfl (by omega) (by decide) dX3_restore_47 ?_
            refine zz_iast hx hb hK hP hD hS 1 0 rfl rfl (i := i) rfl (by omega) (by decide) dX3_restore_48 (fun H locs hP hD hS => ?_)
            have hP : va_P D vwCl (zcM cI cZ q (upd (fb_put (zst a) (fun j => im (0 + j)) 0 i) i (im (0 + i))) im kp lf rw fn kn) H := hP
            have hD : va_D A (zcM cI cZ q (upd (fb_put (zst a) (fun j => im (0 + j)) 0 i) i (im (0 + i))) im kp lf rw fn kn) := hD
            rw [zput_0 (zst a) (fun j => im (0 + j))] at hP hD
            have hP : va_P D vwCl (zcM cI cZ q (fb_put (zst a) (fun j => im (0 + j)) 0 (i + 1)) im kp lf rw fn kn) H := hP
            have hD : va_D A (zcM cI cZ q (fb_put (zst a) (fun j => im (0 + j)) 0 (i + 1)) im kp lf rw fn kn) := hD
            refine lv_iinc (v := (nI (i + 1))) (lv' := [(2, .int (nI (i + 1))), (0, .ref (q 0)), (1, .int 0)]) hx hb dX3_restore_49 hl (k := 0) rfl (zz_inc _) (by decide) rfl (fun ls hl => ?_)
            refine lv_goto (tgt := 26) hx hb dX3_restore_52 (by decide) ?_
            have hl : lv_has ls 3 [(2, .int (nI ((i + 1)))), (0, .ref (q 0)), (1, .int 0)] := hl
            exact ihi (trivial) _ _ ls (⟨hP, hD, hS⟩) (lv_sub hl [0, 1, 2] rfl)
      · refine lv_bipush (v := (-3)) hx hb dX3_restore_21 (by decide) ?_
        exact W.iret (v := (-3)) hx hb hr (fun t9 ht hW => ⟨⟨_, a, rfl, (by simp (decide := true) only [c_2, c_3, not_true_eq_false, not_false_eq_true, and_self, and_true, true_and, and_false, false_and, or_self, or_true, true_or, or_false, false_or, if_true, if_false, ↓reduceIte, Bool.false_eq_true, iff_self, iff_true, iff_false, true_iff, false_iff, Nat.add_zero, Nat.or_zero]), zP_ht ht hP⟩, hS.F ht⟩) hS.2.2 dX3_restore_23
    · refine lv_aload_n hx hb dX3_restore_12 rfl (lv_at hl 0 rfl) ?_
      refine va_get (ci := 3) (C := RX3) (T := TX3) (N := 7) hx hb hts hiX3 hown hK hP 0 rfl rfl 2 (by decide) hf16 (fun _ h9 => h9) rfl dX3_restore_13 ?_
      refine lv_iload_n hx hb dX3_restore_16 rfl (lv_at hl 1 rfl) ?_
      refine zz_zald hx hb hK hP 3 1 rfl rfl (i := 1) (show (1 : Int32) = nI 1 from rfl) (by decide) (by decide) dX3_restore_17 ?_
      refine lv_if_ne (tgt := 24) hx hb dX3_restore_18 (by decide) (fun c_6 => ?_) (fun c_6 => ?_)
      · refine lv_iconst (v := 0) hx hb dX3_restore_24 (by decide) ?_
        refine lv_istore_n (lv' := [(2, .int 0), (0, .ref (q 0)), (1, .int 1)]) hx hb dX3_restore_25 rfl hl (by decide) rfl (fun ls hl => ?_)
        have hl : lv_has ls 3 [(2, .int (nI 0)), (0, .ref (q 0)), (1, .int 1)] := hl
        refine zz_forHJ (P := fun H locs g => W p l e _ s m _ below meth c H locs _ _ _ g) (nL := 3) (24) (fun i => [(2, .int (nI i)), (0, .ref (q 0)), (1, .int 1)]) (fun i H locs => va_P D vwCl (zcM cI cZ q (fb_put (zst a) (fun j => im (24 + j)) 0 i) im kp lf rw fn kn) H ∧ va_D A (zcM cI cZ q (fb_put (zst a) (fun j => im (24 + j)) 0 i) im kp lf rw fn kn) ∧ va_S A s.heap H locs) (J := fun _ => True) ?_ ?_ (⟨by rw [fb_put_0]; exact hP, by rw [fb_put_0]; exact hD, hS⟩) (trivial) ((lv_sub hl [0, 1, 2] rfl))
        · intro H locs ls hJ hI0 hl
          obtain ⟨hP, hD, hS⟩ := hI0
          refine lv_iload_n hx hb dX3_restore_26 rfl (lv_at hl 0 rfl) ?_
          refine lv_bipush (v := 24) hx hb dX3_restore_27 (by decide) ?_
          refine lv_icmp_ge (tgt := 55) hx hb dX3_restore_29 (by decide) (fun c_7 => ?_) (fun c_7 => ?_)
          · replace c_7 := Int32.not_lt.mpr c_7
            replace hP := zP_arr hP (k := 1) (g := zst b1) rfl (zrest_st (hb1 c_6))
            refine lv_iconst (v := 1) hx hb dX3_restore_55 (by decide) ?_
            exact W.iret (v := 1) hx hb hr (fun t9 ht hW => ⟨⟨_, b1, rfl, (by simp (decide := true) only [c_2, c_6, c_7, not_true_eq_false, not_false_eq_true, and_self, and_true, true_and, and_false, false_and, or_self, or_true, true_or, or_false, false_or, if_true, if_false, ↓reduceIte, Bool.false_eq_true, iff_self, iff_true, iff_false, true_iff, false_iff, Nat.add_zero, Nat.or_zero]), zP_ht ht hP⟩, hS.F ht⟩) hS.2.2 dX3_restore_56
          · replace c_7 := Int32.not_le.mp c_7
            exact absurd c_7 (nI_nlt (Nat.le_refl _) (by decide))
        · intro i hi hJ ihi H locs ls hI0 hl
          obtain ⟨hP, hD, hS⟩ := hI0
          refine lv_iload_n hx hb dX3_restore_26 rfl (lv_at hl 0 rfl) ?_
          refine lv_bipush (v := 24) hx hb dX3_restore_27 (by decide) ?_
          refine lv_icmp_ge (tgt := 55) hx hb dX3_restore_29 (by decide) (fun c_8 => ?_) (fun c_8 => ?_)
          · replace c_8 := Int32.not_lt.mpr c_8
            exact absurd (nI_lt hi (by decide)) c_8
          · replace c_8 := Int32.not_le.mp c_8
            refine lv_aload_n hx hb dX3_restore_32 rfl (lv_at hl 1 rfl) ?_
            refine va_get (ci := 3) (C := RX3) (T := TX3) (N := 7) hx hb hts hiX3 hown hK hP 0 rfl rfl 0 (by decide) hf7 (fun _ h9 => h9) rfl dX3_restore_33 ?_
            refine lv_iload_n hx hb dX3_restore_36 rfl (lv_at hl 0 rfl) ?_
            refine lv_aload_n hx hb dX3_restore_37 rfl (lv_at hl 1 rfl) ?_
            refine va_get (ci := 3) (C := RX3) (T := TX3) (N := 7) hx hb hts hiX3 hown hK hP 0 rfl rfl 1 (by decide) hf13 (fun _ h9 => h9) rfl dX3_restore_38 ?_
            refine lv_bipush (v := 24) hx hb dX3_restore_41 (by decide) ?_
            refine lv_iload_n hx hb dX3_restore_43 rfl (lv_at hl 2 rfl) ?_
            refine lv_imul hx hb dX3_restore_44 ?_
            refine zz_topi 24 (by decide) ?_
            refine lv_iload_n hx hb dX3_restore_45 rfl (lv_at hl 0 rfl) ?_
            refine lv_iadd hx hb dX3_restore_46 ?_
            refine zz_topi (nI (24 + i)) (zz_addn (show (24 : Int32) = nI 24 from rfl) rfl) ?_
            refine zz_iald hx hb hK hP 2 0 rfl rfl (i := 24 + i) rfl (by omega) (by decide) dX3_restore_47 ?_
            refine zz_iast hx hb hK hP hD hS 1 0 rfl rfl (i := i) rfl (by omega) (by decide) dX3_restore_48 (fun H locs hP hD hS => ?_)
            have hP : va_P D vwCl (zcM cI cZ q (upd (fb_put (zst a) (fun j => im (24 + j)) 0 i) i (im (24 + i))) im kp lf rw fn kn) H := hP
            have hD : va_D A (zcM cI cZ q (upd (fb_put (zst a) (fun j => im (24 + j)) 0 i) i (im (24 + i))) im kp lf rw fn kn) := hD
            rw [zput_0 (zst a) (fun j => im (24 + j))] at hP hD
            have hP : va_P D vwCl (zcM cI cZ q (fb_put (zst a) (fun j => im (24 + j)) 0 (i + 1)) im kp lf rw fn kn) H := hP
            have hD : va_D A (zcM cI cZ q (fb_put (zst a) (fun j => im (24 + j)) 0 (i + 1)) im kp lf rw fn kn) := hD
            refine lv_iinc (v := (nI (i + 1))) (lv' := [(2, .int (nI (i + 1))), (0, .ref (q 0)), (1, .int 1)]) hx hb dX3_restore_49 hl (k := 0) rfl (zz_inc _) (by decide) rfl (fun ls hl => ?_)
            refine lv_goto (tgt := 26) hx hb dX3_restore_52 (by decide) ?_
            have hl : lv_has ls 3 [(2, .int (nI ((i + 1)))), (0, .ref (q 0)), (1, .int 1)] := hl
            exact ihi (trivial) _ _ ls (⟨hP, hD, hS⟩) (lv_sub hl [0, 1, 2] rfl)
      · refine lv_bipush (v := (-3)) hx hb dX3_restore_21 (by decide) ?_
        exact W.iret (v := (-3)) hx hb hr (fun t9 ht hW => ⟨⟨_, a, rfl, (by simp (decide := true) only [c_2, c_6, not_true_eq_false, not_false_eq_true, and_self, and_true, true_and, and_false, false_and, or_self, or_true, true_or, or_false, false_or, if_true, if_false, ↓reduceIte, Bool.false_eq_true, iff_self, iff_true, iff_false, true_iff, false_iff, Nat.add_zero, Nat.or_zero]), zP_ht ht hP⟩, hS.F ht⟩) hS.2.2 dX3_restore_23
  · replace c_2 := Classical.not_not.mp (zB_f er_1 c_2)
    refine lv_bipush (v := (-2)) hx hb dX3_restore_9 (by decide) ?_
    exact W.iret (v := (-2)) hx hb hr (fun t9 ht hW => ⟨⟨_, a, rfl, (by simp (decide := true) only [c_2, not_true_eq_false, not_false_eq_true, and_self, and_true, true_and, and_false, false_and, or_self, or_true, true_or, or_false, false_or, if_true, if_false, ↓reduceIte, Bool.false_eq_true, iff_self, iff_true, iff_false, true_iff, false_iff, Nat.add_zero, Nat.or_zero]), zP_ht ht hP⟩, hS.F ht⟩) hS.2.2 dX3_restore_11
set_option maxHeartbeats 4000000 in
set_option maxRecDepth 100000 in
theorem c_X3_count (l : Launch) (D : va_G) (cI cZ : ClassId) (hs ta : Nat) (q : Nat → Nat) (a : ZA) (im : Nat → Int32) (kp : Nat → Int32) (lf : Nat → Int32) (rw : Nat → Int32) (fn : Nat → Int32) (kn : Nat) (p0 : Int32) (ik : Nat) (hI : zInv a) (hik : ik < 4) (hk0 : kp 0 = zB (ik.testBit 0 = true)) (hk1 : kp 1 = zB (ik.testBit 1 = true)) : Met l yX3_count wsX3_count ({ frames := 2, cells := 0, slots := 0, locals := 40 }) (va_Pc [.ref (q 0), .int p0] (zPre D (zTy cI cZ) hs ta (zcM cI cZ q (zst a) im kp lf rw fn kn))) (vp_Si (fun r : Int32 => r = zq_count a ik p0)) 0 0 (fun _ => False) := by
  refine Met.ofW (cc := cX3_count) (maxL := 2) (ret := (some .int)) (by decide) rfl ?_
  intro p e s m args below meth c s₁ B hml hv0
  obtain ⟨rfl, hP, hD, hG⟩ := hv0
  have hx := B.exec
  have hb := B.bytes
  have hr := B.returns
  have hts := atoms_spec (ws := wsX3_count) B.pre
  have hown : s.vm.findClass RX3 = some m.cls := findClass_of_methodNamed B.named
  have hlocks := B.notSynchronized
  have hK := hG.1
  have hS : va_S (zA hs) s.heap s.heap [] := va_S.rf
  have hAz : ∀ q, zA hs q → hs ≤ q := fun _ h => h
  have hl := lv_entry ([.ref (q 0), .int p0]) (n := 2) (Nat.le_of_ble_eq_true rfl)
  rw [lg_entry_eq]
  generalize (lg_sl ([.ref (q 0), .int p0]) ++ List.replicate (2 - (lg_sl ([.ref (q 0), .int p0])).length) Slot.unset).toArray = ls at hl ⊢
  have hl : lv_has ls 2 [(0, .ref (q 0)), (1, .int p0)] := hl
  have hf7 := hts (.fieldLink RX3 7 "FrozenBitsModel" "state" "[I") (List.mem_of_getElem? (i := 1) rfl)
  have hiX3 : ∀ w ∈ u_ws RX3 TX3 7, w ∈ wsX3_count := fun w h => List.mem_cons_of_mem _ (List.mem_append_right _ h)
  have hf16 := hts (.fieldLink RX3 16 "FrozenBitsModel" "isKept" "[Z") (List.mem_of_getElem? (i := 2) rfl)
  refine lv_iload_n hx hb dX3_count_0 rfl (lv_at hl 1 rfl) ?_
  refine lv_bipush (v := 10) hx hb dX3_count_1 (by decide) ?_
  refine lv_bipush (v := 12) hx hb dX3_count_3 (by decide) ?_
  refine zz_pSi (As := [.int p0, .int 10, .int 12]) (rest := []) ⟨hx, hb, hml, hown, hts⟩ (c_X3_in l p0 10 12) (va_cwS 3 hts gX3_count_X3_in rfl rfl rfl (by decide +kernel) ⟨Nat.le_of_ble_eq_true rfl, Nat.le_of_ble_eq_true rfl⟩) rfl hl.1 rfl (Nat.le_of_ble_eq_true rfl) ⟨Nat.zero_le _, Nat.zero_le _⟩ dX3_count_5 (fun r_1 er_1 => ?_)
  refine lv_if_eq (tgt := 23) hx hb dX3_count_8 (by decide) (fun c_2 => ?_) (fun c_2 => ?_)
  · replace c_2 := Classical.not_not.mp (zB_f er_1 c_2)
    refine lv_iload_n hx hb dX3_count_23 rfl (lv_at hl 1 rfl) ?_
    by_cases c_3 : p0 = 0
    · refine lv_tableIn (tgt := 68) (off := 44) hx hb dX3_count_24 (by rw [c_3]; decide) (by rw [c_3]; decide) (by rw [c_3]; rfl) (by decide) ?_
      refine lv_aload_n hx hb dX3_count_68 rfl (lv_at hl 0 rfl) ?_
      refine va_get (ci := 3) (C := RX3) (T := TX3) (N := 7) hx hb hts hiX3 hown hK hP 0 rfl rfl 0 (by decide) hf7 (fun _ h9 => h9) rfl dX3_count_69 ?_
      refine lv_iconst (v := 0) hx hb dX3_count_72 (by decide) ?_
      refine lv_iload_n hx hb dX3_count_73 rfl (lv_at hl 1 rfl) ?_
      refine lv_iadd hx hb dX3_count_74 ?_
      refine zz_iald hx hb hK hP 1 0 rfl rfl (i := 0) (by rw [c_3]; rfl) (by decide) (by decide) dX3_count_75 ?_
      refine zz_topi (nI (a.1)) rfl ?_
      exact W.iret (v := (nI (a.1))) hx hb hr (fun t9 ht hW => ⟨_, rfl, (by simp (decide := true) only [zq_count, zwm, c_2, c_3, not_true_eq_false, not_false_eq_true, and_self, and_true, true_and, and_false, false_and, or_self, or_true, true_or, or_false, false_or, if_true, if_false, ↓reduceIte, Bool.false_eq_true, iff_self, iff_true, iff_false, true_iff, false_iff, Nat.add_zero, Nat.or_zero]), ht⟩) (fun _ h => absurd h List.not_mem_nil) dX3_count_76
    by_cases c_4 : p0 = 1
    · refine lv_tableIn (tgt := 68) (off := 44) hx hb dX3_count_24 (by rw [c_4]; decide) (by rw [c_4]; decide) (by rw [c_4]; rfl) (by decide) ?_
      refine lv_aload_n hx hb dX3_count_68 rfl (lv_at hl 0 rfl) ?_
      refine va_get (ci := 3) (C := RX3) (T := TX3) (N := 7) hx hb hts hiX3 hown hK hP 0 rfl rfl 0 (by decide) hf7 (fun _ h9 => h9) rfl dX3_count_69 ?_
      refine lv_iconst (v := 0) hx hb dX3_count_72 (by decide) ?_
      refine lv_iload_n hx hb dX3_count_73 rfl (lv_at hl 1 rfl) ?_
      refine lv_iadd hx hb dX3_count_74 ?_
      refine zz_iald hx hb hK hP 1 0 rfl rfl (i := 1) (by rw [c_4]; rfl) (by decide) (by decide) dX3_count_75 ?_
      refine zz_topi (nI (a.2.1)) rfl ?_
      exact W.iret (v := (nI (a.2.1))) hx hb hr (fun t9 ht hW => ⟨_, rfl, (by simp (decide := true) only [zq_count, zwm, c_2, c_3, c_4, not_true_eq_false, not_false_eq_true, and_self, and_true, true_and, and_false, false_and, or_self, or_true, true_or, or_false, false_or, if_true, if_false, ↓reduceIte, Bool.false_eq_true, iff_self, iff_true, iff_false, true_iff, false_iff, Nat.add_zero, Nat.or_zero]), ht⟩) (fun _ h => absurd h List.not_mem_nil) dX3_count_76
    by_cases c_5 : p0 = 2
    · refine lv_tableIn (tgt := 68) (off := 44) hx hb dX3_count_24 (by rw [c_5]; decide) (by rw [c_5]; decide) (by rw [c_5]; rfl) (by decide) ?_
      refine lv_aload_n hx hb dX3_count_68 rfl (lv_at hl 0 rfl) ?_
      refine va_get (ci := 3) (C := RX3) (T := TX3) (N := 7) hx hb hts hiX3 hown hK hP 0 rfl rfl 0 (by decide) hf7 (fun _ h9 => h9) rfl dX3_count_69 ?_
      refine lv_iconst (v := 0) hx hb dX3_count_72 (by decide) ?_
      refine lv_iload_n hx hb dX3_count_73 rfl (lv_at hl 1 rfl) ?_
      refine lv_iadd hx hb dX3_count_74 ?_
      refine zz_iald hx hb hK hP 1 0 rfl rfl (i := 2) (by rw [c_5]; rfl) (by decide) (by decide) dX3_count_75 ?_
      refine zz_topi (nI (a.2.2.1)) rfl ?_
      exact W.iret (v := (nI (a.2.2.1))) hx hb hr (fun t9 ht hW => ⟨_, rfl, (by simp (decide := true) only [zq_count, zwm, c_2, c_3, c_4, c_5, not_true_eq_false, not_false_eq_true, and_self, and_true, true_and, and_false, false_and, or_self, or_true, true_or, or_false, false_or, if_true, if_false, ↓reduceIte, Bool.false_eq_true, iff_self, iff_true, iff_false, true_iff, false_iff, Nat.add_zero, Nat.or_zero]), ht⟩) (fun _ h => absurd h List.not_mem_nil) dX3_count_76
    by_cases c_6 : p0 = 3
    · refine lv_tableIn (tgt := 68) (off := 44) hx hb dX3_count_24 (by rw [c_6]; decide) (by rw [c_6]; decide) (by rw [c_6]; rfl) (by decide) ?_
      refine lv_aload_n hx hb dX3_count_68 rfl (lv_at hl 0 rfl) ?_
      refine va_get (ci := 3) (C := RX3) (T := TX3) (N := 7) hx hb hts hiX3 hown hK hP 0 rfl rfl 0 (by decide) hf7 (fun _ h9 => h9) rfl dX3_count_69 ?_
      refine lv_iconst (v := 0) hx hb dX3_count_72 (by decide) ?_
      refine lv_iload_n hx hb dX3_count_73 rfl (lv_at hl 1 rfl) ?_
      refine lv_iadd hx hb dX3_count_74 ?_
      refine zz_iald hx hb hK hP 1 0 rfl rfl (i := 3) (by rw [c_6]; rfl) (by decide) (by decide) dX3_count_75 ?_
      refine zz_topi (nI (a.2.2.2.1)) rfl ?_
      exact W.iret (v := (nI (a.2.2.2.1))) hx hb hr (fun t9 ht hW => ⟨_, rfl, (by simp (decide := true) only [zq_count, zwm, c_2, c_3, c_4, c_5, c_6, not_true_eq_false, not_false_eq_true, and_self, and_true, true_and, and_false, false_and, or_self, or_true, true_or, or_false, false_or, if_true, if_false, ↓reduceIte, Bool.false_eq_true, iff_self, iff_true, iff_false, true_iff, false_iff, Nat.add_zero, Nat.or_zero]), ht⟩) (fun _ h => absurd h List.not_mem_nil) dX3_count_76
    by_cases c_7 : p0 = 4
    · refine lv_tableIn (tgt := 77) (off := 53) hx hb dX3_count_24 (by rw [c_7]; decide) (by rw [c_7]; decide) (by rw [c_7]; rfl) (by decide) ?_
      refine lv_aload_n hx hb dX3_count_77 rfl (lv_at hl 0 rfl) ?_
      refine zz_cVi (cs := zcM cI cZ q (zst a) im kp lf rw fn kn) (As := []) (rest := []) ⟨hx, hb, hml, hown, hts⟩ (c_X3_free l D cI cZ hs ta q a im kp lf rw fn kn hI) (cwV 0 hts gX3_count_X3_free rfl rfl rfl (by decide +kernel) ⟨Nat.le_of_ble_eq_true rfl, Nat.le_of_ble_eq_true rfl⟩) (va_recv hK hP (ci := 3) (q0 := 0) rfl rfl) hP hD hG hS hAz rfl hl.1 rfl (Nat.le_of_ble_eq_true rfl) ⟨Nat.zero_le _, Nat.zero_le _⟩ dX3_count_78 (fun r_8 er_8 => ?_)
      subst er_8
      refine zz_pSi (As := [.int (nI (zfre a))]) (rest := []) ⟨hx, hb, hml, hown, hts⟩ (c_X3_size l (zfre a) (zfre_lt hI)) (va_cwS 1 hts gX3_count_X3_size rfl rfl rfl (by decide +kernel) ⟨Nat.le_of_ble_eq_true rfl, Nat.le_of_ble_eq_true rfl⟩) rfl hl.1 rfl (Nat.le_of_ble_eq_true rfl) ⟨Nat.zero_le _, Nat.zero_le _⟩ dX3_count_81 (fun r_9 er_9 => ?_)
      subst er_9
      exact W.iret (v := (nI (zpc (zfre a)))) hx hb hr (fun t9 ht hW => ⟨_, rfl, (by simp (decide := true) only [zq_count, zwm, c_2, c_3, c_4, c_5, c_6, c_7, not_true_eq_false, not_false_eq_true, and_self, and_true, true_and, and_false, false_and, or_self, or_true, true_or, or_false, false_or, if_true, if_false, ↓reduceIte, Bool.false_eq_true, iff_self, iff_true, iff_false, true_iff, false_iff, Nat.add_zero, Nat.or_zero]; rw [zpc_fre hI]), ht⟩) (fun _ h => absurd h List.not_mem_nil) dX3_count_84
    by_cases c_10 : p0 = 5
    · refine lv_tableIn (tgt := 85) (off := 61) hx hb dX3_count_24 (by rw [c_10]; decide) (by rw [c_10]; decide) (by rw [c_10]; rfl) (by decide) ?_
      refine lv_aload_n hx hb dX3_count_85 rfl (lv_at hl 0 rfl) ?_
      refine va_get (ci := 3) (C := RX3) (T := TX3) (N := 7) hx hb hts hiX3 hown hK hP 0 rfl rfl 0 (by decide) hf7 (fun _ h9 => h9) rfl dX3_count_86 ?_
      refine lv_iconst (v := 4) hx hb dX3_count_89 (by decide) ?_
      refine zz_iald hx hb hK hP 1 0 rfl rfl (i := 4) (show (4 : Int32) = nI 4 from rfl) (by decide) (by decide) dX3_count_90 ?_
      refine zz_topi (nI (a.2.2.2.2.1)) rfl ?_
      exact W.iret (v := (nI (a.2.2.2.2.1))) hx hb hr (fun t9 ht hW => ⟨_, rfl, (by simp (decide := true) only [zq_count, zwm, c_2, c_3, c_4, c_5, c_6, c_7, c_10, not_true_eq_false, not_false_eq_true, and_self, and_true, true_and, and_false, false_and, or_self, or_true, true_or, or_false, false_or, if_true, if_false, ↓reduceIte, Bool.false_eq_true, iff_self, iff_true, iff_false, true_iff, false_iff, Nat.add_zero, Nat.or_zero]), ht⟩) (fun _ h => absurd h List.not_mem_nil) dX3_count_91
    by_cases c_11 : p0 = 6
    · refine lv_tableIn (tgt := 92) (off := 68) hx hb dX3_count_24 (by rw [c_11]; decide) (by rw [c_11]; decide) (by rw [c_11]; rfl) (by decide) ?_
      refine lv_aload_n hx hb dX3_count_92 rfl (lv_at hl 0 rfl) ?_
      refine va_get (ci := 3) (C := RX3) (T := TX3) (N := 7) hx hb hts hiX3 hown hK hP 0 rfl rfl 2 (by decide) hf16 (fun _ h9 => h9) rfl dX3_count_93 ?_
      refine lv_iconst (v := 0) hx hb dX3_count_96 (by decide) ?_
      refine zz_zald hx hb hK hP 3 1 rfl rfl (i := 0) (show (0 : Int32) = nI 0 from rfl) (by decide) (by decide) dX3_count_97 ?_
      refine lv_if_eq (tgt := 105) hx hb dX3_count_98 (by decide) (fun c_12 => ?_) (fun c_12 => ?_)
      · rw [hk0] at c_12
        replace c_12 := zB_f rfl c_12
        refine lv_iconst (v := 0) hx hb dX3_count_105 (by decide) ?_
        refine lv_aload_n hx hb dX3_count_106 rfl (lv_at hl 0 rfl) ?_
        refine va_get (ci := 3) (C := RX3) (T := TX3) (N := 7) hx hb hts hiX3 hown hK hP 0 rfl rfl 2 (by decide) hf16 (fun _ h9 => h9) rfl dX3_count_107 ?_
        refine lv_iconst (v := 1) hx hb dX3_count_110 (by decide) ?_
        refine zz_zald hx hb hK hP 3 1 rfl rfl (i := 1) (show (1 : Int32) = nI 1 from rfl) (by decide) (by decide) dX3_count_111 ?_
        refine lv_if_eq (tgt := 119) hx hb dX3_count_112 (by decide) (fun c_13 => ?_) (fun c_13 => ?_)
        · rw [hk1] at c_13
          replace c_13 := zB_f rfl c_13
          refine lv_iconst (v := 0) hx hb dX3_count_119 (by decide) ?_
          refine lv_iadd hx hb dX3_count_120 ?_
          exact W.iret (v := (0 + 0)) hx hb hr (fun t9 ht hW => ⟨_, rfl, (by simp (decide := true) only [zq_count, c_2, c_3, c_4, c_5, c_6, c_7, c_10, c_11, c_12, c_13, not_true_eq_false, not_false_eq_true, and_self, and_true, true_and, and_false, false_and, or_self, or_true, true_or, or_false, false_or, if_true, if_false, ↓reduceIte, Bool.false_eq_true, iff_self, iff_true, iff_false, true_iff, false_iff, Nat.add_zero, Nat.or_zero]; rw [zik_sum hik]; simp (decide := true) only [c_2, c_3, c_4, c_5, c_6, c_7, c_10, c_11, c_12, c_13, not_true_eq_false, not_false_eq_true, and_self, and_true, true_and, and_false, false_and, or_self, or_true, true_or, or_false, false_or, if_true, if_false, ↓reduceIte, Bool.false_eq_true, iff_self, iff_true, iff_false, true_iff, false_iff, Nat.add_zero, Nat.or_zero]), ht⟩) (fun _ h => absurd h List.not_mem_nil) dX3_count_121
        · rw [hk1] at c_13
          replace c_13 := zB_t rfl c_13
          refine lv_iconst (v := 2) hx hb dX3_count_115 (by decide) ?_
          refine lv_goto (tgt := 120) hx hb dX3_count_116 (by decide) ?_
          refine lv_iadd hx hb dX3_count_120 ?_
          exact W.iret (v := (0 + 2)) hx hb hr (fun t9 ht hW => ⟨_, rfl, (by simp (decide := true) only [zq_count, c_2, c_3, c_4, c_5, c_6, c_7, c_10, c_11, c_12, c_13, not_true_eq_false, not_false_eq_true, and_self, and_true, true_and, and_false, false_and, or_self, or_true, true_or, or_false, false_or, if_true, if_false, ↓reduceIte, Bool.false_eq_true, iff_self, iff_true, iff_false, true_iff, false_iff, Nat.add_zero, Nat.or_zero]; rw [zik_sum hik]; simp (decide := true) only [c_2, c_3, c_4, c_5, c_6, c_7, c_10, c_11, c_12, c_13, not_true_eq_false, not_false_eq_true, and_self, and_true, true_and, and_false, false_and, or_self, or_true, true_or, or_false, false_or, if_true, if_false, ↓reduceIte, Bool.false_eq_true, iff_self, iff_true, iff_false, true_iff, false_iff, Nat.add_zero, Nat.or_zero]), ht⟩) (fun _ h => absurd h List.not_mem_nil) dX3_count_121
      · rw [hk0] at c_12
        replace c_12 := zB_t rfl c_12
        refine lv_iconst (v := 1) hx hb dX3_count_101 (by decide) ?_
        refine lv_goto (tgt := 106) hx hb dX3_count_102 (by decide) ?_
        refine lv_aload_n hx hb dX3_count_106 rfl (lv_at hl 0 rfl) ?_
        refine va_get (ci := 3) (C := RX3) (T := TX3) (N := 7) hx hb hts hiX3 hown hK hP 0 rfl rfl 2 (by decide) hf16 (fun _ h9 => h9) rfl dX3_count_107 ?_
        refine lv_iconst (v := 1) hx hb dX3_count_110 (by decide) ?_
        refine zz_zald hx hb hK hP 3 1 rfl rfl (i := 1) (show (1 : Int32) = nI 1 from rfl) (by decide) (by decide) dX3_count_111 ?_
        refine lv_if_eq (tgt := 119) hx hb dX3_count_112 (by decide) (fun c_14 => ?_) (fun c_14 => ?_)
        · rw [hk1] at c_14
          replace c_14 := zB_f rfl c_14
          refine lv_iconst (v := 0) hx hb dX3_count_119 (by decide) ?_
          refine lv_iadd hx hb dX3_count_120 ?_
          exact W.iret (v := (1 + 0)) hx hb hr (fun t9 ht hW => ⟨_, rfl, (by simp (decide := true) only [zq_count, c_2, c_3, c_4, c_5, c_6, c_7, c_10, c_11, c_12, c_14, not_true_eq_false, not_false_eq_true, and_self, and_true, true_and, and_false, false_and, or_self, or_true, true_or, or_false, false_or, if_true, if_false, ↓reduceIte, Bool.false_eq_true, iff_self, iff_true, iff_false, true_iff, false_iff, Nat.add_zero, Nat.or_zero]; rw [zik_sum hik]; simp (decide := true) only [c_2, c_3, c_4, c_5, c_6, c_7, c_10, c_11, c_12, c_14, not_true_eq_false, not_false_eq_true, and_self, and_true, true_and, and_false, false_and, or_self, or_true, true_or, or_false, false_or, if_true, if_false, ↓reduceIte, Bool.false_eq_true, iff_self, iff_true, iff_false, true_iff, false_iff, Nat.add_zero, Nat.or_zero]), ht⟩) (fun _ h => absurd h List.not_mem_nil) dX3_count_121
        · rw [hk1] at c_14
          replace c_14 := zB_t rfl c_14
          refine lv_iconst (v := 2) hx hb dX3_count_115 (by decide) ?_
          refine lv_goto (tgt := 120) hx hb dX3_count_116 (by decide) ?_
          refine lv_iadd hx hb dX3_count_120 ?_
          exact W.iret (v := (1 + 2)) hx hb hr (fun t9 ht hW => ⟨_, rfl, (by simp (decide := true) only [zq_count, c_2, c_3, c_4, c_5, c_6, c_7, c_10, c_11, c_12, c_14, not_true_eq_false, not_false_eq_true, and_self, and_true, true_and, and_false, false_and, or_self, or_true, true_or, or_false, false_or, if_true, if_false, ↓reduceIte, Bool.false_eq_true, iff_self, iff_true, iff_false, true_iff, false_iff, Nat.add_zero, Nat.or_zero]; rw [zik_sum hik]; simp (decide := true) only [c_2, c_3, c_4, c_5, c_6, c_7, c_10, c_11, c_12, c_14, not_true_eq_false, not_false_eq_true, and_self, and_true, true_and, and_false, false_and, or_self, or_true, true_or, or_false, false_or, if_true, if_false, ↓reduceIte, Bool.false_eq_true, iff_self, iff_true, iff_false, true_iff, false_iff, Nat.add_zero, Nat.or_zero]), ht⟩) (fun _ h => absurd h List.not_mem_nil) dX3_count_121
    refine lv_tableOut (tgt := 122) hx hb dX3_count_24 (by have q0 : (p0).toInt ≠ 0 := zsw 0 c_3; have q1 : (p0).toInt ≠ 1 := zsw 1 c_4; have q2 : (p0).toInt ≠ 2 := zsw 2 c_5; have q3 : (p0).toInt ≠ 3 := zsw 3 c_6; have q4 : (p0).toInt ≠ 4 := zsw 4 c_7; have q5 : (p0).toInt ≠ 5 := zsw 5 c_10; have q6 : (p0).toInt ≠ 6 := zsw 6 c_11; omega) (by decide) ?_
    refine lv_bipush (v := (-2)) hx hb dX3_count_122 (by decide) ?_
    exact W.iret (v := (-2)) hx hb hr (fun t9 ht hW => ⟨_, rfl, (by simp only [zq_count, zcc_out c_2, c_3, c_4, c_5, c_6, c_7, c_10, c_11, not_true_eq_false, not_false_eq_true, and_self, and_true, true_and, and_false, false_and, or_self, or_true, true_or, or_false, false_or, if_true, if_false, ↓reduceIte, Bool.false_eq_true, iff_self, iff_true, iff_false, true_iff, false_iff, Nat.add_zero, Nat.or_zero]), ht⟩) (fun _ h => absurd h List.not_mem_nil) dX3_count_124
  · replace c_2 := zB_t er_1 c_2
    obtain ⟨k0, hk0a, rfl⟩ := zrange (lo := 10) (hi := 13) (fun q => c_2 (Or.inl q)) ((zin_iff13 c_2)) (by decide) (by decide)
    refine lv_aload_n hx hb dX3_count_11 rfl (lv_at hl 0 rfl) ?_
    refine va_get (ci := 3) (C := RX3) (T := TX3) (N := 7) hx hb hts hiX3 hown hK hP 0 rfl rfl 0 (by decide) hf7 (fun _ h9 => h9) rfl dX3_count_12 ?_
    refine lv_iconst (v := 5) hx hb dX3_count_15 (by decide) ?_
    refine lv_iload_n hx hb dX3_count_16 rfl (lv_at hl 1 rfl) ?_
    refine lv_iadd hx hb dX3_count_17 ?_
    refine zz_topi (nI (5 + (10 + k0))) (zz_addn (show (5 : Int32) = nI 5 from rfl) rfl) ?_
    refine lv_bipush (v := 10) hx hb dX3_count_18 (by decide) ?_
    refine lv_isub hx hb dX3_count_20 ?_
    refine zz_topi (nI ((5 + (10 + k0)) - 10)) (zz_subn rfl (show (10 : Int32) = nI 10 from rfl) (by omega)) ?_
    refine zz_iald hx hb hK hP 1 0 rfl rfl (i := 5 + k0) (congrArg nI (by omega)) (by omega) (by decide) dX3_count_21 ?_
    refine zz_topi (a.2.2.2.2.2.2 k0) (zst_ck _ (by omega)) ?_
    exact W.iret (v := (a.2.2.2.2.2.2 k0)) hx hb hr (fun t9 ht hW => ⟨_, rfl, (by rw [zq_count, if_neg (by intro q; exact absurd ((nI_eq (a := 10 + k0) (b := 0) (by omega) (by decide)).mp q) (by omega)), if_neg (by intro q; exact absurd ((nI_eq (a := 10 + k0) (b := 1) (by omega) (by decide)).mp q) (by omega)), if_neg (by intro q; exact absurd ((nI_eq (a := 10 + k0) (b := 2) (by omega) (by decide)).mp q) (by omega)), if_neg (by intro q; exact absurd ((nI_eq (a := 10 + k0) (b := 3) (by omega) (by decide)).mp q) (by omega)), if_neg (by intro q; exact absurd ((nI_eq (a := 10 + k0) (b := 4) (by omega) (by decide)).mp q) (by omega)), if_neg (by intro q; exact absurd ((nI_eq (a := 10 + k0) (b := 5) (by omega) (by decide)).mp q) (by omega)), if_neg (by intro q; exact absurd ((nI_eq (a := 10 + k0) (b := 6) (by omega) (by decide)).mp q) (by omega))]; exact (zst_ck a (k := k0) (by omega)).symm.trans (zcount_5 (k0 := k0) (by omega))), ht⟩) (fun _ h => absurd h List.not_mem_nil) dX3_count_22
