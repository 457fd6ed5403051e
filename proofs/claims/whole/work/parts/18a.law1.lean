/-! The law: what stands fixed, what each turn of its loop begins and ends with, one lemma a call. -/
def zLC (p : Program) (s : State) (m : MethodId) (c : Code) (b L : Nat) (xs : Nat → Int32) (D : va_G) (cI cZ : ClassId) (ta : Nat) : Prop :=
  p.tables.exec = Jvm.exec ∧ c.code = cL_law ∧ c.maxLocals = 4 ∧ s.vm.findClass RL = some m.cls ∧ (∀ w ∈ wsL_law, w.before #[Value.ref b] s = true) ∧ va_X b L xs s s.heap ∧ b < s.heap.size ∧ zG D (zTy cI cZ) s.heap.size ta s s.heap
def zLI (D : va_G) (cI cZ : ClassId) (q r : Nat → Nat) (s : State) (H : Heap) (locs : List Loc) : Prop :=
  ∃ (a b0 b1 : ZA) (ik : Nat) (ha : Nat → Int32) (t g : ZR) (im kp lf rw fn : Nat → Int32) (kn : Nat), zInv a ∧ zCp b0 b1 ik im kp ∧ va_P D vwCl (zcX cI q a b0 b1 ik ha t g ++ zcM cI cZ r (zst a) im kp lf rw fn kn) H ∧ va_D (zA s.heap.size) (zcX cI q a b0 b1 ik ha t g ++ zcM cI cZ r (zst a) im kp lf rw fn kn) ∧ va_S (zA s.heap.size) s.heap H locs
section ZS
variable {p : Program} {l : Launch} {e : Env} {R : Room} {s : State} {m : MethodId} {args : Array Value} {below : List Frame} {meth : Method} {c : Code} {H : Heap} {locs : List Loc} {cells slots : Nat} {Q : State → Prop}
variable {pc : Nat} {ls : Array Slot} {rest : List Value} {cc : ByteArray} {A : Nat → Prop}
theorem zz_sld {b L j : Nat} {xs : Nat → Int32} {x : Int32} (hexec : p.tables.exec = Jvm.exec) (hb : c.code = cc) (hX : va_X b L xs s s.heap) (hbl : b < s.heap.size) (hbA : ¬ A b) (hS : va_S A s.heap H locs) (hx : x = nI j) (hj : j < L) (hL : L < 2 ^ 31) (hdg : decode cc pc = .ok (.iaload, 1))
    (kk : W p l e R s m args below meth c H locs cells slots Q (F0 m (pc + 1) ls (.int (xs j) :: rest))) : W p l e R s m args below meth c H locs cells slots Q (F0 m pc ls (.int x :: .ref b :: rest)) := by
  subst hx
  refine va_sld hexec hb hX hbl hbA hS (vp_in_nI hj hL) hdg ?_
  rw [nI_clamp (Nat.lt_trans hj hL)]
  exact kk
end ZS
set_option maxHeartbeats 4000000 in
set_option maxRecDepth 100000 in
theorem zl_deep {p : Program} {l : Launch} {e : Env} {s : State} {m : MethodId} {below : List Frame} {meth : Method} {c : Code} {b L i ta : Nat} {xs : Nat → Int32} {D : va_G} {cI cZ : ClassId} {q r : Nat → Nat} {H : Heap} {locs : List Loc} {ls : Array Slot} {Q : State → Prop} (C0 : zLC p s m c b L xs D cI cZ ta) (hi : i + 3 ≤ L) (hL : L ≤ 1536) (hI0 : zLI D cI cZ q r s H locs) (hl : lv_has ls 4 [(0, .ref b), (1, .ref (q 0)), (2, .ref (r 0)), (3, .int (nI i))]) (kk : ∀ (H : Heap) (locs : List Loc), zLI D cI cZ q r s H locs → W p l e room_1 s m #[Value.ref b] below meth c H locs 24 300 Q (F0 m 770 ls [])) : W p l e room_1 s m #[Value.ref b] below meth c H locs 24 300 Q (F0 m 140 ls []) := by
  obtain ⟨hx, hb, hml, hown, hts, hX, hbl, hG⟩ := C0
  obtain ⟨a, b0, b1, ik, ha, t, g, im, kp, lf, rw, fn, kn, hI, hC, hP, hD, hS⟩ := hI0
  have hK := hG.1
  have hA : ∀ y, s.heap.size ≤ y → zA s.heap.size y := fun _ h => h
  have hAz : ∀ y, zA s.heap.size y → s.heap.size ≤ y := fun _ h => h
  have hbA : ¬ zA s.heap.size b := Nat.not_le.mpr hbl
  refine lv_aload_n hx hb dL_law_140 rfl (lv_at hl 1 rfl) ?_
  refine lv_aload_n hx hb dL_law_141 rfl (lv_at hl 0 rfl) ?_
  refine lv_iload_n hx hb dL_law_142 rfl (lv_at hl 3 rfl) ?_
  refine lv_iconst (v := 1) hx hb dL_law_143 (by decide) ?_
  refine lv_iadd hx hb dL_law_144 ?_
  refine zz_sld (j := i + 1) hx hb hX hbl hbA hS (nI_add i 1) (by omega) (by omega) dL_law_145 ?_
  refine zz_nVi (ct := fun (u : ZA) => zcX cI q u b0 b1 ik ha t g) (cn := fun (u : ZA) => zcX cI q u b0 b1 ik ha t g ++ zcM cI cZ r (zst a) im kp lf rw fn kn) (cs := zcX cI q a b0 b1 ik ha t g) (As := [.int (xs (i + 1))]) (rest := []) ⟨hx, hb, hml, hown, hts⟩ (c_X2_deep l D cI cZ s.heap.size ta H.size q a b0 b1 ik ha t g (xs (i + 1)) hI) (fun _ => rfl) (cwV 1 hts gL_law_X2_deep rfl rfl rfl (by decide +kernel) ⟨Nat.le_of_ble_eq_true rfl, Nat.le_of_ble_eq_true rfl⟩) (va_recv hK hP (ci := 2) (q0 := 0) rfl rfl) hP hD [0, 1, 2, 3, 4, 5, 6, 7, 8, 9, 10, 11, 12, 13, 14, 15, 16] [17, 18, 19, 20, 21, 22, 23] [7, 8, 9, 10, 11, 12, 13, 14, 15, 16, 17, 18, 19, 20, 21, 22, 23, 0, 1, 2, 3, 4, 5, 6] rfl (by decide) (by decide) (by decide) (nW := 24) rfl (by decide) (fun _ => rfl) (fun _ => rfl) (fun _ => rfl) hG hS hA hAz rfl hl.1 rfl (Nat.le_of_ble_eq_true rfl) ⟨Nat.le_of_ble_eq_true rfl, Nat.le_of_ble_eq_true rfl⟩ dL_law_146 (fun r1 u1 H locs e1 hP hD hS => ?_)
  refine lv_aload_n hx hb dL_law_149 rfl (lv_at hl 2 rfl) ?_
  refine lv_aload_n hx hb dL_law_150 rfl (lv_at hl 0 rfl) ?_
  refine lv_iload_n hx hb dL_law_151 rfl (lv_at hl 3 rfl) ?_
  refine lv_iconst (v := 1) hx hb dL_law_152 (by decide) ?_
  refine lv_iadd hx hb dL_law_153 ?_
  refine zz_sld (j := i + 1) hx hb hX hbl hbA hS (nI_add i 1) (by omega) (by omega) dL_law_154 ?_
  refine zz_nVi (ct := fun (u : ZA) => zcM cI cZ r (zst u) im kp lf rw fn kn) (cn := fun (u : ZA) => zcX cI q u1 b0 b1 ik ha t g ++ zcM cI cZ r (zst u) im kp lf rw fn kn) (cs := zcM cI cZ r (zst a) im kp lf rw fn kn) (As := [.int (xs (i + 1))]) (rest := [.int r1]) ⟨hx, hb, hml, hown, hts⟩ (c_X3_deep l D cI cZ s.heap.size ta H.size r a im kp lf rw fn kn (xs (i + 1)) hI) (fun _ => rfl) (cwV 1 hts gL_law_X3_deep rfl rfl rfl (by decide +kernel) ⟨Nat.le_of_ble_eq_true rfl, Nat.le_of_ble_eq_true rfl⟩) (va_recv hK hP (ci := 3) (q0 := 17) rfl rfl) hP hD [17, 18, 19, 20, 21, 22, 23] [0, 1, 2, 3, 4, 5, 6, 7, 8, 9, 10, 11, 12, 13, 14, 15, 16] [0, 1, 2, 3, 4, 5, 6, 7, 8, 9, 10, 11, 12, 13, 14, 15, 16, 17, 18, 19, 20, 21, 22, 23] rfl (by decide) (by decide) (by decide) (nW := 24) rfl (by decide) (fun _ => rfl) (fun _ => rfl) (fun _ => rfl) hG hS hA hAz rfl hl.1 rfl (Nat.le_of_ble_eq_true rfl) ⟨Nat.le_of_ble_eq_true rfl, Nat.le_of_ble_eq_true rfl⟩ dL_law_155 (fun r2 u2 H locs e2 hP hD hS => ?_)
  obtain ⟨rfl, rfl⟩ := Prod.mk.inj (e1.trans e2.symm)
  have hI1 : zInv u1 := by have h9 := congrArg Prod.snd e1; rw [show u1 = _ from h9]; exact zI_deep hI _
  refine lv_icmp_eq (tgt := 770) hx hb dL_law_158 (by decide) (fun _ => kk _ _ ⟨u1, b0, b1, ik, ha, t, g, im, kp, lf, rw, fn, kn, hI1, hC, hP, hD, hS⟩) (fun c9 => absurd rfl c9)
set_option maxHeartbeats 4000000 in
set_option maxRecDepth 100000 in
theorem zl_loss {p : Program} {l : Launch} {e : Env} {s : State} {m : MethodId} {below : List Frame} {meth : Method} {c : Code} {b L i ta : Nat} {xs : Nat → Int32} {D : va_G} {cI cZ : ClassId} {q r : Nat → Nat} {H : Heap} {locs : List Loc} {ls : Array Slot} {Q : State → Prop} (C0 : zLC p s m c b L xs D cI cZ ta) (hi : i + 3 ≤ L) (hL : L ≤ 1536) (hI0 : zLI D cI cZ q r s H locs) (hl : lv_has ls 4 [(0, .ref b), (1, .ref (q 0)), (2, .ref (r 0)), (3, .int (nI i))]) (kk : ∀ (H : Heap) (locs : List Loc), zLI D cI cZ q r s H locs → W p l e room_1 s m #[Value.ref b] below meth c H locs 24 300 Q (F0 m 770 ls [])) : W p l e room_1 s m #[Value.ref b] below meth c H locs 24 300 Q (F0 m 163 ls []) := by
  obtain ⟨hx, hb, hml, hown, hts, hX, hbl, hG⟩ := C0
  obtain ⟨a, b0, b1, ik, ha, t, g, im, kp, lf, rw, fn, kn, hI, hC, hP, hD, hS⟩ := hI0
  have hK := hG.1
  have hA : ∀ y, s.heap.size ≤ y → zA s.heap.size y := fun _ h => h
  have hAz : ∀ y, zA s.heap.size y → s.heap.size ≤ y := fun _ h => h
  have hbA : ¬ zA s.heap.size b := Nat.not_le.mpr hbl
  refine lv_aload_n hx hb dL_law_163 rfl (lv_at hl 1 rfl) ?_
  refine lv_aload_n hx hb dL_law_164 rfl (lv_at hl 0 rfl) ?_
  refine lv_iload_n hx hb dL_law_165 rfl (lv_at hl 3 rfl) ?_
  refine lv_iconst (v := 1) hx hb dL_law_166 (by decide) ?_
  refine lv_iadd hx hb dL_law_167 ?_
  refine zz_sld (j := i + 1) hx hb hX hbl hbA hS (nI_add i 1) (by omega) (by omega) dL_law_168 ?_
  refine lv_aload_n hx hb dL_law_169 rfl (lv_at hl 0 rfl) ?_
  refine lv_iload_n hx hb dL_law_170 rfl (lv_at hl 3 rfl) ?_
  refine lv_iconst (v := 2) hx hb dL_law_171 (by decide) ?_
  refine lv_iadd hx hb dL_law_172 ?_
  refine zz_sld (j := i + 2) hx hb hX hbl hbA hS (nI_add i 2) (by omega) (by omega) dL_law_173 ?_
  refine zz_nVi (ct := fun (u : ZA) => zcX cI q u b0 b1 ik ha t g) (cn := fun (u : ZA) => zcX cI q u b0 b1 ik ha t g ++ zcM cI cZ r (zst a) im kp lf rw fn kn) (cs := zcX cI q a b0 b1 ik ha t g) (As := [.int (xs (i + 1)), .int (xs (i + 2))]) (rest := []) ⟨hx, hb, hml, hown, hts⟩ (c_X2_loss l D cI cZ s.heap.size ta H.size q a b0 b1 ik ha t g (xs (i + 1)) (xs (i + 2)) hI) (fun _ => rfl) (cwV 2 hts gL_law_X2_loss rfl rfl rfl (by decide +kernel) ⟨Nat.le_of_ble_eq_true rfl, Nat.le_of_ble_eq_true rfl⟩) (va_recv hK hP (ci := 2) (q0 := 0) rfl rfl) hP hD [0, 1, 2, 3, 4, 5, 6, 7, 8, 9, 10, 11, 12, 13, 14, 15, 16] [17, 18, 19, 20, 21, 22, 23] [7, 8, 9, 10, 11, 12, 13, 14, 15, 16, 17, 18, 19, 20, 21, 22, 23, 0, 1, 2, 3, 4, 5, 6] rfl (by decide) (by decide) (by decide) (nW := 24) rfl (by decide) (fun _ => rfl) (fun _ => rfl) (fun _ => rfl) hG hS hA hAz rfl hl.1 rfl (Nat.le_of_ble_eq_true rfl) ⟨Nat.le_of_ble_eq_true rfl, Nat.le_of_ble_eq_true rfl⟩ dL_law_174 (fun r1 u1 H locs e1 hP hD hS => ?_)
  refine lv_aload_n hx hb dL_law_177 rfl (lv_at hl 2 rfl) ?_
  refine lv_aload_n hx hb dL_law_178 rfl (lv_at hl 0 rfl) ?_
  refine lv_iload_n hx hb dL_law_179 rfl (lv_at hl 3 rfl) ?_
  refine lv_iconst (v := 1) hx hb dL_law_180 (by decide) ?_
  refine lv_iadd hx hb dL_law_181 ?_
  refine zz_sld (j := i + 1) hx hb hX hbl hbA hS (nI_add i 1) (by omega) (by omega) dL_law_182 ?_
  refine lv_aload_n hx hb dL_law_183 rfl (lv_at hl 0 rfl) ?_
  refine lv_iload_n hx hb dL_law_184 rfl (lv_at hl 3 rfl) ?_
  refine lv_iconst (v := 2) hx hb dL_law_185 (by decide) ?_
  refine lv_iadd hx hb dL_law_186 ?_
  refine zz_sld (j := i + 2) hx hb hX hbl hbA hS (nI_add i 2) (by omega) (by omega) dL_law_187 ?_
  refine zz_nVi (ct := fun (u : ZA) => zcM cI cZ r (zst u) im kp lf rw fn kn) (cn := fun (u : ZA) => zcX cI q u1 b0 b1 ik ha t g ++ zcM cI cZ r (zst u) im kp lf rw fn kn) (cs := zcM cI cZ r (zst a) im kp lf rw fn kn) (As := [.int (xs (i + 1)), .int (xs (i + 2))]) (rest := [.int r1]) ⟨hx, hb, hml, hown, hts⟩ (c_X3_loss l D cI cZ s.heap.size ta H.size r a im kp lf rw fn kn (xs (i + 1)) (xs (i + 2)) hI) (fun _ => rfl) (cwV 2 hts gL_law_X3_loss rfl rfl rfl (by decide +kernel) ⟨Nat.le_of_ble_eq_true rfl, Nat.le_of_ble_eq_true rfl⟩) (va_recv hK hP (ci := 3) (q0 := 17) rfl rfl) hP hD [17, 18, 19, 20, 21, 22, 23] [0, 1, 2, 3, 4, 5, 6, 7, 8, 9, 10, 11, 12, 13, 14, 15, 16] [0, 1, 2, 3, 4, 5, 6, 7, 8, 9, 10, 11, 12, 13, 14, 15, 16, 17, 18, 19, 20, 21, 22, 23] rfl (by decide) (by decide) (by decide) (nW := 24) rfl (by decide) (fun _ => rfl) (fun _ => rfl) (fun _ => rfl) hG hS hA hAz rfl hl.1 rfl (Nat.le_of_ble_eq_true rfl) ⟨Nat.le_of_ble_eq_true rfl, Nat.le_of_ble_eq_true rfl⟩ dL_law_188 (fun r2 u2 H locs e2 hP hD hS => ?_)
  obtain ⟨rfl, rfl⟩ := Prod.mk.inj (e1.trans e2.symm)
  have hI1 : zInv u1 := by have h9 := congrArg Prod.snd e1; rw [show u1 = _ from h9]; exact zI_loss hI _ _
  refine lv_icmp_eq (tgt := 770) hx hb dL_law_191 (by decide) (fun _ => kk _ _ ⟨u1, b0, b1, ik, ha, t, g, im, kp, lf, rw, fn, kn, hI1, hC, hP, hD, hS⟩) (fun c9 => absurd rfl c9)
set_option maxHeartbeats 4000000 in
set_option maxRecDepth 100000 in
theorem zl_split {p : Program} {l : Launch} {e : Env} {s : State} {m : MethodId} {below : List Frame} {meth : Method} {c : Code} {b L i ta : Nat} {xs : Nat → Int32} {D : va_G} {cI cZ : ClassId} {q r : Nat → Nat} {H : Heap} {locs : List Loc} {ls : Array Slot} {Q : State → Prop} (C0 : zLC p s m c b L xs D cI cZ ta) (hi : i + 3 ≤ L) (hL : L ≤ 1536) (hI0 : zLI D cI cZ q r s H locs) (hl : lv_has ls 4 [(0, .ref b), (1, .ref (q 0)), (2, .ref (r 0)), (3, .int (nI i))]) (kk : ∀ (H : Heap) (locs : List Loc), zLI D cI cZ q r s H locs → W p l e room_1 s m #[Value.ref b] below meth c H locs 24 300 Q (F0 m 770 ls [])) : W p l e room_1 s m #[Value.ref b] below meth c H locs 24 300 Q (F0 m 196 ls []) := by
  obtain ⟨hx, hb, hml, hown, hts, hX, hbl, hG⟩ := C0
  obtain ⟨a, b0, b1, ik, ha, t, g, im, kp, lf, rw, fn, kn, hI, hC, hP, hD, hS⟩ := hI0
  have hK := hG.1
  have hA : ∀ y, s.heap.size ≤ y → zA s.heap.size y := fun _ h => h
  have hAz : ∀ y, zA s.heap.size y → s.heap.size ≤ y := fun _ h => h
  have hbA : ¬ zA s.heap.size b := Nat.not_le.mpr hbl
  refine lv_aload_n hx hb dL_law_196 rfl (lv_at hl 1 rfl) ?_
  refine lv_aload_n hx hb dL_law_197 rfl (lv_at hl 0 rfl) ?_
  refine lv_iload_n hx hb dL_law_198 rfl (lv_at hl 3 rfl) ?_
  refine lv_iconst (v := 1) hx hb dL_law_199 (by decide) ?_
  refine lv_iadd hx hb dL_law_200 ?_
  refine zz_sld (j := i + 1) hx hb hX hbl hbA hS (nI_add i 1) (by omega) (by omega) dL_law_201 ?_
  refine lv_aload_n hx hb dL_law_202 rfl (lv_at hl 0 rfl) ?_
  refine lv_iload_n hx hb dL_law_203 rfl (lv_at hl 3 rfl) ?_
  refine lv_iconst (v := 2) hx hb dL_law_204 (by decide) ?_
  refine lv_iadd hx hb dL_law_205 ?_
  refine zz_sld (j := i + 2) hx hb hX hbl hbA hS (nI_add i 2) (by omega) (by omega) dL_law_206 ?_
  refine zz_cVl (cs := zcX cI q a b0 b1 ik ha t g) (As := [.int (xs (i + 1)), .int (xs (i + 2))]) (rest := []) ⟨hx, hb, hml, hown, hts⟩ (c_X2_split l D cI cZ s.heap.size ta q a b0 b1 ik ha t g (xs (i + 1)) (xs (i + 2)) hI) (cwV 2 hts gL_law_X2_split rfl rfl rfl (by decide +kernel) ⟨Nat.le_of_ble_eq_true rfl, Nat.le_of_ble_eq_true rfl⟩) (va_recv hK hP (ci := 2) (q0 := 0) rfl rfl) (hP.sub (ws' := zcX cI q a b0 b1 ik ha t g) [0, 1, 2, 3, 4, 5, 6, 7, 8, 9, 10, 11, 12, 13, 14, 15, 16] rfl) (hD.sub (ws' := zcX cI q a b0 b1 ik ha t g) [0, 1, 2, 3, 4, 5, 6, 7, 8, 9, 10, 11, 12, 13, 14, 15, 16] (by decide) rfl) hG hS hAz rfl hl.1 rfl (Nat.le_of_ble_eq_true rfl) ⟨Nat.le_of_ble_eq_true rfl, Nat.le_of_ble_eq_true rfl⟩ dL_law_207 (fun r1 e1 => ?_)
  refine lv_aload_n hx hb dL_law_210 rfl (lv_at hl 2 rfl) ?_
  refine lv_aload_n hx hb dL_law_211 rfl (lv_at hl 0 rfl) ?_
  refine lv_iload_n hx hb dL_law_212 rfl (lv_at hl 3 rfl) ?_
  refine lv_iconst (v := 1) hx hb dL_law_213 (by decide) ?_
  refine lv_iadd hx hb dL_law_214 ?_
  refine zz_sld (j := i + 1) hx hb hX hbl hbA hS (nI_add i 1) (by omega) (by omega) dL_law_215 ?_
  refine lv_aload_n hx hb dL_law_216 rfl (lv_at hl 0 rfl) ?_
  refine lv_iload_n hx hb dL_law_217 rfl (lv_at hl 3 rfl) ?_
  refine lv_iconst (v := 2) hx hb dL_law_218 (by decide) ?_
  refine lv_iadd hx hb dL_law_219 ?_
  refine zz_sld (j := i + 2) hx hb hX hbl hbA hS (nI_add i 2) (by omega) (by omega) dL_law_220 ?_
  refine zz_cVl (cs := zcM cI cZ r (zst a) im kp lf rw fn kn) (As := [.int (xs (i + 1)), .int (xs (i + 2))]) (rest := [.long r1]) ⟨hx, hb, hml, hown, hts⟩ (c_X3_split l D cI cZ s.heap.size ta r a im kp lf rw fn kn (xs (i + 1)) (xs (i + 2)) hI) (cwV 2 hts gL_law_X3_split rfl rfl rfl (by decide +kernel) ⟨Nat.le_of_ble_eq_true rfl, Nat.le_of_ble_eq_true rfl⟩) (va_recv hK hP (ci := 3) (q0 := 17) rfl rfl) (hP.sub (ws' := zcM cI cZ r (zst a) im kp lf rw fn kn) [17, 18, 19, 20, 21, 22, 23] rfl) (hD.sub (ws' := zcM cI cZ r (zst a) im kp lf rw fn kn) [17, 18, 19, 20, 21, 22, 23] (by decide) rfl) hG hS hAz rfl hl.1 rfl (Nat.le_of_ble_eq_true rfl) ⟨Nat.le_of_ble_eq_true rfl, Nat.le_of_ble_eq_true rfl⟩ dL_law_221 (fun r2 e2 => ?_)
  refine W.lcmp hx hb dL_law_224 ?_
  refine lv_if_eq (tgt := 770) hx hb dL_law_225 (by decide) (fun _ => kk _ _ ⟨a, b0, b1, ik, ha, t, g, im, kp, lf, rw, fn, kn, hI, hC, hP, hD, hS⟩) (fun c9 => absurd (by rw [e1, e2]; exact zcmp_self _) c9)
set_option maxHeartbeats 4000000 in
set_option maxRecDepth 100000 in
theorem zl_rank {p : Program} {l : Launch} {e : Env} {s : State} {m : MethodId} {below : List Frame} {meth : Method} {c : Code} {b L i ta : Nat} {xs : Nat → Int32} {D : va_G} {cI cZ : ClassId} {q r : Nat → Nat} {H : Heap} {locs : List Loc} {ls : Array Slot} {Q : State → Prop} (C0 : zLC p s m c b L xs D cI cZ ta) (hi : i + 3 ≤ L) (hL : L ≤ 1536) (hI0 : zLI D cI cZ q r s H locs) (hl : lv_has ls 4 [(0, .ref b), (1, .ref (q 0)), (2, .ref (r 0)), (3, .int (nI i))]) (kk : ∀ (H : Heap) (locs : List Loc), zLI D cI cZ q r s H locs → W p l e room_1 s m #[Value.ref b] below meth c H locs 24 300 Q (F0 m 770 ls [])) : W p l e room_1 s m #[Value.ref b] below meth c H locs 24 300 Q (F0 m 230 ls []) := by
  obtain ⟨hx, hb, hml, hown, hts, hX, hbl, hG⟩ := C0
  obtain ⟨a, b0, b1, ik, ha, t, g, im, kp, lf, rw, fn, kn, hI, hC, hP, hD, hS⟩ := hI0
  have hK := hG.1
  have hA : ∀ y, s.heap.size ≤ y → zA s.heap.size y := fun _ h => h
  have hAz : ∀ y, zA s.heap.size y → s.heap.size ≤ y := fun _ h => h
  have hbA : ¬ zA s.heap.size b := Nat.not_le.mpr hbl
  refine lv_aload_n hx hb dL_law_230 rfl (lv_at hl 1 rfl) ?_
  refine lv_aload_n hx hb dL_law_231 rfl (lv_at hl 0 rfl) ?_
  refine lv_iload_n hx hb dL_law_232 rfl (lv_at hl 3 rfl) ?_
  refine lv_iconst (v := 1) hx hb dL_law_233 (by decide) ?_
  refine lv_iadd hx hb dL_law_234 ?_
  refine zz_sld (j := i + 1) hx hb hX hbl hbA hS (nI_add i 1) (by omega) (by omega) dL_law_235 ?_
  refine lv_aload_n hx hb dL_law_236 rfl (lv_at hl 0 rfl) ?_
  refine lv_iload_n hx hb dL_law_237 rfl (lv_at hl 3 rfl) ?_
  refine lv_iconst (v := 2) hx hb dL_law_238 (by decide) ?_
  refine lv_iadd hx hb dL_law_239 ?_
  refine zz_sld (j := i + 2) hx hb hX hbl hbA hS (nI_add i 2) (by omega) (by omega) dL_law_240 ?_
  refine zz_cVi (cs := zcX cI q a b0 b1 ik ha t g) (As := [.int (xs (i + 1)), .int (xs (i + 2))]) (rest := []) ⟨hx, hb, hml, hown, hts⟩ (c_X2_rank l D cI cZ s.heap.size ta q a b0 b1 ik ha t g (xs (i + 1)) (xs (i + 2)) hI) (cwV 2 hts gL_law_X2_rank rfl rfl rfl (by decide +kernel) ⟨Nat.le_of_ble_eq_true rfl, Nat.le_of_ble_eq_true rfl⟩) (va_recv hK hP (ci := 2) (q0 := 0) rfl rfl) (hP.sub (ws' := zcX cI q a b0 b1 ik ha t g) [0, 1, 2, 3, 4, 5, 6, 7, 8, 9, 10, 11, 12, 13, 14, 15, 16] rfl) (hD.sub (ws' := zcX cI q a b0 b1 ik ha t g) [0, 1, 2, 3, 4, 5, 6, 7, 8, 9, 10, 11, 12, 13, 14, 15, 16] (by decide) rfl) hG hS hAz rfl hl.1 rfl (Nat.le_of_ble_eq_true rfl) ⟨Nat.le_of_ble_eq_true rfl, Nat.le_of_ble_eq_true rfl⟩ dL_law_241 (fun r1 e1 => ?_)
  refine lv_aload_n hx hb dL_law_244 rfl (lv_at hl 2 rfl) ?_
  refine lv_aload_n hx hb dL_law_245 rfl (lv_at hl 0 rfl) ?_
  refine lv_iload_n hx hb dL_law_246 rfl (lv_at hl 3 rfl) ?_
  refine lv_iconst (v := 1) hx hb dL_law_247 (by decide) ?_
  refine lv_iadd hx hb dL_law_248 ?_
  refine zz_sld (j := i + 1) hx hb hX hbl hbA hS (nI_add i 1) (by omega) (by omega) dL_law_249 ?_
  refine lv_aload_n hx hb dL_law_250 rfl (lv_at hl 0 rfl) ?_
  refine lv_iload_n hx hb dL_law_251 rfl (lv_at hl 3 rfl) ?_
  refine lv_iconst (v := 2) hx hb dL_law_252 (by decide) ?_
  refine lv_iadd hx hb dL_law_253 ?_
  refine zz_sld (j := i + 2) hx hb hX hbl hbA hS (nI_add i 2) (by omega) (by omega) dL_law_254 ?_
  refine zz_cVi (cs := zcM cI cZ r (zst a) im kp lf rw fn kn) (As := [.int (xs (i + 1)), .int (xs (i + 2))]) (rest := [.int r1]) ⟨hx, hb, hml, hown, hts⟩ (c_X3_rank l D cI cZ s.heap.size ta r a im kp lf rw fn kn (xs (i + 1)) (xs (i + 2)) hI) (cwV 2 hts gL_law_X3_rank rfl rfl rfl (by decide +kernel) ⟨Nat.le_of_ble_eq_true rfl, Nat.le_of_ble_eq_true rfl⟩) (va_recv hK hP (ci := 3) (q0 := 17) rfl rfl) (hP.sub (ws' := zcM cI cZ r (zst a) im kp lf rw fn kn) [17, 18, 19, 20, 21, 22, 23] rfl) (hD.sub (ws' := zcM cI cZ r (zst a) im kp lf rw fn kn) [17, 18, 19, 20, 21, 22, 23] (by decide) rfl) hG hS hAz rfl hl.1 rfl (Nat.le_of_ble_eq_true rfl) ⟨Nat.le_of_ble_eq_true rfl, Nat.le_of_ble_eq_true rfl⟩ dL_law_255 (fun r2 e2 => ?_)
  refine lv_icmp_eq (tgt := 770) hx hb dL_law_258 (by decide) (fun _ => kk _ _ ⟨a, b0, b1, ik, ha, t, g, im, kp, lf, rw, fn, kn, hI, hC, hP, hD, hS⟩) (fun c9 => absurd (e1.trans e2.symm) c9)
set_option maxHeartbeats 4000000 in
set_option maxRecDepth 100000 in
theorem zl_freeze {p : Program} {l : Launch} {e : Env} {s : State} {m : MethodId} {below : List Frame} {meth : Method} {c : Code} {b L i ta : Nat} {xs : Nat → Int32} {D : va_G} {cI cZ : ClassId} {q r : Nat → Nat} {H : Heap} {locs : List Loc} {ls : Array Slot} {Q : State → Prop} (C0 : zLC p s m c b L xs D cI cZ ta) (hi : i + 3 ≤ L) (hL : L ≤ 1536) (hI0 : zLI D cI cZ q r s H locs) (hl : lv_has ls 4 [(0, .ref b), (1, .ref (q 0)), (2, .ref (r 0)), (3, .int (nI i))]) (kk : ∀ (H : Heap) (locs : List Loc), zLI D cI cZ q r s H locs → W p l e room_1 s m #[Value.ref b] below meth c H locs 24 300 Q (F0 m 770 ls [])) : W p l e room_1 s m #[Value.ref b] below meth c H locs 24 300 Q (F0 m 263 ls []) := by
  obtain ⟨hx, hb, hml, hown, hts, hX, hbl, hG⟩ := C0
  obtain ⟨a, b0, b1, ik, ha, t, g, im, kp, lf, rw, fn, kn, hI, hC, hP, hD, hS⟩ := hI0
  have hK := hG.1
  have hA : ∀ y, s.heap.size ≤ y → zA s.heap.size y := fun _ h => h
  have hAz : ∀ y, zA s.heap.size y → s.heap.size ≤ y := fun _ h => h
  have hbA : ¬ zA s.heap.size b := Nat.not_le.mpr hbl
  refine lv_aload_n hx hb dL_law_263 rfl (lv_at hl 1 rfl) ?_
  refine lv_aload_n hx hb dL_law_264 rfl (lv_at hl 0 rfl) ?_
  refine lv_iload_n hx hb dL_law_265 rfl (lv_at hl 3 rfl) ?_
  refine lv_iconst (v := 1) hx hb dL_law_266 (by decide) ?_
  refine lv_iadd hx hb dL_law_267 ?_
  refine zz_sld (j := i + 1) hx hb hX hbl hbA hS (nI_add i 1) (by omega) (by omega) dL_law_268 ?_
  refine zz_nVi (ct := fun (u : ZA) => zcX cI q u b0 b1 ik ha t g) (cn := fun (u : ZA) => zcX cI q u b0 b1 ik ha t g ++ zcM cI cZ r (zst a) im kp lf rw fn kn) (cs := zcX cI q a b0 b1 ik ha t g) (As := [.int (xs (i + 1))]) (rest := []) ⟨hx, hb, hml, hown, hts⟩ (c_X2_freeze l D cI cZ s.heap.size ta H.size q a b0 b1 ik ha t g (xs (i + 1)) hI) (fun _ => rfl) (cwV 1 hts gL_law_X2_freeze rfl rfl rfl (by decide +kernel) ⟨Nat.le_of_ble_eq_true rfl, Nat.le_of_ble_eq_true rfl⟩) (va_recv hK hP (ci := 2) (q0 := 0) rfl rfl) hP hD [0, 1, 2, 3, 4, 5, 6, 7, 8, 9, 10, 11, 12, 13, 14, 15, 16] [17, 18, 19, 20, 21, 22, 23] [7, 8, 9, 10, 11, 12, 13, 14, 15, 16, 17, 18, 19, 20, 21, 22, 23, 0, 1, 2, 3, 4, 5, 6] rfl (by decide) (by decide) (by decide) (nW := 24) rfl (by decide) (fun _ => rfl) (fun _ => rfl) (fun _ => rfl) hG hS hA hAz rfl hl.1 rfl (Nat.le_of_ble_eq_true rfl) ⟨Nat.le_of_ble_eq_true rfl, Nat.le_of_ble_eq_true rfl⟩ dL_law_269 (fun r1 u1 H locs e1 hP hD hS => ?_)
  refine lv_aload_n hx hb dL_law_272 rfl (lv_at hl 2 rfl) ?_
  refine lv_aload_n hx hb dL_law_273 rfl (lv_at hl 0 rfl) ?_
  refine lv_iload_n hx hb dL_law_274 rfl (lv_at hl 3 rfl) ?_
  refine lv_iconst (v := 1) hx hb dL_law_275 (by decide) ?_
  refine lv_iadd hx hb dL_law_276 ?_
  refine zz_sld (j := i + 1) hx hb hX hbl hbA hS (nI_add i 1) (by omega) (by omega) dL_law_277 ?_
  refine zz_nVi (ct := fun (u : ZA) => zcM cI cZ r (zst u) im kp lf rw fn kn) (cn := fun (u : ZA) => zcX cI q u1 b0 b1 ik ha t g ++ zcM cI cZ r (zst u) im kp lf rw fn kn) (cs := zcM cI cZ r (zst a) im kp lf rw fn kn) (As := [.int (xs (i + 1))]) (rest := [.int r1]) ⟨hx, hb, hml, hown, hts⟩ (c_X3_freeze l D cI cZ s.heap.size ta H.size r a im kp lf rw fn kn (xs (i + 1)) hI) (fun _ => rfl) (cwV 1 hts gL_law_X3_freeze rfl rfl rfl (by decide +kernel) ⟨Nat.le_of_ble_eq_true rfl, Nat.le_of_ble_eq_true rfl⟩) (va_recv hK hP (ci := 3) (q0 := 17) rfl rfl) hP hD [17, 18, 19, 20, 21, 22, 23] [0, 1, 2, 3, 4, 5, 6, 7, 8, 9, 10, 11, 12, 13, 14, 15, 16] [0, 1, 2, 3, 4, 5, 6, 7, 8, 9, 10, 11, 12, 13, 14, 15, 16, 17, 18, 19, 20, 21, 22, 23] rfl (by decide) (by decide) (by decide) (nW := 24) rfl (by decide) (fun _ => rfl) (fun _ => rfl) (fun _ => rfl) hG hS hA hAz rfl hl.1 rfl (Nat.le_of_ble_eq_true rfl) ⟨Nat.le_of_ble_eq_true rfl, Nat.le_of_ble_eq_true rfl⟩ dL_law_278 (fun r2 u2 H locs e2 hP hD hS => ?_)
  obtain ⟨rfl, rfl⟩ := Prod.mk.inj (e1.trans e2.symm)
  have hI1 : zInv u1 := by have h9 := congrArg Prod.snd e1; rw [show u1 = _ from h9]; exact zI_freeze hI _
  refine lv_icmp_eq (tgt := 770) hx hb dL_law_281 (by decide) (fun _ => kk _ _ ⟨u1, b0, b1, ik, ha, t, g, im, kp, lf, rw, fn, kn, hI1, hC, hP, hD, hS⟩) (fun c9 => absurd rfl c9)
set_option maxHeartbeats 4000000 in
set_option maxRecDepth 100000 in
theorem zl_best {p : Program} {l : Launch} {e : Env} {s : State} {m : MethodId} {below : List Frame} {meth : Method} {c : Code} {b L i ta : Nat} {xs : Nat → Int32} {D : va_G} {cI cZ : ClassId} {q r : Nat → Nat} {H : Heap} {locs : List Loc} {ls : Array Slot} {Q : State → Prop} (C0 : zLC p s m c b L xs D cI cZ ta) (hi : i + 3 ≤ L) (hL : L ≤ 1536) (hI0 : zLI D cI cZ q r s H locs) (hl : lv_has ls 4 [(0, .ref b), (1, .ref (q 0)), (2, .ref (r 0)), (3, .int (nI i))]) (kk : ∀ (H : Heap) (locs : List Loc), zLI D cI cZ q r s H locs → W p l e room_1 s m #[Value.ref b] below meth c H locs 24 300 Q (F0 m 770 ls [])) : W p l e room_1 s m #[Value.ref b] below meth c H locs 24 300 Q (F0 m 286 ls []) := by
  obtain ⟨hx, hb, hml, hown, hts, hX, hbl, hG⟩ := C0
  obtain ⟨a, b0, b1, ik, ha, t, g, im, kp, lf, rw, fn, kn, hI, hC, hP, hD, hS⟩ := hI0
  have hK := hG.1
  have hA : ∀ y, s.heap.size ≤ y → zA s.heap.size y := fun _ h => h
  have hAz : ∀ y, zA s.heap.size y → s.heap.size ≤ y := fun _ h => h
  have hbA : ¬ zA s.heap.size b := Nat.not_le.mpr hbl
  refine lv_aload_n hx hb dL_law_286 rfl (lv_at hl 1 rfl) ?_
  refine lv_aload_n hx hb dL_law_287 rfl (lv_at hl 0 rfl) ?_
  refine lv_iload_n hx hb dL_law_288 rfl (lv_at hl 3 rfl) ?_
  refine lv_iconst (v := 1) hx hb dL_law_289 (by decide) ?_
  refine lv_iadd hx hb dL_law_290 ?_
  refine zz_sld (j := i + 1) hx hb hX hbl hbA hS (nI_add i 1) (by omega) (by omega) dL_law_291 ?_
  refine zz_nVi (ct := fun (u : ZA) => zcX cI q u b0 b1 ik ha t g) (cn := fun (u : ZA) => zcX cI q u b0 b1 ik ha t g ++ zcM cI cZ r (zst a) im kp lf rw fn kn) (cs := zcX cI q a b0 b1 ik ha t g) (As := [.int (xs (i + 1))]) (rest := []) ⟨hx, hb, hml, hown, hts⟩ (c_X2_best l D cI cZ s.heap.size ta H.size q a b0 b1 ik ha t g (xs (i + 1)) hI) (fun _ => rfl) (cwV 1 hts gL_law_X2_best rfl rfl rfl (by decide +kernel) ⟨Nat.le_of_ble_eq_true rfl, Nat.le_of_ble_eq_true rfl⟩) (va_recv hK hP (ci := 2) (q0 := 0) rfl rfl) hP hD [0, 1, 2, 3, 4, 5, 6, 7, 8, 9, 10, 11, 12, 13, 14, 15, 16] [17, 18, 19, 20, 21, 22, 23] [7, 8, 9, 10, 11, 12, 13, 14, 15, 16, 17, 18, 19, 20, 21, 22, 23, 0, 1, 2, 3, 4, 5, 6] rfl (by decide) (by decide) (by decide) (nW := 24) rfl (by decide) (fun _ => rfl) (fun _ => rfl) (fun _ => rfl) hG hS hA hAz rfl hl.1 rfl (Nat.le_of_ble_eq_true rfl) ⟨Nat.le_of_ble_eq_true rfl, Nat.le_of_ble_eq_true rfl⟩ dL_law_292 (fun r1 u1 H locs e1 hP hD hS => ?_)
  refine lv_aload_n hx hb dL_law_295 rfl (lv_at hl 2 rfl) ?_
  refine lv_aload_n hx hb dL_law_296 rfl (lv_at hl 0 rfl) ?_
  refine lv_iload_n hx hb dL_law_297 rfl (lv_at hl 3 rfl) ?_
  refine lv_iconst (v := 1) hx hb dL_law_298 (by decide) ?_
  refine lv_iadd hx hb dL_law_299 ?_
  refine zz_sld (j := i + 1) hx hb hX hbl hbA hS (nI_add i 1) (by omega) (by omega) dL_law_300 ?_
  refine zz_nVi (ct := fun (u : ZA) => zcM cI cZ r (zst u) im kp lf rw fn kn) (cn := fun (u : ZA) => zcX cI q u1 b0 b1 ik ha t g ++ zcM cI cZ r (zst u) im kp lf rw fn kn) (cs := zcM cI cZ r (zst a) im kp lf rw fn kn) (As := [.int (xs (i + 1))]) (rest := [.int r1]) ⟨hx, hb, hml, hown, hts⟩ (c_X3_best l D cI cZ s.heap.size ta H.size r a im kp lf rw fn kn (xs (i + 1)) hI) (fun _ => rfl) (cwV 1 hts gL_law_X3_best rfl rfl rfl (by decide +kernel) ⟨Nat.le_of_ble_eq_true rfl, Nat.le_of_ble_eq_true rfl⟩) (va_recv hK hP (ci := 3) (q0 := 17) rfl rfl) hP hD [17, 18, 19, 20, 21, 22, 23] [0, 1, 2, 3, 4, 5, 6, 7, 8, 9, 10, 11, 12, 13, 14, 15, 16] [0, 1, 2, 3, 4, 5, 6, 7, 8, 9, 10, 11, 12, 13, 14, 15, 16, 17, 18, 19, 20, 21, 22, 23] rfl (by decide) (by decide) (by decide) (nW := 24) rfl (by decide) (fun _ => rfl) (fun _ => rfl) (fun _ => rfl) hG hS hA hAz rfl hl.1 rfl (Nat.le_of_ble_eq_true rfl) ⟨Nat.le_of_ble_eq_true rfl, Nat.le_of_ble_eq_true rfl⟩ dL_law_301 (fun r2 u2 H locs e2 hP hD hS => ?_)
  obtain ⟨rfl, rfl⟩ := Prod.mk.inj (e1.trans e2.symm)
  have hI1 : zInv u1 := by have h9 := congrArg Prod.snd e1; rw [show u1 = _ from h9]; exact zI_best hI _
  refine lv_icmp_eq (tgt := 770) hx hb dL_law_304 (by decide) (fun _ => kk _ _ ⟨u1, b0, b1, ik, ha, t, g, im, kp, lf, rw, fn, kn, hI1, hC, hP, hD, hS⟩) (fun c9 => absurd rfl c9)
set_option maxHeartbeats 4000000 in
set_option maxRecDepth 100000 in
theorem zl_coded {p : Program} {l : Launch} {e : Env} {s : State} {m : MethodId} {below : List Frame} {meth : Method} {c : Code} {b L i ta : Nat} {xs : Nat → Int32} {D : va_G} {cI cZ : ClassId} {q r : Nat → Nat} {H : Heap} {locs : List Loc} {ls : Array Slot} {Q : State → Prop} (C0 : zLC p s m c b L xs D cI cZ ta) (hi : i + 3 ≤ L) (hL : L ≤ 1536) (hI0 : zLI D cI cZ q r s H locs) (hl : lv_has ls 4 [(0, .ref b), (1, .ref (q 0)), (2, .ref (r 0)), (3, .int (nI i))]) (kk : ∀ (H : Heap) (locs : List Loc), zLI D cI cZ q r s H locs → W p l e room_1 s m #[Value.ref b] below meth c H locs 24 300 Q (F0 m 770 ls [])) : W p l e room_1 s m #[Value.ref b] below meth c H locs 24 300 Q (F0 m 309 ls []) := by
  obtain ⟨hx, hb, hml, hown, hts, hX, hbl, hG⟩ := C0
  obtain ⟨a, b0, b1, ik, ha, t, g, im, kp, lf, rw, fn, kn, hI, hC, hP, hD, hS⟩ := hI0
  have hK := hG.1
  have hA : ∀ y, s.heap.size ≤ y → zA s.heap.size y := fun _ h => h
  have hAz : ∀ y, zA s.heap.size y → s.heap.size ≤ y := fun _ h => h
  have hbA : ¬ zA s.heap.size b := Nat.not_le.mpr hbl
  refine lv_aload_n hx hb dL_law_309 rfl (lv_at hl 1 rfl) ?_
  refine lv_aload_n hx hb dL_law_310 rfl (lv_at hl 0 rfl) ?_
  refine lv_iload_n hx hb dL_law_311 rfl (lv_at hl 3 rfl) ?_
  refine lv_iconst (v := 1) hx hb dL_law_312 (by decide) ?_
  refine lv_iadd hx hb dL_law_313 ?_
  refine zz_sld (j := i + 1) hx hb hX hbl hbA hS (nI_add i 1) (by omega) (by omega) dL_law_314 ?_
  refine zz_cVi (cs := zcX cI q a b0 b1 ik ha t g) (As := [.int (xs (i + 1))]) (rest := []) ⟨hx, hb, hml, hown, hts⟩ (c_X2_coded l D cI cZ s.heap.size ta q a b0 b1 ik ha t g (xs (i + 1)) hI) (cwV 1 hts gL_law_X2_coded rfl rfl rfl (by decide +kernel) ⟨Nat.le_of_ble_eq_true rfl, Nat.le_of_ble_eq_true rfl⟩) (va_recv hK hP (ci := 2) (q0 := 0) rfl rfl) (hP.sub (ws' := zcX cI q a b0 b1 ik ha t g) [0, 1, 2, 3, 4, 5, 6, 7, 8, 9, 10, 11, 12, 13, 14, 15, 16] rfl) (hD.sub (ws' := zcX cI q a b0 b1 ik ha t g) [0, 1, 2, 3, 4, 5, 6, 7, 8, 9, 10, 11, 12, 13, 14, 15, 16] (by decide) rfl) hG hS hAz rfl hl.1 rfl (Nat.le_of_ble_eq_true rfl) ⟨Nat.le_of_ble_eq_true rfl, Nat.le_of_ble_eq_true rfl⟩ dL_law_315 (fun r1 e1 => ?_)
  refine lv_aload_n hx hb dL_law_318 rfl (lv_at hl 2 rfl) ?_
  refine lv_aload_n hx hb dL_law_319 rfl (lv_at hl 0 rfl) ?_
  refine lv_iload_n hx hb dL_law_320 rfl (lv_at hl 3 rfl) ?_
  refine lv_iconst (v := 1) hx hb dL_law_321 (by decide) ?_
  refine lv_iadd hx hb dL_law_322 ?_
  refine zz_sld (j := i + 1) hx hb hX hbl hbA hS (nI_add i 1) (by omega) (by omega) dL_law_323 ?_
  refine zz_cVi (cs := zcM cI cZ r (zst a) im kp lf rw fn kn) (As := [.int (xs (i + 1))]) (rest := [.int r1]) ⟨hx, hb, hml, hown, hts⟩ (c_X3_coded l D cI cZ s.heap.size ta r a im kp lf rw fn kn (xs (i + 1)) hI) (cwV 1 hts gL_law_X3_coded rfl rfl rfl (by decide +kernel) ⟨Nat.le_of_ble_eq_true rfl, Nat.le_of_ble_eq_true rfl⟩) (va_recv hK hP (ci := 3) (q0 := 17) rfl rfl) (hP.sub (ws' := zcM cI cZ r (zst a) im kp lf rw fn kn) [17, 18, 19, 20, 21, 22, 23] rfl) (hD.sub (ws' := zcM cI cZ r (zst a) im kp lf rw fn kn) [17, 18, 19, 20, 21, 22, 23] (by decide) rfl) hG hS hAz rfl hl.1 rfl (Nat.le_of_ble_eq_true rfl) ⟨Nat.le_of_ble_eq_true rfl, Nat.le_of_ble_eq_true rfl⟩ dL_law_324 (fun r2 e2 => ?_)
  refine lv_icmp_eq (tgt := 770) hx hb dL_law_327 (by decide) (fun _ => kk _ _ ⟨a, b0, b1, ik, ha, t, g, im, kp, lf, rw, fn, kn, hI, hC, hP, hD, hS⟩) (fun c9 => absurd (e1.trans e2.symm) c9)
set_option maxHeartbeats 4000000 in
set_option maxRecDepth 100000 in
theorem zl_word {p : Program} {l : Launch} {e : Env} {s : State} {m : MethodId} {below : List Frame} {meth : Method} {c : Code} {b L i ta : Nat} {xs : Nat → Int32} {D : va_G} {cI cZ : ClassId} {q r : Nat → Nat} {H : Heap} {locs : List Loc} {ls : Array Slot} {Q : State → Prop} (C0 : zLC p s m c b L xs D cI cZ ta) (hi : i + 3 ≤ L) (hL : L ≤ 1536) (hI0 : zLI D cI cZ q r s H locs) (hl : lv_has ls 4 [(0, .ref b), (1, .ref (q 0)), (2, .ref (r 0)), (3, .int (nI i))]) (kk : ∀ (H : Heap) (locs : List Loc), zLI D cI cZ q r s H locs → W p l e room_1 s m #[Value.ref b] below meth c H locs 24 300 Q (F0 m 770 ls [])) : W p l e room_1 s m #[Value.ref b] below meth c H locs 24 300 Q (F0 m 332 ls []) := by
  obtain ⟨hx, hb, hml, hown, hts, hX, hbl, hG⟩ := C0
  obtain ⟨a, b0, b1, ik, ha, t, g, im, kp, lf, rw, fn, kn, hI, hC, hP, hD, hS⟩ := hI0
  have hK := hG.1
  have hA : ∀ y, s.heap.size ≤ y → zA s.heap.size y := fun _ h => h
  have hAz : ∀ y, zA s.heap.size y → s.heap.size ≤ y := fun _ h => h
  have hbA : ¬ zA s.heap.size b := Nat.not_le.mpr hbl
  refine lv_aload_n hx hb dL_law_332 rfl (lv_at hl 1 rfl) ?_
  refine lv_aload_n hx hb dL_law_333 rfl (lv_at hl 0 rfl) ?_
  refine lv_iload_n hx hb dL_law_334 rfl (lv_at hl 3 rfl) ?_
  refine lv_iconst (v := 1) hx hb dL_law_335 (by decide) ?_
  refine lv_iadd hx hb dL_law_336 ?_
  refine zz_sld (j := i + 1) hx hb hX hbl hbA hS (nI_add i 1) (by omega) (by omega) dL_law_337 ?_
  refine zz_cVi (cs := zcX cI q a b0 b1 ik ha t g) (As := [.int (xs (i + 1))]) (rest := []) ⟨hx, hb, hml, hown, hts⟩ (c_X2_word l D cI cZ s.heap.size ta q a b0 b1 ik ha t g (xs (i + 1)) hI) (cwV 1 hts gL_law_X2_word rfl rfl rfl (by decide +kernel) ⟨Nat.le_of_ble_eq_true rfl, Nat.le_of_ble_eq_true rfl⟩) (va_recv hK hP (ci := 2) (q0 := 0) rfl rfl) (hP.sub (ws' := zcX cI q a b0 b1 ik ha t g) [0, 1, 2, 3, 4, 5, 6, 7, 8, 9, 10, 11, 12, 13, 14, 15, 16] rfl) (hD.sub (ws' := zcX cI q a b0 b1 ik ha t g) [0, 1, 2, 3, 4, 5, 6, 7, 8, 9, 10, 11, 12, 13, 14, 15, 16] (by decide) rfl) hG hS hAz rfl hl.1 rfl (Nat.le_of_ble_eq_true rfl) ⟨Nat.le_of_ble_eq_true rfl, Nat.le_of_ble_eq_true rfl⟩ dL_law_338 (fun r1 e1 => ?_)
  refine lv_aload_n hx hb dL_law_341 rfl (lv_at hl 2 rfl) ?_
  refine lv_aload_n hx hb dL_law_342 rfl (lv_at hl 0 rfl) ?_
  refine lv_iload_n hx hb dL_law_343 rfl (lv_at hl 3 rfl) ?_
  refine lv_iconst (v := 1) hx hb dL_law_344 (by decide) ?_
  refine lv_iadd hx hb dL_law_345 ?_
  refine zz_sld (j := i + 1) hx hb hX hbl hbA hS (nI_add i 1) (by omega) (by omega) dL_law_346 ?_
  refine zz_cVi (cs := zcM cI cZ r (zst a) im kp lf rw fn kn) (As := [.int (xs (i + 1))]) (rest := [.int r1]) ⟨hx, hb, hml, hown, hts⟩ (c_X3_word l D cI cZ s.heap.size ta r a im kp lf rw fn kn (xs (i + 1)) hI) (cwV 1 hts gL_law_X3_word rfl rfl rfl (by decide +kernel) ⟨Nat.le_of_ble_eq_true rfl, Nat.le_of_ble_eq_true rfl⟩) (va_recv hK hP (ci := 3) (q0 := 17) rfl rfl) (hP.sub (ws' := zcM cI cZ r (zst a) im kp lf rw fn kn) [17, 18, 19, 20, 21, 22, 23] rfl) (hD.sub (ws' := zcM cI cZ r (zst a) im kp lf rw fn kn) [17, 18, 19, 20, 21, 22, 23] (by decide) rfl) hG hS hAz rfl hl.1 rfl (Nat.le_of_ble_eq_true rfl) ⟨Nat.le_of_ble_eq_true rfl, Nat.le_of_ble_eq_true rfl⟩ dL_law_347 (fun r2 e2 => ?_)
  refine lv_icmp_eq (tgt := 770) hx hb dL_law_350 (by decide) (fun _ => kk _ _ ⟨a, b0, b1, ik, ha, t, g, im, kp, lf, rw, fn, kn, hI, hC, hP, hD, hS⟩) (fun c9 => absurd (e1.trans e2.symm) c9)
