/-! Constructors: new rows are of the two known array classes. -/
section ZN
variable {p : Program} {l : Launch} {e : Env} {R : Room} {s : State} {m : MethodId} {args : Array Value} {below : List Frame} {meth : Method} {c : Code} {H : Heap} {locs : List Loc} {cells slots : Nat} {Q : State → Prop}
variable {pc : Nat} {ls : Array Slot} {rest : List Value} {cc : ByteArray} {D : va_G} {A : Nat → Prop} {ws : va_W} {cI cZ : ClassId}
theorem zz_newI {N : Nat} {x : Int32} (hexec : p.tables.exec = Jvm.exec) (hb : c.code = cc) (harr : (Cond.arrayClass .int).before args s = true) (hK : va_K D vwCl (zTy cI cZ) s) (hP : va_P D vwCl ws H) (hD : va_D A ws) (hS : va_S A s.heap H locs) (hA : ∀ q, s.heap.size ≤ q → A q) (hx : x = nI N) (hN : N < 2 ^ 20) (hby : N * componentBytes .int ≤ 536870912) (hcells : cells + 1 ≤ R.cells) (hslots : slots + N ≤ R.slots) (hdg : decode cc pc = .ok (.newarray .int, 2))
    (kk : ∀ (q : Nat) (H1 : Heap), va_P D vwCl (ws ++ [(q, .inl (cI, N, .inl (fun _ => 0)))]) H1 → va_D A (ws ++ [(q, .inl (cI, N, .inl (fun _ => 0)))]) → va_S A s.heap H1 locs → W p l e R s m args below meth c H1 locs (cells + 1) (slots + N) Q (F0 m (pc + 2) ls (.ref q :: rest))) : W p l e R s m args below meth c H locs cells slots Q (F0 m pc ls (.int x :: rest)) := by
  subst hx
  refine va_newa (atype := .int) (ty := .int) (a0 := (N, .inl (fun _ => 0))) hexec hb harr rfl hK hP hD hS hA (fun _ => rfl) (nI_pos (by omega)) (nI_clamp (by omega)) hby hcells hslots hdg (fun q cA H1 hK1 hP1 hD1 hS1 => ?_)
  have h1 : s.vm.findClass ("[" ++ FieldType.int.toString) = some cA := (hK1.2 2 (cA, .int) rfl).2
  have h2 : s.vm.findClass ("[" ++ FieldType.int.toString) = some cI := (hK1.2 0 (cI, .int) rfl).2
  have e : cA = cI := Option.some.inj (h1.symm.trans h2)
  subst e
  exact kk q H1 hP1 hD1 hS1
theorem zz_newZ {N : Nat} {x : Int32} (hexec : p.tables.exec = Jvm.exec) (hb : c.code = cc) (harr : (Cond.arrayClass .boolean).before args s = true) (hK : va_K D vwCl (zTy cI cZ) s) (hP : va_P D vwCl ws H) (hD : va_D A ws) (hS : va_S A s.heap H locs) (hA : ∀ q, s.heap.size ≤ q → A q) (hx : x = nI N) (hN : N < 2 ^ 20) (hby : N * componentBytes .boolean ≤ 536870912) (hcells : cells + 1 ≤ R.cells) (hslots : slots + N ≤ R.slots) (hdg : decode cc pc = .ok (.newarray .boolean, 2))
    (kk : ∀ (q : Nat) (H1 : Heap), va_P D vwCl (ws ++ [(q, .inl (cZ, N, .inl (fun _ => 0)))]) H1 → va_D A (ws ++ [(q, .inl (cZ, N, .inl (fun _ => 0)))]) → va_S A s.heap H1 locs → W p l e R s m args below meth c H1 locs (cells + 1) (slots + N) Q (F0 m (pc + 2) ls (.ref q :: rest))) : W p l e R s m args below meth c H locs cells slots Q (F0 m pc ls (.int x :: rest)) := by
  subst hx
  refine va_newa (atype := .boolean) (ty := .boolean) (a0 := (N, .inl (fun _ => 0))) hexec hb harr rfl hK hP hD hS hA (fun _ => rfl) (nI_pos (by omega)) (nI_clamp (by omega)) hby hcells hslots hdg (fun q cA H1 hK1 hP1 hD1 hS1 => ?_)
  have h1 : s.vm.findClass ("[" ++ FieldType.boolean.toString) = some cA := (hK1.2 2 (cA, .boolean) rfl).2
  have h2 : s.vm.findClass ("[" ++ FieldType.boolean.toString) = some cZ := (hK1.2 1 (cZ, .boolean) rfl).2
  have e : cA = cZ := Option.some.inj (h1.symm.trans h2)
  subst e
  exact kk q H1 hP1 hD1 hS1
end ZN
/-- the facts of a new object -/
abbrev za0 : ZA := (3, 1, 2, 0, 1, (fun _ => 0), (fun _ => 0))
abbrev zr00 : ZR := ((fun _ => 0), (fun _ => 0), 0)
theorem zst_a0 : upd (upd (upd (upd (fun _ => (0 : Int32)) 0 3) 1 1) 2 2) 4 1 = zst za0 := by
  funext k
  match k with
  | 0 => rfl
  | 1 => rfl
  | 2 => rfl
  | 3 => rfl
  | 4 => rfl
  | 5 => rfl
  | 6 => rfl
  | 7 => rfl
  | k + 8 =>
    rw [pk_un (by omega), pk_un (by omega), pk_un (by omega), pk_un (by omega)]
    rfl
set_option maxHeartbeats 4000000 in
set_option maxRecDepth 100000 in
theorem c_X0_init (l : Launch) (D : va_G) (cI cZ : ClassId) (hs ta : Nat) (sz : Nat) (q0 : Nat) : Met l yX0_init wsX0_init ({ frames := 1, cells := 2, slots := 19, locals := 12 }) (va_Pc [.ref q0] (fun U => U.heap.size = sz ∧ zPre D (zTy cI cZ) hs ta ([(q0, .inr (0, [.int 0, .int 0, .int 0, .int 0, .int 0, .null, .null]))]) U)) (va_Qv (fun (u : Nat × Nat) => True) (fun (u : Nat × Nat) t9 => va_P D vwCl (zcF cI q0 u.1 u.2 za0) t9.heap ∧ va_D (va_A ([(q0, .inr (0, [.int 0, .int 0, .int 0, .int 0, .int 0, .null, .null]))]) sz) (zcF cI q0 u.1 u.2 za0)) (va_A ([(q0, .inr (0, [.int 0, .int 0, .int 0, .int 0, .int 0, .null, .null]))]) sz)) 2 19 (va_A ([(q0, .inr (0, [.int 0, .int 0, .int 0, .int 0, .int 0, .null, .null]))]) sz) := by
  refine Met.ofW (cc := cX0_init) (maxL := 1) (ret := none) (by decide) rfl ?_
  intro p e s m args below meth c s₁ B hml hv0
  obtain ⟨rfl, hsz, hP, hD0, hG⟩ := hv0
  have hx := B.exec
  have hb := B.bytes
  have hr := B.returns
  have hts := atoms_spec (ws := wsX0_init) B.pre
  have hown : s.vm.findClass RX0 = some m.cls := findClass_of_methodNamed B.named
  have hlocks := B.notSynchronized
  have hin : meth.name = "<init>" := (name_of_methodNamed B.named B.method).1
  subst hsz
  have hD := hD0.self (sz := s.heap.size)
  have hAz0 : ∀ y9, va_A ([(q0, .inr (0, [.int 0, .int 0, .int 0, .int 0, .int 0, .null, .null]))]) s.heap.size y9 → hs ≤ y9 := zA_of hD0 (fun y9 h => Nat.le_trans hG.2.2.2.2 h) (va_S.rf (A := zA hs) (H0 := s.heap))
  generalize hAe : va_A ([(q0, .inr (0, [.int 0, .int 0, .int 0, .int 0, .int 0, .null, .null]))]) s.heap.size = A at hD hAz0 ⊢
  have hA : ∀ y9 : Nat, s.heap.size ≤ y9 → A y9 := fun y9 h => by rw [← hAe]; exact Or.inr h
  have hS : va_S A s.heap s.heap [] := va_S.rf
  have hAz : ∀ y9, A y9 → hs ≤ y9 := hAz0
  have hK := hG.1
  have hl := lv_entry ([.ref q0]) (n := 1) (Nat.le_of_ble_eq_true rfl)
  rw [lg_entry_eq]
  generalize (lg_sl ([.ref q0]) ++ List.replicate (1 - (lg_sl ([.ref q0])).length) Slot.unset).toArray = ls at hl ⊢
  have hl : lv_has ls 1 [(0, .ref q0)] := hl
  refine lv_aload_n hx hb dX0_init_0 rfl (lv_at hl 0 rfl) ?_
  refine W.objInit hx hb hown (hts (.methodLink RX0 3 objectInit) (List.mem_of_getElem? (i := 1) rfl)) (hts (.instanceMethod objectInit) (List.mem_of_getElem? (i := 2) rfl)) (hts (.code objectInit ⟨#[0xb1]⟩ 1 none) (List.mem_of_getElem? (i := 3) rfl)) rfl (by rw [hml]; exact hl.1) rfl dX0_init_1 (Nat.le_of_ble_eq_true rfl) (Nat.le_of_ble_eq_true rfl) ?_
  refine W.eq (g2 := F0 m 4 ls []) rfl ?_
  refine lv_aload_n hx hb dX0_init_4 rfl (lv_at hl 0 rfl) ?_
  refine lv_iconst (v := 3) hx hb dX0_init_5 (by decide) ?_
  refine zz_topi (nI (3)) (show (3 : Int32) = nI 3 from rfl) ?_
  refine va_put (ci := 0) (v := .int (nI 3)) (ty := .int) (C := RX0) (T := TX0) (N := 7) hx hb hts (fun w h => List.mem_cons_of_mem _ (List.mem_append_right _ h)) tyX0 tyX0_ok nmX0 hown hK hP hD hS 0 rfl rfl 0 (by decide) (hts (.fieldLink RX0 9 "FrozenBits$Facts" "deep" "I") (List.mem_of_getElem? (i := 4) rfl)) (fun _ h9 => h9) rfl (by decide +kernel) rfl rfl (Nat.le_of_ble_eq_true rfl) dX0_init_6 (fun H locs hP hD hS => ?_)
  have hP : va_P D vwCl ([(q0, .inr (0, [.int (nI 3), .int 0, .int 0, .int 0, .int 0, .null, .null]))]) H := hP
  have hD : va_D A ([(q0, .inr (0, [.int (nI 3), .int 0, .int 0, .int 0, .int 0, .null, .null]))]) := hD
  refine lv_aload_n hx hb dX0_init_9 rfl (lv_at hl 0 rfl) ?_
  refine lv_iconst (v := 1) hx hb dX0_init_10 (by decide) ?_
  refine zz_topi (nI (1)) (show (1 : Int32) = nI 1 from rfl) ?_
  refine va_put (ci := 0) (v := .int (nI 1)) (ty := .int) (C := RX0) (T := TX0) (N := 7) hx hb hts (fun w h => List.mem_cons_of_mem _ (List.mem_append_right _ h)) tyX0 tyX0_ok nmX0 hown hK hP hD hS 0 rfl rfl 1 (by decide) (hts (.fieldLink RX0 15 "FrozenBits$Facts" "top" "I") (List.mem_of_getElem? (i := 5) rfl)) (fun _ h9 => h9) rfl (by decide +kernel) rfl rfl (Nat.le_of_ble_eq_true rfl) dX0_init_11 (fun H locs hP hD hS => ?_)
  have hP : va_P D vwCl ([(q0, .inr (0, [.int (nI 3), .int (nI 1), .int 0, .int 0, .int 0, .null, .null]))]) H := hP
  have hD : va_D A ([(q0, .inr (0, [.int (nI 3), .int (nI 1), .int 0, .int 0, .int 0, .null, .null]))]) := hD
  refine lv_aload_n hx hb dX0_init_14 rfl (lv_at hl 0 rfl) ?_
  refine lv_iconst (v := 2) hx hb dX0_init_15 (by decide) ?_
  refine zz_topi (nI (2)) (show (2 : Int32) = nI 2 from rfl) ?_
  refine va_put (ci := 0) (v := .int (nI 2)) (ty := .int) (C := RX0) (T := TX0) (N := 7) hx hb hts (fun w h => List.mem_cons_of_mem _ (List.mem_append_right _ h)) tyX0 tyX0_ok nmX0 hown hK hP hD hS 0 rfl rfl 2 (by decide) (hts (.fieldLink RX0 18 "FrozenBits$Facts" "of" "I") (List.mem_of_getElem? (i := 6) rfl)) (fun _ h9 => h9) rfl (by decide +kernel) rfl rfl (Nat.le_of_ble_eq_true rfl) dX0_init_16 (fun H locs hP hD hS => ?_)
  have hP : va_P D vwCl ([(q0, .inr (0, [.int (nI 3), .int (nI 1), .int (nI 2), .int 0, .int 0, .null, .null]))]) H := hP
  have hD : va_D A ([(q0, .inr (0, [.int (nI 3), .int (nI 1), .int (nI 2), .int 0, .int 0, .null, .null]))]) := hD
  refine lv_aload_n hx hb dX0_init_19 rfl (lv_at hl 0 rfl) ?_
  refine lv_iconst (v := 0) hx hb dX0_init_20 (by decide) ?_
  refine zz_topi (nI (0)) (show (0 : Int32) = nI 0 from rfl) ?_
  refine va_put (ci := 0) (v := .int (nI 0)) (ty := .int) (C := RX0) (T := TX0) (N := 7) hx hb hts (fun w h => List.mem_cons_of_mem _ (List.mem_append_right _ h)) tyX0 tyX0_ok nmX0 hown hK hP hD hS 0 rfl rfl 3 (by decide) (hts (.fieldLink RX0 21 "FrozenBits$Facts" "frozen" "I") (List.mem_of_getElem? (i := 7) rfl)) (fun _ h9 => h9) rfl (by decide +kernel) rfl rfl (Nat.le_of_ble_eq_true rfl) dX0_init_21 (fun H locs hP hD hS => ?_)
  have hP : va_P D vwCl ([(q0, .inr (0, [.int (nI 3), .int (nI 1), .int (nI 2), .int (nI 0), .int 0, .null, .null]))]) H := hP
  have hD : va_D A ([(q0, .inr (0, [.int (nI 3), .int (nI 1), .int (nI 2), .int (nI 0), .int 0, .null, .null]))]) := hD
  refine lv_aload_n hx hb dX0_init_24 rfl (lv_at hl 0 rfl) ?_
  refine lv_iconst (v := 1) hx hb dX0_init_25 (by decide) ?_
  refine zz_topi (nI (1)) (show (1 : Int32) = nI 1 from rfl) ?_
  refine va_put (ci := 0) (v := .int (nI 1)) (ty := .int) (C := RX0) (T := TX0) (N := 7) hx hb hts (fun w h => List.mem_cons_of_mem _ (List.mem_append_right _ h)) tyX0 tyX0_ok nmX0 hown hK hP hD hS 0 rfl rfl 4 (by decide) (hts (.fieldLink RX0 24 "FrozenBits$Facts" "most" "I") (List.mem_of_getElem? (i := 8) rfl)) (fun _ h9 => h9) rfl (by decide +kernel) rfl rfl (Nat.le_of_ble_eq_true rfl) dX0_init_26 (fun H locs hP hD hS => ?_)
  have hP : va_P D vwCl ([(q0, .inr (0, [.int (nI 3), .int (nI 1), .int (nI 2), .int (nI 0), .int (nI 1), .null, .null]))]) H := hP
  have hD : va_D A ([(q0, .inr (0, [.int (nI 3), .int (nI 1), .int (nI 2), .int (nI 0), .int (nI 1), .null, .null]))]) := hD
  refine lv_aload_n hx hb dX0_init_29 rfl (lv_at hl 0 rfl) ?_
  refine lv_bipush (v := 16) hx hb dX0_init_30 (by decide) ?_
  refine zz_newI (N := 16) hx hb (hts (.arrayClass .int) (List.mem_of_getElem? (i := 9) rfl)) hK hP hD hS hA (show (16 : Int32) = nI 16 from rfl) (by decide) (by decide) (Nat.le_of_ble_eq_true rfl) (Nat.le_of_ble_eq_true rfl) dX0_init_32 (fun qn1 H hP hD hS => ?_)
  have hP : va_P D vwCl ([(q0, .inr (0, [.int (nI 3), .int (nI 1), .int (nI 2), .int (nI 0), .int (nI 1), .null, .null])), (qn1, .inl (cI, 16, .inl (fun _ => 0)))]) H := hP
  have hD : va_D A ([(q0, .inr (0, [.int (nI 3), .int (nI 1), .int (nI 2), .int (nI 0), .int (nI 1), .null, .null])), (qn1, .inl (cI, 16, .inl (fun _ => 0)))]) := hD
  refine W.widen (k := 1) (n := 16) (by omega) (by omega) ?_
  refine va_putF (ci := 0) (v := .ref qn1) (ty := .array .int) (C := RX0) (T := TX0) (N := 7) hx hb hts (fun w h => List.mem_cons_of_mem _ (List.mem_append_right _ h)) tyX0 tyX0_ok nmX0 hown hK hP hD hS 0 rfl rfl 5 (by decide) (hts (.fieldLink RX0 27 "FrozenBits$Facts" "measures" "[I") (List.mem_of_getElem? (i := 10) rfl)) (fun _ h9 => h9) rfl hin rfl (by decide +kernel) rfl rfl (Nat.le_of_ble_eq_true rfl) dX0_init_34 (fun H locs hP hD hS => ?_)
  have hP : va_P D vwCl ([(q0, .inr (0, [.int (nI 3), .int (nI 1), .int (nI 2), .int (nI 0), .int (nI 1), .ref qn1, .null])), (qn1, .inl (cI, 16, .inl (fun _ => 0)))]) H := hP
  have hD : va_D A ([(q0, .inr (0, [.int (nI 3), .int (nI 1), .int (nI 2), .int (nI 0), .int (nI 1), .ref qn1, .null])), (qn1, .inl (cI, 16, .inl (fun _ => 0)))]) := hD
  refine lv_aload_n hx hb dX0_init_37 rfl (lv_at hl 0 rfl) ?_
  refine lv_iconst (v := 3) hx hb dX0_init_38 (by decide) ?_
  refine zz_newI (N := 3) hx hb (hts (.arrayClass .int) (List.mem_of_getElem? (i := 9) rfl)) hK hP hD hS hA (show (3 : Int32) = nI 3 from rfl) (by decide) (by decide) (Nat.le_of_ble_eq_true rfl) (Nat.le_of_ble_eq_true rfl) dX0_init_39 (fun qn2 H hP hD hS => ?_)
  have hP : va_P D vwCl ([(q0, .inr (0, [.int (nI 3), .int (nI 1), .int (nI 2), .int (nI 0), .int (nI 1), .ref qn1, .null])), (qn1, .inl (cI, 16, .inl (fun _ => 0))), (qn2, .inl (cI, 3, .inl (fun _ => 0)))]) H := hP
  have hD : va_D A ([(q0, .inr (0, [.int (nI 3), .int (nI 1), .int (nI 2), .int (nI 0), .int (nI 1), .ref qn1, .null])), (qn1, .inl (cI, 16, .inl (fun _ => 0))), (qn2, .inl (cI, 3, .inl (fun _ => 0)))]) := hD
  refine W.widen (k := 2) (n := 19) (by omega) (by omega) ?_
  refine va_putF (ci := 0) (v := .ref qn2) (ty := .array .int) (C := RX0) (T := TX0) (N := 7) hx hb hts (fun w h => List.mem_cons_of_mem _ (List.mem_append_right _ h)) tyX0 tyX0_ok nmX0 hown hK hP hD hS 0 rfl rfl 6 (by decide) (hts (.fieldLink RX0 31 "FrozenBits$Facts" "checks" "[I") (List.mem_of_getElem? (i := 11) rfl)) (fun _ h9 => h9) rfl hin rfl (by decide +kernel) rfl rfl (Nat.le_of_ble_eq_true rfl) dX0_init_41 (fun H locs hP hD hS => ?_)
  have hP : va_P D vwCl ([(q0, .inr (0, [.int (nI 3), .int (nI 1), .int (nI 2), .int (nI 0), .int (nI 1), .ref qn1, .ref qn2])), (qn1, .inl (cI, 16, .inl (fun _ => 0))), (qn2, .inl (cI, 3, .inl (fun _ => 0)))]) H := hP
  have hD : va_D A ([(q0, .inr (0, [.int (nI 3), .int (nI 1), .int (nI 2), .int (nI 0), .int (nI 1), .ref qn1, .ref qn2])), (qn1, .inl (cI, 16, .inl (fun _ => 0))), (qn2, .inl (cI, 3, .inl (fun _ => 0)))]) := hD
  exact W.vret hx hb hr (fun t9 ht hW => ⟨⟨(qn1, qn2), rfl, trivial, zP_ht ht hP, hD⟩, hS.F ht⟩) hS.2.2 dX0_init_44
set_option maxHeartbeats 4000000 in
set_option maxRecDepth 100000 in
theorem c_X1_init (l : Launch) (D : va_G) (cI cZ : ClassId) (hs ta : Nat) (sz : Nat) (q0 : Nat) : Met l yX1_init wsX1_init ({ frames := 1, cells := 2, slots := 32, locals := 12 }) (va_Pc [.ref q0] (fun U => U.heap.size = sz ∧ zPre D (zTy cI cZ) hs ta ([(q0, .inr (1, [.null, .null, .int 0]))]) U)) (va_Qv (fun (u : Nat × Nat) => True) (fun (u : Nat × Nat) t9 => va_P D vwCl (zcR cI q0 u.1 u.2 zr00) t9.heap ∧ va_D (va_A ([(q0, .inr (1, [.null, .null, .int 0]))]) sz) (zcR cI q0 u.1 u.2 zr00)) (va_A ([(q0, .inr (1, [.null, .null, .int 0]))]) sz)) 2 32 (va_A ([(q0, .inr (1, [.null, .null, .int 0]))]) sz) := by
  refine Met.ofW (cc := cX1_init) (maxL := 1) (ret := none) (by decide) rfl ?_
  intro p e s m args below meth c s₁ B hml hv0
  obtain ⟨rfl, hsz, hP, hD0, hG⟩ := hv0
  have hx := B.exec
  have hb := B.bytes
  have hr := B.returns
  have hts := atoms_spec (ws := wsX1_init) B.pre
  have hown : s.vm.findClass RX1 = some m.cls := findClass_of_methodNamed B.named
  have hlocks := B.notSynchronized
  have hin : meth.name = "<init>" := (name_of_methodNamed B.named B.method).1
  subst hsz
  have hD := hD0.self (sz := s.heap.size)
  have hAz0 : ∀ y9, va_A ([(q0, .inr (1, [.null, .null, .int 0]))]) s.heap.size y9 → hs ≤ y9 := zA_of hD0 (fun y9 h => Nat.le_trans hG.2.2.2.2 h) (va_S.rf (A := zA hs) (H0 := s.heap))
  generalize hAe : va_A ([(q0, .inr (1, [.null, .null, .int 0]))]) s.heap.size = A at hD hAz0 ⊢
  have hA : ∀ y9 : Nat, s.heap.size ≤ y9 → A y9 := fun y9 h => by rw [← hAe]; exact Or.inr h
  have hS : va_S A s.heap s.heap [] := va_S.rf
  have hAz : ∀ y9, A y9 → hs ≤ y9 := hAz0
  have hK := hG.1
  have hl := lv_entry ([.ref q0]) (n := 1) (Nat.le_of_ble_eq_true rfl)
  rw [lg_entry_eq]
  generalize (lg_sl ([.ref q0]) ++ List.replicate (1 - (lg_sl ([.ref q0])).length) Slot.unset).toArray = ls at hl ⊢
  have hl : lv_has ls 1 [(0, .ref q0)] := hl
  refine lv_aload_n hx hb dX1_init_0 rfl (lv_at hl 0 rfl) ?_
  refine W.objInit hx hb hown (hts (.methodLink RX1 3 objectInit) (List.mem_of_getElem? (i := 1) rfl)) (hts (.instanceMethod objectInit) (List.mem_of_getElem? (i := 2) rfl)) (hts (.code objectInit ⟨#[0xb1]⟩ 1 none) (List.mem_of_getElem? (i := 3) rfl)) rfl (by rw [hml]; exact hl.1) rfl dX1_init_1 (Nat.le_of_ble_eq_true rfl) (Nat.le_of_ble_eq_true rfl) ?_
  refine W.eq (g2 := F0 m 4 ls []) rfl ?_
  refine lv_aload_n hx hb dX1_init_4 rfl (lv_at hl 0 rfl) ?_
  refine lv_bipush (v := 16) hx hb dX1_init_5 (by decide) ?_
  refine zz_newI (N := 16) hx hb (hts (.arrayClass .int) (List.mem_of_getElem? (i := 4) rfl)) hK hP hD hS hA (show (16 : Int32) = nI 16 from rfl) (by decide) (by decide) (Nat.le_of_ble_eq_true rfl) (Nat.le_of_ble_eq_true rfl) dX1_init_7 (fun qn1 H hP hD hS => ?_)
  have hP : va_P D vwCl ([(q0, .inr (1, [.null, .null, .int 0])), (qn1, .inl (cI, 16, .inl (fun _ => 0)))]) H := hP
  have hD : va_D A ([(q0, .inr (1, [.null, .null, .int 0])), (qn1, .inl (cI, 16, .inl (fun _ => 0)))]) := hD
  refine W.widen (k := 1) (n := 16) (by omega) (by omega) ?_
  refine va_putF (ci := 1) (v := .ref qn1) (ty := .array .int) (C := RX1) (T := TX1) (N := 3) hx hb hts (fun w h => List.mem_cons_of_mem _ (List.mem_append_right _ h)) tyX1 tyX1_ok nmX1 hown hK hP hD hS 0 rfl rfl 0 (by decide) (hts (.fieldLink RX1 11 "FrozenBits$FinedRows" "rows" "[I") (List.mem_of_getElem? (i := 5) rfl)) (fun _ h9 => h9) rfl hin rfl (by decide +kernel) rfl rfl (Nat.le_of_ble_eq_true rfl) dX1_init_9 (fun H locs hP hD hS => ?_)
  have hP : va_P D vwCl ([(q0, .inr (1, [.ref qn1, .null, .int 0])), (qn1, .inl (cI, 16, .inl (fun _ => 0)))]) H := hP
  have hD : va_D A ([(q0, .inr (1, [.ref qn1, .null, .int 0])), (qn1, .inl (cI, 16, .inl (fun _ => 0)))]) := hD
  refine lv_aload_n hx hb dX1_init_12 rfl (lv_at hl 0 rfl) ?_
  refine lv_bipush (v := 16) hx hb dX1_init_13 (by decide) ?_
  refine zz_newI (N := 16) hx hb (hts (.arrayClass .int) (List.mem_of_getElem? (i := 4) rfl)) hK hP hD hS hA (show (16 : Int32) = nI 16 from rfl) (by decide) (by decide) (Nat.le_of_ble_eq_true rfl) (Nat.le_of_ble_eq_true rfl) dX1_init_15 (fun qn2 H hP hD hS => ?_)
  have hP : va_P D vwCl ([(q0, .inr (1, [.ref qn1, .null, .int 0])), (qn1, .inl (cI, 16, .inl (fun _ => 0))), (qn2, .inl (cI, 16, .inl (fun _ => 0)))]) H := hP
  have hD : va_D A ([(q0, .inr (1, [.ref qn1, .null, .int 0])), (qn1, .inl (cI, 16, .inl (fun _ => 0))), (qn2, .inl (cI, 16, .inl (fun _ => 0)))]) := hD
  refine W.widen (k := 2) (n := 32) (by omega) (by omega) ?_
  refine va_putF (ci := 1) (v := .ref qn2) (ty := .array .int) (C := RX1) (T := TX1) (N := 3) hx hb hts (fun w h => List.mem_cons_of_mem _ (List.mem_append_right _ h)) tyX1 tyX1_ok nmX1 hown hK hP hD hS 0 rfl rfl 1 (by decide) (hts (.fieldLink RX1 15 "FrozenBits$FinedRows" "fines" "[I") (List.mem_of_getElem? (i := 6) rfl)) (fun _ h9 => h9) rfl hin rfl (by decide +kernel) rfl rfl (Nat.le_of_ble_eq_true rfl) dX1_init_17 (fun H locs hP hD hS => ?_)
  have hP : va_P D vwCl ([(q0, .inr (1, [.ref qn1, .ref qn2, .int 0])), (qn1, .inl (cI, 16, .inl (fun _ => 0))), (qn2, .inl (cI, 16, .inl (fun _ => 0)))]) H := hP
  have hD : va_D A ([(q0, .inr (1, [.ref qn1, .ref qn2, .int 0])), (qn1, .inl (cI, 16, .inl (fun _ => 0))), (qn2, .inl (cI, 16, .inl (fun _ => 0)))]) := hD
  refine lv_aload_n hx hb dX1_init_20 rfl (lv_at hl 0 rfl) ?_
  refine lv_iconst (v := 0) hx hb dX1_init_21 (by decide) ?_
  refine zz_topi (nI (0)) (show (0 : Int32) = nI 0 from rfl) ?_
  refine va_put (ci := 1) (v := .int (nI 0)) (ty := .int) (C := RX1) (T := TX1) (N := 3) hx hb hts (fun w h => List.mem_cons_of_mem _ (List.mem_append_right _ h)) tyX1 tyX1_ok nmX1 hown hK hP hD hS 0 rfl rfl 2 (by decide) (hts (.fieldLink RX1 18 "FrozenBits$FinedRows" "size" "I") (List.mem_of_getElem? (i := 7) rfl)) (fun _ h9 => h9) rfl (by decide +kernel) rfl rfl (Nat.le_of_ble_eq_true rfl) dX1_init_22 (fun H locs hP hD hS => ?_)
  have hP : va_P D vwCl ([(q0, .inr (1, [.ref qn1, .ref qn2, .int (nI 0)])), (qn1, .inl (cI, 16, .inl (fun _ => 0))), (qn2, .inl (cI, 16, .inl (fun _ => 0)))]) H := hP
  have hD : va_D A ([(q0, .inr (1, [.ref qn1, .ref qn2, .int (nI 0)])), (qn1, .inl (cI, 16, .inl (fun _ => 0))), (qn2, .inl (cI, 16, .inl (fun _ => 0)))]) := hD
  exact W.vret hx hb hr (fun t9 ht hW => ⟨⟨(qn1, qn2), rfl, trivial, zP_ht ht hP, hD⟩, hS.F ht⟩) hS.2.2 dX1_init_25
set_option maxHeartbeats 4000000 in
set_option maxRecDepth 100000 in
theorem c_X2_init (l : Launch) (D : va_G) (cI cZ : ClassId) (hs ta : Nat) (sz : Nat) (q0 : Nat) : Met l yX2_init wsX2_init ({ frames := 2, cells := 16, slots := 164, locals := 32 }) (va_Pc [.ref q0] (fun U => U.heap.size = sz ∧ zPre D (zTy cI cZ) hs ta ([(q0, .inr (2, [.null, .null, .null, .int 0, .null, .null, .null]))]) U)) (va_Qv (fun (u : Nat → Nat) => u 0 = q0) (fun (u : Nat → Nat) t9 => va_P D vwCl (zcX cI u za0 za0 za0 0 (fun _ => 0) zr00 zr00) t9.heap ∧ va_D (va_A ([(q0, .inr (2, [.null, .null, .null, .int 0, .null, .null, .null]))]) sz) (zcX cI u za0 za0 za0 0 (fun _ => 0) zr00 zr00)) (va_A ([(q0, .inr (2, [.null, .null, .null, .int 0, .null, .null, .null]))]) sz)) 16 164 (va_A ([(q0, .inr (2, [.null, .null, .null, .int 0, .null, .null, .null]))]) sz) := by
  refine Met.ofW (cc := cX2_init) (maxL := 1) (ret := none) (by decide) rfl ?_
  intro p e s m args below meth c s₁ B hml hv0
  obtain ⟨rfl, hsz, hP, hD0, hG⟩ := hv0
  have hx := B.exec
  have hb := B.bytes
  have hr := B.returns
  have hts := atoms_spec (ws := wsX2_init) B.pre
  have hown : s.vm.findClass RX2 = some m.cls := findClass_of_methodNamed B.named
  have hlocks := B.notSynchronized
  have hin : meth.name = "<init>" := (name_of_methodNamed B.named B.method).1
  subst hsz
  have hD := hD0.self (sz := s.heap.size)
  have hAz0 : ∀ y9, va_A ([(q0, .inr (2, [.null, .null, .null, .int 0, .null, .null, .null]))]) s.heap.size y9 → hs ≤ y9 := zA_of hD0 (fun y9 h => Nat.le_trans hG.2.2.2.2 h) (va_S.rf (A := zA hs) (H0 := s.heap))
  generalize hAe : va_A ([(q0, .inr (2, [.null, .null, .null, .int 0, .null, .null, .null]))]) s.heap.size = A at hD hAz0 ⊢
  have hA : ∀ y9 : Nat, s.heap.size ≤ y9 → A y9 := fun y9 h => by rw [← hAe]; exact Or.inr h
  have hS : va_S A s.heap s.heap [] := va_S.rf
  have hAz : ∀ y9, A y9 → hs ≤ y9 := hAz0
  have hK := hG.1
  have hl := lv_entry ([.ref q0]) (n := 1) (Nat.le_of_ble_eq_true rfl)
  rw [lg_entry_eq]
  generalize (lg_sl ([.ref q0]) ++ List.replicate (1 - (lg_sl ([.ref q0])).length) Slot.unset).toArray = ls at hl ⊢
  have hl : lv_has ls 1 [(0, .ref q0)] := hl
  refine lv_aload_n hx hb dX2_init_0 rfl (lv_at hl 0 rfl) ?_
  refine W.objInit hx hb hown (hts (.methodLink RX2 1 objectInit) (List.mem_of_getElem? (i := 1) rfl)) (hts (.instanceMethod objectInit) (List.mem_of_getElem? (i := 2) rfl)) (hts (.code objectInit ⟨#[0xb1]⟩ 1 none) (List.mem_of_getElem? (i := 3) rfl)) rfl (by rw [hml]; exact hl.1) rfl dX2_init_1 (Nat.le_of_ble_eq_true rfl) (Nat.le_of_ble_eq_true rfl) ?_
  refine W.eq (g2 := F0 m 4 ls []) rfl ?_
  refine lv_aload_n hx hb dX2_init_4 rfl (lv_at hl 0 rfl) ?_
  refine va_new (ci := 0) (fs := [.int 0, .int 0, .int 0, .int 0, .int 0, .null, .null]) (C := RX0) (T := TX0) (N := 7) hx hb hts (fun w h => List.mem_cons_of_mem _ (List.mem_append_left _ (List.mem_append_left _ (List.mem_append_right _ h)))) tyX0 tyX0_ok hown (hts (.classLink RX2 7 RX0) (List.mem_of_getElem? (i := 4) rfl)) (hts (.instantiable RX0 7) (List.mem_of_getElem? (i := 5) rfl)) (hts (.initialized RX0) (List.mem_of_getElem? (i := 6) rfl)) hK hP hD hS hA rfl (fun j hj => by rcases (show j = 0 ∨ j = 1 ∨ j = 2 ∨ j = 3 ∨ j = 4 ∨ j = 5 ∨ j = 6 by omega) with rfl | rfl | rfl | rfl | rfl | rfl | rfl <;> rfl) (Nat.le_of_ble_eq_true rfl) (Nat.le_of_ble_eq_true rfl) dX2_init_5 (fun qn1 H hP hD hS => ?_)
  have hP : va_P D vwCl ([(q0, .inr (2, [.null, .null, .null, .int 0, .null, .null, .null])), (qn1, .inr (0, [.int 0, .int 0, .int 0, .int 0, .int 0, .null, .null]))]) H := hP
  have hD : va_D A ([(q0, .inr (2, [.null, .null, .null, .int 0, .null, .null, .null])), (qn1, .inr (0, [.int 0, .int 0, .int 0, .int 0, .int 0, .null, .null]))]) := hD
  refine W.widen (k := 1) (n := 7) (by omega) (by omega) ?_
  refine lv_dup hx hb dX2_init_8 rfl ?_
  have hPc := hP.sub (ws' := [(qn1, .inr (0, [.int 0, .int 0, .int 0, .int 0, .int 0, .null, .null]))]) [1] rfl
  have hDc := hD.sub (ws' := [(qn1, .inr (0, [.int 0, .int 0, .int 0, .int 0, .int 0, .null, .null]))]) [1] (by decide) rfl
  have hFc := va_free (wc := [(qn1, .inr (0, [.int 0, .int 0, .int 0, .int 0, .int 0, .null, .null]))]) hD hS hA [1] rfl
  refine va_callv (va_runIN (As := []) (rest := [.ref qn1, .ref q0]) ⟨hx, hb, hml, hown, hts⟩ (c_X0_init l D cI cZ hs ta H.size qn1) ⟨va_cnB 0 hts gX2_init_X0_init_n9 rfl rfl rfl (hG.2.1 _ (List.mem_of_getElem? (i := 10) rfl)) (hts (.initialized RX0) (List.mem_of_getElem? (i := 6) rfl)) (by decide +kernel) ⟨Nat.le_of_ble_eq_true rfl, Nat.le_of_ble_eq_true rfl⟩, rfl, (hts (.instanceMethod yX0_init) (List.mem_of_getElem? (i := 18) rfl))⟩ ⟨zPre_blindM, fun U hU hW => ⟨rfl, by rw [hU], by rw [hU]; exact hPc, hDc.weaken (fun _ _ _ h => hAz _ h), hG.go hS hAz hU hW⟩⟩ rfl rfl hl.1 rfl (lv_room (Nat.le_of_ble_eq_true rfl)) dX2_init_9 ⟨Nat.le_of_ble_eq_true rfl, Nat.le_of_ble_eq_true rfl⟩) hS (fun q _ h => hFc q h) hFc (fun u t H1 locs ht hvm hw hB hz1 hk1 hS => ?_)
  obtain ⟨qn1a, qn1b⟩ := u
  obtain ⟨hP1, hD1⟩ := hB
  rw [ht] at hP1
  obtain ⟨hP, hD⟩ := va_join (wr := [(q0, .inr (2, [.null, .null, .null, .int 0, .null, .null, .null]))]) (w1 := [(qn1, .inr (0, [.int (nI 3), .int (nI 1), .int (nI 2), .int (nI 0), .int (nI 1), .ref qn1a, .ref qn1b])), (qn1a, .inl (cI, 16, .inl (fun _ => 0))), (qn1b, .inl (cI, 3, .inl (fun _ => 0)))]) hP hD [1] [0] rfl rfl (by decide) (by decide) hk1 hFc hP1 hD1
  generalize H1 = H at hP hS ⊢
  have hP : va_P D vwCl ([(q0, .inr (2, [.null, .null, .null, .int 0, .null, .null, .null])), (qn1, .inr (0, [.int (nI 3), .int (nI 1), .int (nI 2), .int (nI 0), .int (nI 1), .ref qn1a, .ref qn1b])), (qn1a, .inl (cI, 16, .inl (fun _ => 0))), (qn1b, .inl (cI, 3, .inl (fun _ => 0)))]) H := hP
  have hD : va_D A ([(q0, .inr (2, [.null, .null, .null, .int 0, .null, .null, .null])), (qn1, .inr (0, [.int (nI 3), .int (nI 1), .int (nI 2), .int (nI 0), .int (nI 1), .ref qn1a, .ref qn1b])), (qn1a, .inl (cI, 16, .inl (fun _ => 0))), (qn1b, .inl (cI, 3, .inl (fun _ => 0)))]) := hD
  refine W.widen (k := 3) (n := 26) (by omega) (by omega) ?_
  refine va_putF (ci := 2) (v := .ref qn1) (ty := .object "FrozenBits$Facts") (C := RX2) (T := TX2) (N := 7) hx hb hts (fun w h => List.mem_cons_of_mem _ (List.mem_append_left _ (List.mem_append_right _ h))) tyX2 tyX2_ok nmX2 hown hK hP hD hS 0 rfl rfl 0 (by decide) (hts (.fieldLink RX2 10 "FrozenBits" "now" "LFrozenBits$Facts;") (List.mem_of_getElem? (i := 7) rfl)) (fun _ h9 => h9) rfl hin rfl (by decide +kernel) rfl rfl (Nat.le_of_ble_eq_true rfl) dX2_init_12 (fun H locs hP hD hS => ?_)
  have hP : va_P D vwCl ([(q0, .inr (2, [.ref qn1, .null, .null, .int 0, .null, .null, .null])), (qn1, .inr (0, [.int (nI 3), .int (nI 1), .int (nI 2), .int (nI 0), .int (nI 1), .ref qn1a, .ref qn1b])), (qn1a, .inl (cI, 16, .inl (fun _ => 0))), (qn1b, .inl (cI, 3, .inl (fun _ => 0)))]) H := hP
  have hD : va_D A ([(q0, .inr (2, [.ref qn1, .null, .null, .int 0, .null, .null, .null])), (qn1, .inr (0, [.int (nI 3), .int (nI 1), .int (nI 2), .int (nI 0), .int (nI 1), .ref qn1a, .ref qn1b])), (qn1a, .inl (cI, 16, .inl (fun _ => 0))), (qn1b, .inl (cI, 3, .inl (fun _ => 0)))]) := hD
  refine lv_aload_n hx hb dX2_init_15 rfl (lv_at hl 0 rfl) ?_
  refine va_new (ci := 0) (fs := [.int 0, .int 0, .int 0, .int 0, .int 0, .null, .null]) (C := RX0) (T := TX0) (N := 7) hx hb hts (fun w h => List.mem_cons_of_mem _ (List.mem_append_left _ (List.mem_append_left _ (List.mem_append_right _ h)))) tyX0 tyX0_ok hown (hts (.classLink RX2 7 RX0) (List.mem_of_getElem? (i := 4) rfl)) (hts (.instantiable RX0 7) (List.mem_of_getElem? (i := 5) rfl)) (hts (.initialized RX0) (List.mem_of_getElem? (i := 6) rfl)) hK hP hD hS hA rfl (fun j hj => by rcases (show j = 0 ∨ j = 1 ∨ j = 2 ∨ j = 3 ∨ j = 4 ∨ j = 5 ∨ j = 6 by omega) with rfl | rfl | rfl | rfl | rfl | rfl | rfl <;> rfl) (Nat.le_of_ble_eq_true rfl) (Nat.le_of_ble_eq_true rfl) dX2_init_16 (fun qn2 H hP hD hS => ?_)
  have hP : va_P D vwCl ([(q0, .inr (2, [.ref qn1, .null, .null, .int 0, .null, .null, .null])), (qn1, .inr (0, [.int (nI 3), .int (nI 1), .int (nI 2), .int (nI 0), .int (nI 1), .ref qn1a, .ref qn1b])), (qn1a, .inl (cI, 16, .inl (fun _ => 0))), (qn1b, .inl (cI, 3, .inl (fun _ => 0))), (qn2, .inr (0, [.int 0, .int 0, .int 0, .int 0, .int 0, .null, .null]))]) H := hP
  have hD : va_D A ([(q0, .inr (2, [.ref qn1, .null, .null, .int 0, .null, .null, .null])), (qn1, .inr (0, [.int (nI 3), .int (nI 1), .int (nI 2), .int (nI 0), .int (nI 1), .ref qn1a, .ref qn1b])), (qn1a, .inl (cI, 16, .inl (fun _ => 0))), (qn1b, .inl (cI, 3, .inl (fun _ => 0))), (qn2, .inr (0, [.int 0, .int 0, .int 0, .int 0, .int 0, .null, .null]))]) := hD
  refine W.widen (k := 4) (n := 33) (by omega) (by omega) ?_
  refine lv_dup hx hb dX2_init_19 rfl ?_
  have hPc := hP.sub (ws' := [(qn2, .inr (0, [.int 0, .int 0, .int 0, .int 0, .int 0, .null, .null]))]) [4] rfl
  have hDc := hD.sub (ws' := [(qn2, .inr (0, [.int 0, .int 0, .int 0, .int 0, .int 0, .null, .null]))]) [4] (by decide) rfl
  have hFc := va_free (wc := [(qn2, .inr (0, [.int 0, .int 0, .int 0, .int 0, .int 0, .null, .null]))]) hD hS hA [4] rfl
  refine va_callv (va_runIN (As := []) (rest := [.ref qn2, .ref q0]) ⟨hx, hb, hml, hown, hts⟩ (c_X0_init l D cI cZ hs ta H.size qn2) ⟨va_cnB 0 hts gX2_init_X0_init_n9 rfl rfl rfl (hG.2.1 _ (List.mem_of_getElem? (i := 10) rfl)) (hts (.initialized RX0) (List.mem_of_getElem? (i := 6) rfl)) (by decide +kernel) ⟨Nat.le_of_ble_eq_true rfl, Nat.le_of_ble_eq_true rfl⟩, rfl, (hts (.instanceMethod yX0_init) (List.mem_of_getElem? (i := 18) rfl))⟩ ⟨zPre_blindM, fun U hU hW => ⟨rfl, by rw [hU], by rw [hU]; exact hPc, hDc.weaken (fun _ _ _ h => hAz _ h), hG.go hS hAz hU hW⟩⟩ rfl rfl hl.1 rfl (lv_room (Nat.le_of_ble_eq_true rfl)) dX2_init_20 ⟨Nat.le_of_ble_eq_true rfl, Nat.le_of_ble_eq_true rfl⟩) hS (fun q _ h => hFc q h) hFc (fun u t H1 locs ht hvm hw hB hz1 hk1 hS => ?_)
  obtain ⟨qn2a, qn2b⟩ := u
  obtain ⟨hP1, hD1⟩ := hB
  rw [ht] at hP1
  obtain ⟨hP, hD⟩ := va_join (wr := [(q0, .inr (2, [.ref qn1, .null, .null, .int 0, .null, .null, .null])), (qn1, .inr (0, [.int (nI 3), .int (nI 1), .int (nI 2), .int (nI 0), .int (nI 1), .ref qn1a, .ref qn1b])), (qn1a, .inl (cI, 16, .inl (fun _ => 0))), (qn1b, .inl (cI, 3, .inl (fun _ => 0)))]) (w1 := [(qn2, .inr (0, [.int (nI 3), .int (nI 1), .int (nI 2), .int (nI 0), .int (nI 1), .ref qn2a, .ref qn2b])), (qn2a, .inl (cI, 16, .inl (fun _ => 0))), (qn2b, .inl (cI, 3, .inl (fun _ => 0)))]) hP hD [4] [0, 1, 2, 3] rfl rfl (by decide) (by decide) hk1 hFc hP1 hD1
  generalize H1 = H at hP hS ⊢
  have hP : va_P D vwCl ([(q0, .inr (2, [.ref qn1, .null, .null, .int 0, .null, .null, .null])), (qn1, .inr (0, [.int (nI 3), .int (nI 1), .int (nI 2), .int (nI 0), .int (nI 1), .ref qn1a, .ref qn1b])), (qn1a, .inl (cI, 16, .inl (fun _ => 0))), (qn1b, .inl (cI, 3, .inl (fun _ => 0))), (qn2, .inr (0, [.int (nI 3), .int (nI 1), .int (nI 2), .int (nI 0), .int (nI 1), .ref qn2a, .ref qn2b])), (qn2a, .inl (cI, 16, .inl (fun _ => 0))), (qn2b, .inl (cI, 3, .inl (fun _ => 0)))]) H := hP
  have hD : va_D A ([(q0, .inr (2, [.ref qn1, .null, .null, .int 0, .null, .null, .null])), (qn1, .inr (0, [.int (nI 3), .int (nI 1), .int (nI 2), .int (nI 0), .int (nI 1), .ref qn1a, .ref qn1b])), (qn1a, .inl (cI, 16, .inl (fun _ => 0))), (qn1b, .inl (cI, 3, .inl (fun _ => 0))), (qn2, .inr (0, [.int (nI 3), .int (nI 1), .int (nI 2), .int (nI 0), .int (nI 1), .ref qn2a, .ref qn2b])), (qn2a, .inl (cI, 16, .inl (fun _ => 0))), (qn2b, .inl (cI, 3, .inl (fun _ => 0)))]) := hD
  refine W.widen (k := 6) (n := 52) (by omega) (by omega) ?_
  refine va_putF (ci := 2) (v := .ref qn2) (ty := .object "FrozenBits$Facts") (C := RX2) (T := TX2) (N := 7) hx hb hts (fun w h => List.mem_cons_of_mem _ (List.mem_append_left _ (List.mem_append_right _ h))) tyX2 tyX2_ok nmX2 hown hK hP hD hS 0 rfl rfl 1 (by decide) (hts (.fieldLink RX2 16 "FrozenBits" "firstImage" "LFrozenBits$Facts;") (List.mem_of_getElem? (i := 8) rfl)) (fun _ h9 => h9) rfl hin rfl (by decide +kernel) rfl rfl (Nat.le_of_ble_eq_true rfl) dX2_init_23 (fun H locs hP hD hS => ?_)
  have hP : va_P D vwCl ([(q0, .inr (2, [.ref qn1, .ref qn2, .null, .int 0, .null, .null, .null])), (qn1, .inr (0, [.int (nI 3), .int (nI 1), .int (nI 2), .int (nI 0), .int (nI 1), .ref qn1a, .ref qn1b])), (qn1a, .inl (cI, 16, .inl (fun _ => 0))), (qn1b, .inl (cI, 3, .inl (fun _ => 0))), (qn2, .inr (0, [.int (nI 3), .int (nI 1), .int (nI 2), .int (nI 0), .int (nI 1), .ref qn2a, .ref qn2b])), (qn2a, .inl (cI, 16, .inl (fun _ => 0))), (qn2b, .inl (cI, 3, .inl (fun _ => 0)))]) H := hP
  have hD : va_D A ([(q0, .inr (2, [.ref qn1, .ref qn2, .null, .int 0, .null, .null, .null])), (qn1, .inr (0, [.int (nI 3), .int (nI 1), .int (nI 2), .int (nI 0), .int (nI 1), .ref qn1a, .ref qn1b])), (qn1a, .inl (cI, 16, .inl (fun _ => 0))), (qn1b, .inl (cI, 3, .inl (fun _ => 0))), (qn2, .inr (0, [.int (nI 3), .int (nI 1), .int (nI 2), .int (nI 0), .int (nI 1), .ref qn2a, .ref qn2b])), (qn2a, .inl (cI, 16, .inl (fun _ => 0))), (qn2b, .inl (cI, 3, .inl (fun _ => 0)))]) := hD
  refine lv_aload_n hx hb dX2_init_26 rfl (lv_at hl 0 rfl) ?_
  refine va_new (ci := 0) (fs := [.int 0, .int 0, .int 0, .int 0, .int 0, .null, .null]) (C := RX0) (T := TX0) (N := 7) hx hb hts (fun w h => List.mem_cons_of_mem _ (List.mem_append_left _ (List.mem_append_left _ (List.mem_append_right _ h)))) tyX0 tyX0_ok hown (hts (.classLink RX2 7 RX0) (List.mem_of_getElem? (i := 4) rfl)) (hts (.instantiable RX0 7) (List.mem_of_getElem? (i := 5) rfl)) (hts (.initialized RX0) (List.mem_of_getElem? (i := 6) rfl)) hK hP hD hS hA rfl (fun j hj => by rcases (show j = 0 ∨ j = 1 ∨ j = 2 ∨ j = 3 ∨ j = 4 ∨ j = 5 ∨ j = 6 by omega) with rfl | rfl | rfl | rfl | rfl | rfl | rfl <;> rfl) (Nat.le_of_ble_eq_true rfl) (Nat.le_of_ble_eq_true rfl) dX2_init_27 (fun qn3 H hP hD hS => ?_)
  have hP : va_P D vwCl ([(q0, .inr (2, [.ref qn1, .ref qn2, .null, .int 0, .null, .null, .null])), (qn1, .inr (0, [.int (nI 3), .int (nI 1), .int (nI 2), .int (nI 0), .int (nI 1), .ref qn1a, .ref qn1b])), (qn1a, .inl (cI, 16, .inl (fun _ => 0))), (qn1b, .inl (cI, 3, .inl (fun _ => 0))), (qn2, .inr (0, [.int (nI 3), .int (nI 1), .int (nI 2), .int (nI 0), .int (nI 1), .ref qn2a, .ref qn2b])), (qn2a, .inl (cI, 16, .inl (fun _ => 0))), (qn2b, .inl (cI, 3, .inl (fun _ => 0))), (qn3, .inr (0, [.int 0, .int 0, .int 0, .int 0, .int 0, .null, .null]))]) H := hP
  have hD : va_D A ([(q0, .inr (2, [.ref qn1, .ref qn2, .null, .int 0, .null, .null, .null])), (qn1, .inr (0, [.int (nI 3), .int (nI 1), .int (nI 2), .int (nI 0), .int (nI 1), .ref qn1a, .ref qn1b])), (qn1a, .inl (cI, 16, .inl (fun _ => 0))), (qn1b, .inl (cI, 3, .inl (fun _ => 0))), (qn2, .inr (0, [.int (nI 3), .int (nI 1), .int (nI 2), .int (nI 0), .int (nI 1), .ref qn2a, .ref qn2b])), (qn2a, .inl (cI, 16, .inl (fun _ => 0))), (qn2b, .inl (cI, 3, .inl (fun _ => 0))), (qn3, .inr (0, [.int 0, .int 0, .int 0, .int 0, .int 0, .null, .null]))]) := hD
  refine W.widen (k := 7) (n := 59) (by omega) (by omega) ?_
  refine lv_dup hx hb dX2_init_30 rfl ?_
  have hPc := hP.sub (ws' := [(qn3, .inr (0, [.int 0, .int 0, .int 0, .int 0, .int 0, .null, .null]))]) [7] rfl
  have hDc := hD.sub (ws' := [(qn3, .inr (0, [.int 0, .int 0, .int 0, .int 0, .int 0, .null, .null]))]) [7] (by decide) rfl
  have hFc := va_free (wc := [(qn3, .inr (0, [.int 0, .int 0, .int 0, .int 0, .int 0, .null, .null]))]) hD hS hA [7] rfl
  refine va_callv (va_runIN (As := []) (rest := [.ref qn3, .ref q0]) ⟨hx, hb, hml, hown, hts⟩ (c_X0_init l D cI cZ hs ta H.size qn3) ⟨va_cnB 0 hts gX2_init_X0_init_n9 rfl rfl rfl (hG.2.1 _ (List.mem_of_getElem? (i := 10) rfl)) (hts (.initialized RX0) (List.mem_of_getElem? (i := 6) rfl)) (by decide +kernel) ⟨Nat.le_of_ble_eq_true rfl, Nat.le_of_ble_eq_true rfl⟩, rfl, (hts (.instanceMethod yX0_init) (List.mem_of_getElem? (i := 18) rfl))⟩ ⟨zPre_blindM, fun U hU hW => ⟨rfl, by rw [hU], by rw [hU]; exact hPc, hDc.weaken (fun _ _ _ h => hAz _ h), hG.go hS hAz hU hW⟩⟩ rfl rfl hl.1 rfl (lv_room (Nat.le_of_ble_eq_true rfl)) dX2_init_31 ⟨Nat.le_of_ble_eq_true rfl, Nat.le_of_ble_eq_true rfl⟩) hS (fun q _ h => hFc q h) hFc (fun u t H1 locs ht hvm hw hB hz1 hk1 hS => ?_)
  obtain ⟨qn3a, qn3b⟩ := u
  obtain ⟨hP1, hD1⟩ := hB
  rw [ht] at hP1
  obtain ⟨hP, hD⟩ := va_join (wr := [(q0, .inr (2, [.ref qn1, .ref qn2, .null, .int 0, .null, .null, .null])), (qn1, .inr (0, [.int (nI 3), .int (nI 1), .int (nI 2), .int (nI 0), .int (nI 1), .ref qn1a, .ref qn1b])), (qn1a, .inl (cI, 16, .inl (fun _ => 0))), (qn1b, .inl (cI, 3, .inl (fun _ => 0))), (qn2, .inr (0, [.int (nI 3), .int (nI 1), .int (nI 2), .int (nI 0), .int (nI 1), .ref qn2a, .ref qn2b])), (qn2a, .inl (cI, 16, .inl (fun _ => 0))), (qn2b, .inl (cI, 3, .inl (fun _ => 0)))]) (w1 := [(qn3, .inr (0, [.int (nI 3), .int (nI 1), .int (nI 2), .int (nI 0), .int (nI 1), .ref qn3a, .ref qn3b])), (qn3a, .inl (cI, 16, .inl (fun _ => 0))), (qn3b, .inl (cI, 3, .inl (fun _ => 0)))]) hP hD [7] [0, 1, 2, 3, 4, 5, 6] rfl rfl (by decide) (by decide) hk1 hFc hP1 hD1
  generalize H1 = H at hP hS ⊢
  have hP : va_P D vwCl ([(q0, .inr (2, [.ref qn1, .ref qn2, .null, .int 0, .null, .null, .null])), (qn1, .inr (0, [.int (nI 3), .int (nI 1), .int (nI 2), .int (nI 0), .int (nI 1), .ref qn1a, .ref qn1b])), (qn1a, .inl (cI, 16, .inl (fun _ => 0))), (qn1b, .inl (cI, 3, .inl (fun _ => 0))), (qn2, .inr (0, [.int (nI 3), .int (nI 1), .int (nI 2), .int (nI 0), .int (nI 1), .ref qn2a, .ref qn2b])), (qn2a, .inl (cI, 16, .inl (fun _ => 0))), (qn2b, .inl (cI, 3, .inl (fun _ => 0))), (qn3, .inr (0, [.int (nI 3), .int (nI 1), .int (nI 2), .int (nI 0), .int (nI 1), .ref qn3a, .ref qn3b])), (qn3a, .inl (cI, 16, .inl (fun _ => 0))), (qn3b, .inl (cI, 3, .inl (fun _ => 0)))]) H := hP
  have hD : va_D A ([(q0, .inr (2, [.ref qn1, .ref qn2, .null, .int 0, .null, .null, .null])), (qn1, .inr (0, [.int (nI 3), .int (nI 1), .int (nI 2), .int (nI 0), .int (nI 1), .ref qn1a, .ref qn1b])), (qn1a, .inl (cI, 16, .inl (fun _ => 0))), (qn1b, .inl (cI, 3, .inl (fun _ => 0))), (qn2, .inr (0, [.int (nI 3), .int (nI 1), .int (nI 2), .int (nI 0), .int (nI 1), .ref qn2a, .ref qn2b])), (qn2a, .inl (cI, 16, .inl (fun _ => 0))), (qn2b, .inl (cI, 3, .inl (fun _ => 0))), (qn3, .inr (0, [.int (nI 3), .int (nI 1), .int (nI 2), .int (nI 0), .int (nI 1), .ref qn3a, .ref qn3b])), (qn3a, .inl (cI, 16, .inl (fun _ => 0))), (qn3b, .inl (cI, 3, .inl (fun _ => 0)))]) := hD
  refine W.widen (k := 9) (n := 78) (by omega) (by omega) ?_
  refine va_putF (ci := 2) (v := .ref qn3) (ty := .object "FrozenBits$Facts") (C := RX2) (T := TX2) (N := 7) hx hb hts (fun w h => List.mem_cons_of_mem _ (List.mem_append_left _ (List.mem_append_right _ h))) tyX2 tyX2_ok nmX2 hown hK hP hD hS 0 rfl rfl 2 (by decide) (hts (.fieldLink RX2 19 "FrozenBits" "secondImage" "LFrozenBits$Facts;") (List.mem_of_getElem? (i := 9) rfl)) (fun _ h9 => h9) rfl hin rfl (by decide +kernel) rfl rfl (Nat.le_of_ble_eq_true rfl) dX2_init_34 (fun H locs hP hD hS => ?_)
  have hP : va_P D vwCl ([(q0, .inr (2, [.ref qn1, .ref qn2, .ref qn3, .int 0, .null, .null, .null])), (qn1, .inr (0, [.int (nI 3), .int (nI 1), .int (nI 2), .int (nI 0), .int (nI 1), .ref qn1a, .ref qn1b])), (qn1a, .inl (cI, 16, .inl (fun _ => 0))), (qn1b, .inl (cI, 3, .inl (fun _ => 0))), (qn2, .inr (0, [.int (nI 3), .int (nI 1), .int (nI 2), .int (nI 0), .int (nI 1), .ref qn2a, .ref qn2b])), (qn2a, .inl (cI, 16, .inl (fun _ => 0))), (qn2b, .inl (cI, 3, .inl (fun _ => 0))), (qn3, .inr (0, [.int (nI 3), .int (nI 1), .int (nI 2), .int (nI 0), .int (nI 1), .ref qn3a, .ref qn3b])), (qn3a, .inl (cI, 16, .inl (fun _ => 0))), (qn3b, .inl (cI, 3, .inl (fun _ => 0)))]) H := hP
  have hD : va_D A ([(q0, .inr (2, [.ref qn1, .ref qn2, .ref qn3, .int 0, .null, .null, .null])), (qn1, .inr (0, [.int (nI 3), .int (nI 1), .int (nI 2), .int (nI 0), .int (nI 1), .ref qn1a, .ref qn1b])), (qn1a, .inl (cI, 16, .inl (fun _ => 0))), (qn1b, .inl (cI, 3, .inl (fun _ => 0))), (qn2, .inr (0, [.int (nI 3), .int (nI 1), .int (nI 2), .int (nI 0), .int (nI 1), .ref qn2a, .ref qn2b])), (qn2a, .inl (cI, 16, .inl (fun _ => 0))), (qn2b, .inl (cI, 3, .inl (fun _ => 0))), (qn3, .inr (0, [.int (nI 3), .int (nI 1), .int (nI 2), .int (nI 0), .int (nI 1), .ref qn3a, .ref qn3b])), (qn3a, .inl (cI, 16, .inl (fun _ => 0))), (qn3b, .inl (cI, 3, .inl (fun _ => 0)))]) := hD
  refine lv_aload_n hx hb dX2_init_37 rfl (lv_at hl 0 rfl) ?_
  refine lv_iconst (v := 0) hx hb dX2_init_38 (by decide) ?_
  refine zz_topi (nI (0)) (show (0 : Int32) = nI 0 from rfl) ?_
  refine va_put (ci := 2) (v := .int (nI 0)) (ty := .int) (C := RX2) (T := TX2) (N := 7) hx hb hts (fun w h => List.mem_cons_of_mem _ (List.mem_append_left _ (List.mem_append_right _ h))) tyX2 tyX2_ok nmX2 hown hK hP hD hS 0 rfl rfl 3 (by decide) (hts (.fieldLink RX2 22 "FrozenBits" "imagesKept" "I") (List.mem_of_getElem? (i := 10) rfl)) (fun _ h9 => h9) rfl (by decide +kernel) rfl rfl (Nat.le_of_ble_eq_true rfl) dX2_init_39 (fun H locs hP hD hS => ?_)
  have hP : va_P D vwCl ([(q0, .inr (2, [.ref qn1, .ref qn2, .ref qn3, .int (nI 0), .null, .null, .null])), (qn1, .inr (0, [.int (nI 3), .int (nI 1), .int (nI 2), .int (nI 0), .int (nI 1), .ref qn1a, .ref qn1b])), (qn1a, .inl (cI, 16, .inl (fun _ => 0))), (qn1b, .inl (cI, 3, .inl (fun _ => 0))), (qn2, .inr (0, [.int (nI 3), .int (nI 1), .int (nI 2), .int (nI 0), .int (nI 1), .ref qn2a, .ref qn2b])), (qn2a, .inl (cI, 16, .inl (fun _ => 0))), (qn2b, .inl (cI, 3, .inl (fun _ => 0))), (qn3, .inr (0, [.int (nI 3), .int (nI 1), .int (nI 2), .int (nI 0), .int (nI 1), .ref qn3a, .ref qn3b])), (qn3a, .inl (cI, 16, .inl (fun _ => 0))), (qn3b, .inl (cI, 3, .inl (fun _ => 0)))]) H := hP
  have hD : va_D A ([(q0, .inr (2, [.ref qn1, .ref qn2, .ref qn3, .int (nI 0), .null, .null, .null])), (qn1, .inr (0, [.int (nI 3), .int (nI 1), .int (nI 2), .int (nI 0), .int (nI 1), .ref qn1a, .ref qn1b])), (qn1a, .inl (cI, 16, .inl (fun _ => 0))), (qn1b, .inl (cI, 3, .inl (fun _ => 0))), (qn2, .inr (0, [.int (nI 3), .int (nI 1), .int (nI 2), .int (nI 0), .int (nI 1), .ref qn2a, .ref qn2b])), (qn2a, .inl (cI, 16, .inl (fun _ => 0))), (qn2b, .inl (cI, 3, .inl (fun _ => 0))), (qn3, .inr (0, [.int (nI 3), .int (nI 1), .int (nI 2), .int (nI 0), .int (nI 1), .ref qn3a, .ref qn3b])), (qn3a, .inl (cI, 16, .inl (fun _ => 0))), (qn3b, .inl (cI, 3, .inl (fun _ => 0)))]) := hD
  refine lv_aload_n hx hb dX2_init_42 rfl (lv_at hl 0 rfl) ?_
  refine lv_bipush (v := 16) hx hb dX2_init_43 (by decide) ?_
  refine zz_newI (N := 16) hx hb (hts (.arrayClass .int) (List.mem_of_getElem? (i := 11) rfl)) hK hP hD hS hA (show (16 : Int32) = nI 16 from rfl) (by decide) (by decide) (Nat.le_of_ble_eq_true rfl) (Nat.le_of_ble_eq_true rfl) dX2_init_45 (fun qn4 H hP hD hS => ?_)
  have hP : va_P D vwCl ([(q0, .inr (2, [.ref qn1, .ref qn2, .ref qn3, .int (nI 0), .null, .null, .null])), (qn1, .inr (0, [.int (nI 3), .int (nI 1), .int (nI 2), .int (nI 0), .int (nI 1), .ref qn1a, .ref qn1b])), (qn1a, .inl (cI, 16, .inl (fun _ => 0))), (qn1b, .inl (cI, 3, .inl (fun _ => 0))), (qn2, .inr (0, [.int (nI 3), .int (nI 1), .int (nI 2), .int (nI 0), .int (nI 1), .ref qn2a, .ref qn2b])), (qn2a, .inl (cI, 16, .inl (fun _ => 0))), (qn2b, .inl (cI, 3, .inl (fun _ => 0))), (qn3, .inr (0, [.int (nI 3), .int (nI 1), .int (nI 2), .int (nI 0), .int (nI 1), .ref qn3a, .ref qn3b])), (qn3a, .inl (cI, 16, .inl (fun _ => 0))), (qn3b, .inl (cI, 3, .inl (fun _ => 0))), (qn4, .inl (cI, 16, .inl (fun _ => 0)))]) H := hP
  have hD : va_D A ([(q0, .inr (2, [.ref qn1, .ref qn2, .ref qn3, .int (nI 0), .null, .null, .null])), (qn1, .inr (0, [.int (nI 3), .int (nI 1), .int (nI 2), .int (nI 0), .int (nI 1), .ref qn1a, .ref qn1b])), (qn1a, .inl (cI, 16, .inl (fun _ => 0))), (qn1b, .inl (cI, 3, .inl (fun _ => 0))), (qn2, .inr (0, [.int (nI 3), .int (nI 1), .int (nI 2), .int (nI 0), .int (nI 1), .ref qn2a, .ref qn2b])), (qn2a, .inl (cI, 16, .inl (fun _ => 0))), (qn2b, .inl (cI, 3, .inl (fun _ => 0))), (qn3, .inr (0, [.int (nI 3), .int (nI 1), .int (nI 2), .int (nI 0), .int (nI 1), .ref qn3a, .ref qn3b])), (qn3a, .inl (cI, 16, .inl (fun _ => 0))), (qn3b, .inl (cI, 3, .inl (fun _ => 0))), (qn4, .inl (cI, 16, .inl (fun _ => 0)))]) := hD
  refine W.widen (k := 10) (n := 94) (by omega) (by omega) ?_
  refine va_putF (ci := 2) (v := .ref qn4) (ty := .array .int) (C := RX2) (T := TX2) (N := 7) hx hb hts (fun w h => List.mem_cons_of_mem _ (List.mem_append_left _ (List.mem_append_right _ h))) tyX2 tyX2_ok nmX2 hown hK hP hD hS 0 rfl rfl 4 (by decide) (hts (.fieldLink RX2 26 "FrozenBits" "halves" "[I") (List.mem_of_getElem? (i := 12) rfl)) (fun _ h9 => h9) rfl hin rfl (by decide +kernel) rfl rfl (Nat.le_of_ble_eq_true rfl) dX2_init_47 (fun H locs hP hD hS => ?_)
  have hP : va_P D vwCl ([(q0, .inr (2, [.ref qn1, .ref qn2, .ref qn3, .int (nI 0), .ref qn4, .null, .null])), (qn1, .inr (0, [.int (nI 3), .int (nI 1), .int (nI 2), .int (nI 0), .int (nI 1), .ref qn1a, .ref qn1b])), (qn1a, .inl (cI, 16, .inl (fun _ => 0))), (qn1b, .inl (cI, 3, .inl (fun _ => 0))), (qn2, .inr (0, [.int (nI 3), .int (nI 1), .int (nI 2), .int (nI 0), .int (nI 1), .ref qn2a, .ref qn2b])), (qn2a, .inl (cI, 16, .inl (fun _ => 0))), (qn2b, .inl (cI, 3, .inl (fun _ => 0))), (qn3, .inr (0, [.int (nI 3), .int (nI 1), .int (nI 2), .int (nI 0), .int (nI 1), .ref qn3a, .ref qn3b])), (qn3a, .inl (cI, 16, .inl (fun _ => 0))), (qn3b, .inl (cI, 3, .inl (fun _ => 0))), (qn4, .inl (cI, 16, .inl (fun _ => 0)))]) H := hP
  have hD : va_D A ([(q0, .inr (2, [.ref qn1, .ref qn2, .ref qn3, .int (nI 0), .ref qn4, .null, .null])), (qn1, .inr (0, [.int (nI 3), .int (nI 1), .int (nI 2), .int (nI 0), .int (nI 1), .ref qn1a, .ref qn1b])), (qn1a, .inl (cI, 16, .inl (fun _ => 0))), (qn1b, .inl (cI, 3, .inl (fun _ => 0))), (qn2, .inr (0, [.int (nI 3), .int (nI 1), .int (nI 2), .int (nI 0), .int (nI 1), .ref qn2a, .ref qn2b])), (qn2a, .inl (cI, 16, .inl (fun _ => 0))), (qn2b, .inl (cI, 3, .inl (fun _ => 0))), (qn3, .inr (0, [.int (nI 3), .int (nI 1), .int (nI 2), .int (nI 0), .int (nI 1), .ref qn3a, .ref qn3b])), (qn3a, .inl (cI, 16, .inl (fun _ => 0))), (qn3b, .inl (cI, 3, .inl (fun _ => 0))), (qn4, .inl (cI, 16, .inl (fun _ => 0)))]) := hD
  refine lv_aload_n hx hb dX2_init_50 rfl (lv_at hl 0 rfl) ?_
  refine va_new (ci := 1) (fs := [.null, .null, .int 0]) (C := RX1) (T := TX1) (N := 3) hx hb hts (fun w h => List.mem_cons_of_mem _ (List.mem_append_right _ h)) tyX1 tyX1_ok hown (hts (.classLink RX2 30 RX1) (List.mem_of_getElem? (i := 13) rfl)) (hts (.instantiable RX1 3) (List.mem_of_getElem? (i := 14) rfl)) (hts (.initialized RX1) (List.mem_of_getElem? (i := 15) rfl)) hK hP hD hS hA rfl (fun j hj => by rcases (show j = 0 ∨ j = 1 ∨ j = 2 by omega) with rfl | rfl | rfl <;> rfl) (Nat.le_of_ble_eq_true rfl) (Nat.le_of_ble_eq_true rfl) dX2_init_51 (fun qn5 H hP hD hS => ?_)
  have hP : va_P D vwCl ([(q0, .inr (2, [.ref qn1, .ref qn2, .ref qn3, .int (nI 0), .ref qn4, .null, .null])), (qn1, .inr (0, [.int (nI 3), .int (nI 1), .int (nI 2), .int (nI 0), .int (nI 1), .ref qn1a, .ref qn1b])), (qn1a, .inl (cI, 16, .inl (fun _ => 0))), (qn1b, .inl (cI, 3, .inl (fun _ => 0))), (qn2, .inr (0, [.int (nI 3), .int (nI 1), .int (nI 2), .int (nI 0), .int (nI 1), .ref qn2a, .ref qn2b])), (qn2a, .inl (cI, 16, .inl (fun _ => 0))), (qn2b, .inl (cI, 3, .inl (fun _ => 0))), (qn3, .inr (0, [.int (nI 3), .int (nI 1), .int (nI 2), .int (nI 0), .int (nI 1), .ref qn3a, .ref qn3b])), (qn3a, .inl (cI, 16, .inl (fun _ => 0))), (qn3b, .inl (cI, 3, .inl (fun _ => 0))), (qn4, .inl (cI, 16, .inl (fun _ => 0))), (qn5, .inr (1, [.null, .null, .int 0]))]) H := hP
  have hD : va_D A ([(q0, .inr (2, [.ref qn1, .ref qn2, .ref qn3, .int (nI 0), .ref qn4, .null, .null])), (qn1, .inr (0, [.int (nI 3), .int (nI 1), .int (nI 2), .int (nI 0), .int (nI 1), .ref qn1a, .ref qn1b])), (qn1a, .inl (cI, 16, .inl (fun _ => 0))), (qn1b, .inl (cI, 3, .inl (fun _ => 0))), (qn2, .inr (0, [.int (nI 3), .int (nI 1), .int (nI 2), .int (nI 0), .int (nI 1), .ref qn2a, .ref qn2b])), (qn2a, .inl (cI, 16, .inl (fun _ => 0))), (qn2b, .inl (cI, 3, .inl (fun _ => 0))), (qn3, .inr (0, [.int (nI 3), .int (nI 1), .int (nI 2), .int (nI 0), .int (nI 1), .ref qn3a, .ref qn3b])), (qn3a, .inl (cI, 16, .inl (fun _ => 0))), (qn3b, .inl (cI, 3, .inl (fun _ => 0))), (qn4, .inl (cI, 16, .inl (fun _ => 0))), (qn5, .inr (1, [.null, .null, .int 0]))]) := hD
  refine W.widen (k := 11) (n := 97) (by omega) (by omega) ?_
  refine lv_dup hx hb dX2_init_54 rfl ?_
  have hPc := hP.sub (ws' := [(qn5, .inr (1, [.null, .null, .int 0]))]) [11] rfl
  have hDc := hD.sub (ws' := [(qn5, .inr (1, [.null, .null, .int 0]))]) [11] (by decide) rfl
  have hFc := va_free (wc := [(qn5, .inr (1, [.null, .null, .int 0]))]) hD hS hA [11] rfl
  refine va_callv (va_runIN (As := []) (rest := [.ref qn5, .ref q0]) ⟨hx, hb, hml, hown, hts⟩ (c_X1_init l D cI cZ hs ta H.size qn5) ⟨va_cnB 0 hts gX2_init_X1_init_n32 rfl rfl rfl (hG.2.1 _ (List.mem_of_getElem? (i := 11) rfl)) (hts (.initialized RX1) (List.mem_of_getElem? (i := 15) rfl)) (by decide +kernel) ⟨Nat.le_of_ble_eq_true rfl, Nat.le_of_ble_eq_true rfl⟩, rfl, (hts (.instanceMethod yX1_init) (List.mem_of_getElem? (i := 28) rfl))⟩ ⟨zPre_blindM, fun U hU hW => ⟨rfl, by rw [hU], by rw [hU]; exact hPc, hDc.weaken (fun _ _ _ h => hAz _ h), hG.go hS hAz hU hW⟩⟩ rfl rfl hl.1 rfl (lv_room (Nat.le_of_ble_eq_true rfl)) dX2_init_55 ⟨Nat.le_of_ble_eq_true rfl, Nat.le_of_ble_eq_true rfl⟩) hS (fun q _ h => hFc q h) hFc (fun u t H1 locs ht hvm hw hB hz1 hk1 hS => ?_)
  obtain ⟨qn5a, qn5b⟩ := u
  obtain ⟨hP1, hD1⟩ := hB
  rw [ht] at hP1
  obtain ⟨hP, hD⟩ := va_join (wr := [(q0, .inr (2, [.ref qn1, .ref qn2, .ref qn3, .int (nI 0), .ref qn4, .null, .null])), (qn1, .inr (0, [.int (nI 3), .int (nI 1), .int (nI 2), .int (nI 0), .int (nI 1), .ref qn1a, .ref qn1b])), (qn1a, .inl (cI, 16, .inl (fun _ => 0))), (qn1b, .inl (cI, 3, .inl (fun _ => 0))), (qn2, .inr (0, [.int (nI 3), .int (nI 1), .int (nI 2), .int (nI 0), .int (nI 1), .ref qn2a, .ref qn2b])), (qn2a, .inl (cI, 16, .inl (fun _ => 0))), (qn2b, .inl (cI, 3, .inl (fun _ => 0))), (qn3, .inr (0, [.int (nI 3), .int (nI 1), .int (nI 2), .int (nI 0), .int (nI 1), .ref qn3a, .ref qn3b])), (qn3a, .inl (cI, 16, .inl (fun _ => 0))), (qn3b, .inl (cI, 3, .inl (fun _ => 0))), (qn4, .inl (cI, 16, .inl (fun _ => 0)))]) (w1 := [(qn5, .inr (1, [.ref qn5a, .ref qn5b, .int (nI 0)])), (qn5a, .inl (cI, 16, .inl (fun _ => 0))), (qn5b, .inl (cI, 16, .inl (fun _ => 0)))]) hP hD [11] [0, 1, 2, 3, 4, 5, 6, 7, 8, 9, 10] rfl rfl (by decide) (by decide) hk1 hFc hP1 hD1
  generalize H1 = H at hP hS ⊢
  have hP : va_P D vwCl ([(q0, .inr (2, [.ref qn1, .ref qn2, .ref qn3, .int (nI 0), .ref qn4, .null, .null])), (qn1, .inr (0, [.int (nI 3), .int (nI 1), .int (nI 2), .int (nI 0), .int (nI 1), .ref qn1a, .ref qn1b])), (qn1a, .inl (cI, 16, .inl (fun _ => 0))), (qn1b, .inl (cI, 3, .inl (fun _ => 0))), (qn2, .inr (0, [.int (nI 3), .int (nI 1), .int (nI 2), .int (nI 0), .int (nI 1), .ref qn2a, .ref qn2b])), (qn2a, .inl (cI, 16, .inl (fun _ => 0))), (qn2b, .inl (cI, 3, .inl (fun _ => 0))), (qn3, .inr (0, [.int (nI 3), .int (nI 1), .int (nI 2), .int (nI 0), .int (nI 1), .ref qn3a, .ref qn3b])), (qn3a, .inl (cI, 16, .inl (fun _ => 0))), (qn3b, .inl (cI, 3, .inl (fun _ => 0))), (qn4, .inl (cI, 16, .inl (fun _ => 0))), (qn5, .inr (1, [.ref qn5a, .ref qn5b, .int (nI 0)])), (qn5a, .inl (cI, 16, .inl (fun _ => 0))), (qn5b, .inl (cI, 16, .inl (fun _ => 0)))]) H := hP
  have hD : va_D A ([(q0, .inr (2, [.ref qn1, .ref qn2, .ref qn3, .int (nI 0), .ref qn4, .null, .null])), (qn1, .inr (0, [.int (nI 3), .int (nI 1), .int (nI 2), .int (nI 0), .int (nI 1), .ref qn1a, .ref qn1b])), (qn1a, .inl (cI, 16, .inl (fun _ => 0))), (qn1b, .inl (cI, 3, .inl (fun _ => 0))), (qn2, .inr (0, [.int (nI 3), .int (nI 1), .int (nI 2), .int (nI 0), .int (nI 1), .ref qn2a, .ref qn2b])), (qn2a, .inl (cI, 16, .inl (fun _ => 0))), (qn2b, .inl (cI, 3, .inl (fun _ => 0))), (qn3, .inr (0, [.int (nI 3), .int (nI 1), .int (nI 2), .int (nI 0), .int (nI 1), .ref qn3a, .ref qn3b])), (qn3a, .inl (cI, 16, .inl (fun _ => 0))), (qn3b, .inl (cI, 3, .inl (fun _ => 0))), (qn4, .inl (cI, 16, .inl (fun _ => 0))), (qn5, .inr (1, [.ref qn5a, .ref qn5b, .int (nI 0)])), (qn5a, .inl (cI, 16, .inl (fun _ => 0))), (qn5b, .inl (cI, 16, .inl (fun _ => 0)))]) := hD
  refine W.widen (k := 13) (n := 129) (by omega) (by omega) ?_
  refine va_putF (ci := 2) (v := .ref qn5) (ty := .object "FrozenBits$FinedRows") (C := RX2) (T := TX2) (N := 7) hx hb hts (fun w h => List.mem_cons_of_mem _ (List.mem_append_left _ (List.mem_append_right _ h))) tyX2 tyX2_ok nmX2 hown hK hP hD hS 0 rfl rfl 5 (by decide) (hts (.fieldLink RX2 33 "FrozenBits" "told" "LFrozenBits$FinedRows;") (List.mem_of_getElem? (i := 16) rfl)) (fun _ h9 => h9) rfl hin rfl (by decide +kernel) rfl rfl (Nat.le_of_ble_eq_true rfl) dX2_init_58 (fun H locs hP hD hS => ?_)
  have hP : va_P D vwCl ([(q0, .inr (2, [.ref qn1, .ref qn2, .ref qn3, .int (nI 0), .ref qn4, .ref qn5, .null])), (qn1, .inr (0, [.int (nI 3), .int (nI 1), .int (nI 2), .int (nI 0), .int (nI 1), .ref qn1a, .ref qn1b])), (qn1a, .inl (cI, 16, .inl (fun _ => 0))), (qn1b, .inl (cI, 3, .inl (fun _ => 0))), (qn2, .inr (0, [.int (nI 3), .int (nI 1), .int (nI 2), .int (nI 0), .int (nI 1), .ref qn2a, .ref qn2b])), (qn2a, .inl (cI, 16, .inl (fun _ => 0))), (qn2b, .inl (cI, 3, .inl (fun _ => 0))), (qn3, .inr (0, [.int (nI 3), .int (nI 1), .int (nI 2), .int (nI 0), .int (nI 1), .ref qn3a, .ref qn3b])), (qn3a, .inl (cI, 16, .inl (fun _ => 0))), (qn3b, .inl (cI, 3, .inl (fun _ => 0))), (qn4, .inl (cI, 16, .inl (fun _ => 0))), (qn5, .inr (1, [.ref qn5a, .ref qn5b, .int (nI 0)])), (qn5a, .inl (cI, 16, .inl (fun _ => 0))), (qn5b, .inl (cI, 16, .inl (fun _ => 0)))]) H := hP
  have hD : va_D A ([(q0, .inr (2, [.ref qn1, .ref qn2, .ref qn3, .int (nI 0), .ref qn4, .ref qn5, .null])), (qn1, .inr (0, [.int (nI 3), .int (nI 1), .int (nI 2), .int (nI 0), .int (nI 1), .ref qn1a, .ref qn1b])), (qn1a, .inl (cI, 16, .inl (fun _ => 0))), (qn1b, .inl (cI, 3, .inl (fun _ => 0))), (qn2, .inr (0, [.int (nI 3), .int (nI 1), .int (nI 2), .int (nI 0), .int (nI 1), .ref qn2a, .ref qn2b])), (qn2a, .inl (cI, 16, .inl (fun _ => 0))), (qn2b, .inl (cI, 3, .inl (fun _ => 0))), (qn3, .inr (0, [.int (nI 3), .int (nI 1), .int (nI 2), .int (nI 0), .int (nI 1), .ref qn3a, .ref qn3b])), (qn3a, .inl (cI, 16, .inl (fun _ => 0))), (qn3b, .inl (cI, 3, .inl (fun _ => 0))), (qn4, .inl (cI, 16, .inl (fun _ => 0))), (qn5, .inr (1, [.ref qn5a, .ref qn5b, .int (nI 0)])), (qn5a, .inl (cI, 16, .inl (fun _ => 0))), (qn5b, .inl (cI, 16, .inl (fun _ => 0)))]) := hD
  refine lv_aload_n hx hb dX2_init_61 rfl (lv_at hl 0 rfl) ?_
  refine va_new (ci := 1) (fs := [.null, .null, .int 0]) (C := RX1) (T := TX1) (N := 3) hx hb hts (fun w h => List.mem_cons_of_mem _ (List.mem_append_right _ h)) tyX1 tyX1_ok hown (hts (.classLink RX2 30 RX1) (List.mem_of_getElem? (i := 13) rfl)) (hts (.instantiable RX1 3) (List.mem_of_getElem? (i := 14) rfl)) (hts (.initialized RX1) (List.mem_of_getElem? (i := 15) rfl)) hK hP hD hS hA rfl (fun j hj => by rcases (show j = 0 ∨ j = 1 ∨ j = 2 by omega) with rfl | rfl | rfl <;> rfl) (Nat.le_of_ble_eq_true rfl) (Nat.le_of_ble_eq_true rfl) dX2_init_62 (fun qn6 H hP hD hS => ?_)
  have hP : va_P D vwCl ([(q0, .inr (2, [.ref qn1, .ref qn2, .ref qn3, .int (nI 0), .ref qn4, .ref qn5, .null])), (qn1, .inr (0, [.int (nI 3), .int (nI 1), .int (nI 2), .int (nI 0), .int (nI 1), .ref qn1a, .ref qn1b])), (qn1a, .inl (cI, 16, .inl (fun _ => 0))), (qn1b, .inl (cI, 3, .inl (fun _ => 0))), (qn2, .inr (0, [.int (nI 3), .int (nI 1), .int (nI 2), .int (nI 0), .int (nI 1), .ref qn2a, .ref qn2b])), (qn2a, .inl (cI, 16, .inl (fun _ => 0))), (qn2b, .inl (cI, 3, .inl (fun _ => 0))), (qn3, .inr (0, [.int (nI 3), .int (nI 1), .int (nI 2), .int (nI 0), .int (nI 1), .ref qn3a, .ref qn3b])), (qn3a, .inl (cI, 16, .inl (fun _ => 0))), (qn3b, .inl (cI, 3, .inl (fun _ => 0))), (qn4, .inl (cI, 16, .inl (fun _ => 0))), (qn5, .inr (1, [.ref qn5a, .ref qn5b, .int (nI 0)])), (qn5a, .inl (cI, 16, .inl (fun _ => 0))), (qn5b, .inl (cI, 16, .inl (fun _ => 0))), (qn6, .inr (1, [.null, .null, .int 0]))]) H := hP
  have hD : va_D A ([(q0, .inr (2, [.ref qn1, .ref qn2, .ref qn3, .int (nI 0), .ref qn4, .ref qn5, .null])), (qn1, .inr (0, [.int (nI 3), .int (nI 1), .int (nI 2), .int (nI 0), .int (nI 1), .ref qn1a, .ref qn1b])), (qn1a, .inl (cI, 16, .inl (fun _ => 0))), (qn1b, .inl (cI, 3, .inl (fun _ => 0))), (qn2, .inr (0, [.int (nI 3), .int (nI 1), .int (nI 2), .int (nI 0), .int (nI 1), .ref qn2a, .ref qn2b])), (qn2a, .inl (cI, 16, .inl (fun _ => 0))), (qn2b, .inl (cI, 3, .inl (fun _ => 0))), (qn3, .inr (0, [.int (nI 3), .int (nI 1), .int (nI 2), .int (nI 0), .int (nI 1), .ref qn3a, .ref qn3b])), (qn3a, .inl (cI, 16, .inl (fun _ => 0))), (qn3b, .inl (cI, 3, .inl (fun _ => 0))), (qn4, .inl (cI, 16, .inl (fun _ => 0))), (qn5, .inr (1, [.ref qn5a, .ref qn5b, .int (nI 0)])), (qn5a, .inl (cI, 16, .inl (fun _ => 0))), (qn5b, .inl (cI, 16, .inl (fun _ => 0))), (qn6, .inr (1, [.null, .null, .int 0]))]) := hD
  refine W.widen (k := 14) (n := 132) (by omega) (by omega) ?_
  refine lv_dup hx hb dX2_init_65 rfl ?_
  have hPc := hP.sub (ws' := [(qn6, .inr (1, [.null, .null, .int 0]))]) [14] rfl
  have hDc := hD.sub (ws' := [(qn6, .inr (1, [.null, .null, .int 0]))]) [14] (by decide) rfl
  have hFc := va_free (wc := [(qn6, .inr (1, [.null, .null, .int 0]))]) hD hS hA [14] rfl
  refine va_callv (va_runIN (As := []) (rest := [.ref qn6, .ref q0]) ⟨hx, hb, hml, hown, hts⟩ (c_X1_init l D cI cZ hs ta H.size qn6) ⟨va_cnB 0 hts gX2_init_X1_init_n32 rfl rfl rfl (hG.2.1 _ (List.mem_of_getElem? (i := 11) rfl)) (hts (.initialized RX1) (List.mem_of_getElem? (i := 15) rfl)) (by decide +kernel) ⟨Nat.le_of_ble_eq_true rfl, Nat.le_of_ble_eq_true rfl⟩, rfl, (hts (.instanceMethod yX1_init) (List.mem_of_getElem? (i := 28) rfl))⟩ ⟨zPre_blindM, fun U hU hW => ⟨rfl, by rw [hU], by rw [hU]; exact hPc, hDc.weaken (fun _ _ _ h => hAz _ h), hG.go hS hAz hU hW⟩⟩ rfl rfl hl.1 rfl (lv_room (Nat.le_of_ble_eq_true rfl)) dX2_init_66 ⟨Nat.le_of_ble_eq_true rfl, Nat.le_of_ble_eq_true rfl⟩) hS (fun q _ h => hFc q h) hFc (fun u t H1 locs ht hvm hw hB hz1 hk1 hS => ?_)
  obtain ⟨qn6a, qn6b⟩ := u
  obtain ⟨hP1, hD1⟩ := hB
  rw [ht] at hP1
  obtain ⟨hP, hD⟩ := va_join (wr := [(q0, .inr (2, [.ref qn1, .ref qn2, .ref qn3, .int (nI 0), .ref qn4, .ref qn5, .null])), (qn1, .inr (0, [.int (nI 3), .int (nI 1), .int (nI 2), .int (nI 0), .int (nI 1), .ref qn1a, .ref qn1b])), (qn1a, .inl (cI, 16, .inl (fun _ => 0))), (qn1b, .inl (cI, 3, .inl (fun _ => 0))), (qn2, .inr (0, [.int (nI 3), .int (nI 1), .int (nI 2), .int (nI 0), .int (nI 1), .ref qn2a, .ref qn2b])), (qn2a, .inl (cI, 16, .inl (fun _ => 0))), (qn2b, .inl (cI, 3, .inl (fun _ => 0))), (qn3, .inr (0, [.int (nI 3), .int (nI 1), .int (nI 2), .int (nI 0), .int (nI 1), .ref qn3a, .ref qn3b])), (qn3a, .inl (cI, 16, .inl (fun _ => 0))), (qn3b, .inl (cI, 3, .inl (fun _ => 0))), (qn4, .inl (cI, 16, .inl (fun _ => 0))), (qn5, .inr (1, [.ref qn5a, .ref qn5b, .int (nI 0)])), (qn5a, .inl (cI, 16, .inl (fun _ => 0))), (qn5b, .inl (cI, 16, .inl (fun _ => 0)))]) (w1 := [(qn6, .inr (1, [.ref qn6a, .ref qn6b, .int (nI 0)])), (qn6a, .inl (cI, 16, .inl (fun _ => 0))), (qn6b, .inl (cI, 16, .inl (fun _ => 0)))]) hP hD [14] [0, 1, 2, 3, 4, 5, 6, 7, 8, 9, 10, 11, 12, 13] rfl rfl (by decide) (by decide) hk1 hFc hP1 hD1
  generalize H1 = H at hP hS ⊢
  have hP : va_P D vwCl ([(q0, .inr (2, [.ref qn1, .ref qn2, .ref qn3, .int (nI 0), .ref qn4, .ref qn5, .null])), (qn1, .inr (0, [.int (nI 3), .int (nI 1), .int (nI 2), .int (nI 0), .int (nI 1), .ref qn1a, .ref qn1b])), (qn1a, .inl (cI, 16, .inl (fun _ => 0))), (qn1b, .inl (cI, 3, .inl (fun _ => 0))), (qn2, .inr (0, [.int (nI 3), .int (nI 1), .int (nI 2), .int (nI 0), .int (nI 1), .ref qn2a, .ref qn2b])), (qn2a, .inl (cI, 16, .inl (fun _ => 0))), (qn2b, .inl (cI, 3, .inl (fun _ => 0))), (qn3, .inr (0, [.int (nI 3), .int (nI 1), .int (nI 2), .int (nI 0), .int (nI 1), .ref qn3a, .ref qn3b])), (qn3a, .inl (cI, 16, .inl (fun _ => 0))), (qn3b, .inl (cI, 3, .inl (fun _ => 0))), (qn4, .inl (cI, 16, .inl (fun _ => 0))), (qn5, .inr (1, [.ref qn5a, .ref qn5b, .int (nI 0)])), (qn5a, .inl (cI, 16, .inl (fun _ => 0))), (qn5b, .inl (cI, 16, .inl (fun _ => 0))), (qn6, .inr (1, [.ref qn6a, .ref qn6b, .int (nI 0)])), (qn6a, .inl (cI, 16, .inl (fun _ => 0))), (qn6b, .inl (cI, 16, .inl (fun _ => 0)))]) H := hP
  have hD : va_D A ([(q0, .inr (2, [.ref qn1, .ref qn2, .ref qn3, .int (nI 0), .ref qn4, .ref qn5, .null])), (qn1, .inr (0, [.int (nI 3), .int (nI 1), .int (nI 2), .int (nI 0), .int (nI 1), .ref qn1a, .ref qn1b])), (qn1a, .inl (cI, 16, .inl (fun _ => 0))), (qn1b, .inl (cI, 3, .inl (fun _ => 0))), (qn2, .inr (0, [.int (nI 3), .int (nI 1), .int (nI 2), .int (nI 0), .int (nI 1), .ref qn2a, .ref qn2b])), (qn2a, .inl (cI, 16, .inl (fun _ => 0))), (qn2b, .inl (cI, 3, .inl (fun _ => 0))), (qn3, .inr (0, [.int (nI 3), .int (nI 1), .int (nI 2), .int (nI 0), .int (nI 1), .ref qn3a, .ref qn3b])), (qn3a, .inl (cI, 16, .inl (fun _ => 0))), (qn3b, .inl (cI, 3, .inl (fun _ => 0))), (qn4, .inl (cI, 16, .inl (fun _ => 0))), (qn5, .inr (1, [.ref qn5a, .ref qn5b, .int (nI 0)])), (qn5a, .inl (cI, 16, .inl (fun _ => 0))), (qn5b, .inl (cI, 16, .inl (fun _ => 0))), (qn6, .inr (1, [.ref qn6a, .ref qn6b, .int (nI 0)])), (qn6a, .inl (cI, 16, .inl (fun _ => 0))), (qn6b, .inl (cI, 16, .inl (fun _ => 0)))]) := hD
  refine W.widen (k := 16) (n := 164) (by omega) (by omega) ?_
  refine va_putF (ci := 2) (v := .ref qn6) (ty := .object "FrozenBits$FinedRows") (C := RX2) (T := TX2) (N := 7) hx hb hts (fun w h => List.mem_cons_of_mem _ (List.mem_append_left _ (List.mem_append_right _ h))) tyX2 tyX2_ok nmX2 hown hK hP hD hS 0 rfl rfl 6 (by decide) (hts (.fieldLink RX2 37 "FrozenBits" "grown" "LFrozenBits$FinedRows;") (List.mem_of_getElem? (i := 17) rfl)) (fun _ h9 => h9) rfl hin rfl (by decide +kernel) rfl rfl (Nat.le_of_ble_eq_true rfl) dX2_init_69 (fun H locs hP hD hS => ?_)
  have hP : va_P D vwCl ([(q0, .inr (2, [.ref qn1, .ref qn2, .ref qn3, .int (nI 0), .ref qn4, .ref qn5, .ref qn6])), (qn1, .inr (0, [.int (nI 3), .int (nI 1), .int (nI 2), .int (nI 0), .int (nI 1), .ref qn1a, .ref qn1b])), (qn1a, .inl (cI, 16, .inl (fun _ => 0))), (qn1b, .inl (cI, 3, .inl (fun _ => 0))), (qn2, .inr (0, [.int (nI 3), .int (nI 1), .int (nI 2), .int (nI 0), .int (nI 1), .ref qn2a, .ref qn2b])), (qn2a, .inl (cI, 16, .inl (fun _ => 0))), (qn2b, .inl (cI, 3, .inl (fun _ => 0))), (qn3, .inr (0, [.int (nI 3), .int (nI 1), .int (nI 2), .int (nI 0), .int (nI 1), .ref qn3a, .ref qn3b])), (qn3a, .inl (cI, 16, .inl (fun _ => 0))), (qn3b, .inl (cI, 3, .inl (fun _ => 0))), (qn4, .inl (cI, 16, .inl (fun _ => 0))), (qn5, .inr (1, [.ref qn5a, .ref qn5b, .int (nI 0)])), (qn5a, .inl (cI, 16, .inl (fun _ => 0))), (qn5b, .inl (cI, 16, .inl (fun _ => 0))), (qn6, .inr (1, [.ref qn6a, .ref qn6b, .int (nI 0)])), (qn6a, .inl (cI, 16, .inl (fun _ => 0))), (qn6b, .inl (cI, 16, .inl (fun _ => 0)))]) H := hP
  have hD : va_D A ([(q0, .inr (2, [.ref qn1, .ref qn2, .ref qn3, .int (nI 0), .ref qn4, .ref qn5, .ref qn6])), (qn1, .inr (0, [.int (nI 3), .int (nI 1), .int (nI 2), .int (nI 0), .int (nI 1), .ref qn1a, .ref qn1b])), (qn1a, .inl (cI, 16, .inl (fun _ => 0))), (qn1b, .inl (cI, 3, .inl (fun _ => 0))), (qn2, .inr (0, [.int (nI 3), .int (nI 1), .int (nI 2), .int (nI 0), .int (nI 1), .ref qn2a, .ref qn2b])), (qn2a, .inl (cI, 16, .inl (fun _ => 0))), (qn2b, .inl (cI, 3, .inl (fun _ => 0))), (qn3, .inr (0, [.int (nI 3), .int (nI 1), .int (nI 2), .int (nI 0), .int (nI 1), .ref qn3a, .ref qn3b])), (qn3a, .inl (cI, 16, .inl (fun _ => 0))), (qn3b, .inl (cI, 3, .inl (fun _ => 0))), (qn4, .inl (cI, 16, .inl (fun _ => 0))), (qn5, .inr (1, [.ref qn5a, .ref qn5b, .int (nI 0)])), (qn5a, .inl (cI, 16, .inl (fun _ => 0))), (qn5b, .inl (cI, 16, .inl (fun _ => 0))), (qn6, .inr (1, [.ref qn6a, .ref qn6b, .int (nI 0)])), (qn6a, .inl (cI, 16, .inl (fun _ => 0))), (qn6b, .inl (cI, 16, .inl (fun _ => 0)))]) := hD
  have hP9 := hP.sub (ws' := zcX cI (fun n9 => List.getD [q0, qn1, qn1a, qn1b, qn2, qn2a, qn2b, qn3, qn3a, qn3b, qn4, qn5, qn5a, qn5b, qn6, qn6a, qn6b] n9 0) za0 za0 za0 0 (fun _ => 0) zr00 zr00) [0, 1, 2, 3, 4, 5, 6, 7, 8, 9, 10, 11, 12, 13, 14, 15, 16] rfl
  have hD9 := hD.sub (ws' := zcX cI (fun n9 => List.getD [q0, qn1, qn1a, qn1b, qn2, qn2a, qn2b, qn3, qn3a, qn3b, qn4, qn5, qn5a, qn5b, qn6, qn6a, qn6b] n9 0) za0 za0 za0 0 (fun _ => 0) zr00 zr00) [0, 1, 2, 3, 4, 5, 6, 7, 8, 9, 10, 11, 12, 13, 14, 15, 16] (by decide) rfl
  exact W.vret hx hb hr (fun t9 ht hW => ⟨⟨(fun n9 => List.getD [q0, qn1, qn1a, qn1b, qn2, qn2a, qn2b, qn3, qn3a, qn3b, qn4, qn5, qn5a, qn5b, qn6, qn6a, qn6b] n9 0), rfl, rfl, zP_ht ht hP9, hD9⟩, hS.F ht⟩) hS.2.2 dX2_init_72
set_option maxHeartbeats 4000000 in
set_option maxRecDepth 100000 in
theorem c_X3_init (l : Launch) (D : va_G) (cI cZ : ClassId) (hs ta : Nat) (sz : Nat) (q0 : Nat) : Met l yX3_init wsX3_init ({ frames := 1, cells := 6, slots := 122, locals := 12 }) (va_Pc [.ref q0] (fun U => U.heap.size = sz ∧ zPre D (zTy cI cZ) hs ta ([(q0, .inr (3, [.null, .null, .null, .null, .null, .null, .int 0]))]) U)) (va_Qv (fun (u : Nat → Nat) => u 0 = q0) (fun (u : Nat → Nat) t9 => va_P D vwCl (zcM cI cZ u (zst za0) (fun _ => 0) (fun _ => 0) (fun _ => 0) (fun _ => 0) (fun _ => 0) 0) t9.heap ∧ va_D (va_A ([(q0, .inr (3, [.null, .null, .null, .null, .null, .null, .int 0]))]) sz) (zcM cI cZ u (zst za0) (fun _ => 0) (fun _ => 0) (fun _ => 0) (fun _ => 0) (fun _ => 0) 0)) (va_A ([(q0, .inr (3, [.null, .null, .null, .null, .null, .null, .int 0]))]) sz)) 6 122 (va_A ([(q0, .inr (3, [.null, .null, .null, .null, .null, .null, .int 0]))]) sz) := by
  refine Met.ofW (cc := cX3_init) (maxL := 1) (ret := none) (by decide) rfl ?_
  intro p e s m args below meth c s₁ B hml hv0
  obtain ⟨rfl, hsz, hP, hD0, hG⟩ := hv0
  have hx := B.exec
  have hb := B.bytes
  have hr := B.returns
  have hts := atoms_spec (ws := wsX3_init) B.pre
  have hown : s.vm.findClass RX3 = some m.cls := findClass_of_methodNamed B.named
  have hlocks := B.notSynchronized
  have hin : meth.name = "<init>" := (name_of_methodNamed B.named B.method).1
  subst hsz
  have hD := hD0.self (sz := s.heap.size)
  have hAz0 : ∀ y9, va_A ([(q0, .inr (3, [.null, .null, .null, .null, .null, .null, .int 0]))]) s.heap.size y9 → hs ≤ y9 := zA_of hD0 (fun y9 h => Nat.le_trans hG.2.2.2.2 h) (va_S.rf (A := zA hs) (H0 := s.heap))
  generalize hAe : va_A ([(q0, .inr (3, [.null, .null, .null, .null, .null, .null, .int 0]))]) s.heap.size = A at hD hAz0 ⊢
  have hA : ∀ y9 : Nat, s.heap.size ≤ y9 → A y9 := fun y9 h => by rw [← hAe]; exact Or.inr h
  have hS : va_S A s.heap s.heap [] := va_S.rf
  have hAz : ∀ y9, A y9 → hs ≤ y9 := hAz0
  have hK := hG.1
  have hl := lv_entry ([.ref q0]) (n := 1) (Nat.le_of_ble_eq_true rfl)
  rw [lg_entry_eq]
  generalize (lg_sl ([.ref q0]) ++ List.replicate (1 - (lg_sl ([.ref q0])).length) Slot.unset).toArray = ls at hl ⊢
  have hl : lv_has ls 1 [(0, .ref q0)] := hl
  refine lv_aload_n hx hb dX3_init_0 rfl (lv_at hl 0 rfl) ?_
  refine W.objInit hx hb hown (hts (.methodLink RX3 1 objectInit) (List.mem_of_getElem? (i := 1) rfl)) (hts (.instanceMethod objectInit) (List.mem_of_getElem? (i := 2) rfl)) (hts (.code objectInit ⟨#[0xb1]⟩ 1 none) (List.mem_of_getElem? (i := 3) rfl)) rfl (by rw [hml]; exact hl.1) rfl dX3_init_1 (Nat.le_of_ble_eq_true rfl) (Nat.le_of_ble_eq_true rfl) ?_
  refine W.eq (g2 := F0 m 4 ls []) rfl ?_
  refine lv_aload_n hx hb dX3_init_4 rfl (lv_at hl 0 rfl) ?_
  refine lv_bipush (v := 24) hx hb dX3_init_5 (by decide) ?_
  refine zz_newI (N := 24) hx hb (hts (.arrayClass .int) (List.mem_of_getElem? (i := 4) rfl)) hK hP hD hS hA (show (24 : Int32) = nI 24 from rfl) (by decide) (by decide) (Nat.le_of_ble_eq_true rfl) (Nat.le_of_ble_eq_true rfl) dX3_init_7 (fun qn1 H hP hD hS => ?_)
  have hP : va_P D vwCl ([(q0, .inr (3, [.null, .null, .null, .null, .null, .null, .int 0])), (qn1, .inl (cI, 24, .inl (fun _ => 0)))]) H := hP
  have hD : va_D A ([(q0, .inr (3, [.null, .null, .null, .null, .null, .null, .int 0])), (qn1, .inl (cI, 24, .inl (fun _ => 0)))]) := hD
  refine W.widen (k := 1) (n := 24) (by omega) (by omega) ?_
  refine va_putF (ci := 3) (v := .ref qn1) (ty := .array .int) (C := RX3) (T := TX3) (N := 7) hx hb hts (fun w h => List.mem_cons_of_mem _ (List.mem_append_right _ h)) tyX3 tyX3_ok nmX3 hown hK hP hD hS 0 rfl rfl 0 (by decide) (hts (.fieldLink RX3 7 "FrozenBitsModel" "state" "[I") (List.mem_of_getElem? (i := 5) rfl)) (fun _ h9 => h9) rfl hin rfl (by decide +kernel) rfl rfl (Nat.le_of_ble_eq_true rfl) dX3_init_9 (fun H locs hP hD hS => ?_)
  have hP : va_P D vwCl ([(q0, .inr (3, [.ref qn1, .null, .null, .null, .null, .null, .int 0])), (qn1, .inl (cI, 24, .inl (fun _ => 0)))]) H := hP
  have hD : va_D A ([(q0, .inr (3, [.ref qn1, .null, .null, .null, .null, .null, .int 0])), (qn1, .inl (cI, 24, .inl (fun _ => 0)))]) := hD
  refine lv_aload_n hx hb dX3_init_12 rfl (lv_at hl 0 rfl) ?_
  refine lv_bipush (v := 48) hx hb dX3_init_13 (by decide) ?_
  refine zz_newI (N := 48) hx hb (hts (.arrayClass .int) (List.mem_of_getElem? (i := 4) rfl)) hK hP hD hS hA (show (48 : Int32) = nI 48 from rfl) (by decide) (by decide) (Nat.le_of_ble_eq_true rfl) (Nat.le_of_ble_eq_true rfl) dX3_init_15 (fun qn2 H hP hD hS => ?_)
  have hP : va_P D vwCl ([(q0, .inr (3, [.ref qn1, .null, .null, .null, .null, .null, .int 0])), (qn1, .inl (cI, 24, .inl (fun _ => 0))), (qn2, .inl (cI, 48, .inl (fun _ => 0)))]) H := hP
  have hD : va_D A ([(q0, .inr (3, [.ref qn1, .null, .null, .null, .null, .null, .int 0])), (qn1, .inl (cI, 24, .inl (fun _ => 0))), (qn2, .inl (cI, 48, .inl (fun _ => 0)))]) := hD
  refine W.widen (k := 2) (n := 72) (by omega) (by omega) ?_
  refine va_putF (ci := 3) (v := .ref qn2) (ty := .array .int) (C := RX3) (T := TX3) (N := 7) hx hb hts (fun w h => List.mem_cons_of_mem _ (List.mem_append_right _ h)) tyX3 tyX3_ok nmX3 hown hK hP hD hS 0 rfl rfl 1 (by decide) (hts (.fieldLink RX3 13 "FrozenBitsModel" "images" "[I") (List.mem_of_getElem? (i := 6) rfl)) (fun _ h9 => h9) rfl hin rfl (by decide +kernel) rfl rfl (Nat.le_of_ble_eq_true rfl) dX3_init_17 (fun H locs hP hD hS => ?_)
  have hP : va_P D vwCl ([(q0, .inr (3, [.ref qn1, .ref qn2, .null, .null, .null, .null, .int 0])), (qn1, .inl (cI, 24, .inl (fun _ => 0))), (qn2, .inl (cI, 48, .inl (fun _ => 0)))]) H := hP
  have hD : va_D A ([(q0, .inr (3, [.ref qn1, .ref qn2, .null, .null, .null, .null, .int 0])), (qn1, .inl (cI, 24, .inl (fun _ => 0))), (qn2, .inl (cI, 48, .inl (fun _ => 0)))]) := hD
  refine lv_aload_n hx hb dX3_init_20 rfl (lv_at hl 0 rfl) ?_
  refine lv_iconst (v := 2) hx hb dX3_init_21 (by decide) ?_
  refine zz_newZ (N := 2) hx hb (hts (.arrayClass .boolean) (List.mem_of_getElem? (i := 7) rfl)) hK hP hD hS hA (show (2 : Int32) = nI 2 from rfl) (by decide) (by decide) (Nat.le_of_ble_eq_true rfl) (Nat.le_of_ble_eq_true rfl) dX3_init_22 (fun qn3 H hP hD hS => ?_)
  have hP : va_P D vwCl ([(q0, .inr (3, [.ref qn1, .ref qn2, .null, .null, .null, .null, .int 0])), (qn1, .inl (cI, 24, .inl (fun _ => 0))), (qn2, .inl (cI, 48, .inl (fun _ => 0))), (qn3, .inl (cZ, 2, .inl (fun _ => 0)))]) H := hP
  have hD : va_D A ([(q0, .inr (3, [.ref qn1, .ref qn2, .null, .null, .null, .null, .int 0])), (qn1, .inl (cI, 24, .inl (fun _ => 0))), (qn2, .inl (cI, 48, .inl (fun _ => 0))), (qn3, .inl (cZ, 2, .inl (fun _ => 0)))]) := hD
  refine W.widen (k := 3) (n := 74) (by omega) (by omega) ?_
  refine va_putF (ci := 3) (v := .ref qn3) (ty := .array .boolean) (C := RX3) (T := TX3) (N := 7) hx hb hts (fun w h => List.mem_cons_of_mem _ (List.mem_append_right _ h)) tyX3 tyX3_ok nmX3 hown hK hP hD hS 0 rfl rfl 2 (by decide) (hts (.fieldLink RX3 16 "FrozenBitsModel" "isKept" "[Z") (List.mem_of_getElem? (i := 8) rfl)) (fun _ h9 => h9) rfl hin rfl (by decide +kernel) rfl rfl (Nat.le_of_ble_eq_true rfl) dX3_init_24 (fun H locs hP hD hS => ?_)
  have hP : va_P D vwCl ([(q0, .inr (3, [.ref qn1, .ref qn2, .ref qn3, .null, .null, .null, .int 0])), (qn1, .inl (cI, 24, .inl (fun _ => 0))), (qn2, .inl (cI, 48, .inl (fun _ => 0))), (qn3, .inl (cZ, 2, .inl (fun _ => 0)))]) H := hP
  have hD : va_D A ([(q0, .inr (3, [.ref qn1, .ref qn2, .ref qn3, .null, .null, .null, .int 0])), (qn1, .inl (cI, 24, .inl (fun _ => 0))), (qn2, .inl (cI, 48, .inl (fun _ => 0))), (qn3, .inl (cZ, 2, .inl (fun _ => 0)))]) := hD
  refine lv_aload_n hx hb dX3_init_27 rfl (lv_at hl 0 rfl) ?_
  refine lv_bipush (v := 16) hx hb dX3_init_28 (by decide) ?_
  refine zz_newI (N := 16) hx hb (hts (.arrayClass .int) (List.mem_of_getElem? (i := 4) rfl)) hK hP hD hS hA (show (16 : Int32) = nI 16 from rfl) (by decide) (by decide) (Nat.le_of_ble_eq_true rfl) (Nat.le_of_ble_eq_true rfl) dX3_init_30 (fun qn4 H hP hD hS => ?_)
  have hP : va_P D vwCl ([(q0, .inr (3, [.ref qn1, .ref qn2, .ref qn3, .null, .null, .null, .int 0])), (qn1, .inl (cI, 24, .inl (fun _ => 0))), (qn2, .inl (cI, 48, .inl (fun _ => 0))), (qn3, .inl (cZ, 2, .inl (fun _ => 0))), (qn4, .inl (cI, 16, .inl (fun _ => 0)))]) H := hP
  have hD : va_D A ([(q0, .inr (3, [.ref qn1, .ref qn2, .ref qn3, .null, .null, .null, .int 0])), (qn1, .inl (cI, 24, .inl (fun _ => 0))), (qn2, .inl (cI, 48, .inl (fun _ => 0))), (qn3, .inl (cZ, 2, .inl (fun _ => 0))), (qn4, .inl (cI, 16, .inl (fun _ => 0)))]) := hD
  refine W.widen (k := 4) (n := 90) (by omega) (by omega) ?_
  refine va_putF (ci := 3) (v := .ref qn4) (ty := .array .int) (C := RX3) (T := TX3) (N := 7) hx hb hts (fun w h => List.mem_cons_of_mem _ (List.mem_append_right _ h)) tyX3 tyX3_ok nmX3 hown hK hP hD hS 0 rfl rfl 3 (by decide) (hts (.fieldLink RX3 20 "FrozenBitsModel" "left" "[I") (List.mem_of_getElem? (i := 9) rfl)) (fun _ h9 => h9) rfl hin rfl (by decide +kernel) rfl rfl (Nat.le_of_ble_eq_true rfl) dX3_init_32 (fun H locs hP hD hS => ?_)
  have hP : va_P D vwCl ([(q0, .inr (3, [.ref qn1, .ref qn2, .ref qn3, .ref qn4, .null, .null, .int 0])), (qn1, .inl (cI, 24, .inl (fun _ => 0))), (qn2, .inl (cI, 48, .inl (fun _ => 0))), (qn3, .inl (cZ, 2, .inl (fun _ => 0))), (qn4, .inl (cI, 16, .inl (fun _ => 0)))]) H := hP
  have hD : va_D A ([(q0, .inr (3, [.ref qn1, .ref qn2, .ref qn3, .ref qn4, .null, .null, .int 0])), (qn1, .inl (cI, 24, .inl (fun _ => 0))), (qn2, .inl (cI, 48, .inl (fun _ => 0))), (qn3, .inl (cZ, 2, .inl (fun _ => 0))), (qn4, .inl (cI, 16, .inl (fun _ => 0)))]) := hD
  refine lv_aload_n hx hb dX3_init_35 rfl (lv_at hl 0 rfl) ?_
  refine lv_bipush (v := 16) hx hb dX3_init_36 (by decide) ?_
  refine zz_newI (N := 16) hx hb (hts (.arrayClass .int) (List.mem_of_getElem? (i := 4) rfl)) hK hP hD hS hA (show (16 : Int32) = nI 16 from rfl) (by decide) (by decide) (Nat.le_of_ble_eq_true rfl) (Nat.le_of_ble_eq_true rfl) dX3_init_38 (fun qn5 H hP hD hS => ?_)
  have hP : va_P D vwCl ([(q0, .inr (3, [.ref qn1, .ref qn2, .ref qn3, .ref qn4, .null, .null, .int 0])), (qn1, .inl (cI, 24, .inl (fun _ => 0))), (qn2, .inl (cI, 48, .inl (fun _ => 0))), (qn3, .inl (cZ, 2, .inl (fun _ => 0))), (qn4, .inl (cI, 16, .inl (fun _ => 0))), (qn5, .inl (cI, 16, .inl (fun _ => 0)))]) H := hP
  have hD : va_D A ([(q0, .inr (3, [.ref qn1, .ref qn2, .ref qn3, .ref qn4, .null, .null, .int 0])), (qn1, .inl (cI, 24, .inl (fun _ => 0))), (qn2, .inl (cI, 48, .inl (fun _ => 0))), (qn3, .inl (cZ, 2, .inl (fun _ => 0))), (qn4, .inl (cI, 16, .inl (fun _ => 0))), (qn5, .inl (cI, 16, .inl (fun _ => 0)))]) := hD
  refine W.widen (k := 5) (n := 106) (by omega) (by omega) ?_
  refine va_putF (ci := 3) (v := .ref qn5) (ty := .array .int) (C := RX3) (T := TX3) (N := 7) hx hb hts (fun w h => List.mem_cons_of_mem _ (List.mem_append_right _ h)) tyX3 tyX3_ok nmX3 hown hK hP hD hS 0 rfl rfl 4 (by decide) (hts (.fieldLink RX3 23 "FrozenBitsModel" "rows" "[I") (List.mem_of_getElem? (i := 10) rfl)) (fun _ h9 => h9) rfl hin rfl (by decide +kernel) rfl rfl (Nat.le_of_ble_eq_true rfl) dX3_init_40 (fun H locs hP hD hS => ?_)
  have hP : va_P D vwCl ([(q0, .inr (3, [.ref qn1, .ref qn2, .ref qn3, .ref qn4, .ref qn5, .null, .int 0])), (qn1, .inl (cI, 24, .inl (fun _ => 0))), (qn2, .inl (cI, 48, .inl (fun _ => 0))), (qn3, .inl (cZ, 2, .inl (fun _ => 0))), (qn4, .inl (cI, 16, .inl (fun _ => 0))), (qn5, .inl (cI, 16, .inl (fun _ => 0)))]) H := hP
  have hD : va_D A ([(q0, .inr (3, [.ref qn1, .ref qn2, .ref qn3, .ref qn4, .ref qn5, .null, .int 0])), (qn1, .inl (cI, 24, .inl (fun _ => 0))), (qn2, .inl (cI, 48, .inl (fun _ => 0))), (qn3, .inl (cZ, 2, .inl (fun _ => 0))), (qn4, .inl (cI, 16, .inl (fun _ => 0))), (qn5, .inl (cI, 16, .inl (fun _ => 0)))]) := hD
  refine lv_aload_n hx hb dX3_init_43 rfl (lv_at hl 0 rfl) ?_
  refine lv_bipush (v := 16) hx hb dX3_init_44 (by decide) ?_
  refine zz_newI (N := 16) hx hb (hts (.arrayClass .int) (List.mem_of_getElem? (i := 4) rfl)) hK hP hD hS hA (show (16 : Int32) = nI 16 from rfl) (by decide) (by decide) (Nat.le_of_ble_eq_true rfl) (Nat.le_of_ble_eq_true rfl) dX3_init_46 (fun qn6 H hP hD hS => ?_)
  have hP : va_P D vwCl ([(q0, .inr (3, [.ref qn1, .ref qn2, .ref qn3, .ref qn4, .ref qn5, .null, .int 0])), (qn1, .inl (cI, 24, .inl (fun _ => 0))), (qn2, .inl (cI, 48, .inl (fun _ => 0))), (qn3, .inl (cZ, 2, .inl (fun _ => 0))), (qn4, .inl (cI, 16, .inl (fun _ => 0))), (qn5, .inl (cI, 16, .inl (fun _ => 0))), (qn6, .inl (cI, 16, .inl (fun _ => 0)))]) H := hP
  have hD : va_D A ([(q0, .inr (3, [.ref qn1, .ref qn2, .ref qn3, .ref qn4, .ref qn5, .null, .int 0])), (qn1, .inl (cI, 24, .inl (fun _ => 0))), (qn2, .inl (cI, 48, .inl (fun _ => 0))), (qn3, .inl (cZ, 2, .inl (fun _ => 0))), (qn4, .inl (cI, 16, .inl (fun _ => 0))), (qn5, .inl (cI, 16, .inl (fun _ => 0))), (qn6, .inl (cI, 16, .inl (fun _ => 0)))]) := hD
  refine W.widen (k := 6) (n := 122) (by omega) (by omega) ?_
  refine va_putF (ci := 3) (v := .ref qn6) (ty := .array .int) (C := RX3) (T := TX3) (N := 7) hx hb hts (fun w h => List.mem_cons_of_mem _ (List.mem_append_right _ h)) tyX3 tyX3_ok nmX3 hown hK hP hD hS 0 rfl rfl 5 (by decide) (hts (.fieldLink RX3 26 "FrozenBitsModel" "fines" "[I") (List.mem_of_getElem? (i := 11) rfl)) (fun _ h9 => h9) rfl hin rfl (by decide +kernel) rfl rfl (Nat.le_of_ble_eq_true rfl) dX3_init_48 (fun H locs hP hD hS => ?_)
  have hP : va_P D vwCl ([(q0, .inr (3, [.ref qn1, .ref qn2, .ref qn3, .ref qn4, .ref qn5, .ref qn6, .int 0])), (qn1, .inl (cI, 24, .inl (fun _ => 0))), (qn2, .inl (cI, 48, .inl (fun _ => 0))), (qn3, .inl (cZ, 2, .inl (fun _ => 0))), (qn4, .inl (cI, 16, .inl (fun _ => 0))), (qn5, .inl (cI, 16, .inl (fun _ => 0))), (qn6, .inl (cI, 16, .inl (fun _ => 0)))]) H := hP
  have hD : va_D A ([(q0, .inr (3, [.ref qn1, .ref qn2, .ref qn3, .ref qn4, .ref qn5, .ref qn6, .int 0])), (qn1, .inl (cI, 24, .inl (fun _ => 0))), (qn2, .inl (cI, 48, .inl (fun _ => 0))), (qn3, .inl (cZ, 2, .inl (fun _ => 0))), (qn4, .inl (cI, 16, .inl (fun _ => 0))), (qn5, .inl (cI, 16, .inl (fun _ => 0))), (qn6, .inl (cI, 16, .inl (fun _ => 0)))]) := hD
  refine lv_aload_n hx hb dX3_init_51 rfl (lv_at hl 0 rfl) ?_
  refine va_get (ci := 3) (C := RX3) (T := TX3) (N := 7) hx hb hts (fun w h => List.mem_cons_of_mem _ (List.mem_append_right _ h)) hown hK hP 0 rfl rfl 0 (by decide) (hts (.fieldLink RX3 7 "FrozenBitsModel" "state" "[I") (List.mem_of_getElem? (i := 5) rfl)) (fun _ h9 => h9) rfl dX3_init_52 ?_
  refine lv_iconst (v := 0) hx hb dX3_init_55 (by decide) ?_
  refine lv_iconst (v := 3) hx hb dX3_init_56 (by decide) ?_
  refine zz_iast (i := 0) (f := (fun _ => 0)) hx hb hK hP hD hS 1 0 rfl rfl (show (0 : Int32) = nI 0 from rfl) (by decide) (by decide) dX3_init_57 (fun H locs hP hD hS => ?_)
  have hP : va_P D vwCl ([(q0, .inr (3, [.ref qn1, .ref qn2, .ref qn3, .ref qn4, .ref qn5, .ref qn6, .int 0])), (qn1, .inl (cI, 24, .inl (upd (fun _ => 0) 0 3))), (qn2, .inl (cI, 48, .inl (fun _ => 0))), (qn3, .inl (cZ, 2, .inl (fun _ => 0))), (qn4, .inl (cI, 16, .inl (fun _ => 0))), (qn5, .inl (cI, 16, .inl (fun _ => 0))), (qn6, .inl (cI, 16, .inl (fun _ => 0)))]) H := hP
  have hD : va_D A ([(q0, .inr (3, [.ref qn1, .ref qn2, .ref qn3, .ref qn4, .ref qn5, .ref qn6, .int 0])), (qn1, .inl (cI, 24, .inl (upd (fun _ => 0) 0 3))), (qn2, .inl (cI, 48, .inl (fun _ => 0))), (qn3, .inl (cZ, 2, .inl (fun _ => 0))), (qn4, .inl (cI, 16, .inl (fun _ => 0))), (qn5, .inl (cI, 16, .inl (fun _ => 0))), (qn6, .inl (cI, 16, .inl (fun _ => 0)))]) := hD
  refine lv_aload_n hx hb dX3_init_58 rfl (lv_at hl 0 rfl) ?_
  refine va_get (ci := 3) (C := RX3) (T := TX3) (N := 7) hx hb hts (fun w h => List.mem_cons_of_mem _ (List.mem_append_right _ h)) hown hK hP 0 rfl rfl 0 (by decide) (hts (.fieldLink RX3 7 "FrozenBitsModel" "state" "[I") (List.mem_of_getElem? (i := 5) rfl)) (fun _ h9 => h9) rfl dX3_init_59 ?_
  refine lv_iconst (v := 1) hx hb dX3_init_62 (by decide) ?_
  refine lv_iconst (v := 1) hx hb dX3_init_63 (by decide) ?_
  refine zz_iast (i := 1) (f := (upd (fun _ => 0) 0 3)) hx hb hK hP hD hS 1 0 rfl rfl (show (1 : Int32) = nI 1 from rfl) (by decide) (by decide) dX3_init_64 (fun H locs hP hD hS => ?_)
  have hP : va_P D vwCl ([(q0, .inr (3, [.ref qn1, .ref qn2, .ref qn3, .ref qn4, .ref qn5, .ref qn6, .int 0])), (qn1, .inl (cI, 24, .inl (upd (upd (fun _ => 0) 0 3) 1 1))), (qn2, .inl (cI, 48, .inl (fun _ => 0))), (qn3, .inl (cZ, 2, .inl (fun _ => 0))), (qn4, .inl (cI, 16, .inl (fun _ => 0))), (qn5, .inl (cI, 16, .inl (fun _ => 0))), (qn6, .inl (cI, 16, .inl (fun _ => 0)))]) H := hP
  have hD : va_D A ([(q0, .inr (3, [.ref qn1, .ref qn2, .ref qn3, .ref qn4, .ref qn5, .ref qn6, .int 0])), (qn1, .inl (cI, 24, .inl (upd (upd (fun _ => 0) 0 3) 1 1))), (qn2, .inl (cI, 48, .inl (fun _ => 0))), (qn3, .inl (cZ, 2, .inl (fun _ => 0))), (qn4, .inl (cI, 16, .inl (fun _ => 0))), (qn5, .inl (cI, 16, .inl (fun _ => 0))), (qn6, .inl (cI, 16, .inl (fun _ => 0)))]) := hD
  refine lv_aload_n hx hb dX3_init_65 rfl (lv_at hl 0 rfl) ?_
  refine va_get (ci := 3) (C := RX3) (T := TX3) (N := 7) hx hb hts (fun w h => List.mem_cons_of_mem _ (List.mem_append_right _ h)) hown hK hP 0 rfl rfl 0 (by decide) (hts (.fieldLink RX3 7 "FrozenBitsModel" "state" "[I") (List.mem_of_getElem? (i := 5) rfl)) (fun _ h9 => h9) rfl dX3_init_66 ?_
  refine lv_iconst (v := 2) hx hb dX3_init_69 (by decide) ?_
  refine lv_iconst (v := 2) hx hb dX3_init_70 (by decide) ?_
  refine zz_iast (i := 2) (f := (upd (upd (fun _ => 0) 0 3) 1 1)) hx hb hK hP hD hS 1 0 rfl rfl (show (2 : Int32) = nI 2 from rfl) (by decide) (by decide) dX3_init_71 (fun H locs hP hD hS => ?_)
  have hP : va_P D vwCl ([(q0, .inr (3, [.ref qn1, .ref qn2, .ref qn3, .ref qn4, .ref qn5, .ref qn6, .int 0])), (qn1, .inl (cI, 24, .inl (upd (upd (upd (fun _ => 0) 0 3) 1 1) 2 2))), (qn2, .inl (cI, 48, .inl (fun _ => 0))), (qn3, .inl (cZ, 2, .inl (fun _ => 0))), (qn4, .inl (cI, 16, .inl (fun _ => 0))), (qn5, .inl (cI, 16, .inl (fun _ => 0))), (qn6, .inl (cI, 16, .inl (fun _ => 0)))]) H := hP
  have hD : va_D A ([(q0, .inr (3, [.ref qn1, .ref qn2, .ref qn3, .ref qn4, .ref qn5, .ref qn6, .int 0])), (qn1, .inl (cI, 24, .inl (upd (upd (upd (fun _ => 0) 0 3) 1 1) 2 2))), (qn2, .inl (cI, 48, .inl (fun _ => 0))), (qn3, .inl (cZ, 2, .inl (fun _ => 0))), (qn4, .inl (cI, 16, .inl (fun _ => 0))), (qn5, .inl (cI, 16, .inl (fun _ => 0))), (qn6, .inl (cI, 16, .inl (fun _ => 0)))]) := hD
  refine lv_aload_n hx hb dX3_init_72 rfl (lv_at hl 0 rfl) ?_
  refine va_get (ci := 3) (C := RX3) (T := TX3) (N := 7) hx hb hts (fun w h => List.mem_cons_of_mem _ (List.mem_append_right _ h)) hown hK hP 0 rfl rfl 0 (by decide) (hts (.fieldLink RX3 7 "FrozenBitsModel" "state" "[I") (List.mem_of_getElem? (i := 5) rfl)) (fun _ h9 => h9) rfl dX3_init_73 ?_
  refine lv_iconst (v := 4) hx hb dX3_init_76 (by decide) ?_
  refine lv_iconst (v := 1) hx hb dX3_init_77 (by decide) ?_
  refine zz_iast (i := 4) (f := (upd (upd (upd (fun _ => 0) 0 3) 1 1) 2 2)) hx hb hK hP hD hS 1 0 rfl rfl (show (4 : Int32) = nI 4 from rfl) (by decide) (by decide) dX3_init_78 (fun H locs hP hD hS => ?_)
  have hP : va_P D vwCl ([(q0, .inr (3, [.ref qn1, .ref qn2, .ref qn3, .ref qn4, .ref qn5, .ref qn6, .int 0])), (qn1, .inl (cI, 24, .inl (upd (upd (upd (upd (fun _ => 0) 0 3) 1 1) 2 2) 4 1))), (qn2, .inl (cI, 48, .inl (fun _ => 0))), (qn3, .inl (cZ, 2, .inl (fun _ => 0))), (qn4, .inl (cI, 16, .inl (fun _ => 0))), (qn5, .inl (cI, 16, .inl (fun _ => 0))), (qn6, .inl (cI, 16, .inl (fun _ => 0)))]) H := hP
  have hD : va_D A ([(q0, .inr (3, [.ref qn1, .ref qn2, .ref qn3, .ref qn4, .ref qn5, .ref qn6, .int 0])), (qn1, .inl (cI, 24, .inl (upd (upd (upd (upd (fun _ => 0) 0 3) 1 1) 2 2) 4 1))), (qn2, .inl (cI, 48, .inl (fun _ => 0))), (qn3, .inl (cZ, 2, .inl (fun _ => 0))), (qn4, .inl (cI, 16, .inl (fun _ => 0))), (qn5, .inl (cI, 16, .inl (fun _ => 0))), (qn6, .inl (cI, 16, .inl (fun _ => 0)))]) := hD
  rw [zst_a0] at hP hD
  have hP9 : va_P D vwCl (zcM cI cZ (fun n9 => List.getD [q0, qn1, qn2, qn3, qn4, qn5, qn6] n9 0) (zst za0) (fun _ => 0) (fun _ => 0) (fun _ => 0) (fun _ => 0) (fun _ => 0) 0) H := hP
  have hD9 : va_D A (zcM cI cZ (fun n9 => List.getD [q0, qn1, qn2, qn3, qn4, qn5, qn6] n9 0) (zst za0) (fun _ => 0) (fun _ => 0) (fun _ => 0) (fun _ => 0) (fun _ => 0) 0) := hD
  exact W.vret hx hb hr (fun t9 ht hW => ⟨⟨(fun n9 => List.getD [q0, qn1, qn2, qn3, qn4, qn5, qn6] n9 0), rfl, rfl, zP_ht ht hP9, hD9⟩, hS.F ht⟩) hS.2.2 dX3_init_79
