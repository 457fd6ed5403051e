set_option maxHeartbeats 4000000 in
set_option maxRecDepth 100000 in
theorem zl_env {s : State} {b : Nat} (hts0 : ∀ w ∈ lw_tbl, w.before #[Value.ref b] s = true) (hgv : (Jvm.Cond.and given_1 narrow_1).before #[Value.ref b] s = true) : ∃ (D : va_G) (cI cZ : ClassId) (ta : Nat), zG D (zTy cI cZ) s.heap.size ta s s.heap := by
  have hts : ∀ w ∈ wsL_law, w.before #[Value.ref b] s = true := fun w h => hts0 w (wsL_law_in w h)
  obtain ⟨c0, iS0, hKn0⟩ := u_known (C := RX0) (T := TX0) (N := 7) (n := 7) hts0 inX0 (hts0 (.instantiable RX0 7) (List.mem_append_right _ (List.mem_of_getElem? (i := 17) (by decide +kernel))))
  obtain ⟨c1, iS1, hKn1⟩ := u_known (C := RX1) (T := TX1) (N := 3) (n := 3) hts0 inX1 (hts0 (.instantiable RX1 3) (List.mem_append_right _ (List.mem_of_getElem? (i := 53) (by decide +kernel))))
  obtain ⟨c2, iS2, hKn2⟩ := u_known (C := RX2) (T := TX2) (N := 7) (n := 7) hts0 inX2 (hts0 (.instantiable RX2 7) (List.mem_append_right _ (List.mem_of_getElem? (i := 9) (by decide +kernel))))
  obtain ⟨c3, iS3, hKn3⟩ := u_known (C := RX3) (T := TX3) (N := 7) (n := 7) hts0 inX3 (hts0 (.instantiable RX3 7) (List.mem_append_right _ (List.mem_of_getElem? (i := 365) (by decide +kernel))))
  obtain ⟨D, hKc⟩ : ∃ D : va_G, ∀ (k : Nat) (q : vw_C), vwCl[k]? = some q → u_Kn s q.1 q.2.1 q.2.2 (D.1 k) (D.2 k) := by
    refine ⟨(fun k => if k = 0 then c0 else if k = 1 then c1 else if k = 2 then c2 else c3, fun k => if k = 0 then iS0 else if k = 1 then iS1 else if k = 2 then iS2 else iS3), ?_⟩
    intro k q hq
    match k, hq with
    | 0, hq => cases hq; exact hKn0
    | 1, hq => cases hq; exact hKn1
    | 2, hq => cases hq; exact hKn2
    | 3, hq => cases hq; exact hKn3
    | k + 4, hq => simp [vwCl] at hq
  obtain ⟨cI, kI, pI, hI1, hI2, hI3⟩ := Cond.arrayClass_spec (hts0 (.arrayClass .int) (List.mem_append_right _ (List.mem_of_getElem? (i := 51) (by decide +kernel))))
  obtain ⟨cZ, kZ, pZ, hZ1, hZ2, hZ3⟩ := Cond.arrayClass_spec (hts0 (.arrayClass .boolean) (List.mem_append_right _ (List.mem_of_getElem? (i := 392) (by decide +kernel))))
  have hK : va_K D vwCl (zTy cI cZ) s := by
    refine ⟨hKc, fun k q hq => ?_⟩
    match k, hq with
    | 0, hq => cases hq; exact ⟨fun n z => ⟨fun k h => (by cases h), kI, hI2, pI, hI3⟩, hI1⟩
    | 1, hq => cases hq; exact ⟨fun n z => ⟨fun k h => (by cases h), kZ, hZ2, pZ, hZ3⟩, hZ1⟩
    | k + 2, hq => simp [zTy] at hq
  have hA : ∀ a : Nat, a < s.heap.size → ¬ zA s.heap.size a := fun _ h => Nat.not_le.mpr h
  have hs := flat_of_before _ hgv
  have h0 := va_eqt (hs (Cond.eq (.elem (.static "FrozenBits" "FIRST_OF_PAIRS" "[I") (.int 0)) (.int 21845)) (by decide +kernel))
  have h1 := va_eqt (hs (Cond.eq (.elem (.static "FrozenBits" "FIRST_OF_PAIRS" "[I") (.int 1)) (.int 13107)) (by decide +kernel))
  have h2 := va_eqt (hs (Cond.eq (.elem (.static "FrozenBits" "FIRST_OF_PAIRS" "[I") (.int 2)) (.int 3855)) (by decide +kernel))
  have h3 := va_eqt (hs (Cond.eq (.elem (.static "FrozenBits" "FIRST_OF_PAIRS" "[I") (.int 3)) (.int 255)) (by decide +kernel))
  have hn := va_eqt (hs (Cond.eq (.length (.static "FrozenBits" "FIRST_OF_PAIRS" "[I")) (.int 4)) (by decide +kernel))
  obtain ⟨ta, hta, hT⟩ := va_Tof (tm := .static "FrozenBits" "FIRST_OF_PAIRS" "[I") (ty := .int) (N := 4) (f := zFv) (A := zA s.heap.size) (by decide) (hs (Cond.arrayOf (.static "FrozenBits" "FIRST_OF_PAIRS" "[I") .int) (by decide +kernel)) hn (fun j hj => by
    rcases (show j = 0 ∨ j = 1 ∨ j = 2 ∨ j = 3 by omega) with rfl | rfl | rfl | rfl
    · exact h0
    · exact h1
    · exact h2
    · exact h3
    ) hA
  have hZ := va_Zref (hts0 (.laysStatic "FrozenBits" "FIRST_OF_PAIRS" "[I") (List.mem_append_right _ (List.mem_of_getElem? (i := 173) (by decide +kernel)))) (hts0 (.initialized "FrozenBits") (List.mem_append_right _ (List.mem_of_getElem? (i := 1) (by decide +kernel)))) hta hA
  refine ⟨D, cI, cZ, ta, hK, fun w hw => ?_, hZ, hT, Nat.le_refl _⟩
  simp only [zNest, List.mem_cons, List.not_mem_nil, or_false] at hw
  rcases hw with rfl | rfl | rfl | rfl | rfl | rfl | rfl | rfl | rfl | rfl | rfl | rfl
  · exact va_Nw.of rfl (hts0 _ (List.mem_append_right _ (List.mem_of_getElem? (i := 23) (by decide +kernel))))
  · exact va_Nw.of rfl (hts0 _ (List.mem_append_right _ (List.mem_of_getElem? (i := 25) (by decide +kernel))))
  · exact va_Nw.of rfl (hts0 _ (List.mem_append_right _ (List.mem_of_getElem? (i := 27) (by decide +kernel))))
  · exact va_Nw.of rfl (hts0 _ (List.mem_append_right _ (List.mem_of_getElem? (i := 29) (by decide +kernel))))
  · exact va_Nw.of rfl (hts0 _ (List.mem_append_right _ (List.mem_of_getElem? (i := 31) (by decide +kernel))))
  · exact va_Nw.of rfl (hts0 _ (List.mem_append_right _ (List.mem_of_getElem? (i := 33) (by decide +kernel))))
  · exact va_Nw.of rfl (hts0 _ (List.mem_append_right _ (List.mem_of_getElem? (i := 35) (by decide +kernel))))
  · exact va_Nw.of rfl (hts0 _ (List.mem_append_right _ (List.mem_of_getElem? (i := 59) (by decide +kernel))))
  · exact va_Nw.of rfl (hts0 _ (List.mem_append_right _ (List.mem_of_getElem? (i := 61) (by decide +kernel))))
  · exact va_Nw.of rfl (hts0 _ (List.mem_append_right _ (List.mem_of_getElem? (i := 63) (by decide +kernel))))
  · exact va_Nw.of rfl (hts0 _ (List.mem_append_right _ (List.mem_of_getElem? (i := 18) (by decide +kernel))))
  · exact va_Nw.of rfl (hts0 _ (List.mem_append_right _ (List.mem_of_getElem? (i := 54) (by decide +kernel))))
