/-! What every call keeps of the facts; how class and reference stand to each other. -/
theorem zI_a0 : zInv (3, 1, 2, 0, 1, (fun _ => 0), (fun _ => 0)) := by
  refine ⟨⟨by decide, by decide⟩, ⟨by decide, by decide, by decide⟩, by decide, ⟨by decide, by decide⟩, fun _ _ => ?_, fun _ _ => ⟨0, rfl, by decide⟩⟩
  show (-99 : Int) ≤ (0 : Int32).toInt ∧ (0 : Int32).toInt ≤ 99
  decide
theorem zI_deep {a : ZA} (h : zInv a) (v : Int32) : zInv (zq_deep a v).2 := by
  unfold zq_deep
  by_cases c : v < 1 ∨ 4 < v
  · rw [if_pos c]
    exact h
  · rw [if_neg c]
    obtain ⟨k, h1, h2, rfl⟩ := zr1 (x := v) (lo := 1) (hi := 4) (fun q => c (Or.inl q)) (fun q => c (Or.inr q)) (by decide) (by decide)
    show zInv (zN (nI k), _, _, _, _, _, _)
    rw [zN_nI (by omega)]
    refine ⟨⟨h1, h2⟩, h.2.1, Nat.two_pow_pos _, h.2.2.2.1, fun _ _ => ?_, fun _ _ => ⟨0, rfl, Nat.two_pow_pos _⟩⟩
    show (-99 : Int) ≤ (0 : Int32).toInt ∧ (0 : Int32).toInt ≤ 99
    decide
theorem zI_loss {a : ZA} (h : zInv a) (t o : Int32) : zInv (zq_loss a t o).2 := by
  unfold zq_loss
  by_cases c : o < 2 ∨ 10 < o ∨ t < 0 ∨ o < t
  · rw [if_pos c]
    exact h
  · rw [if_neg c]
    obtain ⟨k, h1, h2, rfl⟩ := zr1 (x := o) (lo := 2) (hi := 10) (fun q => c (Or.inl q)) (fun q => c (Or.inr (Or.inl q))) (by decide) (by decide)
    obtain ⟨j, h3, h4, rfl⟩ := zr1 (x := t) (lo := 0) (hi := k) (fun q => c (Or.inr (Or.inr (Or.inl q)))) (fun q => c (Or.inr (Or.inr (Or.inr q)))) (by omega) (by decide)
    show zInv (a.1, zN (nI j), zN (nI k), a.2.2.2)
    rw [zN_nI (show j < 2 ^ 31 by omega), zN_nI (show k < 2 ^ 31 by omega)]
    exact ⟨h.1, ⟨h4, h1, h2⟩, h.2.2⟩
theorem zNN31 {a : ZA} (h : zInv a) : 2 ^ 2 ^ a.1 < 2 ^ 31 := Nat.lt_of_le_of_lt (zNN h) (by decide)
theorem zI_freeze {a : ZA} (h : zInv a) (s : Int32) : zInv (zq_freeze a s).2 := by
  unfold zq_freeze
  by_cases c : ¬ s < 0 ∧ s < nI (2 ^ 2 ^ a.1)
  · rw [if_neg (fun q => q c)]
    obtain ⟨k, h1, rfl⟩ := zr0 c (zNN31 h)
    show zInv (a.1, a.2.1, a.2.2.1, zN (nI k), a.2.2.2.2)
    rw [zN_nI (Nat.lt_trans h1 (zNN31 h))]
    exact ⟨h.1, h.2.1, h1, h.2.2.2⟩
  · rw [if_pos c]
    exact h
theorem zI_best {a : ZA} (h : zInv a) (n : Int32) : zInv (zq_best a n).2 := by
  unfold zq_best
  by_cases c : n < 0 ∨ nI (2 ^ a.1) < n
  · rw [if_pos c]
    exact h
  · rw [if_neg c]
    exact ⟨h.1, h.2.1, zbd_lt a _ _, h.2.2.2⟩
theorem zv99 {v : Int32} (c : ¬ (v < -99 ∨ 99 < v)) : -99 ≤ v.toInt ∧ v.toInt ≤ 99 := by
  have h1 : ¬ v.toInt < (-99 : Int32).toInt := fun q => c (Or.inl (Int32.lt_iff_toInt_lt.mpr q))
  have h2 : ¬ (99 : Int32).toInt < v.toInt := fun q => c (Or.inr (Int32.lt_iff_toInt_lt.mpr q))
  rw [show (-99 : Int32).toInt = -99 by decide] at h1
  rw [show (99 : Int32).toInt = 99 by decide] at h2
  omega
theorem zI_wm {a : ZA} (h : zInv a) {me : Nat → Int32} (hm : ∀ k, k < 16 → -99 ≤ (me k).toInt ∧ (me k).toInt ≤ 99) : zInv (zwm a me) := ⟨h.1, h.2.1, h.2.2.1, h.2.2.2.1, hm, h.2.2.2.2.2⟩
theorem zI_put {a : ZA} (h : zInv a) (p v : Int32) : zInv (zq_put a p v).2 := by
  unfold zq_put
  by_cases c : ¬ p < 0 ∧ p < nI (2 ^ a.1)
  · rw [if_neg (fun q => q c)]
    by_cases c2 : v < -99 ∨ 99 < v
    · rw [if_pos c2]
      exact h
    · rw [if_neg c2]
      refine zI_wm h (fun k hk => ?_)
      by_cases e : k = zN p
      · rw [e, pk_us]
        exact zv99 c2
      · rw [pk_un e]
        exact h.2.2.2.2.1 k hk
  · rw [if_pos c]
    exact h
theorem zI_hear {a : ZA} (h : zInv a) (s g : Int32) : zInv (zq_hear a s g).2 := by
  unfold zq_hear
  by_cases c : ¬ (¬ s < 0 ∧ s < nI (2 ^ 2 ^ a.1)) ∨ g < 1 ∨ 99 < g
  · rw [if_pos c]
    exact h
  · rw [if_neg c]
    obtain ⟨k, h1, h2, rfl⟩ := zr1 (x := g) (lo := 1) (hi := 99) (fun q => c (Or.inr (Or.inl q))) (fun q => c (Or.inr (Or.inr q))) (by decide) (by decide)
    have hg : zbnd 99 (nI k) := by
      unfold zbnd
      rw [nI_toInt (by omega)]
      omega
    refine zI_wm h (fun j hj => ?_)
    unfold zhe
    split
    · split
      · exact zneg_bnd (by omega) hg
      · exact hg
    · exact h.2.2.2.2.1 j hj
theorem zI_spoil {a : ZA} (h : zInv a) (s g : Int32) : zInv (zq_spoil a s g).2 := by
  unfold zq_spoil
  by_cases c : ¬ (¬ s < 0 ∧ s < nI (2 ^ 2 ^ a.1)) ∨ g < 0 ∨ 1 < g
  · rw [if_pos c]
    exact h
  · rw [if_neg c]
    refine zI_wm h (fun j hj => ?_)
    unfold zsp
    split
    · split
      · decide
      · exact zneg_bnd (c := 99) (by omega) (h.2.2.2.2.1 j hj)
    · exact h.2.2.2.2.1 j hj
theorem zI_most {a : ZA} (h : zInv a) (v : Int32) : zInv (zq_most a v).2 := by
  unfold zq_most
  by_cases c : v < 1 ∨ 8 < v
  · rw [if_pos c]
    exact h
  · rw [if_neg c]
    obtain ⟨k, h1, h2, rfl⟩ := zr1 (x := v) (lo := 1) (hi := 8) (fun q => c (Or.inl q)) (fun q => c (Or.inr q)) (by decide) (by decide)
    show zInv (a.1, a.2.1, a.2.2.1, a.2.2.2.1, zN (nI k), a.2.2.2.2.2)
    rw [zN_nI (by omega)]
    exact ⟨h.1, h.2.1, h.2.2.1, ⟨h1, h2⟩, h.2.2.2.2⟩
theorem zI_check {a : ZA} (h : zInv a) (c s : Int32) : zInv (zq_check a c s).2 := by
  unfold zq_check
  by_cases c1 : c < 0 ∨ ¬ c < 3
  · rw [if_pos c1]
    exact h
  · rw [if_neg c1]
    by_cases c2 : ¬ s < 0 ∧ s < nI (2 ^ 2 ^ a.1)
    · rw [if_neg (fun q => q c2)]
      refine ⟨h.1, h.2.1, h.2.2.1, h.2.2.2.1, h.2.2.2.2.1, fun k hk => ?_⟩
      show ∃ j, upd a.2.2.2.2.2.2 (zN c) s k = nI j ∧ j < 2 ^ 2 ^ a.1
      by_cases e : k = zN c
      · rw [e, pk_us]
        obtain ⟨j, h1, h2⟩ := zr0 c2 (zNN31 h)
        exact ⟨j, h2, h1⟩
      · rw [pk_un e]
        exact h.2.2.2.2.2 k hk
    · rw [if_pos c2]
      exact h
theorem zI_restore {a b0 b1 : ZA} (h : zInv a) (h0 : zInv b0) (h1 : zInv b1) (ik : Nat) (k : Int32) : zInv (zq_restore a b0 b1 ik k).2 := by
  unfold zq_restore
  by_cases c1 : k < 0 ∨ ¬ k < 2
  · rw [if_pos c1]
    exact h
  · rw [if_neg c1]
    by_cases c2 : k = 0
    · rw [if_pos c2]
      by_cases c3 : ¬ ik.testBit 0 = true
      · rw [if_pos c3]
        exact h
      · rw [if_neg c3]
        exact h0
    · rw [if_neg c2]
      by_cases c3 : ¬ ik.testBit 1 = true
      · rw [if_pos c3]
        exact h
      · rw [if_neg c3]
        exact h1
/-- the kept images: the class's two objects of facts, the reference's row -/
def zCp (b0 b1 : ZA) (ik : Nat) (im kp : Nat → Int32) : Prop := zInv b0 ∧ zInv b1 ∧ ik < 4 ∧ kp 0 = zB (ik.testBit 0 = true) ∧ kp 1 = zB (ik.testBit 1 = true) ∧ (¬ kp 0 = 0 → ∀ j, j < 24 → im (0 + j) = zst b0 j) ∧ (¬ kp 1 = 0 → ∀ j, j < 24 → im (24 + j) = zst b1 j)
theorem zCp_0 : zCp (3, 1, 2, 0, 1, (fun _ => 0), (fun _ => 0)) (3, 1, 2, 0, 1, (fun _ => 0), (fun _ => 0)) 0 (fun _ => 0) (fun _ => 0) := ⟨zI_a0, zI_a0, by decide, by decide, by decide, fun h => absurd rfl h, fun h => absurd rfl h⟩
theorem zrest_eq {a b0 b1 : ZA} {ik : Nat} {kp : Nat → Int32} {p : Int32} (hk0 : kp 0 = zB (ik.testBit 0 = true)) (hk1 : kp 1 = zB (ik.testBit 1 = true)) : (if p < 0 ∨ 1 < p then (-2, a) else if p = 0 then (if kp 0 = 0 then (-3, a) else (1, b0)) else (if kp 1 = 0 then (-3, a) else (1, b1))) = zq_restore a b0 b1 ik p := by
  unfold zq_restore
  by_cases c : p < 0 ∨ 1 < p
  · rw [if_pos c, if_pos (zin01_iff.mpr c)]
  · rw [if_neg c, if_neg (fun q => c (zin01_iff.mp q))]
    by_cases c2 : p = 0
    · rw [if_pos c2, if_pos c2]
      by_cases t : ik.testBit 0 = true
      · rw [if_neg (by rw [hk0, zB, if_pos t]; decide), if_neg (fun q => q t)]
      · rw [if_pos (by rw [hk0, zB, if_neg t]), if_pos t]
    · rw [if_neg c2, if_neg c2]
      by_cases t : ik.testBit 1 = true
      · rw [if_neg (by rw [hk1, zB, if_pos t]; decide), if_neg (fun q => q t)]
      · rw [if_pos (by rw [hk1, zB, if_neg t]), if_pos t]
theorem zik_or0 : ∀ ik, ik < 4 → (ik ||| 2 ^ 0) < 4 ∧ (ik ||| 2 ^ 0).testBit 0 = true ∧ (ik ||| 2 ^ 0).testBit 1 = ik.testBit 1 := by decide
theorem zik_or1 : ∀ ik, ik < 4 → (ik ||| 2 ^ 1) < 4 ∧ (ik ||| 2 ^ 1).testBit 1 = true ∧ (ik ||| 2 ^ 1).testBit 0 = ik.testBit 0 := by decide
theorem zimg_cp {a b0 b1 : ZA} {ik : Nat} {im kp : Nat → Int32} {p r1 r2 : Int32} {u1 : ZA × ZA × Nat} {u2 : (Nat → Int32) × (Nat → Int32)} (hI : zInv a) (hC : zCp b0 b1 ik im kp) (e1 : (r1, u1) = zq_image a b0 b1 ik p) (e2 : (r2, u2) = if p < 0 ∨ 1 < p then (-2, im, kp) else if p = 0 then (1, fb_put im (zst a) 0 24, upd kp 0 1) else (1, fb_put im (zst a) 24 24, upd kp 1 1)) : r1 = r2 ∧ zCp u1.1 u1.2.1 u1.2.2 u2.1 u2.2 := by
  obtain ⟨h0, h1, hk, k0, k1, i0, i1⟩ := id hC
  unfold zq_image at e1
  by_cases c : p < 0 ∨ 1 < p
  · rw [if_pos (zin01_iff.mpr c)] at e1
    rw [if_pos c] at e2
    cases e1
    cases e2
    exact ⟨rfl, hC⟩
  · rw [if_neg (fun q => c (zin01_iff.mp q))] at e1
    rw [if_neg c] at e2
    by_cases c2 : p = 0
    · rw [if_pos c2] at e1 e2
      cases e1
      cases e2
      obtain ⟨z1, z2, z3⟩ := zik_or0 ik hk
      refine ⟨rfl, hI, h1, z1, ?_, ?_, fun _ j hj => ?_, fun hq j hj => ?_⟩
      · show upd kp 0 1 0 = _
        rw [pk_us]
        exact zB_1 z2
      · show upd kp 0 1 1 = zB ((ik ||| 2 ^ 0).testBit 1 = true)
        rw [pk_un (by decide), k1]
        simp only [z3]
      · show fb_put im (zst a) 0 24 (0 + j) = zst a j
        rw [fb_put_in (by omega) (by omega), show 0 + j - 0 = j by omega]
      · have hq : ¬ upd kp 0 1 1 = 0 := hq
        rw [pk_un (by decide)] at hq
        show fb_put im (zst a) 0 24 (24 + j) = _
        rw [fb_put_out (by omega)]
        exact i1 hq j hj
    · rw [if_neg c2] at e1 e2
      cases e1
      cases e2
      obtain ⟨z1, z2, z3⟩ := zik_or1 ik hk
      refine ⟨rfl, h0, hI, z1, ?_, ?_, fun hq j hj => ?_, fun _ j hj => ?_⟩
      · show upd kp 1 1 0 = zB ((ik ||| 2 ^ 1).testBit 0 = true)
        rw [pk_un (by decide), k0]
        simp only [z3]
      · show upd kp 1 1 1 = _
        rw [pk_us]
        exact zB_1 z2
      · have hq : ¬ upd kp 1 1 0 = 0 := hq
        rw [pk_un (by decide)] at hq
        show fb_put im (zst a) 24 24 (0 + j) = _
        rw [fb_put_out (by omega)]
        exact i0 hq j hj
      · show fb_put im (zst a) 24 24 (24 + j) = zst a j
        rw [fb_put_in (by omega) (by omega), show 24 + j - 24 = j by omega]
theorem zcmp_self (x : Int64) : lg_cmp x x = 0 := by
  unfold lg_cmp
  by_cases h : x > x
  · exact absurd (Int64.lt_iff_toInt_lt.mp h) (by omega)
  · rw [if_neg h, if_pos rfl]
theorem zlaw_i {i L : Nat} (h : i ≤ L + 2) (hL : L ≤ 1536) : Int32.ofNat L - 3 < nI i ↔ L < i + 3 := by
  have e0 : (Int32.ofNat L).toInt = (L : Int) := nI_toInt (by omega)
  have e3 : (3 : Int32).toInt = 3 := by decide
  have e1 : (Int32.ofNat L - 3).toInt = (L : Int) - 3 := by
    rw [fb_subI (by rw [e0, e3]; omega) (by rw [e0, e3]; omega), e0, e3]
  rw [Int32.lt_iff_toInt_lt, e1, nI_toInt (by omega)]
  omega
