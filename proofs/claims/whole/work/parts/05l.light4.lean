theorem zfn_sz {a : ZA} (hI : zInv a) : ∀ i, i ≤ 2 ^ a.1 → zsz (zfre a) i = zfn a.2.2.2.1 i
  | 0, _ => rfl
  | i + 1, h => by
    show zsz (zfre a) i + ((zfre a).testBit i).toNat = _
    rw [zfn_sz hI i (by omega), zfre_bit hI, decide_eq_true (show i < 2 ^ a.1 by omega)]
    conv => rhs; unfold zfn
    by_cases c : a.2.2.2.1.testBit i = true
    · rw [if_pos c, c]
      rfl
    · rw [if_neg c, Bool.eq_false_iff.mpr c]
      rfl
theorem zfn_pc {a : ZA} (hI : zInv a) : zfn a.2.2.2.1 (2 ^ a.1) = zpc (zfre a) := by
  have h16 := zNp hI
  have hl : zfre a < 2 ^ 2 ^ a.1 := zlt_bits (fun k hk => by rw [zfre_bit hI, decide_eq_false (by omega)]; rfl)
  rw [← zfn_sz hI _ (Nat.le_refl _), ← zsz_16]
  have := zsz_hi hl (16 - 2 ^ a.1)
  rw [show 2 ^ a.1 + (16 - 2 ^ a.1) = 16 by omega] at this
  exact this.symm
theorem zwd_fr (z v k : Nat) : ∀ i, (zwd z v i).1.testBit k = true → z.testBit k = false
  | 0, h => by simp [zwd] at h
  | i + 1, h => by
    by_cases c : z.testBit i = true
    · have e2 : zwd z v (i + 1) = zwd z v i := by
        conv => lhs; unfold zwd
        rw [if_pos c]
      rw [e2] at h
      exact zwd_fr z v k i h
    · have e2 : (zwd z v (i + 1)).1 = (zwd z v i).1 ||| ((zwd z v i).2 &&& 1) <<< i := by
        conv => lhs; unfold zwd
        rw [if_neg c]
      rw [e2, Nat.testBit_or, Bool.or_eq_true] at h
      rcases h with h | h
      · exact zwd_fr z v k i h
      · rw [Nat.testBit_shiftLeft, Bool.and_eq_true] at h
        have h1 := of_decide_eq_true h.1
        have h2 : (zwd z v i).2 &&& 1 < 2 := Nat.lt_of_le_of_lt Nat.and_le_right (by omega)
        by_cases e : k = i
        · rw [e]; exact Bool.eq_false_iff.mpr c
        · rw [Nat.testBit_lt_two_pow (Nat.lt_of_lt_of_le h2 (by
            have := Nat.pow_le_pow_right (n := 2) (by omega) (show 1 ≤ k - i by omega)
            exact this))] at h
          exact absurd h.2 (by decide)
theorem zwd_nz (z v : Nat) : ∀ i, (zwd z v i).1 = 0 → ∀ k, k < zfn z i → v.testBit k = false
  | 0, _, k, hk => absurd hk (Nat.not_lt_zero _)
  | i + 1, h, k, hk => by
    by_cases c : z.testBit i = true
    · have e2 : zwd z v (i + 1) = zwd z v i := by
        conv => lhs; unfold zwd
        rw [if_pos c]
      have e1 : zfn z (i + 1) = zfn z i := by
        conv => lhs; unfold zfn
        rw [if_pos c]
      rw [e2] at h
      exact zwd_nz z v i h k (by omega)
    · have e2 : (zwd z v (i + 1)).1 = (zwd z v i).1 ||| (v >>> zfn z i &&& 1) <<< i := by
        conv => lhs; unfold zwd
        rw [if_neg c, zwd_sh]
      have e1 : zfn z (i + 1) = zfn z i + 1 := by
        conv => lhs; unfold zfn
        rw [if_neg c]
      rw [e2] at h
      by_cases e : k = zfn z i
      · have hb : ((zwd z v i).1 ||| (v >>> zfn z i &&& 1) <<< i).testBit i = false := by rw [h]; simp
        rw [Nat.testBit_or, Bool.or_eq_false_iff, Nat.testBit_shiftLeft] at hb
        have := hb.2
        rw [e]
        simpa using this
      · refine zwd_nz z v i ?_ k (by omega)
        apply Nat.eq_of_testBit_eq
        intro j
        have hb : ((zwd z v i).1 ||| (v >>> zfn z i &&& 1) <<< i).testBit j = false := by rw [h]; simp
        rw [Nat.testBit_or, Bool.or_eq_false_iff] at hb
        rw [hb.1]
        simp
theorem zct_ex {P : Nat → Bool} : ∀ n, 0 < zct P n → ∃ v, v < n ∧ P v = true
  | 0, h => absurd h (Nat.lt_irrefl _)
  | n + 1, h => by
    by_cases c : P n = true
    · exact ⟨n, by omega, c⟩
    · have h : 0 < zct P n + (if P n = true then 1 else 0) := h
      rw [if_neg c] at h
      obtain ⟨v, h1, h2⟩ := zct_ex n h
      exact ⟨v, by omega, h2⟩
theorem zct_pos {P : Nat → Bool} {v : Nat} (hp : P v = true) : ∀ n, v < n → 0 < zct P n
  | 0, h => absurd h (Nat.not_lt_zero _)
  | n + 1, h => by
    show 0 < zct P n + (if P n = true then 1 else 0)
    by_cases e : v = n
    · rw [← e, if_pos hp]; omega
    · have := zct_pos hp n (by omega)
      omega
theorem zw_pos : ∀ k, k < 16 → 1 ≤ zpc (zcod (2 ^ k)) := by decide +kernel
theorem zwd_0 (z : Nat) : ∀ i, (zwd z 0 i).1 = 0
  | 0 => rfl
  | i + 1 => by
    have ih := zwd_0 z i
    have i2 := zwd_sh z 0 i
    unfold zwd
    by_cases c : z.testBit i = true
    · rw [if_pos c]; exact ih
    · rw [if_neg c, ih, i2]
      simp
theorem zlight_ref {a : ZA} (hI : zInv a) : (2 ^ a.1 - zpc a.2.2.2.1 = 0 ∧ zls (zow a) (2 ^ zpc (zfre a) - 1) = none) ∨ (¬ 2 ^ a.1 - zpc a.2.2.2.1 = 0 ∧ zls (zow a) (2 ^ zpc (zfre a) - 1) = some (zlw a.2.2.2.1 (2 ^ a.1), zlc a (zlw a.2.2.2.1 (2 ^ a.1)))) := by
  have h16 := zNp hI
  have hF := zfn_pc hI
  have hp : 2 ^ 2 ^ a.1 ≤ 65536 := zp2_le h16
  by_cases hf : 2 ^ a.1 - zpc a.2.2.2.1 = 0
  · refine Or.inl ⟨hf, ?_⟩
    have h2 : zpc a.2.2.2.1 = zsz a.2.2.2.1 (2 ^ a.1) := by
      rw [← zsz_16]
      have := zsz_hi hI.2.2.1 (16 - 2 ^ a.1)
      rw [show 2 ^ a.1 + (16 - 2 ^ a.1) = 16 by omega] at this
      exact this
    have h0 : zfre a = 0 := by
      apply Nat.eq_of_testBit_eq
      intro k
      rw [zfre_bit hI, Nat.zero_testBit]
      by_cases hk : k < 2 ^ a.1
      · cases hb : a.2.2.2.1.testBit k with
        | true => rw [decide_eq_true hk]; rfl
        | false =>
          have := zsz_miss hb (2 ^ a.1) hk
          omega
      · rw [decide_eq_false hk]; rfl
    rw [h0]
    rfl
  · refine Or.inr ⟨hf, ?_⟩
    obtain ⟨k, h1, h2, h3⟩ := zlw_at (2 ^ a.1) (zfree_ex hI.2.2.1 h16 hf)
    have h2 : a.2.2.2.1.testBit k = false := Bool.eq_false_iff.mpr h2
    have hwp := zw_pos k (by omega)
    have hS := zlsS_of (zow a) (2 ^ zpc (zfre a) - 1)
    have hex : ∃ v, v < 2 ^ zpc (zfre a) ∧ (zwd a.2.2.2.1 v (2 ^ a.1)).1 = 2 ^ k := by
      have hc := zct_wd a.2.2.2.1 (2 ^ a.1) (fun w => decide (w = 2 ^ k))
      rw [hF] at hc
      have : 0 < zct (fun w => decide (w &&& a.2.2.2.1 = 0) && decide (w = 2 ^ k)) (2 ^ 2 ^ a.1) := by
        refine zct_pos (v := 2 ^ k) ?_ _ (Nat.pow_lt_pow_right (by omega) h1)
        have e := zor_and (i := k) (w := 0) h2
        rw [Nat.zero_or, Nat.zero_and] at e
        simp [e]
      rw [← hc] at this
      obtain ⟨v, g1, g2⟩ := zct_ex _ this
      exact ⟨v, g1, of_decide_eq_true g2⟩
    obtain ⟨v, v1, v2⟩ := hex
    have v0 : ¬ v = 0 := by
      intro e
      rw [e, zwd_0] at v2
      have := Nat.two_pow_pos k
      omega
    have vf : zow a v = zlw a.2.2.2.1 (2 ^ a.1) := by
      unfold zow
      rw [v2, h3]
    cases hz : zls (zow a) (2 ^ zpc (zfre a) - 1) with
    | none =>
      rw [hz] at hS
      have hS : 2 ^ zpc (zfre a) - 1 = 0 := hS
      omega
    | some p =>
      obtain ⟨l, c⟩ := p
      rw [hz] at hS
      obtain ⟨⟨u, u1, u2⟩, g3, g4⟩ := hS
      have hl : l = zlw a.2.2.2.1 (2 ^ a.1) := by
        have m1 := g3 (v - 1) (by omega)
        rw [show 1 + (v - 1) = v by omega, vf] at m1
        have hW : ¬ (zwd a.2.2.2.1 (1 + u) (2 ^ a.1)).1 = 0 := by
          intro e
          have hb := zwd_nz a.2.2.2.1 (1 + u) (2 ^ a.1) e
          rw [hF] at hb
          have : 1 + u = 0 := by
            apply Nat.eq_of_testBit_eq
            intro j
            rw [Nat.zero_testBit]
            rcases Nat.lt_or_ge j (zpc (zfre a)) with q | q
            · exact hb j q
            · exact Nat.testBit_lt_two_pow (Nat.lt_of_lt_of_le (show 1 + u < 2 ^ zpc (zfre a) by omega) (Nat.pow_le_pow_right (by omega) q))
          omega
        have hWl := zwd_1 a.2.2.2.1 (1 + u) (2 ^ a.1)
        obtain ⟨j, j1, j2, j3⟩ := zlight_wt (Nat.lt_of_lt_of_le hWl hp) hW
        have jN : j < 2 ^ a.1 := by
          rcases Nat.lt_or_ge j (2 ^ a.1) with q | q
          · exact q
          · rw [Nat.testBit_lt_two_pow (Nat.lt_of_lt_of_le hWl (Nat.pow_le_pow_right (by omega) q))] at j2
            exact absurd j2 (by decide)
        have m2 := zlw_min (2 ^ a.1) j jN (by rw [zwd_fr _ _ _ _ j2]; decide)
        have m3 : zpc (zcod (zwd a.2.2.2.1 (1 + u) (2 ^ a.1)).1) = l := u2
        omega
      rw [← hl]
      rw [← hl] at h3
      have hc : c = zlc a l := by
        have s1 : zct (fun v => decide (zow a v = l)) (2 ^ zpc (zfre a)) = c := by
          rw [show 2 ^ zpc (zfre a) = 1 + (2 ^ zpc (zfre a) - 1) by omega, zct_split, ← g4]
          have : zct (fun v => decide (zow a v = l)) 1 = 0 := zct_zero 1 (fun x hx => by
            rw [show x = 0 by omega]
            apply decide_eq_false
            unfold zow
            rw [zwd_0]
            have : zpc (zcod 0) = 0 := by decide
            omega)
          rw [this, Nat.zero_add]
        have s2 := zct_wd a.2.2.2.1 (2 ^ a.1) (fun w => decide (zpc (zcod w) = l))
        rw [hF] at s2
        have s3 := zct_inv (P := fun v => decide (zpc v = l) && decide (zcod v &&& a.2.2.2.1 = 0)) (s := zcod) (n := 2 ^ 2 ^ a.1) (fun v hv => zcl_ltm hv 4) (fun v hv => (zLk_all (Nat.lt_of_lt_of_le hv hp)).2.2)
        have s4 : zlc a l = zct (fun v => decide (zpc v = l) && decide (zcod v &&& a.2.2.2.1 = 0)) (2 ^ 2 ^ a.1) := rfl
        rw [s4, ← s3, ← s1]
        refine Eq.trans s2 (zct_cong (fun w hw => ?_))
        rw [(zLk_all (Nat.lt_of_lt_of_le hw hp)).2.2, Bool.and_comm]
      rw [hc]
