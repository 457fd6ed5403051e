theorem zsz_all {z : Nat} : ∀ n, (∀ k, k < n → z.testBit k = true) → zsz z n = n
  | 0, _ => rfl
  | n + 1, h => by
    show zsz z n + (z.testBit n).toNat = n + 1
    rw [zsz_all n (fun k hk => h k (by omega)), h n (by omega)]
    rfl
theorem zfree_ex {z N : Nat} (hz : z < 2 ^ N) (hN : N ≤ 16) (h : ¬ N - zpc z = 0) : ∃ k, k < N ∧ ¬ z.testBit k = true := by
  rcases Classical.em (∃ k, k < N ∧ ¬ z.testBit k = true) with q | q
  · exact q
  · exfalso
    apply h
    have : zsz z N = N := zsz_all N (fun k hk => Classical.not_not.mp (fun z => q ⟨k, hk, z⟩))
    rw [← zsz_16, show 16 = N + (16 - N) by omega, zsz_hi hz, this]
    omega
theorem zwt_16 : ∀ k, k < 16 → zpc (zcod (2 ^ k)) ≤ 16 := fun k _ => zpc_le _
theorem zlw_none {z : Nat} : ∀ i, (∀ k, k < i → z.testBit k = true) → zlw z i = 16
  | 0, _ => rfl
  | i + 1, h => by
    unfold zlw
    rw [if_pos (h i (by omega)), zlw_none i (fun k hk => h k (by omega))]
theorem zlw_at {z : Nat} : ∀ i, (∃ k, k < i ∧ ¬ z.testBit k = true) → ∃ k, k < i ∧ ¬ z.testBit k = true ∧ zlw z i = zpc (zcod (2 ^ k))
  | 0, ⟨k, h, _⟩ => absurd h (Nat.not_lt_zero _)
  | i + 1, h => by
    unfold zlw
    by_cases hb : z.testBit i = true
    · rw [if_pos hb]
      obtain ⟨k, h1, h2⟩ := h
      have : k ≠ i := fun e => h2 (by rw [e]; exact hb)
      obtain ⟨k', g1, g2⟩ := zlw_at i ⟨k, by omega, h2⟩
      exact ⟨k', by omega, g2⟩
    · rw [if_neg hb]
      by_cases hl : zpc (zcod (2 ^ i)) < zlw z i
      · rw [if_pos hl]
        exact ⟨i, by omega, hb, rfl⟩
      · rw [if_neg hl]
        rcases Classical.em (∃ k, k < i ∧ ¬ z.testBit k = true) with q | q
        · obtain ⟨k', g1, g2⟩ := zlw_at i q
          exact ⟨k', by omega, g2⟩
        · have h16 := zlw_none i (fun k hk => Classical.not_not.mp (fun w => q ⟨k, hk, w⟩))
          have := zpc_le (zcod (2 ^ i))
          exact ⟨i, by omega, hb, by omega⟩
theorem zlw_min {z : Nat} : ∀ i k, k < i → ¬ z.testBit k = true → zlw z i ≤ zpc (zcod (2 ^ k))
  | 0, k, h, _ => absurd h (Nat.not_lt_zero _)
  | i + 1, k, h, hk => by
    unfold zlw
    by_cases hb : z.testBit i = true
    · rw [if_pos hb]
      have : k ≠ i := fun e => hk (by rw [e]; exact hb)
      exact zlw_min i k (by omega) hk
    · rw [if_neg hb]
      by_cases e : k = i
      · subst e
        split <;> omega
      · have := zlw_min i k (by omega) hk
        split <;> omega
theorem zw_1 : ∀ k, k < 2 → zpc (zcod (2 ^ k)) = 1 ∨ zpc (zcod (2 ^ k)) = 2 := by decide +kernel
theorem zw_2 : ∀ k, k < 4 → zpc (zcod (2 ^ k)) = 1 ∨ zpc (zcod (2 ^ k)) = 2 ∨ zpc (zcod (2 ^ k)) = 4 := by decide +kernel
theorem zw_3 : ∀ k, k < 8 → zpc (zcod (2 ^ k)) = 1 ∨ zpc (zcod (2 ^ k)) = 2 ∨ zpc (zcod (2 ^ k)) = 4 ∨ zpc (zcod (2 ^ k)) = 8 := by decide +kernel
theorem zw_4 : ∀ k, k < 16 → zpc (zcod (2 ^ k)) = 1 ∨ zpc (zcod (2 ^ k)) = 2 ∨ zpc (zcod (2 ^ k)) = 4 ∨ zpc (zcod (2 ^ k)) = 8 ∨ zpc (zcod (2 ^ k)) = 16 := by decide +kernel
theorem zOk_w {d k : Nat} (h1 : 1 ≤ d) (h2 : d ≤ 4) (hk : k < 2 ^ d) : zOk (2 ^ d) (zpc (zcod (2 ^ k))) = true := by
  rcases (show d = 1 ∨ d = 2 ∨ d = 3 ∨ d = 4 by omega) with rfl | rfl | rfl | rfl
  · rcases zw_1 k hk with e | e <;> rw [e]
    · exact zOk_2.1
    · exact zOk_2.2
  · rcases zw_2 k hk with e | e | e <;> rw [e]
    · exact zOk_4.1
    · exact zOk_4.2.1
    · exact zOk_4.2.2
  · rcases zw_3 k hk with e | e | e | e <;> rw [e]
    · exact zOk_8.1
    · exact zOk_8.2.1
    · exact zOk_8.2.2.1
    · exact zOk_8.2.2.2
  · rcases zw_4 k hk with e | e | e | e | e <;> rw [e]
    · exact zOk_16_1
    · exact zOk_16_2
    · exact zOk_16_4
    · exact zOk_16_8
    · exact zOk_16_16
/-- the class goes through all sets of its weight, the least first -/
theorem zseq_ex {a : ZA} (hI : zInv a) (hf : ¬ 2 ^ a.1 - zpc a.2.2.2.1 = 0) : ∃ K, zSeq (zlw a.2.2.2.1 (2 ^ a.1)) (2 ^ a.1) K ∧ zGone (zlw a.2.2.2.1 (2 ^ a.1)) (2 ^ 2 ^ a.1) K := by
  obtain ⟨k, h1, h2, h3⟩ := zlw_at (2 ^ a.1) (zfree_ex hI.2.2.1 (zNp hI) hf)
  rw [h3]
  exact zOk_use (zOk_w hI.1.1 hI.1.2 h1)
theorem zopen_own : ∀ k, k < 16 → (zopn (zcod (2 ^ k))).testBit k = true := by decide +kernel
theorem zfl_spec {a : ZA} (hI : zInv a) (hf : ¬ 2 ^ a.1 - zpc a.2.2.2.1 = 0) {K : Nat} (hg : zGone (zlw a.2.2.2.1 (2 ^ a.1)) (2 ^ 2 ^ a.1) K) : ∃ m, m < K ∧ ¬ zopn (zsq (zlw a.2.2.2.1 (2 ^ a.1)) m) &&& (a.2.2.2.1 ^^^ 65535) = 0 ∧ (∀ j, j < m → zopn (zsq (zlw a.2.2.2.1 (2 ^ a.1)) j) &&& (a.2.2.2.1 ^^^ 65535) = 0) ∧ zsq (zlw a.2.2.2.1 (2 ^ a.1)) m = zfl a (zlw a.2.2.2.1 (2 ^ a.1)) := by
  have h16 := zNp hI
  obtain ⟨k, h1, h2, h3⟩ := zlw_at (2 ^ a.1) (zfree_ex hI.2.2.1 h16 hf)
  have hv : zcod (2 ^ k) < 2 ^ 2 ^ a.1 := zcl_ltm (Nat.pow_lt_pow_right (by omega) h1) 4
  obtain ⟨i0, hi0, e0⟩ := hg.2.1 (zcod (2 ^ k)) hv h3.symm
  have ho : ¬ zopn (zcod (2 ^ k)) &&& (a.2.2.2.1 ^^^ 65535) = 0 := by
    intro q
    have : (zopn (zcod (2 ^ k)) &&& (a.2.2.2.1 ^^^ 65535)).testBit k = true := by
      rw [Nat.testBit_and, zopen_own k (by omega), Nat.testBit_xor, show 65535 = 2 ^ 16 - 1 from rfl, Nat.testBit_two_pow_sub_one]
      simp [h2, show k < 16 by omega]
    rw [q] at this
    simp at this
  generalize zlw a.2.2.2.1 (2 ^ a.1) = w at hg e0 ⊢
  obtain ⟨m, g1, g2, g3⟩ := fb_first (p := fun i => ¬ zopn (zsq w i) &&& (a.2.2.2.1 ^^^ 65535) = 0) (n := K) ⟨i0, hi0, by rw [← e0]; exact ho⟩
  refine ⟨m, g1, g2, fun j hj => Classical.not_not.mp (g3 j hj), ?_⟩
  unfold zfl
  have hm := hg.1 m g1
  rw [zff_some (i := zsq w m) hm.1 ?_ ?_]
  · rfl
  · simp [zhm, hm.2.1, g2]
  · intro v hvm
    by_cases hw : zpc v = w
    · obtain ⟨i, hi, rfl⟩ := hg.2.1 v (by omega) hw
      have him : i < m := by
        rcases Nat.lt_or_ge i m with q | q
        · exact q
        · rcases Nat.lt_or_ge m i with q2 | q2
          · have := hg.2.2.1 m i q2 hi
            omega
          · rw [show i = m by omega] at hvm
            omega
      have := Classical.not_not.mp (g3 i him)
      simp [zhm, this]
    · simp [hw]
theorem zch_T (a : ZA) (hl : (zkp a (2 ^ a.1)).length ≤ 8) {v : Int32} (hv : v = zfr (zch a)) (c : ¬ v < 0 ∧ v < nI (zkp a (2 ^ a.1)).length) : ∃ j, j < (zkp a (2 ^ a.1)).length ∧ zch a = some j ∧ v = nI j := by
  cases hz : zch a with
  | none =>
    rw [hz] at hv
    rw [hv] at c
    exact absurd (by decide : (zfr none) < 0) c.1
  | some j =>
    rw [hz] at hv
    exact ⟨j, zff_lt hz, rfl, hv⟩
theorem zch_F (a : ZA) (hl : (zkp a (2 ^ a.1)).length ≤ 8) {v : Int32} (hv : v = zfr (zch a)) (c : ¬ (¬ v < 0 ∧ v < nI (zkp a (2 ^ a.1)).length)) : zch a = none := by
  cases hz : zch a with
  | none => rfl
  | some j =>
    rw [hz] at hv
    have hj := zff_lt hz
    exact absurd ⟨by rw [hv]; exact nI_pos (by omega), by rw [hv]; exact nI_lt hj (by omega)⟩ c
theorem zr01 {x : Int32} (h1 : ¬ x < 0) (h2 : x < 2) : x = 0 ∨ x = 1 := by
  obtain ⟨k, h3, h4⟩ := zr0 (n := 2) ⟨h1, h2⟩ (by decide)
  rcases (show k = 0 ∨ k = 1 by omega) with rfl | rfl
  · exact Or.inl h4
  · exact Or.inr h4
def zq_image (a b0 b1 : ZA) (ik : Nat) (k : Int32) : Int32 × ZA × ZA × Nat := if k < 0 ∨ ¬ k < 2 then (-2, b0, b1, ik) else if k = 0 then (1, a, b1, ik ||| 2 ^ 0) else (1, b0, a, ik ||| 2 ^ 1)
def zq_restore (a b0 b1 : ZA) (ik : Nat) (k : Int32) : Int32 × ZA := if k < 0 ∨ ¬ k < 2 then (-2, a) else if k = 0 then (if ¬ ik.testBit 0 = true then (-3, a) else (1, b0)) else (if ¬ ik.testBit 1 = true then (-3, a) else (1, b1))
