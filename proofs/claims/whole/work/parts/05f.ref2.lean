theorem zdeep_z (a : ZA) (k0 j : Nat) (hj : j < 24) : fb_put (zst (k0, a.2.1, a.2.2.1, 0, a.2.2.2.2.1, a.2.2.2.2.2.1, a.2.2.2.2.2.2)) (fun _ => (0 : Int32)) 5 19 j = zst (k0, a.2.1, a.2.2.1, 0, a.2.2.2.2.1, (fun _ => 0), (fun _ => 0)) j := by
  by_cases h : j < 5
  · rw [fb_put_out (Or.inl h)]
    match j, h with
    | 0, _ | 1, _ | 2, _ | 3, _ | 4, _ => rfl
  · rw [fb_put_in (by omega) (by omega)]
    match j, h with
    | 5, _ | 6, _ | 7, _ => rfl
    | j + 8, _ => rfl
theorem zsz_fre {a : ZA} (hI : zInv a) : ∀ n, n ≤ 2 ^ a.1 → zsz (zfre a) n + zsz a.2.2.2.1 n = n
  | 0, _ => rfl
  | n + 1, h => by
    have ih := zsz_fre hI n (by omega)
    show zsz (zfre a) n + ((zfre a).testBit n).toNat + (zsz a.2.2.2.1 n + (a.2.2.2.1.testBit n).toNat) = n + 1
    rw [zfre_bit hI, decide_eq_true (show n < 2 ^ a.1 by omega)]
    cases a.2.2.2.1.testBit n <;> simp <;> omega
theorem zfre_ltN {a : ZA} (hI : zInv a) : zfre a < 2 ^ 2 ^ a.1 := zlt_bits (fun i hi => by rw [zfre_bit hI]; simp [show ¬ i < 2 ^ a.1 by omega])
theorem zpc_fre {a : ZA} (hI : zInv a) : zpc (zfre a) = 2 ^ a.1 - zpc a.2.2.2.1 := by
  have h16 := zNp hI
  have h1 := zsz_fre hI (2 ^ a.1) (Nat.le_refl _)
  rw [← zsz_16, ← zsz_16, show 16 = 2 ^ a.1 + (16 - 2 ^ a.1) by omega, zsz_hi (zfre_ltN hI), zsz_hi hI.2.2.1]
  omega
theorem zbs_bit {a : ZA} (hI : zInv a) {b : Nat} (hb : b < 16) : ∀ n, n ≤ 2 ^ a.1 → (zbs a n).testBit b = (decide (b < 2 ^ a.1) && decide (∀ i, i < n → zbr a i ≠ b))
  | 0, _ => by
    show (2 ^ 2 ^ a.1 - 1).testBit b = _
    rw [Nat.testBit_two_pow_sub_one]
    simp
  | n + 1, h => by
    have hz := zbr_spec hI (show n < 2 ^ a.1 by omega)
    have h16 := zNp hI
    show (zbs a n &&& (2 ^ zbr a n ^^^ 65535)).testBit b = _
    rw [Nat.testBit_and, zbs_bit hI hb n (by omega), Nat.testBit_xor, Nat.testBit_two_pow, show 65535 = 2 ^ 16 - 1 from rfl, Nat.testBit_two_pow_sub_one]
    by_cases e : zbr a n = b
    · have : ¬ (∀ i, i < n + 1 → zbr a i ≠ b) := fun q => q n (by omega) e
      rw [decide_eq_false this]
      simp [e, hb]
    · have : (∀ i, i < n + 1 → zbr a i ≠ b) ↔ (∀ i, i < n → zbr a i ≠ b) := by
        constructor
        · intro q i hi
          exact q i (by omega)
        · intro q i hi
          rcases Nat.lt_or_ge i n with z | z
          · exact q i z
          · rw [show i = n by omega]; exact e
      simp only [this]
      simp [e, hb]
theorem zbd_bit {a : ZA} {n b : Nat} : ∀ i, (zbd a n i).testBit b = (decide (b < i) && decide (¬ zrk a b < n))
  | 0 => by simp [zbd]
  | i + 1 => by
    have ih := zbd_bit (a := a) (n := n) (b := b) i
    unfold zbd
    by_cases h : zrk a i < n
    · rw [if_pos h, ih]
      by_cases e : b = i
      · subst e; simp [h]
      · by_cases h2 : b < i
        · simp [h2, show b < i + 1 by omega]
        · simp [h2, show ¬ b < i + 1 by omega]
    · rw [if_neg h, fb_bit_set, ih]
      by_cases e : b = i
      · subst e; simp [h]
      · by_cases h2 : b < i
        · simp [h2, e, show b < i + 1 by omega]
        · simp [h2, e, show ¬ b < i + 1 by omega]
theorem zbs_eq {a : ZA} (hI : zInv a) {n : Nat} (h : n ≤ 2 ^ a.1) : zbs a n = zbd a n (2 ^ a.1) := by
  have h16 := zNp hI
  apply Nat.eq_of_testBit_eq
  intro b
  rcases Nat.lt_or_ge b 16 with hb | hb
  · rw [zbs_bit hI hb n h, zbd_bit]
    by_cases hN : b < 2 ^ a.1
    · congr 1
      apply decide_eq_decide.mpr
      constructor
      · intro q hr
        have hz := zbr_spec hI (show zrk a b < 2 ^ a.1 by omega)
        refine q (zrk a b) hr ?_
        rcases Classical.em (zbr a (zrk a b) = b) with e | e
        · exact e
        · exact absurd hz.2.1 (zrk_inj hz.1 hN e)
      · intro q i hi e
        have hz := zbr_spec hI (show i < 2 ^ a.1 by omega)
        rw [e] at hz
        omega
    · simp [hN]
  · rw [Nat.testBit_lt_two_pow (Nat.lt_of_lt_of_le (zbs_lt hI n) (by rw [show 65536 = 2 ^ 16 from rfl]; exact Nat.pow_le_pow_right (by omega) hb)), zbd_bit]
    simp [show ¬ b < 2 ^ a.1 by omega]
theorem zloss_no {a : ZA} {t o : Int32} (h : (o < 2 ∨ 10 < o) ∨ (t < 0 ∨ o < t)) : (-2, a) = zq_loss a t o := by
  unfold zq_loss
  rw [if_pos]
  rcases h with (q | q) | (q | q)
  · exact Or.inl q
  · exact Or.inr (Or.inl q)
  · exact Or.inr (Or.inr (Or.inl q))
  · exact Or.inr (Or.inr (Or.inr q))
theorem zloss_ok {a : ZA} {t o : Int32} (h1 : ¬ (o < 2 ∨ 10 < o)) (h2 : ¬ (t < 0 ∨ o < t)) : (nI a.2.2.1, a.1, zN t, zN o, a.2.2.2) = zq_loss a t o := by
  unfold zq_loss
  rw [if_neg]
  rintro (q | q | q | q)
  · exact h1 (Or.inl q)
  · exact h1 (Or.inr q)
  · exact h2 (Or.inl q)
  · exact h2 (Or.inr q)
theorem zp4_16 {e : Nat} (h : e ≤ 4) : 2 ^ e ≤ 16 := by
  rcases (show e = 0 ∨ e = 1 ∨ e = 2 ∨ e = 3 ∨ e = 4 by omega) with rfl | rfl | rfl | rfl | rfl <;> decide
theorem zb_shl {b i : Nat} (hb : b ≤ 1) (hi : i < 16) : b * 2 ^ i < 2 ^ 32 := by
  have := zp2_16 hi
  rcases (show b = 0 ∨ b = 1 by omega) with rfl | rfl <;> omega
theorem zand_lt (x m : Nat) : x &&& (2 ^ m - 1) < 2 ^ m := Nat.and_lt_two_pow _ (by have := Nat.two_pow_pos m; omega)
/-- the least of f 1, f 2 .., and how many have it -/
def zls (f : Nat → Nat) : Nat → Option (Nat × Nat)
  | 0 => none
  | i + 1 => match zls f i with
    | none => some (f (1 + i), 1)
    | some (l, c) => if f (1 + i) < l then some (f (1 + i), 1) else if f (1 + i) = l then some (l, c + 1) else some (l, c)
def zlI (o : Option (Nat × Nat)) : Int32 := match o with
  | none => -6
  | some (l, _) => nI l
def zlC (o : Option (Nat × Nat)) : Nat := match o with
  | none => 0
  | some (_, c) => c
theorem zls_le {f : Nat → Nat} (hf : ∀ v, f v ≤ 16) : ∀ i l c, zls f i = some (l, c) → l ≤ 16
  | 0, l, c, h => by cases h
  | i + 1, l, c, h => by
    unfold zls at h
    cases hz : zls f i with
    | none => rw [hz] at h; cases h; exact hf _
    | some p =>
      obtain ⟨l0, c0⟩ := p
      have ih := zls_le hf i l0 c0 hz
      rw [hz] at h
      simp only at h
      split at h
      · cases h; exact hf _
      · split at h
        · cases h; exact ih
        · cases h; exact ih
theorem zls_neg {f : Nat → Nat} (hf : ∀ v, f v ≤ 16) {i : Nat} (h : zlI (zls f i) < 0) : zls f (i + 1) = some (f (1 + i), 1) := by
  unfold zls
  cases hz : zls f i with
  | none => rfl
  | some p =>
    obtain ⟨l0, c0⟩ := p
    have ih := zls_le hf i l0 c0 hz
    rw [hz] at h
    exact absurd h (nI_pos (by omega))
theorem zls_lt {f : Nat → Nat} (hf : ∀ v, f v ≤ 16) {i : Nat} (h : ¬ zlI (zls f i) < 0) (h2 : nI (f (1 + i)) < zlI (zls f i)) : zls f (i + 1) = some (f (1 + i), 1) := by
  unfold zls
  cases hz : zls f i with
  | none => exact absurd (by rw [hz]; decide) h
  | some p =>
    obtain ⟨l0, c0⟩ := p
    have ih := zls_le hf i l0 c0 hz
    rw [hz] at h2
    have := hf (1 + i)
    simp only
    rw [if_pos ((nI_ltI (by omega) (by omega)).mp h2)]
theorem zls_eq {f : Nat → Nat} (hf : ∀ v, f v ≤ 16) {i : Nat} (h : ¬ zlI (zls f i) < 0) (h3 : nI (f (1 + i)) = zlI (zls f i)) : zlI (zls f i) = zlI (zls f (i + 1)) ∧ zlC (zls f i) + 1 = zlC (zls f (i + 1)) := by
  conv => enter [1, 2]; unfold zls
  conv => enter [2, 2]; unfold zls
  cases hz : zls f i with
  | none => exact absurd (by rw [hz]; decide) h
  | some p =>
    obtain ⟨l0, c0⟩ := p
    have ih := zls_le hf i l0 c0 hz
    rw [hz] at h3
    have := hf (1 + i)
    have e : f (1 + i) = l0 := (nI_eq (by omega) (by omega)).mp h3
    simp only
    rw [if_neg (by omega), if_pos e]
    exact ⟨rfl, rfl⟩
theorem zls_gt {f : Nat → Nat} (hf : ∀ v, f v ≤ 16) {i : Nat} (h : ¬ zlI (zls f i) < 0) (h2 : ¬ nI (f (1 + i)) < zlI (zls f i)) (h3 : ¬ nI (f (1 + i)) = zlI (zls f i)) : zls f (i + 1) = zls f i := by
  conv => lhs; unfold zls
  cases hz : zls f i with
  | none => exact absurd (by rw [hz]; decide) h
  | some p =>
    obtain ⟨l0, c0⟩ := p
    have ih := zls_le hf i l0 c0 hz
    rw [hz] at h2 h3
    have := hf (1 + i)
    simp only
    rw [if_neg (fun q => h2 (nI_lt q (by omega))), if_neg (fun q => h3 (by rw [q]; rfl))]
/-- the weight of the v-th word -/
def zow (a : ZA) (v : Nat) : Nat := zpc (zcod (zwd a.2.2.2.1 v (2 ^ a.1)).1)
theorem zow_le (a : ZA) (v : Nat) : zow a v ≤ 16 := zpc_le _
