theorem zNp {a : ZA} (h : zInv a) : 2 ^ a.1 ≤ 16 := by
  have h1 := h.1.1
  have h2 := h.1.2
  rcases (show a.1 = 1 ∨ a.1 = 2 ∨ a.1 = 3 ∨ a.1 = 4 by omega) with e | e | e | e <;> rw [e] <;> decide
theorem zNp1 {a : ZA} (h : zInv a) : 2 ≤ 2 ^ a.1 := by
  have h1 := h.1.1
  have h2 := h.1.2
  rcases (show a.1 = 1 ∨ a.1 = 2 ∨ a.1 = 3 ∨ a.1 = 4 by omega) with e | e | e | e <;> rw [e] <;> decide
theorem zNN {a : ZA} (h : zInv a) : 2 ^ 2 ^ a.1 ≤ 65536 := by
  have h1 := h.1.1
  have h2 := h.1.2
  rcases (show a.1 = 1 ∨ a.1 = 2 ∨ a.1 = 3 ∨ a.1 = 4 by omega) with e | e | e | e <;> rw [e] <;> decide
theorem zfz16 {a : ZA} (h : zInv a) : a.2.2.2.1 < 65536 := Nat.lt_of_lt_of_le h.2.2.1 (zNN h)
/-- under 2 ^ k: bits from k on are 0 -/
theorem zlt_bits {n k : Nat} (h : ∀ i, k ≤ i → n.testBit i = false) : n < 2 ^ k := by
  rcases Nat.lt_or_ge n (2 ^ k) with q | q
  · exact q
  · obtain ⟨i, hi, hb⟩ := Nat.exists_ge_and_testBit_of_ge_two_pow q
    rw [h i hi] at hb
    cases hb
theorem zn_andn {x z : Nat} (hx : x < 65536) : nI x &&& (nI z ^^^ (-1)) = nI (x &&& (z ^^^ 65535)) := by
  rw [show (-1 : Int32) = nI 4294967295 from rfl, fb_xorI, fa_and]
  congr 1
  apply Nat.eq_of_testBit_eq
  intro i
  rw [Nat.testBit_and, Nat.testBit_and, Nat.testBit_xor, Nat.testBit_xor]
  rcases Nat.lt_or_ge i 16 with h | h
  · rw [show 4294967295 = 2 ^ 32 - 1 from rfl, show 65535 = 2 ^ 16 - 1 from rfl, Nat.testBit_two_pow_sub_one, Nat.testBit_two_pow_sub_one]
    simp [h, show i < 32 by omega]
  · rw [Nat.testBit_lt_two_pow (Nat.lt_of_lt_of_le hx (by rw [show 65536 = 2 ^ 16 from rfl]; exact Nat.pow_le_pow_right (by omega) h))]
    simp
/-- CODED, as the class has it: level by level -/
def zmask (i : Nat) : Nat := match i with
  | 0 => 21845
  | 1 => 13107
  | 2 => 3855
  | _ => 255
def zcl (v : Nat) : Nat → Nat
  | 0 => v
  | i + 1 => zcl v i ^^^ ((zcl v i >>> 2 ^ i) &&& zmask i)
def zcod (v : Nat) : Nat := zcl v 4
theorem zmask_le (i : Nat) : zmask i < 65536 := by
  unfold zmask
  split <;> omega
theorem zcl_lt {v : Nat} (h : v < 65536) : ∀ i, zcl v i < 65536
  | 0 => h
  | i + 1 => Nat.xor_lt_two_pow (n := 16) (zcl_lt h i) (Nat.lt_of_le_of_lt Nat.and_le_right (zmask_le i))
theorem zcod_lt {v : Nat} (h : v < 65536) : zcod v < 65536 := zcl_lt h 4
theorem zFv_mask {i : Nat} (h : i < 4) : zFv i = .int (nI (zmask i)) := by
  rcases (show i = 0 ∨ i = 1 ∨ i = 2 ∨ i = 3 by omega) with rfl | rfl | rfl | rfl <;> rfl
theorem zpow4 {i : Nat} (h : i < 4) : 2 ^ i ≤ 8 := by
  rcases (show i = 0 ∨ i = 1 ∨ i = 2 ∨ i = 3 by omega) with rfl | rfl | rfl | rfl <;> decide
/-- OPEN, as the class has it: from level 3 down; ahead of what is frozen -/
def zol (l v : Nat) : Nat := ((v ||| v >>> 2 ^ l) &&& zmask l) ||| (v &&& (v <<< 2 ^ l) &&& (zmask l <<< 2 ^ l))
def zop (v : Nat) : Nat → Nat
  | 0 => v
  | i + 1 => zol (3 - i) (zop v i)
def zopn (v : Nat) : Nat := zop v 4
theorem zol_lt {l v : Nat} (h : v < 65536) : zol l v < 65536 := Nat.or_lt_two_pow (n := 16) (Nat.lt_of_le_of_lt Nat.and_le_right (zmask_le l)) (Nat.lt_of_le_of_lt (Nat.le_trans Nat.and_le_left Nat.and_le_left) h)
theorem zop_lt {v : Nat} (h : v < 65536) : ∀ i, zop v i < 65536
  | 0 => h
  | i + 1 => zol_lt (zop_lt h i)
theorem zopn_lt {v : Nat} (h : v < 65536) : zopn v < 65536 := zop_lt h 4
theorem zshl_lt {v l : Nat} (h : v < 65536) (hl : l < 4) : v * 2 ^ 2 ^ l < 2 ^ 32 := by
  have h1 : 2 ^ 2 ^ l ≤ 2 ^ 8 := Nat.pow_le_pow_right (by omega) (zpow4 hl)
  calc v * 2 ^ 2 ^ l ≤ v * 2 ^ 8 := Nat.mul_le_mul_left _ h1
    _ < 2 ^ 32 := by omega
/-- Gosper: the next greater set of as many -/
def zlow (v : Nat) : Nat := v &&& (4294967296 - v)
def znx (v : Nat) : Nat := (v + zlow v) ||| ((v ^^^ (v + zlow v)) >>> 2) / zlow v
def zsq (w : Nat) : Nat → Nat
  | 0 => 2 ^ w - 1
  | i + 1 => znx (zsq w i)
theorem zlow_le (v : Nat) : zlow v ≤ v := Nat.and_le_left
/-- the class's least weight, of the first i bits -/
def zlw (z : Nat) : Nat → Nat
  | 0 => 16
  | i + 1 => if z.testBit i = true then zlw z i else if zpc (zcod (2 ^ i)) < zlw z i then zpc (zcod (2 ^ i)) else zlw z i
theorem zlw_le (z : Nat) : ∀ i, zlw z i ≤ 16
  | 0 => Nat.le_refl _
  | i + 1 => by
    have := zlw_le z i
    unfold zlw
    split
    · exact this
    · split <;> omega
theorem zp2_16 {i : Nat} (h : i < 16) : 2 ^ i < 65536 := Nat.pow_lt_pow_right (by omega) h
/-- how many of the first n hold -/
def zct (P : Nat → Bool) : Nat → Nat
  | 0 => 0
  | i + 1 => zct P i + if P i = true then 1 else 0
theorem zct_le (P : Nat → Bool) : ∀ n, zct P n ≤ n
  | 0 => Nat.le_refl _
  | i + 1 => by
    have := zct_le P i
    unfold zct
    split <;> omega
/-- the sets of w places among N, as the class goes through them: K of them -/
def zSeq (w N K : Nat) : Prop := (∀ j, j < K → 1 ≤ zlow (zsq w j) ∧ zsq w j < 2 ^ N) ∧ 2 ^ N ≤ zsq w K ∧ zsq w K < 2 ^ 20 ∧ K < 2 ^ N
theorem zI_0 {x : Nat} (h : x < 2 ^ 31) (c : nI x = 0) : x = 0 := (nI_eq h (by decide)).mp c
theorem zI_n0 {x : Nat} (c : ¬ nI x = 0) : ¬ x = 0 := fun e => c (by rw [e]; rfl)
theorem zsz_le (z : Nat) : ∀ n, zsz z n ≤ n
  | 0 => Nat.le_refl _
  | n + 1 => by
    have h1 := zsz_le z n
    have h2 := Bool.toNat_le (z.testBit n)
    unfold zsz
    omega
theorem zsz_hi {z n : Nat} (h : z < 2 ^ n) : ∀ k, zsz z (n + k) = zsz z n
  | 0 => rfl
  | k + 1 => by
    show zsz z (n + k) + (z.testBit (n + k)).toNat = zsz z n
    rw [zsz_hi h k, Nat.testBit_lt_two_pow (Nat.lt_of_lt_of_le h (Nat.pow_le_pow_right (by omega) (Nat.le_add_right n k)))]
    rfl
theorem zpc_leN {z n : Nat} (h : z < 2 ^ n) (hn : n ≤ 16) : zpc z ≤ n := by
  rw [← zsz_16, show 16 = n + (16 - n) by omega, zsz_hi h]
  exact zsz_le z n
theorem zxor_lt {x y n : Nat} (hx : x < 2 ^ n) (hy : y < 2 ^ n) : x ^^^ y < 2 ^ n := Nat.xor_lt_two_pow hx hy
theorem zdec : ∀ i, i < 4 → nI (3 - i) + (-1) = 3 - nI (i + 1) := by decide
theorem zz_minn {x y : Nat} (hx : x < 2 ^ 31) (hy : y < 2 ^ 31) : (if nI y < nI x then nI y else nI x) = nI (if y < x then y else x) := by
  by_cases h : y < x
  · rw [if_pos h, if_pos (nI_lt h hx)]
  · rw [if_neg h, if_neg (nI_nlt (by omega) hy)]
/-- which sets the class counts: those that are sent as words, or those that leave something lost -/
def zhm (z : Nat) (p : Int32) (v : Nat) : Bool := if p = 0 then decide (¬ zopn v &&& (z ^^^ 65535) = 0) else decide (zcod v &&& z = 0)
/-- the halves of 2 ^ d places, from the greatest on -/
def zhf (d i : Nat) : Nat := 2 ^ (d - i) / 2
theorem zhf_eq {d i : Nat} (h : i < d) : zhf d i = 2 ^ (d - 1 - i) := by
  unfold zhf
  rw [show d - i = (d - 1 - i) + 1 by omega, Nat.pow_succ, Nat.mul_div_cancel _ (by omega)]
theorem zhf_le {d i : Nat} (h : d ≤ 4) : zhf d i ≤ 8 := by
  unfold zhf
  have : 2 ^ (d - i) ≤ 2 ^ 4 := Nat.pow_le_pow_right (by omega) (by omega)
  omega
theorem zhf_pos {d i : Nat} (h : i < d) : 0 < zhf d i := by rw [zhf_eq h]; exact Nat.two_pow_pos _
theorem zhf_next (d i : Nat) : zhf d i >>> 1 = zhf d (i + 1) := by
  unfold zhf
  rw [Nat.shiftRight_eq_div_pow]
  rcases Nat.lt_or_ge i d with h | h
  · rw [show d - i = (d - (i + 1)) + 1 by omega, Nat.pow_succ, Nat.mul_div_cancel _ (by omega)]
  · rw [show d - i = 0 by omega, show d - (i + 1) = 0 by omega]
theorem zhf_bit {d i k : Nat} (h : i < d) (hk : k < 2 ^ 31) : (k &&& zhf d i = 0) ↔ k.testBit (d - 1 - i) = false := by
  rw [zhf_eq h]
  exact fb_bit_nat k (d - 1 - i)
/-- losses: the upper number with the lower one, of bit k, behind j halvings -/
def zup (t o d k : Nat) : Nat → Nat × Nat
  | 0 => (t, o)
  | j + 1 => (if k.testBit (d - 1 - j) = true then (zup t o d k j).1 * (zup t o d k j).1 else 2 * (zup t o d k j).1 * (zup t o d k j).2 - (zup t o d k j).1 * (zup t o d k j).1, (zup t o d k j).2 * (zup t o d k j).2)
def zlo (o : Nat) : Nat → Nat
  | 0 => o
  | j + 1 => zlo o j * zlo o j
theorem zup_2 (t o d k : Nat) : ∀ j, (zup t o d k j).2 = zlo o j
  | 0 => rfl
  | j + 1 => by simp only [zup, zlo, zup_2 t o d k j]
theorem zup_le {t o : Nat} (d k : Nat) (h : t ≤ o) : ∀ j, (zup t o d k j).1 ≤ (zup t o d k j).2
  | 0 => h
  | j + 1 => by
    have ih := zup_le d k h j
    simp only [zup]
    generalize (zup t o d k j).1 = u at ih ⊢
    generalize (zup t o d k j).2 = l at ih ⊢
    split
    · exact Nat.mul_le_mul ih ih
    · obtain ⟨e, rfl⟩ := Nat.exists_eq_add_of_le ih
      have : 2 * u * (u + e) = u * u + (u * u + 2 * (u * e)) := by
        rw [Nat.mul_assoc, Nat.mul_add]; omega
      rw [this, Nat.add_sub_cancel_left]
      have h2 : (u + e) * (u + e) = u * u + 2 * (u * e) + e * e := by
        rw [Nat.add_mul, Nat.mul_add, Nat.mul_add, Nat.mul_comm e u]; omega
      omega
theorem zup_f {u l : Nat} (h : u ≤ l) : 2 * lN u * lN l - lN u * lN u = lN (2 * u * l - u * u) := by
  rw [show (2 : Int64) = lN 2 from rfl, lN_mul, lN_mul, lN_mul, lN_sub]
  exact Nat.mul_le_mul (by omega) h
theorem zlo_le {o : Nat} (h : o ≤ 10) : ∀ j, j ≤ 4 → zlo o j ≤ 10000000000000000 := by
  intro j hj
  have h0 : zlo o 0 ≤ 10 := h
  have h1 : zlo o 1 ≤ 10 * 10 := Nat.mul_le_mul h0 h0
  have h2 : zlo o 2 ≤ 100 * 100 := Nat.mul_le_mul h1 h1
  have h3 : zlo o 3 ≤ 10000 * 10000 := Nat.mul_le_mul h2 h2
  have h4 : zlo o 4 ≤ 100000000 * 100000000 := Nat.mul_le_mul h3 h3
  rcases (show j = 0 ∨ j = 1 ∨ j = 2 ∨ j = 3 ∨ j = 4 by omega) with rfl | rfl | rfl | rfl | rfl <;> omega
theorem zup_lt {a : ZA} (hI : zInv a) (k j : Nat) (hj : j ≤ a.1) : (zup a.2.1 a.2.2.1 a.1 k j).1 < 2 ^ 63 := by
  have h1 := zup_le a.1 k hI.2.1.1 j
  rw [zup_2] at h1
  have h2 := zlo_le hI.2.1.2.2 j (by have := hI.1.2; omega)
  omega
theorem zlo_lt {a : ZA} (hI : zInv a) (j : Nat) (hj : j ≤ a.1) : zlo a.2.2.1 j < 2 ^ 63 := by
  have h2 := zlo_le hI.2.1.2.2 j (by have := hI.1.2; omega)
  omega
/-- LOSS of a bit, its upper number -/
def zlos (a : ZA) (k : Nat) : Nat := (zup a.2.1 a.2.2.1 a.1 k a.1).1
theorem zlos_lt {a : ZA} (hI : zInv a) (k : Nat) : zlos a k < 2 ^ 63 := zup_lt hI k a.1 (Nat.le_refl _)
/-- Euclid -/
def zeu (x y : Nat) : Nat → Nat × Nat
  | 0 => (x, y)
  | j + 1 => ((zeu x y j).2, (zeu x y j).1 % (zeu x y j).2)
theorem zeu_lt {x y : Nat} (hx : x < 2 ^ 63) (hy : y < 2 ^ 63) : ∀ j, (zeu x y j).1 < 2 ^ 63 ∧ (zeu x y j).2 < 2 ^ 63
  | 0 => ⟨hx, hy⟩
  | j + 1 => by
    have ih := zeu_lt hx hy j
    exact ⟨ih.2, Nat.lt_of_le_of_lt (Nat.mod_le _ _) ih.1⟩
theorem zcmp0 {b : Nat} (hb : b < 2 ^ 63) : lg_cmp (lN b) 0 = 0 ↔ b = 0 := by
  have h0 : (0 : Int64) = lN 0 := rfl
  unfold lg_cmp
  rw [h0]
  by_cases h : b = 0
  · subst h; decide
  · rw [if_pos (show lN b > lN 0 from (pk_lLT (by decide) hb).mpr (by omega))]
    exact ⟨fun q => absurd q (by decide), fun q => absurd q h⟩
theorem zcmp_lt {x y : Nat} (hx : x < 2 ^ 63) (hy : y < 2 ^ 63) : lg_cmp (lN x) (lN y) < 0 ↔ x < y := by
  unfold lg_cmp
  by_cases h : y < x
  · rw [if_pos (show lN x > lN y from (pk_lLT hy hx).mpr h)]
    exact ⟨fun q => absurd q (by decide), fun q => by omega⟩
  · rw [if_neg (show ¬ lN x > lN y from fun q => h ((pk_lLT hy hx).mp q))]
    by_cases e : x = y
    · rw [if_pos (by rw [e])]
      exact ⟨fun q => absurd q (by decide), fun q => by omega⟩
    · rw [if_neg (fun q => e ((pk_lEQ hx hy).mp q))]
      exact ⟨fun _ => by omega, fun _ => by decide⟩
theorem zcmp_eq {x y : Nat} (hx : x < 2 ^ 63) (hy : y < 2 ^ 63) : lg_cmp (lN x) (lN y) = 0 ↔ x = y := by
  unfold lg_cmp
  by_cases h : y < x
  · rw [if_pos (show lN x > lN y from (pk_lLT hy hx).mpr h)]
    exact ⟨fun q => absurd q (by decide), fun q => by omega⟩
  · rw [if_neg (show ¬ lN x > lN y from fun q => h ((pk_lLT hy hx).mp q))]
    by_cases e : x = y
    · rw [if_pos (by rw [e])]
      exact ⟨fun _ => e, fun _ => rfl⟩
    · rw [if_neg (fun q => e ((pk_lEQ hx hy).mp q))]
      exact ⟨fun q => absurd q (by decide), fun q => absurd q e⟩
/-- BETTER: bit j than bit k; how many are better than k -/
def zbt (a : ZA) (k j : Nat) : Bool := decide (zlos a j < zlos a k ∨ (zlos a j = zlos a k ∧ k < j))
def zrk (a : ZA) (k : Nat) : Nat := zct (zbt a k) (2 ^ a.1)
/-- seen: the weaker of two, with its sign -/
def zab (x : Int32) : Int32 := if 0 ≤ x then x else 0 - x
def zmn (x y : Int32) : Int32 := if y < x then y else x
def zmx (x y : Int32) : Int32 := if x < y then y else x
def zwk (x y : Int32) : Int32 := if (x < 0 ↔ y < 0) then zmn (zab x) (zab y) else - zmn (zab x) (zab y)
def zg1 (h : Nat) (f : Nat → Int32) (n : Nat) : Nat → Int32 := fun k => if k < n then zwk (f k) (f (k + h)) else f k
theorem zg1_0 (h : Nat) (f : Nat → Int32) : zg1 h f 0 = f := by funext k; simp [zg1]
theorem zg1_s {h i : Nat} {f : Nat → Int32} (hi : i < h) : upd (zg1 h f i) i (zwk (zg1 h f i i) (zg1 h f i (i + h))) = zg1 h f (i + 1) := by
  funext k
  have e1 : zg1 h f i i = f i := by simp [zg1]
  have e2 : zg1 h f i (i + h) = f (i + h) := by unfold zg1; rw [if_neg (by omega)]
  rw [e1, e2]
  by_cases hk : k = i
  · subst hk; rw [pk_us]; simp [zg1]
  · rw [pk_un hk]; simp only [zg1]
    by_cases h2 : k < i
    · rw [if_pos h2, if_pos (show k < i + 1 by omega)]
    · rw [if_neg h2, if_neg (show ¬ k < i + 1 by omega)]
def zg2 (h c : Nat) (f : Nat → Int32) (n : Nat) : Nat → Int32 := fun k => if k < n then f (k + h) + (if c.testBit k = true then - f k else f k) else f k
theorem zg2_0 (h c : Nat) (f : Nat → Int32) : zg2 h c f 0 = f := by funext k; simp [zg2]
theorem zg2_i (h c i : Nat) (f : Nat → Int32) : zg2 h c f i i = f i := by simp [zg2]
theorem zg2_s {h c i : Nat} {f : Nat → Int32} {v : Int32} (hi : i < h) (hv : v = zg2 h c f i (i + h) + (if c.testBit i = true then - f i else f i)) : upd (zg2 h c f i) i v = zg2 h c f (i + 1) := by
  funext k
  have e2 : zg2 h c f i (i + h) = f (i + h) := by unfold zg2; rw [if_neg (by omega)]
  rw [hv, e2]
  by_cases hk : k = i
  · subst hk; rw [pk_us]; simp [zg2]
  · rw [pk_un hk]; simp only [zg2]
    by_cases h2 : k < i
    · rw [if_pos h2, if_pos (show k < i + 1 by omega)]
    · rw [if_neg h2, if_neg (show ¬ k < i + 1 by omega)]
/-- SEEN of bit k, the bits of w ahead of it being told: what is left, and from which bit on, behind j halvings -/
def zsn (me : Nat → Int32) (d k w : Nat) : Nat → (Nat → Int32) × Nat
  | 0 => (me, 0)
  | j + 1 => if k.testBit (d - 1 - j) = true then (zg2 (zhf d j) (zcod ((w >>> (zsn me d k w j).2) &&& (2 ^ zhf d j - 1))) (zsn me d k w j).1 (zhf d j), (zsn me d k w j).2 + zhf d j) else (zg1 (zhf d j) (zsn me d k w j).1 (zhf d j), (zsn me d k w j).2)
def zsee (me : Nat → Int32) (d k w : Nat) : Int32 := (zsn me d k w d).1 0
theorem zsn_s (me : Nat → Int32) {d : Nat} (k w : Nat) : ∀ j, j ≤ d → (zsn me d k w j).2 + 2 ^ (d - j) ≤ 2 ^ d
  | 0, _ => by simp [zsn]
  | j + 1, h => by
    have ih := zsn_s (d := d) me k w j (by omega)
    have e : 2 ^ (d - j) = 2 * 2 ^ (d - (j + 1)) := by rw [show d - j = (d - (j + 1)) + 1 by omega, Nat.pow_succ, Nat.mul_comm]
    have e2 : zhf d j = 2 ^ (d - (j + 1)) := by rw [zhf_eq (by omega)]; congr 1; omega
    unfold zsn
    split
    · simp only [e2]; omega
    · simp only; omega
theorem zsn_16 {a : ZA} (hI : zInv a) (me : Nat → Int32) (k w : Nat) {j : Nat} (hj : j ≤ a.1) : (zsn me a.1 k w j).2 < 16 := by
  have h1 := zsn_s me k w j hj
  have h2 := zNp hI
  have h3 := Nat.two_pow_pos (a.1 - j)
  omega
/-- READ; FINE of a row -/
def zrr (a : ZA) : Nat → Nat
  | 0 => 0
  | i + 1 => if ¬ Nat.testBit a.2.2.2.1 i = true ∧ zsee a.2.2.2.2.2.1 a.1 i (zrr a i) < 0 then zrr a i ||| 2 ^ i else zrr a i
theorem zrr_lt (a : ZA) : ∀ i, zrr a i < 2 ^ i
  | 0 => Nat.one_pos
  | i + 1 => by
    have ih := zrr_lt a i
    have h2 : zrr a i < 2 ^ (i + 1) := Nat.lt_of_lt_of_le ih (Nat.pow_le_pow_right (by omega) (by omega))
    unfold zrr
    split
    · exact Nat.or_lt_two_pow h2 (Nat.pow_lt_pow_right (by omega) (by omega))
    · exact h2
theorem zp2_le {i : Nat} (h : i ≤ 16) : 2 ^ i ≤ 65536 := Nat.pow_le_pow_right (by omega) h
theorem zrr_16 (a : ZA) {i : Nat} (h : i ≤ 16) : zrr a i < 65536 := Nat.lt_of_lt_of_le (zrr_lt a i) (zp2_le h)
def zfb (s : Int32) (b : Bool) : Int32 := if b = true then zmx s 0 else zmx (-s) 0
theorem zfb_of {r s : Int32} {b : Bool} (h : r = zB (b = true)) : (if r = 0 then zmx (-s) 0 else zmx s 0) = zfb s b := by
  cases b
  · rw [h]; simp [zB, zfb]
  · rw [h]; simp [zB, zfb]
def zfi (me : Nat → Int32) (d w : Nat) : Nat → Int32
  | 0 => 0
  | i + 1 => zfi me d w i + zfb (zsee me d i w) (Nat.testBit w i)
/-- at how many places a row is other than what came tells -/
def zun (me : Nat → Int32) (c : Nat) (j : Nat) : Bool := decide (¬ me j = 0 ∧ ¬ (me j < 0 ↔ c.testBit j = true))
theorem zarrV_congr (cA : ClassId) (n : Nat) {f g : Nat → Value} (h : ∀ j, j < n → f j = g j) : arrV cA n f = arrV cA n g := by
  unfold arrV
  congr 1
  congr 1
  funext j
  exact h j.val j.isLt
theorem zP_arr {D : va_G} {ws : va_W} {H : Heap} {q k n : Nat} {cA : ClassId} {f g : Nat → Int32} (h : va_P D vwCl ws H) (hk : ws[k]? = some (q, .inl (cA, n, .inl f))) (hfg : ∀ j, j < n → f j = g j) : va_P D vwCl (ws.set k (q, .inl (cA, n, .inl g))) H := by
  have e : vp_cell cA (n, .inl f) = vp_cell cA (n, .inl g) := by
    show arrV cA n (fun j => .int (f j)) = arrV cA n (fun j => .int (g j))
    exact zarrV_congr cA n (fun j hj => by rw [hfg j hj])
  intro i x hx
  by_cases hi : i = k
  · subst hi
    have hlt : i < ws.length := (List.getElem?_eq_some_iff.mp hk).1
    rw [List.getElem?_set_self hlt] at hx
    cases hx
    have h1 := h i _ hk
    show H[q]? = some (vp_cell cA (n, .inl g))
    rw [← e]
    exact h1
  · rw [List.getElem?_set_ne (fun q => hi q.symm)] at hx
    exact h i x hx
/-- rows with their fines: as a list; x is ahead of y -/
abbrev ZL : Type := List (Nat × Int32)
def zah (x y : Nat × Int32) : Bool := decide (x.2 < y.2 ∨ (x.2 = y.2 ∧ x.1 < y.1))
def zpos (G : ZL) (x : Nat × Int32) : Nat → Nat
  | 0 => 0
  | n + 1 => if zah x (G.getD n (0, 0)) = true then zpos G x n else n + 1
def zins (G : ZL) (x : Nat × Int32) : ZL := G.take (zpos G x G.length) ++ x :: G.drop (zpos G x G.length)
def zRL (t : ZR) (G : ZL) : Prop := t.2.2 = G.length ∧ ∀ k, k < G.length → t.1 k = nI (G.getD k (0, 0)).1 ∧ t.2.1 k = (G.getD k (0, 0)).2 ∧ (G.getD k (0, 0)).1 < 65536
def zsh (f : Nat → Int32) (n i : Nat) : Nat → Int32 := fun k => if n - i < k ∧ k ≤ n then f (k - 1) else f k
theorem zsh_0 (f : Nat → Int32) (n : Nat) : zsh f n 0 = f := by funext k; unfold zsh; rw [if_neg (by omega)]
theorem zsh_lo {f : Nat → Int32} {n i k : Nat} (h : k ≤ n - i) : zsh f n i k = f k := by unfold zsh; rw [if_neg (by omega)]
theorem zsh_s {f : Nat → Int32} {n i : Nat} (h : i < n) : upd (zsh f n i) (n - i) (zsh f n i (n - i - 1)) = zsh f n (i + 1) := by
  funext k
  by_cases hk : k = n - i
  · subst hk
    rw [pk_us, zsh_lo (by omega)]
    unfold zsh
    rw [if_pos (by omega)]
  · rw [pk_un hk]
    unfold zsh
    by_cases h2 : n - i < k ∧ k ≤ n
    · rw [if_pos h2, if_pos (by omega)]
    · rw [if_neg h2, if_neg (by omega)]
def zin (f : Nat → Int32) (n p : Nat) (x : Int32) : Nat → Int32 := upd (zsh f n (n - p)) p x
theorem zpos_le (G : ZL) (x : Nat × Int32) : ∀ n, zpos G x n ≤ n
  | 0 => Nat.le_refl _
  | n + 1 => by
    have := zpos_le G x n
    unfold zpos
    split <;> omega
theorem zpos_1 (G : ZL) (x : Nat × Int32) : ∀ n j, zpos G x n ≤ j → j < n → zah x (G.getD j (0, 0)) = true
  | 0, j, _, h => absurd h (Nat.not_lt_zero _)
  | n + 1, j, h1, h2 => by
    unfold zpos at h1
    split at h1
    · rename_i hz
      rcases Nat.lt_or_ge j n with q | q
      · exact zpos_1 G x n j h1 q
      · have : j = n := by omega
        subst this
        exact hz
    · omega
theorem zpos_2 (G : ZL) (x : Nat × Int32) : ∀ n, zpos G x n = 0 ∨ ¬ zah x (G.getD (zpos G x n - 1) (0, 0)) = true
  | 0 => Or.inl rfl
  | n + 1 => by
    unfold zpos
    split
    · exact zpos_2 G x n
    · rename_i hz
      exact Or.inr hz
theorem zah_iff {x : Nat × Int32} {t : ZR} {G : ZL} (h : zRL t G) (hx : x.1 < 65536) {j : Nat} (hj : j < G.length) : zah x (G.getD j (0, 0)) = true ↔ (x.2 < t.2.1 j ∨ (x.2 = t.2.1 j ∧ nI x.1 < t.1 j)) := by
  obtain ⟨h1, h2, h3⟩ := h.2 j hj
  unfold zah
  rw [decide_eq_true_eq, h1, h2, nI_ltI (by omega) (by omega)]
theorem zRL_hp1 {x : Nat × Int32} {t : ZR} {G : ZL} (h : zRL t G) (hx : x.1 < 65536) : ∀ j, zpos G x G.length ≤ j → j < t.2.2 → (x.2 < t.2.1 j ∨ (x.2 = t.2.1 j ∧ nI x.1 < t.1 j)) := fun j h1 h2 => (zah_iff h hx (by rw [← h.1]; exact h2)).mp (zpos_1 G x G.length j h1 (by rw [← h.1]; exact h2))
theorem zRL_hp2 {x : Nat × Int32} {t : ZR} {G : ZL} (h : zRL t G) (hx : x.1 < 65536) : zpos G x G.length = 0 ∨ ¬ (x.2 < t.2.1 (zpos G x G.length - 1) ∨ (x.2 = t.2.1 (zpos G x G.length - 1) ∧ nI x.1 < t.1 (zpos G x G.length - 1))) := by
  rcases zpos_2 G x G.length with q | q
  · exact Or.inl q
  · rcases Nat.eq_zero_or_pos (zpos G x G.length) with q0 | q0
    · exact Or.inl q0
    · refine Or.inr (fun z => q ((zah_iff h hx ?_).mpr z))
      have := zpos_le G x G.length
      omega
theorem zins_len (G : ZL) (x : Nat × Int32) : (zins G x).length = G.length + 1 := by
  have := zpos_le G x G.length
  unfold zins
  rw [List.length_append, List.length_cons, List.length_take, List.length_drop]
  omega
theorem zins_get (G : ZL) (x : Nat × Int32) (k : Nat) (hk : k < G.length + 1) : (zins G x).getD k (0, 0) = if k = zpos G x G.length then x else if zpos G x G.length < k then G.getD (k - 1) (0, 0) else G.getD k (0, 0) := by
  have hp := zpos_le G x G.length
  unfold zins
  generalize zpos G x G.length = p at hp ⊢
  have hl : (G.take p).length = p := by rw [List.length_take]; omega
  simp only [List.getD_eq_getElem?_getD]
  by_cases h1 : k = p
  · rw [if_pos h1, List.getElem?_append_right (by omega), hl, h1, Nat.sub_self]; rfl
  · rw [if_neg h1]
    by_cases h2 : p < k
    · rw [if_pos h2, List.getElem?_append_right (by omega), hl, show k - p = (k - p - 1) + 1 by omega, List.getElem?_cons_succ, List.getElem?_drop, show p + (k - p - 1) = k - 1 by omega]
    · rw [if_neg h2, List.getElem?_append_left (by omega), List.getElem?_take_of_lt (by omega)]
theorem zRL_ins {x : Nat × Int32} {t : ZR} {G : ZL} (h : zRL t G) (hx : x.1 < 65536) : zRL (zin t.1 t.2.2 (zpos G x G.length) (nI x.1), zin t.2.1 t.2.2 (zpos G x G.length) x.2, t.2.2 + 1) (zins G x) := by
  have hp := zpos_le G x G.length
  refine ⟨by show t.2.2 + 1 = _; rw [zins_len, h.1], fun k hk => ?_⟩
  rw [zins_len] at hk
  rw [zins_get G x k hk]
  have e1 := h.1
  show zin t.1 t.2.2 (zpos G x G.length) (nI x.1) k = _ ∧ zin t.2.1 t.2.2 (zpos G x G.length) x.2 k = _ ∧ _
  generalize zpos G x G.length = p at hp ⊢
  unfold zin
  by_cases h1 : k = p
  · subst h1
    rw [if_pos rfl, pk_us, pk_us]
    exact ⟨rfl, rfl, hx⟩
  · rw [if_neg h1, pk_un h1, pk_un h1]
    unfold zsh
    by_cases h2 : p < k
    · rw [if_pos h2, if_pos (by omega), if_pos (by omega)]
      exact h.2 (k - 1) (by omega)
    · rw [if_neg h2, if_neg (by omega), if_neg (by omega)]
      exact h.2 k (by omega)
theorem zRL_0 (f g : Nat → Int32) : zRL (f, g, 0) [] := ⟨rfl, fun k h => absurd h (Nat.not_lt_zero _)⟩
theorem zRL_take {t g : ZR} {G : ZL} (h : zRL g G) (k : Nat) (f1 f2 : Nat → Int32) : zRL (va_cpy g.1 f1 0 0 (if k < g.2.2 then k else g.2.2), va_cpy g.2.1 f2 0 0 (if k < g.2.2 then k else g.2.2), (if k < g.2.2 then k else g.2.2)) (G.take k) := by
  have e : (if k < g.2.2 then k else g.2.2) = (G.take k).length := by
    rw [List.length_take, h.1]
    split <;> omega
  rw [e]
  refine ⟨rfl, fun j hj => ?_⟩
  have h2 : j < G.length := by rw [List.length_take] at hj; omega
  have h3 : j < k := by rw [List.length_take] at hj; omega
  have h4 : (G.take k).getD j (0, 0) = G.getD j (0, 0) := by
    simp only [List.getD_eq_getElem?_getD]
    rw [List.getElem?_take_of_lt h3]
  rw [h4]
  show va_cpy g.1 f1 0 0 _ j = _ ∧ va_cpy g.2.1 f2 0 0 _ j = _ ∧ _
  rw [sb_cpy0 hj, sb_cpy0 hj]
  exact h.2 j h2
/-- KEPT: one bit more; all bits -/
def zgr (a : ZA) (k : Nat) (L : ZL) : Nat → ZL
  | 0 => []
  | i + 1 =>
    let w := (L.getD i (0, 0)).1
    let f := (L.getD i (0, 0)).2
    let s := zsee a.2.2.2.2.2.1 a.1 k w
    let G := zins (zgr a k L i) (w, f + zfb s false)
    if Nat.testBit a.2.2.2.1 k = true then G else zins G (w ||| 2 ^ k, f + zfb s true)
def zkp (a : ZA) : Nat → ZL
  | 0 => [(0, 0)]
  | i + 1 => (zgr a i (zkp a i) (zkp a i).length).take a.2.2.2.2.1
theorem zgr_len (a : ZA) (k : Nat) (L : ZL) : ∀ i, (zgr a k L i).length ≤ 2 * i
  | 0 => Nat.le_refl _
  | i + 1 => by
    have ih := zgr_len a k L i
    simp only [zgr]
    split
    · rw [zins_len]; omega
    · rw [zins_len, zins_len]; omega
theorem zkp_len {a : ZA} (hI : zInv a) : ∀ i, (zkp a i).length ≤ 8
  | 0 => by show 1 ≤ 8; omega
  | i + 1 => by
    have := hI.2.2.2.1.2
    simp only [zkp]
    rw [List.length_take]
    omega
/-- CHECKS -/
def zck (a : ZA) (k : Nat) : Nat := (a.2.2.2.2.2.2 k).toNatClampNeg
theorem zck_eq {a : ZA} (hI : zInv a) {k : Nat} (h : k < 3) : a.2.2.2.2.2.2 k = nI (zck a k) ∧ zck a k < 65536 := by
  obtain ⟨j, h1, h2⟩ := hI.2.2.2.2.2 k h
  have h3 := zNN hI
  have : zck a k = j := by unfold zck; rw [h1, nI_clamp (by omega)]
  rw [this]
  exact ⟨h1, by omega⟩
def zhd (a : ZA) (w : Nat) : Bool := decide (zpc (w &&& zck a 0) % 2 = 0 ∧ zpc (w &&& zck a 1) % 2 = 0 ∧ zpc (w &&& zck a 2) % 2 = 0)
theorem zhd_t {a : ZA} {w : Nat} (h : ∀ k, k < 3 → zpc (w &&& zck a k) % 2 = 0) : zhd a w = true := decide_eq_true ⟨h 0 (by omega), h 1 (by omega), h 2 (by omega)⟩
theorem zhd_f {a : ZA} {w k : Nat} (hk : k < 3) (h : ¬ zpc (w &&& zck a k) % 2 = 0) : ¬ zhd a w = true := by
  intro q
  have q := of_decide_eq_true q
  rcases (show k = 0 ∨ k = 1 ∨ k = 2 by omega) with rfl | rfl | rfl
  · exact h q.1
  · exact h q.2.1
  · exact h q.2.2
/-- the first of n that holds -/
def zff (P : Nat → Bool) (n : Nat) : Option Nat := (List.range n).find? P
theorem zff_some {P : Nat → Bool} {n i : Nat} (hi : i < n) (h1 : P i = true) (h2 : ∀ j, j < i → P j = false) : zff P n = some i := by
  unfold zff
  rw [List.find?_range_eq_some]
  exact ⟨h1, List.mem_range.mpr hi, fun j hj => by rw [h2 j hj]; rfl⟩
theorem zff_none {P : Nat → Bool} {n : Nat} (h2 : ∀ j, j < n → P j = false) : zff P n = none := by
  unfold zff
  rw [List.find?_eq_none]
  intro j hj
  rw [h2 j (List.mem_range.mp hj)]
  decide
def zfr (o : Option Nat) : Int32 := match o with
  | some i => nI i
  | none => -6
def zcc (a : ZA) (p : Int32) : Int32 := if p < 10 ∨ ¬ p < 13 then -2 else a.2.2.2.2.2.2 (p.toNatClampNeg - 10)
/-- an int between two numbers is a plain number -/
theorem zrange {x : Int32} {lo hi : Nat} (h1 : ¬ x < nI lo) (h2 : x < nI hi) (hh : hi < 2 ^ 31) (hl : lo < 2 ^ 31) : ∃ k, lo + k < hi ∧ x = nI (lo + k) := by
  have e1 := Int32.lt_iff_toInt_lt.mp h2
  have e2 : ¬ x.toInt < (nI lo).toInt := fun q => h1 (Int32.lt_iff_toInt_lt.mpr q)
  rw [nI_toInt hh] at e1
  rw [nI_toInt hl] at e2
  refine ⟨x.toInt.toNat - lo, by omega, ?_⟩
  apply Int32.toInt_inj.mp
  rw [nI_toInt (by omega)]
  omega
