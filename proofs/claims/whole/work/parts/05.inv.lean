theorem zNp {a : ZA} (h : zInv a) : 2 ^ a.1 ≤ 16 := by
  have h1 := h.1.1
  have h2 := h.1.2
  rcases (show a.1 = 1 ∨ a.1 = 2 ∨ a.1 = 3 ∨ a.1 = 4 by omega) with e | e | e | e <;> rw [e] <;> decide
theorem zNp1 {a : ZA} (h : zInv a) : 2 ≤ 2 ^ a.1 := by
  have h1 := h.1.1
  have h2 := h.1.2
  rcases (show a.1 = 1 ∨ a.1 = 2 ∨ a.1 = 3 ∨ a.1 = 4 by omega) with e | e | e | e <;> rw [e] <;> decide
theorem zNN {a : ZA} (h : zInv a) : 2 ^ 2 ^ a.1 ≤ 65536 := by
  have h1 := h.1.1
  have h2 := h.1.2
  rcases (show a.1 = 1 ∨ a.1 = 2 ∨ a.1 = 3 ∨ a.1 = 4 by omega) with e | e | e | e <;> rw [e] <;> decide
theorem zfz16 {a : ZA} (h : zInv a) : a.2.2.2.1 < 65536 := Nat.lt_of_lt_of_le h.2.2.1 (zNN h)
/-- under 2 ^ k: bits from k on are 0 -/
theorem zlt_bits {n k : Nat} (h : ∀ i, k ≤ i → n.testBit i = false) : n < 2 ^ k := by
  rcases Nat.lt_or_ge n (2 ^ k) with q | q
  · exact q
  · obtain ⟨i, hi, hb⟩ := Nat.exists_ge_and_testBit_of_ge_two_pow q
    rw [h i hi] at hb
    cases hb
theorem zn_andn {x z : Nat} (hx : x < 65536) : nI x &&& (nI z ^^^ (-1)) = nI (x &&& (z ^^^ 65535)) := by
  rw [show (-1 : Int32) = nI 4294967295 from rfl, fb_xorI, fa_and]
  congr 1
  apply Nat.eq_of_testBit_eq
  intro i
  rw [Nat.testBit_and, Nat.testBit_and, Nat.testBit_xor, Nat.testBit_xor]
  rcases Nat.lt_or_ge i 16 with h | h
  · rw [show 4294967295 = 2 ^ 32 - 1 from rfl, show 65535 = 2 ^ 16 - 1 from rfl, Nat.testBit_two_pow_sub_one, Nat.testBit_two_pow_sub_one]
    simp [h, show i < 32 by omega]
  · rw [Nat.testBit_lt_two_pow (Nat.lt_of_lt_of_le hx (by rw [show 65536 = 2 ^ 16 from rfl]; exact Nat.pow_le_pow_right (by omega) h))]
    simp
/-- CODED, as the class has it: level by level -/
def zmask (i : Nat) : Nat := match i with
  | 0 => 21845
  | 1 => 13107
  | 2 => 3855
  | _ => 255
def zcl (v : Nat) : Nat → Nat
  | 0 => v
  | i + 1 => zcl v i ^^^ ((zcl v i >>> 2 ^ i) &&& zmask i)
def zcod (v : Nat) : Nat := zcl v 4
theorem zmask_le (i : Nat) : zmask i < 65536 := by
  unfold zmask
  split <;> omega
theorem zcl_lt {v : Nat} (h : v < 65536) : ∀ i, zcl v i < 65536
  | 0 => h
  | i + 1 => Nat.xor_lt_two_pow (n := 16) (zcl_lt h i) (Nat.lt_of_le_of_lt Nat.and_le_right (zmask_le i))
theorem zcod_lt {v : Nat} (h : v < 65536) : zcod v < 65536 := zcl_lt h 4
theorem zFv_mask {i : Nat} (h : i < 4) : zFv i = .int (nI (zmask i)) := by
  rcases (show i = 0 ∨ i = 1 ∨ i = 2 ∨ i = 3 by omega) with rfl | rfl | rfl | rfl <;> rfl
theorem zpow4 {i : Nat} (h : i < 4) : 2 ^ i ≤ 8 := by
  rcases (show i = 0 ∨ i = 1 ∨ i = 2 ∨ i = 3 by omega) with rfl | rfl | rfl | rfl <;> decide
/-- OPEN, as the class has it: from level 3 down; ahead of what is frozen -/
def zol (l v : Nat) : Nat := ((v ||| v >>> 2 ^ l) &&& zmask l) ||| (v &&& (v <<< 2 ^ l) &&& (zmask l <<< 2 ^ l))
def zop (v : Nat) : Nat → Nat
  | 0 => v
  | i + 1 => zol (3 - i) (zop v i)
def zopn (v : Nat) : Nat := zop v 4
theorem zol_lt {l v : Nat} (h : v < 65536) : zol l v < 65536 := Nat.or_lt_two_pow (n := 16) (Nat.lt_of_le_of_lt Nat.and_le_right (zmask_le l)) (Nat.lt_of_le_of_lt (Nat.le_trans Nat.and_le_left Nat.and_le_left) h)
theorem zop_lt {v : Nat} (h : v < 65536) : ∀ i, zop v i < 65536
  | 0 => h
  | i + 1 => zol_lt (zop_lt h i)
theorem zopn_lt {v : Nat} (h : v < 65536) : zopn v < 65536 := zop_lt h 4
theorem zshl_lt {v l : Nat} (h : v < 65536) (hl : l < 4) : v * 2 ^ 2 ^ l < 2 ^ 32 := by
  have h1 : 2 ^ 2 ^ l ≤ 2 ^ 8 := Nat.pow_le_pow_right (by omega) (zpow4 hl)
  calc v * 2 ^ 2 ^ l ≤ v * 2 ^ 8 := Nat.mul_le_mul_left _ h1
    _ < 2 ^ 32 := by omega
/-- Gosper: the next greater set of as many -/
def zlow (v : Nat) : Nat := v &&& (4294967296 - v)
def znx (v : Nat) : Nat := (v + zlow v) ||| ((v ^^^ (v + zlow v)) >>> 2) / zlow v
def zsq (w : Nat) : Nat → Nat
  | 0 => 2 ^ w - 1
  | i + 1 => znx (zsq w i)
theorem zlow_le (v : Nat) : zlow v ≤ v := Nat.and_le_left
/-- the class's least weight, of the first i bits -/
def zlw (z : Nat) : Nat → Nat
  | 0 => 16
  | i + 1 => if z.testBit i = true then zlw z i else if zpc (zcod (2 ^ i)) < zlw z i then zpc (zcod (2 ^ i)) else zlw z i
theorem zlw_le (z : Nat) : ∀ i, zlw z i ≤ 16
  | 0 => Nat.le_refl _
  | i + 1 => by
    have := zlw_le z i
    unfold zlw
    split
    · exact this
    · split <;> omega
theorem zp2_16 {i : Nat} (h : i < 16) : 2 ^ i < 65536 := Nat.pow_lt_pow_right (by omega) h
/-- how many of the first n hold -/
def zct (P : Nat → Bool) : Nat → Nat
  | 0 => 0
  | i + 1 => zct P i + if P i = true then 1 else 0
theorem zct_le (P : Nat → Bool) : ∀ n, zct P n ≤ n
  | 0 => Nat.le_refl _
  | i + 1 => by
    have := zct_le P i
    unfold zct
    split <;> omega
/-- the sets of w places among N, as the class goes through them: K of them -/
def zSeq (w N K : Nat) : Prop := (∀ j, j < K → 1 ≤ zlow (zsq w j) ∧ zsq w j < 2 ^ N) ∧ 2 ^ N ≤ zsq w K ∧ zsq w K < 2 ^ 20 ∧ K < 2 ^ N
theorem zI_0 {x : Nat} (h : x < 2 ^ 31) (c : nI x = 0) : x = 0 := (nI_eq h (by decide)).mp c
theorem zI_n0 {x : Nat} (c : ¬ nI x = 0) : ¬ x = 0 := fun e => c (by rw [e]; rfl)
theorem zsz_le (z : Nat) : ∀ n, zsz z n ≤ n
  | 0 => Nat.le_refl _
  | n + 1 => by
    have h1 := zsz_le z n
    have h2 := Bool.toNat_le (z.testBit n)
    unfold zsz
    omega
theorem zsz_hi {z n : Nat} (h : z < 2 ^ n) : ∀ k, zsz z (n + k) = zsz z n
  | 0 => rfl
  | k + 1 => by
    show zsz z (n + k) + (z.testBit (n + k)).toNat = zsz z n
    rw [zsz_hi h k, Nat.testBit_lt_two_pow (Nat.lt_of_lt_of_le h (Nat.pow_le_pow_right (by omega) (Nat.le_add_right n k)))]
    rfl
theorem zpc_leN {z n : Nat} (h : z < 2 ^ n) (hn : n ≤ 16) : zpc z ≤ n := by
  rw [← zsz_16, show 16 = n + (16 - n) by omega, zsz_hi h]
  exact zsz_le z n
theorem zxor_lt {x y n : Nat} (hx : x < 2 ^ n) (hy : y < 2 ^ n) : x ^^^ y < 2 ^ n := Nat.xor_lt_two_pow hx hy
theorem zdec : ∀ i, i < 4 → nI (3 - i) + (-1) = 3 - nI (i + 1) := by decide
theorem zz_minn {x y : Nat} (hx : x < 2 ^ 31) (hy : y < 2 ^ 31) : (if nI y < nI x then nI y else nI x) = nI (if y < x then y else x) := by
  by_cases h : y < x
  · rw [if_pos h, if_pos (nI_lt h hx)]
  · rw [if_neg h, if_neg (nI_nlt (by omega) hy)]
/-- which sets the class counts: those that are sent as words, or those that leave something lost -/
def zhm (z : Nat) (p : Int32) (v : Nat) : Bool := if p = 0 then decide (¬ zopn v &&& (z ^^^ 65535) = 0) else decide (zcod v &&& z = 0)
/-- the halves of 2 ^ d places, from the greatest on -/
def zhf (d i : Nat) : Nat := 2 ^ (d - i) / 2
theorem zhf_eq {d i : Nat} (h : i < d) : zhf d i = 2 ^ (d - 1 - i) := by
  unfold zhf
  rw [show d - i = (d - 1 - i) + 1 by omega, Nat.pow_succ, Nat.mul_div_cancel _ (by omega)]
theorem zhf_le {d i : Nat} (h : d ≤ 4) : zhf d i ≤ 8 := by
  unfold zhf
  have : 2 ^ (d - i) ≤ 2 ^ 4 := Nat.pow_le_pow_right (by omega) (by omega)
  omega
theorem zhf_pos {d i : Nat} (h : i < d) : 0 < zhf d i := by rw [zhf_eq h]; exact Nat.two_pow_pos _
theorem zhf_next (d i : Nat) : zhf d i >>> 1 = zhf d (i + 1) := by
  unfold zhf
  rw [Nat.shiftRight_eq_div_pow]
  rcases Nat.lt_or_ge i d with h | h
  · rw [show d - i = (d - (i + 1)) + 1 by omega, Nat.pow_succ, Nat.mul_div_cancel _ (by omega)]
  · rw [show d - i = 0 by omega, show d - (i + 1) = 0 by omega]
theorem zhf_bit {d i k : Nat} (h : i < d) (hk : k < 2 ^ 31) : (k &&& zhf d i = 0) ↔ k.testBit (d - 1 - i) = false := by
  rw [zhf_eq h]
  exact fb_bit_nat k (d - 1 - i)
/-- losses: the upper number with the lower one, of bit k, behind j halvings -/
def zup (t o d k : Nat) : Nat → Nat × Nat
  | 0 => (t, o)
  | j + 1 => (if k.testBit (d - 1 - j) = true then (zup t o d k j).1 * (zup t o d k j).1 else 2 * (zup t o d k j).1 * (zup t o d k j).2 - (zup t o d k j).1 * (zup t o d k j).1, (zup t o d k j).2 * (zup t o d k j).2)
def zlo (o : Nat) : Nat → Nat
  | 0 => o
  | j + 1 => zlo o j * zlo o j
theorem zup_2 (t o d k : Nat) : ∀ j, (zup t o d k j).2 = zlo o j
  | 0 => rfl
  | j + 1 => by simp only [zup, zlo, zup_2 t o d k j]
theorem zup_le {t o : Nat} (d k : Nat) (h : t ≤ o) : ∀ j, (zup t o d k j).1 ≤ (zup t o d k j).2
  | 0 => h
  | j + 1 => by
    have ih := zup_le d k h j
    simp only [zup]
    generalize (zup t o d k j).1 = u at ih ⊢
    generalize (zup t o d k j).2 = l at ih ⊢
    split
    · exact Nat.mul_le_mul ih ih
    · obtain ⟨e, rfl⟩ := Nat.exists_eq_add_of_le ih
      have : 2 * u * (u + e) = u * u + (u * u + 2 * (u * e)) := by
        rw [Nat.mul_assoc, Nat.mul_add]; omega
      rw [this, Nat.add_sub_cancel_left]
      have h2 : (u + e) * (u + e) = u * u + 2 * (u * e) + e * e := by
        rw [Nat.add_mul, Nat.mul_add, Nat.mul_add, Nat.mul_comm e u]; omega
      omega
theorem zup_f {u l : Nat} (h : u ≤ l) : 2 * lN u * lN l - lN u * lN u = lN (2 * u * l - u * u) := by
  rw [show (2 : Int64) = lN 2 from rfl, lN_mul, lN_mul, lN_mul, lN_sub]
  exact Nat.mul_le_mul (by omega) h
theorem zlo_le {o : Nat} (h : o ≤ 10) : ∀ j, j ≤ 4 → zlo o j ≤ 10000000000000000 := by
  intro j hj
  have h0 : zlo o 0 ≤ 10 := h
  have h1 : zlo o 1 ≤ 10 * 10 := Nat.mul_le_mul h0 h0
  have h2 : zlo o 2 ≤ 100 * 100 := Nat.mul_le_mul h1 h1
  have h3 : zlo o 3 ≤ 10000 * 10000 := Nat.mul_le_mul h2 h2
  have h4 : zlo o 4 ≤ 100000000 * 100000000 := Nat.mul_le_mul h3 h3
  rcases (show j = 0 ∨ j = 1 ∨ j = 2 ∨ j = 3 ∨ j = 4 by omega) with rfl | rfl | rfl | rfl | rfl <;> omega
theorem zup_lt {a : ZA} (hI : zInv a) (k j : Nat) (hj : j ≤ a.1) : (zup a.2.1 a.2.2.1 a.1 k j).1 < 2 ^ 63 := by
  have h1 := zup_le a.1 k hI.2.1.1 j
  rw [zup_2] at h1
  have h2 := zlo_le hI.2.1.2.2 j (by have := hI.1.2; omega)
  omega
theorem zlo_lt {a : ZA} (hI : zInv a) (j : Nat) (hj : j ≤ a.1) : zlo a.2.2.1 j < 2 ^ 63 := by
  have h2 := zlo_le hI.2.1.2.2 j (by have := hI.1.2; omega)
  omega
/-- LOSS of a bit, its upper number -/
def zlos (a : ZA) (k : Nat) : Nat := (zup a.2.1 a.2.2.1 a.1 k a.1).1
theorem zlos_lt {a : ZA} (hI : zInv a) (k : Nat) : zlos a k < 2 ^ 63 := zup_lt hI k a.1 (Nat.le_refl _)
/-- Euclid -/
def zeu (x y : Nat) : Nat → Nat × Nat
  | 0 => (x, y)
  | j + 1 => ((zeu x y j).2, (zeu x y j).1 % (zeu x y j).2)
theorem zeu_lt {x y : Nat} (hx : x < 2 ^ 63) (hy : y < 2 ^ 63) : ∀ j, (zeu x y j).1 < 2 ^ 63 ∧ (zeu x y j).2 < 2 ^ 63
  | 0 => ⟨hx, hy⟩
  | j + 1 => by
    have ih := zeu_lt hx hy j
    exact ⟨ih.2, Nat.lt_of_le_of_lt (Nat.mod_le _ _) ih.1⟩
theorem zcmp0 {b : Nat} (hb : b < 2 ^ 63) : lg_cmp (lN b) 0 = 0 ↔ b = 0 := by
  have h0 : (0 : Int64) = lN 0 := rfl
  unfold lg_cmp
  rw [h0]
  by_cases h : b = 0
  · subst h; decide
  · rw [if_pos (show lN b > lN 0 from (pk_lLT (by decide) hb).mpr (by omega))]
    exact ⟨fun q => absurd q (by decide), fun q => absurd q h⟩
theorem zcmp_lt {x y : Nat} (hx : x < 2 ^ 63) (hy : y < 2 ^ 63) : lg_cmp (lN x) (lN y) < 0 ↔ x < y := by
  unfold lg_cmp
  by_cases h : y < x
  · rw [if_pos (show lN x > lN y from (pk_lLT hy hx).mpr h)]
    exact ⟨fun q => absurd q (by decide), fun q => by omega⟩
  · rw [if_neg (show ¬ lN x > lN y from fun q => h ((pk_lLT hy hx).mp q))]
    by_cases e : x = y
    · rw [if_pos (by rw [e])]
      exact ⟨fun q => absurd q (by decide), fun q => by omega⟩
    · rw [if_neg (fun q => e ((pk_lEQ hx hy).mp q))]
      exact ⟨fun _ => by omega, fun _ => by decide⟩
theorem zcmp_eq {x y : Nat} (hx : x < 2 ^ 63) (hy : y < 2 ^ 63) : lg_cmp (lN x) (lN y) = 0 ↔ x = y := by
  unfold lg_cmp
  by_cases h : y < x
  · rw [if_pos (show lN x > lN y from (pk_lLT hy hx).mpr h)]
    exact ⟨fun q => absurd q (by decide), fun q => by omega⟩
  · rw [if_neg (show ¬ lN x > lN y from fun q => h ((pk_lLT hy hx).mp q))]
    by_cases e : x = y
    · rw [if_pos (by rw [e])]
      exact ⟨fun _ => e, fun _ => rfl⟩
    · rw [if_neg (fun q => e ((pk_lEQ hx hy).mp q))]
      exact ⟨fun q => absurd q (by decide), fun q => absurd q e⟩
/-- BETTER: bit j than bit k; how many are better than k -/
def zbt (a : ZA) (k j : Nat) : Bool := decide (zlos a j < zlos a k ∨ (zlos a j = zlos a k ∧ k < j))
def zrk (a : ZA) (k : Nat) : Nat := zct (zbt a k) (2 ^ a.1)
/-- seen: the weaker of two, with its sign -/
def zab (x : Int32) : Int32 := if 0 ≤ x then x else 0 - x
def zmn (x y : Int32) : Int32 := if y < x then y else x
def zmx (x y : Int32) : Int32 := if x < y then y else x
def zwk (x y : Int32) : Int32 := if (x < 0 ↔ y < 0) then zmn (zab x) (zab y) else - zmn (zab x) (zab y)
def zg1 (h : Nat) (f : Nat → Int32) (n : Nat) : Nat → Int32 := fun k => if k < n then zwk (f k) (f (k + h)) else f k
theorem zg1_0 (h : Nat) (f : Nat → Int32) : zg1 h f 0 = f := by funext k; simp [zg1]
theorem zg1_s {h i : Nat} {f : Nat → Int32} (hi : i < h) : upd (zg1 h f i) i (zwk (zg1 h f i i) (zg1 h f i (i + h))) = zg1 h f (i + 1) := by
  funext k
  have e1 : zg1 h f i i = f i := by simp [zg1]
  have e2 : zg1 h f i (i + h) = f (i + h) := by unfold zg1; rw [if_neg (by omega)]
  rw [e1, e2]
  by_cases hk : k = i
  · subst hk; rw [pk_us]; simp [zg1]
  · rw [pk_un hk]; simp only [zg1]
    by_cases h2 : k < i
    · rw [if_pos h2, if_pos (show k < i + 1 by omega)]
    · rw [if_neg h2, if_neg (show ¬ k < i + 1 by omega)]
def zg2 (h c : Nat) (f : Nat → Int32) (n : Nat) : Nat → Int32 := fun k => if k < n then f (k + h) + (if c.testBit k = true then - f k else f k) else f k
theorem zg2_0 (h c : Nat) (f : Nat → Int32) : zg2 h c f 0 = f := by funext k; simp [zg2]
theorem zg2_i (h c i : Nat) (f : Nat → Int32) : zg2 h c f i i = f i := by simp [zg2]
theorem zg2_s {h c i : Nat} {f : Nat → Int32} {v : Int32} (hi : i < h) (hv : v = zg2 h c f i (i + h) + (if c.testBit i = true then - f i else f i)) : upd (zg2 h c f i) i v = zg2 h c f (i + 1) := by
  funext k
  have e2 : zg2 h c f i (i + h) = f (i + h) := by unfold zg2; rw [if_neg (by omega)]
  rw [hv, e2]
  by_cases hk : k = i
  · subst hk; rw [pk_us]; simp [zg2]
  · rw [pk_un hk]; simp only [zg2]
    by_cases h2 : k < i
    · rw [if_pos h2, if_pos (show k < i + 1 by omega)]
    · rw [if_neg h2, if_neg (show ¬ k < i + 1 by omega)]
/-- SEEN of bit k, the bits of w ahead of it being told: what is left, and from which bit on, behind j halvings -/
def zsn (me : Nat → Int32) (d k w : Nat) : Nat → (Nat → Int32) × Nat
  | 0 => (me, 0)
  | j + 1 => if k.testBit (d - 1 - j) = true then (zg2 (zhf d j) (zcod ((w >>> (zsn me d k w j).2) &&& (2 ^ zhf d j - 1))) (zsn me d k w j).1 (zhf d j), (zsn me d k w j).2 + zhf d j) else (zg1 (zhf d j) (zsn me d k w j).1 (zhf d j), (zsn me d k w j).2)
def zsee (me : Nat → Int32) (d k w : Nat) : Int32 := (zsn me d k w d).1 0
theorem zsn_s (me : Nat → Int32) {d : Nat} (k w : Nat) : ∀ j, j ≤ d → (zsn me d k w j).2 + 2 ^ (d - j) ≤ 2 ^ d
  | 0, _ => by simp [zsn]
  | j + 1, h => by
    have ih := zsn_s (d := d) me k w j (by omega)
    have e : 2 ^ (d - j) = 2 * 2 ^ (d - (j + 1)) := by rw [show d - j = (d - (j + 1)) + 1 by omega, Nat.pow_succ, Nat.mul_comm]
    have e2 : zhf d j = 2 ^ (d - (j + 1)) := by rw [zhf_eq (by omega)]; congr 1; omega
    unfold zsn
    split
    · simp only [e2]; omega
    · simp only; omega
theorem zsn_16 {a : ZA} (hI : zInv a) (me : Nat → Int32) (k w : Nat) {j : Nat} (hj : j ≤ a.1) : (zsn me a.1 k w j).2 < 16 := by
  have h1 := zsn_s me k w j hj
  have h2 := zNp hI
  have h3 := Nat.two_pow_pos (a.1 - j)
  omega
/-- READ; FINE of a row -/
def zrr (a : ZA) : Nat → Nat
  | 0 => 0
  | i + 1 => if ¬ Nat.testBit a.2.2.2.1 i = true ∧ zsee a.2.2.2.2.2.1 a.1 i (zrr a i) < 0 then zrr a i ||| 2 ^ i else zrr a i
theorem zrr_lt (a : ZA) : ∀ i, zrr a i < 2 ^ i
  | 0 => Nat.one_pos
  | i + 1 => by
    have ih := zrr_lt a i
    have h2 : zrr a i < 2 ^ (i + 1) := Nat.lt_of_lt_of_le ih (Nat.pow_le_pow_right (by omega) (by omega))
    unfold zrr
    split
    · exact Nat.or_lt_two_pow h2 (Nat.pow_lt_pow_right (by omega) (by omega))
    · exact h2
theorem zp2_le {i : Nat} (h : i ≤ 16) : 2 ^ i ≤ 65536 := Nat.pow_le_pow_right (by omega) h
theorem zrr_16 (a : ZA) {i : Nat} (h : i ≤ 16) : zrr a i < 65536 := Nat.lt_of_lt_of_le (zrr_lt a i) (zp2_le h)
def zfb (s : Int32) (b : Bool) : Int32 := if b = true then zmx s 0 else zmx (-s) 0
theorem zfb_of {r s : Int32} {b : Bool} (h : r = zB (b = true)) : (if r = 0 then zmx (-s) 0 else zmx s 0) = zfb s b := by
  cases b
  · rw [h]; simp [zB, zfb]
  · rw [h]; simp [zB, zfb]
def zfi (me : Nat → Int32) (d w : Nat) : Nat → Int32
  | 0 => 0
  | i + 1 => zfi me d w i + zfb (zsee me d i w) (Nat.testBit w i)
/-- at how many places a row is other than what came tells -/
def zun (me : Nat → Int32) (c : Nat) (j : Nat) : Bool := decide (¬ me j = 0 ∧ ¬ (me j < 0 ↔ c.testBit j = true))
theorem zarrV_congr (cA : ClassId) (n : Nat) {f g : Nat → Value} (h : ∀ j, j < n → f j = g j) : arrV cA n f = arrV cA n g := by
  unfold arrV
  congr 1
  congr 1
  funext j
  exact h j.val j.isLt
theorem zP_arr {D : va_G} {ws : va_W} {H : Heap} {q k n : Nat} {cA : ClassId} {f g : Nat → Int32} (h : va_P D vwCl ws H) (hk : ws[k]? = some (q, .inl (cA, n, .inl f))) (hfg : ∀ j, j < n → f j = g j) : va_P D vwCl (ws.set k (q, .inl (cA, n, .inl g))) H := by
  have e : vp_cell cA (n, .inl f) = vp_cell cA (n, .inl g) := by
    show arrV cA n (fun j => .int (f j)) = arrV cA n (fun j => .int (g j))
    exact zarrV_congr cA n (fun j hj => by rw [hfg j hj])
  intro i x hx
  by_cases hi : i = k
  · subst hi
    have hlt : i < ws.length := (List.getElem?_eq_some_iff.mp hk).1
    rw [List.getElem?_set_self hlt] at hx
    cases hx
    have h1 := h i _ hk
    show H[q]? = some (vp_cell cA (n, .inl g))
    rw [← e]
    exact h1
  · rw [List.getElem?_set_ne (fun q => hi q.symm)] at hx
    exact h i x hx
