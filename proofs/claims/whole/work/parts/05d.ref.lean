/-! What the reference's walks need: its row of numbers, what is free, loops. -/
theorem zst_put {a : ZA} {k : Nat} {v : Int32} (b : ZA) (h : ∀ j, j < 24 → (if j = k then v else zst a j) = zst b j) {D : va_G} {ws : va_W} {H : Heap} {q i : Nat} {cA : ClassId} (hP : va_P D vwCl ws H) (hk : ws[i]? = some (q, .inl (cA, 24, .inl (upd (zst a) k v)))) : va_P D vwCl (ws.set i (q, .inl (cA, 24, .inl (zst b)))) H := zP_arr hP hk (fun j hj => h j hj)
theorem zst_u0 (a : ZA) (k : Nat) : upd (zst a) 0 (nI k) = zst (k, a.2.1, a.2.2.1, a.2.2.2.1, a.2.2.2.2.1, a.2.2.2.2.2.1, a.2.2.2.2.2.2) := by
  funext j
  match j with
  | 0 => rfl
  | 1 | 2 | 3 | 4 | 5 | 6 | 7 => rfl
  | j + 8 => rfl
theorem zst_u1 (a : ZA) (k : Nat) : upd (zst a) 1 (nI k) = zst (a.1, k, a.2.2.1, a.2.2.2.1, a.2.2.2.2.1, a.2.2.2.2.2.1, a.2.2.2.2.2.2) := by
  funext j
  match j with
  | 0 => rfl
  | 1 | 2 | 3 | 4 | 5 | 6 | 7 => rfl
  | j + 8 => rfl
theorem zst_u2 (a : ZA) (k : Nat) : upd (zst a) 2 (nI k) = zst (a.1, a.2.1, k, a.2.2.2.1, a.2.2.2.2.1, a.2.2.2.2.2.1, a.2.2.2.2.2.2) := by
  funext j
  match j with
  | 0 => rfl
  | 1 | 2 | 3 | 4 | 5 | 6 | 7 => rfl
  | j + 8 => rfl
theorem zst_u3 (a : ZA) (k : Nat) : upd (zst a) 3 (nI k) = zst (a.1, a.2.1, a.2.2.1, k, a.2.2.2.2.1, a.2.2.2.2.2.1, a.2.2.2.2.2.2) := by
  funext j
  match j with
  | 0 => rfl
  | 1 | 2 | 3 | 4 | 5 | 6 | 7 => rfl
  | j + 8 => rfl
theorem zst_u4 (a : ZA) (k : Nat) : upd (zst a) 4 (nI k) = zst (a.1, a.2.1, a.2.2.1, a.2.2.2.1, k, a.2.2.2.2.2.1, a.2.2.2.2.2.2) := by
  funext j
  match j with
  | 0 => rfl
  | 1 | 2 | 3 | 4 | 5 | 6 | 7 => rfl
  | j + 8 => rfl
theorem zst_u5 (a : ZA) {k : Nat} (h : k < 3) (v : Int32) : upd (zst a) (5 + k) v = zst (a.1, a.2.1, a.2.2.1, a.2.2.2.1, a.2.2.2.2.1, a.2.2.2.2.2.1, upd a.2.2.2.2.2.2 k v) := by
  funext j
  rcases (show k = 0 ∨ k = 1 ∨ k = 2 by omega) with rfl | rfl | rfl
  all_goals
    match j with
    | 0 => rfl
    | 1 | 2 | 3 | 4 | 5 | 6 | 7 => rfl
    | j + 8 => rfl
theorem zst_u8 (a : ZA) (k : Nat) (v : Int32) : upd (zst a) (8 + k) v = zst (a.1, a.2.1, a.2.2.1, a.2.2.2.1, a.2.2.2.2.1, upd a.2.2.2.2.2.1 k v, a.2.2.2.2.2.2) := by
  funext j
  by_cases h : j = 8 + k
  · subst h
    rw [pk_us, zst_me]
    exact pk_us.symm
  · rw [pk_un h]
    match j, h with
    | 0, _ => rfl
    | 1, _ | 2, _ | 3, _ | 4, _ | 5, _ | 6, _ | 7, _ => rfl
    | j + 8, h =>
      show a.2.2.2.2.2.1 j = upd a.2.2.2.2.2.1 k v j
      rw [pk_un (by omega)]
def zfre (a : ZA) : Nat := (2 ^ 2 ^ a.1 - 1) &&& (a.2.2.2.1 ^^^ 65535)
theorem zfre_bit {a : ZA} (hI : zInv a) (k : Nat) : (zfre a).testBit k = (decide (k < 2 ^ a.1) && !(a.2.2.2.1.testBit k)) := by
  have h16 := zNp hI
  unfold zfre
  rw [Nat.testBit_and, Nat.testBit_xor, Nat.testBit_two_pow_sub_one, show 65535 = 2 ^ 16 - 1 from rfl, Nat.testBit_two_pow_sub_one]
  by_cases h : k < 2 ^ a.1
  · simp [h, show k < 16 by omega]
  · simp [h]
theorem zfre_lt {a : ZA} (hI : zInv a) : zfre a < 65536 := by
  have := zNN hI
  exact Nat.lt_of_le_of_lt Nat.and_le_left (by omega)
theorem zfre_1 {a : ZA} (hI : zInv a) {k : Nat} (hk : k < 2 ^ a.1) : (zfre a >>> k &&& 1 = 1) ↔ ¬ a.2.2.2.1.testBit k = true := by
  have h : zfre a >>> k &&& 1 = ((zfre a).testBit k).toNat := by
    rw [Nat.and_one_is_mod, Nat.shiftRight_eq_div_pow, zsz_bit]
  rw [h, zfre_bit hI, decide_eq_true hk]
  cases a.2.2.2.1.testBit k <;> simp
theorem zbit_01 (v k : Nat) : v >>> k &&& 1 = (v.testBit k).toNat := by rw [Nat.and_one_is_mod, Nat.shiftRight_eq_div_pow, zsz_bit]
theorem zbit_0 {v k : Nat} : (v >>> k &&& 1 = 0) ↔ ¬ v.testBit k = true := by
  rw [zbit_01]; cases v.testBit k <;> simp
theorem zbit_1 {v k : Nat} : (v >>> k &&& 1 = 1) ↔ v.testBit k = true := by
  rw [zbit_01]; cases v.testBit k <;> simp
theorem zI_1 {x : Nat} (h : x < 2 ^ 31) : (nI x = 1) ↔ x = 1 := nI_eq h (by decide)
theorem zand1 (x : Nat) : x &&& 1 < 2 ^ 31 := Nat.lt_of_le_of_lt Nat.and_le_right (by decide)
theorem zB_cong {P Q : Prop} [Decidable P] [Decidable Q] (h : P ↔ Q) : zB P = zB Q := by
  unfold zB
  by_cases hp : P
  · rw [if_pos hp, if_pos (h.mp hp)]
  · rw [if_neg hp, if_neg (fun q => hp (h.mpr q))]
/-- 'in' from lo to n less 1 -/
theorem zin_iff {p : Int32} {n : Nat} (h1 : 1 ≤ n) (h2 : n < 2 ^ 31) : ¬ (p < 0 ∨ nI (n - 1) < p) ↔ (¬ p < 0 ∧ p < nI n) := by
  have e : ¬ nI (n - 1) < p ↔ p < nI n := by
    rw [Int32.lt_iff_toInt_lt, Int32.lt_iff_toInt_lt, nI_toInt (by omega), nI_toInt h2]
    omega
  constructor
  · intro h
    exact ⟨fun q => h (Or.inl q), e.mp (fun q => h (Or.inr q))⟩
  · rintro ⟨q1, q2⟩ (q | q)
    · exact q1 q
    · exact e.mpr q2 q
theorem zw01 {w : Int32} (h0 : ¬ w = 0) (h1 : ¬ w = 1) : w < 0 ∨ 1 < w := by
  have q0 : w.toInt ≠ 0 := zsw 0 h0
  have q1 : w.toInt ≠ 1 := zsw 1 h1
  rcases (show w.toInt < 0 ∨ 1 < w.toInt by omega) with q | q
  · exact Or.inl (Int32.lt_iff_toInt_lt.mpr q)
  · exact Or.inr (Int32.lt_iff_toInt_lt.mpr q)
theorem zdn {d i : Nat} (h : i < d) : nI d - 1 - nI i = nI (d - 1 - i) := by
  rw [show (1 : Int32) = nI 1 from rfl, pk_sub (by omega), pk_sub (by omega)]
theorem zdn_e (d : Nat) : nI d - 1 - nI d < 0 := by
  have : nI d - 1 - nI d = -1 := by
    rw [Int32.sub_sub, Int32.add_comm, ← Int32.sub_sub, Int32.sub_self, Int32.zero_sub]
  rw [this]
  decide
theorem zdn_s {d i : Nat} (h : i < d) : nI (d - 1 - i) + (-1) = nI d - 1 - nI (i + 1) := by
  rw [← zdn h, ← nI_1, ← Int32.sub_eq_add_neg, ← Int32.sub_sub]
theorem zsz_s (z i : Nat) : zsz z i + (z >>> i &&& 1) = zsz z (i + 1) := by
  show _ = zsz z i + (z.testBit i).toNat
  rw [zbit_01]
/-- the bits that the reference leaves frozen -/
def zbs (a : ZA) : Nat → Nat
  | 0 => 2 ^ 2 ^ a.1 - 1
  | i + 1 => zbs a i &&& (2 ^ zbr a i ^^^ 65535)
theorem zbs_lt {a : ZA} (hI : zInv a) : ∀ i, zbs a i < 65536
  | 0 => by have := zNN hI; show 2 ^ 2 ^ a.1 - 1 < 65536; have := Nat.two_pow_pos (2 ^ a.1); omega
  | i + 1 => Nat.lt_of_le_of_lt Nat.and_le_left (zbs_lt hI i)
/-- one level of CODED, bit by bit -/
def zcb (v l k : Nat) : Nat := if k / 2 ^ l % 2 = 0 then (v >>> k &&& 1) ^^^ (v >>> (k + 2 ^ l) &&& 1) else v >>> k &&& 1
def zcn (v l : Nat) : Nat → Nat
  | 0 => 0
  | k + 1 => zcn v l k ||| zcb v l k <<< k
theorem zcb_le (v l k : Nat) : zcb v l k ≤ 1 := by
  unfold zcb
  split
  · rw [zbit_01, zbit_01]
    cases v.testBit k <;> cases v.testBit (k + 2 ^ l) <;> decide
  · exact Nat.and_le_right
theorem zcb_bit {v l k : Nat} : (zcb v l k).testBit 0 = if k / 2 ^ l % 2 = 0 then (v.testBit k ^^ v.testBit (k + 2 ^ l)) else v.testBit k := by
  unfold zcb
  rw [zbit_01, zbit_01]
  split <;> cases v.testBit k <;> cases v.testBit (k + 2 ^ l) <;> rfl
theorem zor_bit {x b k j : Nat} (hb : b ≤ 1) : (x ||| b <<< k).testBit j = (x.testBit j || (decide (j = k) && b.testBit 0)) := by
  rw [Nat.testBit_or, Nat.testBit_shiftLeft]
  congr 1
  by_cases h : j = k
  · subst h; simp
  · by_cases h2 : k ≤ j
    · have : b.testBit (j - k) = false := by
        rcases (show b = 0 ∨ b = 1 by omega) with rfl | rfl
        · simp
        · exact Nat.testBit_lt_two_pow (Nat.lt_of_lt_of_le (by decide : 1 < 2 ^ 1) (Nat.pow_le_pow_right (by omega) (by omega)))
      simp [h, this]
    · simp [h, h2]
theorem zcn_bit (v l : Nat) : ∀ m j, (zcn v l m).testBit j = (decide (j < m) && (zcb v l j).testBit 0)
  | 0, j => by simp [zcn]
  | m + 1, j => by
    rw [show zcn v l (m + 1) = zcn v l m ||| zcb v l m <<< m from rfl, zor_bit (zcb_le v l m), zcn_bit v l m j]
    by_cases h : j = m
    · subst h; simp
    · by_cases h2 : j < m
      · simp [h, h2, show j < m + 1 by omega]
      · simp [h, h2, show ¬ j < m + 1 by omega]
theorem zcn_lt (v l : Nat) (m : Nat) : zcn v l m < 2 ^ m := zlt_bits (fun i hi => by rw [zcn_bit]; simp [show ¬ i < m by omega])
theorem zmask_bit : ∀ l, l < 4 → ∀ j, j < 16 → (zmask l).testBit j = decide (j / 2 ^ l % 2 = 0) := by decide +kernel
/-- the reference's level is the class's -/
theorem zcn_eq {v m l : Nat} (hv : v < 2 ^ m) (hm : m ≤ 16) (hl : l < 4) : zcn v l m = v ^^^ ((v >>> 2 ^ l) &&& zmask l) := by
  apply Nat.eq_of_testBit_eq
  intro j
  rw [zcn_bit, zcb_bit, Nat.testBit_xor, Nat.testBit_and, Nat.testBit_shiftRight]
  by_cases h : j < m
  · rw [zmask_bit l hl j (by omega), Nat.add_comm (2 ^ l) j]
    by_cases h2 : j / 2 ^ l % 2 = 0
    · simp [h, h2]
    · simp [h, h2]
  · have e1 : v.testBit j = false := Nat.testBit_lt_two_pow (Nat.lt_of_lt_of_le hv (Nat.pow_le_pow_right (by omega) (by omega)))
    have e2 : v.testBit (2 ^ l + j) = false := Nat.testBit_lt_two_pow (Nat.lt_of_lt_of_le hv (Nat.pow_le_pow_right (by omega) (Nat.le_trans (by omega) (Nat.le_add_left j (2 ^ l)))))
    simp [h, e1, e2]
theorem zcl_ltm {v m : Nat} (hv : v < 2 ^ m) : ∀ i, zcl v i < 2 ^ m
  | 0 => hv
  | i + 1 => by
    have ih := zcl_ltm hv i
    refine Nat.xor_lt_two_pow ih (Nat.lt_of_le_of_lt (Nat.le_trans Nat.and_le_left (Nat.shiftRight_le _ _)) ih)
/-- levels beyond the length of a row change nothing -/
theorem zcl_top {v e : Nat} (hv : v < 2 ^ 2 ^ e) : ∀ i, e ≤ i → zcl v i = zcl v e := by
  intro i hi
  induction i with
  | zero => rw [show e = 0 by omega]
  | succ i ih =>
    by_cases h : e = i + 1
    · rw [h]
    · have ih := ih (by omega)
      have h1 := zcl_ltm hv i
      have : zcl v i >>> 2 ^ i = 0 := by
        rw [Nat.shiftRight_eq_div_pow]
        exact Nat.div_eq_of_lt (Nat.lt_of_lt_of_le h1 (Nat.pow_le_pow_right (by omega) (Nat.pow_le_pow_right (by omega) (by omega))))
      show zcl v i ^^^ ((zcl v i >>> 2 ^ i) &&& zmask i) = _
      rw [this, Nat.zero_and, Nat.xor_zero, ih]
