/-! OPEN as the reference has it; its search for the least set; images -/
def zob (t h k : Nat) : Nat := if k / h % 2 = 0 then (t >>> k &&& 1) &&& (t >>> (k + h)) else (t >>> k &&& 1) ||| (t >>> (k - h) &&& 1)
def zon (t h : Nat) : Nat → Nat
  | 0 => 0
  | k + 1 => zon t h k ||| zob t h k <<< k
theorem zob_le (t h k : Nat) : zob t h k ≤ 1 := by
  unfold zob
  split
  · exact Nat.le_trans Nat.and_le_left Nat.and_le_right
  · rw [zbit_01, zbit_01]
    cases t.testBit k <;> cases t.testBit (k - h) <;> decide
theorem zon_bit (t h : Nat) : ∀ m j, (zon t h m).testBit j = (decide (j < m) && (zob t h j).testBit 0)
  | 0, j => by simp [zon]
  | m + 1, j => by
    rw [show zon t h (m + 1) = zon t h m ||| zob t h m <<< m from rfl, zor_bit (zob_le t h m), zon_bit t h m j]
    by_cases h : j = m
    · subst h; simp
    · by_cases h2 : j < m
      · simp [h, h2, show j < m + 1 by omega]
      · simp [h, h2, show ¬ j < m + 1 by omega]
theorem zon_lt (t h m : Nat) : zon t h m < 2 ^ m := zlt_bits (fun i hi => by rw [zon_bit]; simp [show ¬ i < m by omega])
def ztl (a : ZA) (v : Nat) : Nat → Nat
  | 0 => (2 ^ 2 ^ a.1 - 1) &&& (v ^^^ 65535)
  | i + 1 => zon (ztl a v i) (zhf a.1 i) (2 ^ a.1)
theorem ztl_lt {a : ZA} (hI : zInv a) (v : Nat) : ∀ i, ztl a v i < 65536
  | 0 => by
    have h1 := zNN hI
    have h2 := Nat.two_pow_pos (2 ^ a.1)
    exact Nat.lt_of_le_of_lt Nat.and_le_left (by omega)
  | i + 1 => Nat.lt_of_lt_of_le (zon_lt _ _ _) (zNN hI)
theorem zdiv_ge {k h : Nat} (c : ¬ k / h % 2 = 0) : h ≤ k := by
  rcases Nat.lt_or_ge k h with q | q
  · rw [Nat.div_eq_of_lt q] at c
    exact absurd rfl c
  · exact q
theorem zmask2_bit : ∀ l, l < 4 → ∀ j, j < 16 → (zmask l <<< 2 ^ l).testBit j = decide (¬ j / 2 ^ l % 2 = 0) := by decide +kernel
theorem zol_bit {l v j : Nat} (hl : l < 4) (hj : j < 16) : (zol l v).testBit j = if j / 2 ^ l % 2 = 0 then (v.testBit j || v.testBit (j + 2 ^ l)) else (v.testBit j && v.testBit (j - 2 ^ l)) := by
  unfold zol
  rw [Nat.testBit_or, Nat.testBit_and, Nat.testBit_or, Nat.testBit_and, Nat.testBit_and, zmask_bit l hl j hj, zmask2_bit l hl j hj, Nat.testBit_shiftRight, Nat.testBit_shiftLeft, Nat.add_comm (2 ^ l) j]
  by_cases h : j / 2 ^ l % 2 = 0
  · rw [if_pos h]; simp [h]
  · rw [if_neg h]
    have : 2 ^ l ≤ j := zdiv_ge h
    simp [h, this]
theorem zol_big {l v j : Nat} (hv : v < 65536) (hj : 16 ≤ j) : (zol l v).testBit j = false := Nat.testBit_lt_two_pow (Nat.lt_of_lt_of_le (zol_lt hv) (by rw [show 65536 = 2 ^ 16 from rfl]; exact Nat.pow_le_pow_right (by omega) hj))
/-- levels beyond the length of a row change nothing -/
theorem zol_top {d l v : Nat} (hv : v < 2 ^ 2 ^ d) (hd : d ≤ l) (hl : l < 4) : zol l v = v := by
  have hp : 2 ^ d ≤ 2 ^ l := Nat.pow_le_pow_right (by omega) hd
  have hz : ∀ k, 2 ^ l ≤ k → v.testBit k = false := fun k hk => Nat.testBit_lt_two_pow (Nat.lt_of_lt_of_le hv (Nat.pow_le_pow_right (by omega) (by omega)))
  have h8 := zpow4 hl
  have hv16 : v < 65536 := Nat.lt_of_lt_of_le hv (zp2_le (by omega))
  apply Nat.eq_of_testBit_eq
  intro j
  rcases Nat.lt_or_ge j 16 with h | h
  · rw [zol_bit hl h]
    by_cases h2 : j < 2 ^ l
    · rw [Nat.div_eq_of_lt h2, if_pos rfl, hz (j + 2 ^ l) (by omega), Bool.or_false]
    · rw [hz j (by omega), hz (j + 2 ^ l) (by omega)]
      split <;> rfl
  · rw [zol_big hv16 h, hz j (by omega)]
theorem zop_top {d v : Nat} (hd : d ≤ 4) (hv : v < 2 ^ 2 ^ d) : ∀ i, i ≤ 4 - d → zop v i = v
  | 0, _ => rfl
  | i + 1, h => by
    show zol (3 - i) (zop v i) = v
    rw [zop_top hd hv i (by omega), zol_top hv (by omega) (by omega)]
theorem zdiv_k {k h m : Nat} (hk : k < 2 * h * m) (hh : 0 < h) (c : k / h % 2 = 0) : k + h < 2 * h * m := by
  have h1 : k / h < 2 * m := by
    rw [Nat.div_lt_iff_lt_mul hh]
    calc k < 2 * h * m := hk
      _ = 2 * m * h := by rw [Nat.mul_right_comm]
  have h2 : k / h + 2 ≤ 2 * m := by omega
  have h3 : k < h * (k / h + 1) := Nat.lt_mul_div_succ k hh
  calc k + h < h * (k / h + 1) + h := by omega
    _ = h * (k / h + 2) := by rw [← Nat.mul_succ]
    _ ≤ h * (2 * m) := Nat.mul_le_mul_left _ h2
    _ = 2 * h * m := by rw [Nat.mul_left_comm, Nat.mul_assoc]
theorem ztl_bit {a : ZA} (hI : zInv a) {v : Nat} (hv : v < 2 ^ 2 ^ a.1) : ∀ i, i ≤ a.1 → ∀ k, k < 2 ^ a.1 → (ztl a v i).testBit k = !(zop v (4 - a.1 + i)).testBit k
  | 0, _, k, hk => by
    have h16 := zNp hI
    show ((2 ^ 2 ^ a.1 - 1) &&& (v ^^^ 65535)).testBit k = !(zop v (4 - a.1)).testBit k
    rw [zop_top hI.1.2 hv _ (Nat.le_refl _), Nat.testBit_and, Nat.testBit_xor, Nat.testBit_two_pow_sub_one, show 65535 = 2 ^ 16 - 1 from rfl, Nat.testBit_two_pow_sub_one]
    simp [hk, show k < 16 by omega]
  | i + 1, hi, k, hk => by
    have h16 := zNp hI
    have hd := hI.1.2
    have ih := ztl_bit hI hv i (by omega)
    have e : zhf a.1 i = 2 ^ (a.1 - 1 - i) := zhf_eq (by omega)
    have eN : 2 ^ a.1 = 2 * 2 ^ (a.1 - 1 - i) * 2 ^ i := by
      rw [← Nat.pow_succ', ← Nat.pow_add]; congr 1; omega
    show (zon (ztl a v i) (zhf a.1 i) (2 ^ a.1)).testBit k = !(zol (3 - (4 - a.1 + i)) (zop v (4 - a.1 + i))).testBit k
    rw [zon_bit, decide_eq_true hk, Bool.true_and, show 3 - (4 - a.1 + i) = a.1 - 1 - i by omega, zol_bit (by omega) (by omega), e]
    unfold zob
    by_cases c : k / 2 ^ (a.1 - 1 - i) % 2 = 0
    · have hk2 : k + 2 ^ (a.1 - 1 - i) < 2 ^ a.1 := by rw [eN] at hk ⊢; exact zdiv_k hk (Nat.two_pow_pos _) c
      rw [if_pos c, if_pos c, Nat.testBit_and, zbit_01, Nat.testBit_shiftRight, Nat.add_zero, ih k hk, ih _ hk2]
      cases (zop v (4 - a.1 + i)).testBit k <;> cases (zop v (4 - a.1 + i)).testBit (k + 2 ^ (a.1 - 1 - i)) <;> rfl
    · have hk2 : k - 2 ^ (a.1 - 1 - i) < 2 ^ a.1 := by omega
      rw [if_neg c, if_neg c, Nat.testBit_or, zbit_01, zbit_01, ih k hk, ih _ hk2]
      cases (zop v (4 - a.1 + i)).testBit k <;> cases (zop v (4 - a.1 + i)).testBit (k - 2 ^ (a.1 - 1 - i)) <;> rfl
theorem zol_ltN {d l v : Nat} (hd : d ≤ 4) (hl : l < 4) (hv : v < 2 ^ 2 ^ d) : zol l v < 2 ^ 2 ^ d := by
  have h16 := zp4_16 hd
  have hv16 : v < 65536 := Nat.lt_of_lt_of_le hv (zp2_le h16)
  refine zlt_bits (fun j hj => ?_)
  have hz : ∀ k, 2 ^ d ≤ k → v.testBit k = false := fun k hk => Nat.testBit_lt_two_pow (Nat.lt_of_lt_of_le hv (Nat.pow_le_pow_right (by omega) hk))
  rcases Nat.lt_or_ge j 16 with h | h
  · rw [zol_bit hl h, hz j hj, hz (j + 2 ^ l) (Nat.le_trans hj (Nat.le_add_right _ _))]
    split <;> rfl
  · exact zol_big hv16 h
theorem zop_ltN {d v : Nat} (hd : d ≤ 4) (hv : v < 2 ^ 2 ^ d) : ∀ i, zop v i < 2 ^ 2 ^ d
  | 0 => hv
  | i + 1 => zol_ltN hd (by omega) (zop_ltN hd hv i)
theorem zopen_eq {a : ZA} (hI : zInv a) {v : Nat} (hv : v < 2 ^ 2 ^ a.1) : zfre a &&& (ztl a v a.1 ^^^ 65535) = zopn v &&& (a.2.2.2.1 ^^^ 65535) := by
  have h16 := zNp hI
  have hd := hI.1.2
  apply Nat.eq_of_testBit_eq
  intro k
  rw [Nat.testBit_and, Nat.testBit_and, Nat.testBit_xor, Nat.testBit_xor, zfre_bit hI, show 65535 = 2 ^ 16 - 1 from rfl, Nat.testBit_two_pow_sub_one]
  by_cases hk : k < 2 ^ a.1
  · rw [ztl_bit hI hv a.1 (Nat.le_refl _) k hk, show 4 - a.1 + a.1 = 4 by omega]
    show _ = ((zop v 4).testBit k && _)
    rw [decide_eq_true hk, decide_eq_true (show k < 16 by omega)]
    cases (zop v 4).testBit k <;> cases a.2.2.2.1.testBit k <;> rfl
  · have : (zopn v).testBit k = false := Nat.testBit_lt_two_pow (Nat.lt_of_lt_of_le (zop_ltN hd hv 4) (Nat.pow_le_pow_right (by omega) (by omega)))
    rw [this, decide_eq_false hk]
    rfl
def zXo (a : ZA) (v : Nat) : Nat := zopn v &&& (a.2.2.2.1 ^^^ 65535)
theorem zXo_lt {a : ZA} {v : Nat} (hv : v < 65536) : zXo a v < 65536 := Nat.lt_of_le_of_lt Nat.and_le_left (zopn_lt hv)
/-- the reference's search: least size, first set, how many -/
def zfs (a : ZA) : Nat → Option (Nat × Nat × Nat)
  | 0 => none
  | i + 1 => match zfs a i with
    | none => if zXo a i = 0 then none else some (zpc i, i, 1)
    | some (l, f, c) => if l < zpc i ∨ zXo a i = 0 then some (l, f, c) else if zpc i = l then some (l, f, c + 1) else some (zpc i, i, 1)
def zfL (o : Option (Nat × Nat × Nat)) : Int32 := match o with
  | none => -6
  | some (l, _, _) => nI l
def zfF (o : Option (Nat × Nat × Nat)) : Int32 := match o with
  | none => -6
  | some (_, f, _) => nI f
def zfC (o : Option (Nat × Nat × Nat)) : Nat := match o with
  | none => 0
  | some (_, _, c) => c
theorem zfs_le (a : ZA) : ∀ i l f c, zfs a i = some (l, f, c) → l ≤ 16
  | 0, l, f, c, h => by cases h
  | i + 1, l, f, c, h => by
    unfold zfs at h
    cases hz : zfs a i with
    | none =>
      rw [hz] at h
      simp only at h
      split at h
      · cases h
      · cases h; exact zpc_le _
    | some p =>
      obtain ⟨l0, f0, c0⟩ := p
      have ih := zfs_le a i l0 f0 c0 hz
      rw [hz] at h
      simp only at h
      split at h
      · cases h; exact ih
      · split at h
        · cases h; exact ih
        · cases h; exact zpc_le _
theorem zfs_skip0 {a : ZA} {i : Nat} (h : zXo a i = 0) : zfs a (i + 1) = zfs a i := by
  conv => lhs; unfold zfs
  cases hz : zfs a i with
  | none => simp [h]
  | some p => obtain ⟨l0, f0, c0⟩ := p; simp [h]
theorem zfs_skip1 {a : ZA} {i : Nat} (h : ¬ zfL (zfs a i) < 0) (h2 : zfL (zfs a i) < nI (zpc i)) : zfs a (i + 1) = zfs a i := by
  conv => lhs; unfold zfs
  cases hz : zfs a i with
  | none => exact absurd (by rw [hz]; decide) h
  | some p =>
    obtain ⟨l0, f0, c0⟩ := p
    have ih := zfs_le a i l0 f0 c0 hz
    rw [hz] at h2
    have := zpc_le i
    simp only
    rw [if_pos (Or.inl ((nI_ltI (by omega) (by omega)).mp h2))]
theorem zfs_new {a : ZA} {i : Nat} (hx : ¬ zXo a i = 0) (h : zfL (zfs a i) < 0 ∨ (¬ zfL (zfs a i) < nI (zpc i) ∧ ¬ nI (zpc i) = zfL (zfs a i))) : zfs a (i + 1) = some (zpc i, i, 1) := by
  conv => lhs; unfold zfs
  cases hz : zfs a i with
  | none => simp [hx]
  | some p =>
    obtain ⟨l0, f0, c0⟩ := p
    have ih := zfs_le a i l0 f0 c0 hz
    have := zpc_le i
    rw [hz] at h
    rcases h with q | ⟨q1, q2⟩
    · exact absurd q (nI_pos (by omega))
    · simp only
      rw [if_neg, if_neg]
      · intro e; exact q2 (by rw [e]; rfl)
      · rintro (q | q)
        · exact q1 (nI_lt q (by omega))
        · exact hx q
theorem zfs_more {a : ZA} {i : Nat} (hx : ¬ zXo a i = 0) (h : ¬ zfL (zfs a i) < 0) (h2 : nI (zpc i) = zfL (zfs a i)) : zfL (zfs a (i + 1)) = zfL (zfs a i) ∧ zfF (zfs a (i + 1)) = zfF (zfs a i) ∧ zfC (zfs a (i + 1)) = zfC (zfs a i) + 1 := by
  have e : ∃ l0 f0 c0, zfs a i = some (l0, f0, c0) := by
    cases hz : zfs a i with
    | none => exact absurd (by rw [hz]; decide) h
    | some p => exact ⟨p.1, p.2.1, p.2.2, rfl⟩
  obtain ⟨l0, f0, c0, hz⟩ := e
  have ih := zfs_le a i l0 f0 c0 hz
  have := zpc_le i
  have hs : zfs a (i + 1) = some (l0, f0, c0 + 1) := by
    unfold zfs
    rw [hz] at h2 ⊢
    have e : zpc i = l0 := (nI_eq (by omega) (by omega)).mp h2
    simp only
    rw [if_neg (by rintro (q | q); omega; exact hx q), if_pos e]
  rw [hs, hz]
  exact ⟨rfl, rfl, rfl⟩
theorem zsz_miss {z k : Nat} (hb : z.testBit k = false) : ∀ n, k < n → zsz z n < n
  | 0, h => absurd h (Nat.not_lt_zero _)
  | n + 1, h => by
    show zsz z n + (z.testBit n).toNat < n + 1
    have h1 := zsz_le z n
    have h2 := Bool.toNat_le (z.testBit n)
    by_cases e : k = n
    · subst e
      rw [hb]
      show zsz z k + 0 < k + 1
      omega
    · have := zsz_miss hb n (by omega)
      omega
/-- the places whose own set is of more than w -/
def zMk (w : Nat) : Nat := if w < 1 then 65535 else if w < 2 then 65534 else if w < 4 then 65256 else if w < 8 then 59520 else if w < 16 then 32768 else 0
def zof3 (v : Nat) : Nat := ((v ||| v >>> 8) &&& 255) ||| (v &&& (v <<< 8) &&& 65280)
def zof2 (v : Nat) : Nat := ((v ||| v >>> 4) &&& 3855) ||| (v &&& (v <<< 4) &&& 61680)
def zof1 (v : Nat) : Nat := ((v ||| v >>> 2) &&& 13107) ||| (v &&& (v <<< 2) &&& 52428)
def zof0 (v : Nat) : Nat := ((v ||| v >>> 1) &&& 21845) ||| (v &&& (v <<< 1) &&& 43690)
def zopF (v : Nat) : Nat := zof0 (zof1 (zof2 (zof3 v)))
theorem zopF_eq (v : Nat) : zopF v = zopn v := rfl
def zMkP (v : Nat) : Bool := Nat.beq (Nat.land (zopF v) (zMk (zpc v))) 0
theorem zMk_c0 : zall zMkP 12 0 = true := by decide +kernel
theorem zMk_c1 : zall zMkP 12 4096 = true := by decide +kernel
theorem zMk_c2 : zall zMkP 12 8192 = true := by decide +kernel
theorem zMk_c3 : zall zMkP 12 12288 = true := by decide +kernel
theorem zMk_c4 : zall zMkP 12 16384 = true := by decide +kernel
theorem zMk_c5 : zall zMkP 12 20480 = true := by decide +kernel
theorem zMk_c6 : zall zMkP 12 24576 = true := by decide +kernel
theorem zMk_c7 : zall zMkP 12 28672 = true := by decide +kernel
theorem zMk_c8 : zall zMkP 12 32768 = true := by decide +kernel
theorem zMk_c9 : zall zMkP 12 36864 = true := by decide +kernel
theorem zMk_c10 : zall zMkP 12 40960 = true := by decide +kernel
theorem zMk_c11 : zall zMkP 12 45056 = true := by decide +kernel
theorem zMk_c12 : zall zMkP 12 49152 = true := by decide +kernel
theorem zMk_c13 : zall zMkP 12 53248 = true := by decide +kernel
theorem zMk_c14 : zall zMkP 12 57344 = true := by decide +kernel
theorem zMk_c15 : zall zMkP 12 61440 = true := by decide +kernel
theorem zMk_all {v : Nat} (hv : v < 65536) : zopn v &&& zMk (zpc v) = 0 := by
  have key : zMkP v = true := by
    rcases (show (0 ≤ v ∧ v < 0 + 2 ^ 12) ∨ (4096 ≤ v ∧ v < 4096 + 2 ^ 12) ∨ (8192 ≤ v ∧ v < 8192 + 2 ^ 12) ∨ (12288 ≤ v ∧ v < 12288 + 2 ^ 12) ∨ (16384 ≤ v ∧ v < 16384 + 2 ^ 12) ∨ (20480 ≤ v ∧ v < 20480 + 2 ^ 12) ∨ (24576 ≤ v ∧ v < 24576 + 2 ^ 12) ∨ (28672 ≤ v ∧ v < 28672 + 2 ^ 12) ∨ (32768 ≤ v ∧ v < 32768 + 2 ^ 12) ∨ (36864 ≤ v ∧ v < 36864 + 2 ^ 12) ∨ (40960 ≤ v ∧ v < 40960 + 2 ^ 12) ∨ (45056 ≤ v ∧ v < 45056 + 2 ^ 12) ∨ (49152 ≤ v ∧ v < 49152 + 2 ^ 12) ∨ (53248 ≤ v ∧ v < 53248 + 2 ^ 12) ∨ (57344 ≤ v ∧ v < 57344 + 2 ^ 12) ∨ (61440 ≤ v ∧ v < 61440 + 2 ^ 12) by omega) with h | h | h | h | h | h | h | h | h | h | h | h | h | h | h | h
    · exact zall_of zMkP 12 0 zMk_c0 v h.1 h.2
    · exact zall_of zMkP 12 4096 zMk_c1 v h.1 h.2
    · exact zall_of zMkP 12 8192 zMk_c2 v h.1 h.2
    · exact zall_of zMkP 12 12288 zMk_c3 v h.1 h.2
    · exact zall_of zMkP 12 16384 zMk_c4 v h.1 h.2
    · exact zall_of zMkP 12 20480 zMk_c5 v h.1 h.2
    · exact zall_of zMkP 12 24576 zMk_c6 v h.1 h.2
    · exact zall_of zMkP 12 28672 zMk_c7 v h.1 h.2
    · exact zall_of zMkP 12 32768 zMk_c8 v h.1 h.2
    · exact zall_of zMkP 12 36864 zMk_c9 v h.1 h.2
    · exact zall_of zMkP 12 40960 zMk_c10 v h.1 h.2
    · exact zall_of zMkP 12 45056 zMk_c11 v h.1 h.2
    · exact zall_of zMkP 12 49152 zMk_c12 v h.1 h.2
    · exact zall_of zMkP 12 53248 zMk_c13 v h.1 h.2
    · exact zall_of zMkP 12 57344 zMk_c14 v h.1 h.2
    · exact zall_of zMkP 12 61440 zMk_c15 v h.1 h.2
  have h := Nat.eq_of_beq_eq_true key
  exact h
theorem zMk_bit : ∀ w, w < 17 → ∀ k, k < 16 → w < zpc (zcod (2 ^ k)) → (zMk w).testBit k = true := by decide +kernel
theorem zopn_wt {v k : Nat} (hv : v < 65536) (hk : k < 16) (h : (zopn v).testBit k = true) : zpc (zcod (2 ^ k)) ≤ zpc v := by
  rcases Nat.lt_or_ge (zpc v) (zpc (zcod (2 ^ k))) with q | q
  · exfalso
    have h1 := zMk_bit (zpc v) (by have := zpc_le v; omega) k hk q
    have h2 : zopn v &&& zMk (zpc v) = 0 := zMk_all hv
    have h3 : (zopn v &&& zMk (zpc v)).testBit k = true := by rw [Nat.testBit_and, h, h1]; rfl
    rw [h2] at h3
    simp at h3
  · exact q
theorem zXo_ex {a : ZA} (hI : zInv a) {v : Nat} (hv : v < 2 ^ 2 ^ a.1) (h : ¬ zXo a v = 0) : ∃ k, k < 2 ^ a.1 ∧ a.2.2.2.1.testBit k = false ∧ zpc (zcod (2 ^ k)) ≤ zpc v := by
  have h16 := zNp hI
  have hv16 : v < 65536 := Nat.lt_of_lt_of_le hv (zp2_le h16)
  rcases Classical.em (∃ k, (zXo a v).testBit k = true) with ⟨k, q⟩ | q
  · unfold zXo at q
    rw [Nat.testBit_and, Bool.and_eq_true] at q
    have hkN : k < 2 ^ a.1 := by
      rcases Nat.lt_or_ge k (2 ^ a.1) with g | g
      · exact g
      · have : (zopn v).testBit k = false := Nat.testBit_lt_two_pow (Nat.lt_of_lt_of_le (zop_ltN hI.1.2 hv 4) (Nat.pow_le_pow_right (by omega) g))
        rw [this] at q
        exact absurd q.1 (by decide)
    have hk : k < 16 := by omega
    refine ⟨k, hkN, ?_, zopn_wt hv16 hk q.1⟩
    have := q.2
    rw [Nat.testBit_xor, show 65535 = 2 ^ 16 - 1 from rfl, Nat.testBit_two_pow_sub_one, decide_eq_true hk] at this
    revert this
    cases a.2.2.2.1.testBit k <;> simp
  · exact absurd (Nat.eq_of_testBit_eq (fun i => by rw [Nat.zero_testBit]; exact Bool.eq_false_iff.mpr (fun g => q ⟨i, g⟩))) h
def zfsS (a : ZA) (i : Nat) : Option (Nat × Nat × Nat) → Prop
  | none => ∀ v, v < i → zXo a v = 0
  | some (l, f, c) => f < i ∧ ¬ zXo a f = 0 ∧ zpc f = l ∧ (∀ v, v < i → ¬ zXo a v = 0 → l ≤ zpc v) ∧ (∀ v, v < f → ¬ zXo a v = 0 → ¬ zpc v = l) ∧ c = zct (fun v => decide (zpc v = l) && decide (¬ zXo a v = 0)) i
theorem zct_zero {P : Nat → Bool} : ∀ n, (∀ v, v < n → P v = false) → zct P n = 0
  | 0, _ => rfl
  | n + 1, h => by
    unfold zct
    rw [zct_zero n (fun v hv => h v (by omega)), h n (by omega)]
    rfl
theorem zfsS_of (a : ZA) : ∀ i, zfsS a i (zfs a i)
  | 0 => fun v hv => absurd hv (Nat.not_lt_zero _)
  | i + 1 => by
    have ih := zfsS_of a i
    unfold zfs
    cases hz : zfs a i with
    | none =>
      rw [hz] at ih
      have ih : ∀ v, v < i → zXo a v = 0 := ih
      simp only
      by_cases c : zXo a i = 0
      · rw [if_pos c]
        intro v hv
        by_cases e : v = i
        · rw [e]; exact c
        · exact ih v (by omega)
      · rw [if_neg c]
        refine ⟨Nat.lt_succ_self _, c, rfl, ?_, ?_, ?_⟩
        · intro v hv hx
          by_cases e : v = i
          · rw [e]; exact Nat.le_refl _
          · exact absurd (ih v (by omega)) hx
        · intro v hv hx
          exact absurd (ih v hv) hx
        · unfold zct
          rw [zct_zero i (fun v hv => by simp [ih v hv])]
          simp [c]
    | some p =>
      obtain ⟨l, f, c⟩ := p
      rw [hz] at ih
      obtain ⟨h1, h2, h3, h4, h5, h6⟩ := ih
      simp only
      by_cases q : l < zpc i ∨ zXo a i = 0
      · rw [if_pos q]
        refine ⟨by omega, h2, h3, ?_, h5, ?_⟩
        · intro v hv hx
          by_cases e : v = i
          · subst e
            rcases q with q | q
            · omega
            · exact absurd q hx
          · exact h4 v (by omega) hx
        · unfold zct
          rw [← h6]
          rcases q with q | q
          · simp [show ¬ zpc i = l by omega]
          · simp [q]
      · rw [if_neg q]
        have q1 : ¬ l < zpc i := fun z => q (Or.inl z)
        have q2 : ¬ zXo a i = 0 := fun z => q (Or.inr z)
        by_cases e : zpc i = l
        · rw [if_pos e]
          refine ⟨by omega, h2, h3, ?_, h5, ?_⟩
          · intro v hv hx
            by_cases e2 : v = i
            · rw [e2]; omega
            · exact h4 v (by omega) hx
          · unfold zct
            rw [← h6]
            simp [e, q2]
        · rw [if_neg e]
          refine ⟨Nat.lt_succ_self _, q2, rfl, ?_, ?_, ?_⟩
          · intro v hv hx
            by_cases e2 : v = i
            · rw [e2]; exact Nat.le_refl _
            · have := h4 v (by omega) hx
              omega
          · intro v hv hx e2
            have := h4 v hv hx
            omega
          · unfold zct
            rw [zct_zero i (fun v hv => by
              by_cases hx : zXo a v = 0
              · simp [hx]
              · have := h4 v hv hx
                simp [show ¬ zpc v = zpc i by omega])]
            simp [q2]
theorem zfrag_ref {a : ZA} (hI : zInv a) : (2 ^ a.1 - zpc a.2.2.2.1 = 0 ∧ zfs a (2 ^ 2 ^ a.1) = none) ∨ (¬ 2 ^ a.1 - zpc a.2.2.2.1 = 0 ∧ zfs a (2 ^ 2 ^ a.1) = some (zlw a.2.2.2.1 (2 ^ a.1), zfl a (zlw a.2.2.2.1 (2 ^ a.1)), zfc a (zlw a.2.2.2.1 (2 ^ a.1)))) := by
  have h16 := zNp hI
  have hS := zfsS_of a (2 ^ 2 ^ a.1)
  by_cases hf : 2 ^ a.1 - zpc a.2.2.2.1 = 0
  · refine Or.inl ⟨hf, ?_⟩
    cases hz : zfs a (2 ^ 2 ^ a.1) with
    | none => rfl
    | some p =>
      obtain ⟨l, f, c⟩ := p
      rw [hz] at hS
      obtain ⟨k, k1, k2, k3⟩ := zXo_ex hI hS.1 hS.2.1
      have h1 := zsz_miss k2 (2 ^ a.1) k1
      have h2 : zpc a.2.2.2.1 = zsz a.2.2.2.1 (2 ^ a.1) := by
        rw [← zsz_16]
        have := zsz_hi hI.2.2.1 (16 - 2 ^ a.1)
        rw [show 2 ^ a.1 + (16 - 2 ^ a.1) = 16 by omega] at this
        exact this
      omega
  · refine Or.inr ⟨hf, ?_⟩
    obtain ⟨k, h1, h2, h3⟩ := zlw_at (2 ^ a.1) (zfree_ex hI.2.2.1 h16 hf)
    have hv : zcod (2 ^ k) < 2 ^ 2 ^ a.1 := zcl_ltm (Nat.pow_lt_pow_right (by omega) h1) 4
    have ho : ¬ zXo a (zcod (2 ^ k)) = 0 := by
      intro q
      have : (zopn (zcod (2 ^ k)) &&& (a.2.2.2.1 ^^^ 65535)).testBit k = true := by
        rw [Nat.testBit_and, zopen_own k (by omega), Nat.testBit_xor, show 65535 = 2 ^ 16 - 1 from rfl, Nat.testBit_two_pow_sub_one]
        simp [h2, show k < 16 by omega]
      unfold zXo at q
      rw [q] at this
      simp at this
    cases hz : zfs a (2 ^ 2 ^ a.1) with
    | none =>
      rw [hz] at hS
      exact absurd (hS _ hv) ho
    | some p =>
      obtain ⟨l, f, c⟩ := p
      rw [hz] at hS
      obtain ⟨g1, g2, g3, g4, g5, g6⟩ := hS
      have hl : l = zlw a.2.2.2.1 (2 ^ a.1) := by
        obtain ⟨k', k1, k2, k3⟩ := zXo_ex hI g1 g2
        have m1 := zlw_min (2 ^ a.1) k' k1 (by rw [k2]; decide)
        have m2 := g4 _ hv ho
        omega
      rw [← hl]
      have e1 : f = zfl a l := by
        unfold zfl
        rw [zff_some (i := f) g1 ?_ ?_]
        · rfl
        · have : ¬ zopn f &&& (a.2.2.2.1 ^^^ 65535) = 0 := g2
          simp [zhm, g3, this]
        · intro v hvf
          by_cases hx : zXo a v = 0
          · have : zopn v &&& (a.2.2.2.1 ^^^ 65535) = 0 := hx
            simp [zhm, this]
          · simp [g5 v hvf hx]
      have e2 : c = zfc a l := by
        rw [g6]
        rfl
      rw [← e1, ← e2]
theorem zik_sum {ik : Nat} (h : ik < 4) : nI ik = (if ik.testBit 0 = true then 1 else 0) + (if ik.testBit 1 = true then 2 else 0) := by
  rcases (show ik = 0 ∨ ik = 1 ∨ ik = 2 ∨ ik = 3 by omega) with rfl | rfl | rfl | rfl <;> decide
theorem zin01 {x : Int32} (h : ¬ (x < 0 ∨ 1 < x)) : x = 0 ∨ x = 1 := by
  have := (zin_iff (p := x) (n := 2) (by decide) (by decide)).mp h
  exact zr01 this.1 this.2
theorem zin01_iff {x : Int32} : (x < 0 ∨ ¬ x < 2) ↔ (x < 0 ∨ 1 < x) := by
  have := zin_iff (p := x) (n := 2) (by decide) (by decide)
  constructor
  · intro h
    exact Classical.not_not.mp (fun q => by have := this.mp q; exact h.elim this.1 (fun z => z this.2))
  · intro h
    exact Classical.or_iff_not_imp_left.mpr (fun q q2 => (this.mpr ⟨q, q2⟩) h)
theorem zrest_st {im : Nat → Int32} {a b : ZA} {k : Nat} (h : ∀ j, j < 24 → im (k + j) = zst b j) (j : Nat) (hj : j < 24) : fb_put (zst a) (fun j => im (k + j)) 0 24 j = zst b j := by
  rw [fb_put_in (by omega) (by omega), Nat.sub_zero]
  exact h j hj
theorem zput_0 (f g : Nat → Int32) (n : Nat) : upd (fb_put f g 0 n) n (g n) = fb_put f g 0 (n + 1) := by
  have := fb_put_succ f g 0 n
  rw [Nat.zero_add] at this
  exact this
theorem zcount_5 {a : ZA} {k0 : Nat} (h : k0 < 3) : zst a (5 + k0) = zcc a (nI (10 + k0)) := by
  unfold zcc
  rw [if_neg, nI_clamp (by omega), Nat.add_sub_cancel_left, zst_ck a h]
  rintro (q | q)
  · exact nI_nlt (show 10 ≤ 10 + k0 by omega) (by omega) q
  · exact q (nI_lt (show 10 + k0 < 13 by omega) (by decide))
theorem zcc_out {a : ZA} {p : Int32} (h : p < 10 ∨ 12 < p) : zcc a p = -2 := by
  unfold zcc
  rw [if_pos]
  rcases h with q | q
  · exact Or.inl q
  · refine Or.inr (fun z => ?_)
    have h1 := Int32.lt_iff_toInt_lt.mp q
    have h2 := Int32.lt_iff_toInt_lt.mp z
    have e1 : (12 : Int32).toInt = 12 := by decide
    have e2 : (13 : Int32).toInt = 13 := by decide
    omega
theorem zin_iff13 {p : Int32} (h : ¬ (p < 10 ∨ 12 < p)) : p < 13 := by
  have e : ¬ (12 : Int32).toInt < p.toInt := fun q => h (Or.inr (Int32.lt_iff_toInt_lt.mpr q))
  apply Int32.lt_iff_toInt_lt.mpr
  have e1 : (12 : Int32).toInt = 12 := by decide
  have e2 : (13 : Int32).toInt = 13 := by decide
  omega
