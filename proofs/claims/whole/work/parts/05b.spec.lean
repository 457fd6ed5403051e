/-! What each call answers and does, in words of the facts: the class and the reference are both held against these. -/
def zisP (a : ZA) (p : Int32) : Prop := ¬ p < 0 ∧ p < nI (2 ^ a.1)
def zN (x : Int32) : Nat := x.toNatClampNeg
theorem zN_nI {k : Nat} (h : k < 2 ^ 31) : zN (nI k) = k := nI_clamp h
theorem zr0 {x : Int32} {n : Nat} (h : ¬ x < 0 ∧ x < nI n) (hn : n < 2 ^ 31) : ∃ k, k < n ∧ x = nI k := by
  obtain ⟨k, h1, h2⟩ := zrange (lo := 0) h.1 h.2 hn (by decide)
  exact ⟨k, by omega, by rw [h2, Nat.zero_add]⟩
theorem zr1 {x : Int32} {lo hi : Nat} (h1 : ¬ x < nI lo) (h2 : ¬ nI hi < x) (hh : hi < 2 ^ 30) (hl : lo < 2 ^ 30) : ∃ k, lo ≤ k ∧ k ≤ hi ∧ x = nI k := by
  obtain ⟨k, h3, h4⟩ := zrange (lo := lo) (hi := hi + 1) h1 (by
    apply Int32.lt_iff_toInt_lt.mpr
    have : ¬ (nI hi).toInt < x.toInt := fun q => h2 (Int32.lt_iff_toInt_lt.mpr q)
    rw [nI_toInt (by omega)] at this ⊢
    omega) (by omega) (by omega)
  exact ⟨lo + k, by omega, by omega, h4⟩
def zq_deep (a : ZA) (v : Int32) : Int32 × ZA := if v < 1 ∨ 4 < v then (-2, a) else (nI a.1, zN v, a.2.1, a.2.2.1, 0, a.2.2.2.2.1, (fun _ => 0), (fun _ => 0))
def zq_loss (a : ZA) (t o : Int32) : Int32 × ZA := if o < 2 ∨ 10 < o ∨ t < 0 ∨ o < t then (-2, a) else (nI a.2.2.1, a.1, zN t, zN o, a.2.2.2)
/-- the greatest number that divides both numbers of a LOSS -/
def zgc (a : ZA) (k : Nat) : Nat := Nat.gcd (zlo a.2.2.1 a.1) (zlos a k)
def zq_split (a : ZA) (b p : Int32) : Int64 := if ¬ (¬ b < 0 ∧ b < nI (2 ^ a.1)) then -1 else if p < 0 ∨ 1 < p then -2 else if p = 0 then lN (zlos a (zN b) / zgc a (zN b)) else lN (zlo a.2.2.1 a.1 / zgc a (zN b))
/-- the bit of a rank -/
def zbr (a : ZA) (r : Nat) : Nat := (zff (fun b => decide (zrk a b = r)) (2 ^ a.1)).getD 0
def zq_rank (a : ZA) (i w : Int32) : Int32 := if ¬ (¬ i < 0 ∧ i < nI (2 ^ a.1)) then -1 else if w < 0 ∨ 1 < w then -2 else if w = 0 then nI (zbr a (zN i)) else nI (zrk a (zN i))
def zq_freeze (a : ZA) (s : Int32) : Int32 × ZA := if ¬ (¬ s < 0 ∧ s < nI (2 ^ 2 ^ a.1)) then (-2, a) else (nI (2 ^ a.1 - zpc (zN s)), a.1, a.2.1, a.2.2.1, zN s, a.2.2.2.2)
/-- the bits among the first i that are not among the n best -/
def zbd (a : ZA) (n : Nat) : Nat → Nat
  | 0 => 0
  | i + 1 => if zrk a i < n then zbd a n i else zbd a n i ||| 2 ^ i
theorem zbd_lt (a : ZA) (n : Nat) : ∀ i, zbd a n i < 2 ^ i
  | 0 => Nat.one_pos
  | i + 1 => by
    have ih := zbd_lt a n i
    have h2 : zbd a n i < 2 ^ (i + 1) := Nat.lt_of_lt_of_le ih (Nat.pow_le_pow_right (by omega) (by omega))
    unfold zbd
    split
    · exact h2
    · exact Nat.or_lt_two_pow h2 (Nat.pow_lt_pow_right (by omega) (by omega))
def zq_best (a : ZA) (n : Int32) : Int32 × ZA := if n < 0 ∨ nI (2 ^ a.1) < n then (-2, a) else (nI (zbd a (zN n) (2 ^ a.1)), a.1, a.2.1, a.2.2.1, zbd a (zN n) (2 ^ a.1), a.2.2.2.2)
def zq_coded (a : ZA) (s : Int32) : Int32 := if ¬ s < 0 ∧ s < nI (2 ^ 2 ^ a.1) then nI (zcod (zN s)) else -2
/-- a word: the row so far, and what is left of v -/
def zwd (z v : Nat) : Nat → Nat × Nat
  | 0 => (0, v)
  | i + 1 => if z.testBit i = true then zwd z v i else ((zwd z v i).1 ||| ((zwd z v i).2 &&& 1) <<< i, (zwd z v i).2 >>> 1)
theorem zwd_2 (z v : Nat) : ∀ i, (zwd z v i).2 ≤ v
  | 0 => Nat.le_refl _
  | i + 1 => by
    have ih := zwd_2 z v i
    unfold zwd
    split
    · exact ih
    · exact Nat.le_trans (Nat.shiftRight_le _ _) ih
theorem zwd_1 (z v : Nat) : ∀ i, (zwd z v i).1 < 2 ^ i
  | 0 => Nat.one_pos
  | i + 1 => by
    have ih := zwd_1 z v i
    have h2 : (zwd z v i).1 < 2 ^ (i + 1) := Nat.lt_of_lt_of_le ih (Nat.pow_le_pow_right (by omega) (by omega))
    unfold zwd
    split
    · exact h2
    · refine Nat.or_lt_two_pow h2 ?_
      rw [Nat.shiftLeft_eq, Nat.pow_succ, Nat.mul_comm (2 ^ i)]
      have : (zwd z v i).2 &&& 1 ≤ 1 := Nat.and_le_right
      exact Nat.mul_lt_mul_of_pos_right (by omega) (Nat.two_pow_pos i)
def zq_word (a : ZA) (v : Int32) : Int32 := if v < 0 ∨ ¬ v < nI (2 ^ (2 ^ a.1 - zpc a.2.2.2.1)) then -2 else nI (zwd a.2.2.2.1 (zN v) (2 ^ a.1)).1
/-- the sets of w places that are sent as words; that leave something lost -/
def zlc (a : ZA) (w : Nat) : Nat := zct (fun v => decide (zpc v = w) && zhm a.2.2.2.1 1 v) (2 ^ 2 ^ a.1)
def zfc (a : ZA) (w : Nat) : Nat := zct (fun v => decide (zpc v = w) && zhm a.2.2.2.1 0 v) (2 ^ 2 ^ a.1)
def zfl (a : ZA) (w : Nat) : Nat := (zff (fun v => decide (zpc v = w) && zhm a.2.2.2.1 0 v) (2 ^ 2 ^ a.1)).getD 0
def zq_light (a : ZA) (w : Int32) : Int32 := if w < 0 ∨ 1 < w then -2 else if 2 ^ a.1 - zpc a.2.2.2.1 = 0 then -6 else if w = 0 then nI (zlw a.2.2.2.1 (2 ^ a.1)) else nI (zlc a (zlw a.2.2.2.1 (2 ^ a.1)))
def zq_fragile (a : ZA) (w : Int32) : Int32 := if w < 0 ∨ 2 < w then -2 else if 2 ^ a.1 - zpc a.2.2.2.1 = 0 then -6 else if w = 0 then nI (zlw a.2.2.2.1 (2 ^ a.1)) else if w = 1 then nI (zfc a (zlw a.2.2.2.1 (2 ^ a.1))) else nI (zfl a (zlw a.2.2.2.1 (2 ^ a.1)))
def zwm (a : ZA) (me : Nat → Int32) : ZA := (a.1, a.2.1, a.2.2.1, a.2.2.2.1, a.2.2.2.2.1, me, a.2.2.2.2.2.2)
def zq_put (a : ZA) (p v : Int32) : Int32 × ZA := if ¬ (¬ p < 0 ∧ p < nI (2 ^ a.1)) then (-1000001, a) else if v < -99 ∨ 99 < v then (-1000002, a) else (a.2.2.2.2.2.1 (zN p), zwm a (upd a.2.2.2.2.2.1 (zN p) v))
def zhe (c : Nat) (g : Int32) (f : Nat → Int32) (n : Nat) : Nat → Int32 := fun k => if k < n then (if c.testBit k = true then -g else g) else f k
def zq_hear (a : ZA) (s g : Int32) : Int32 × ZA := if ¬ (¬ s < 0 ∧ s < nI (2 ^ 2 ^ a.1)) ∨ g < 1 ∨ 99 < g then (-2, a) else (nI (zcod (zN s)), zwm a (zhe (zcod (zN s)) g a.2.2.2.2.2.1 (2 ^ a.1)))
def zsp (s : Nat) (h : Int32) (f : Nat → Int32) (n : Nat) : Nat → Int32 := fun k => if k < n ∧ s.testBit k = true then (if h = 0 then 0 else - f k) else f k
def zsc (s : Nat) (f : Nat → Int32) (k : Nat) : Bool := decide (s.testBit k = true ∧ ¬ f k = 0)
def zq_spoil (a : ZA) (s h : Int32) : Int32 × ZA := if ¬ (¬ s < 0 ∧ s < nI (2 ^ 2 ^ a.1)) ∨ h < 0 ∨ 1 < h then (-2, a) else (nI (zct (zsc (zN s) a.2.2.2.2.2.1) (2 ^ a.1)), zwm a (zsp (zN s) h a.2.2.2.2.2.1 (2 ^ a.1)))
def zq_measure (a : ZA) (p w : Int32) : Int32 := if ¬ (¬ p < 0 ∧ p < nI (2 ^ a.1)) then -1000001 else if w < 0 ∨ 1 < w then -1000002 else if w = 0 then a.2.2.2.2.2.1 (zN p) else zsee a.2.2.2.2.2.1 a.1 (zN p) (zrr a (2 ^ a.1))
def zq_read (a : ZA) (w : Int32) : Int32 := if w < 0 ∨ 3 < w then -2 else if w = 0 then nI (zrr a (2 ^ a.1)) else if w = 1 then zfi a.2.2.2.2.2.1 a.1 (zrr a (2 ^ a.1)) (2 ^ a.1) else if w = 2 then nI (zct (zun a.2.2.2.2.2.1 (zcod (zrr a (2 ^ a.1)))) (2 ^ a.1)) else zB (zhd a (zrr a (2 ^ a.1)) = true)
def zq_most (a : ZA) (v : Int32) : Int32 × ZA := if v < 1 ∨ 8 < v then (-2, a) else (nI a.2.2.2.2.1, a.1, a.2.1, a.2.2.1, a.2.2.2.1, zN v, a.2.2.2.2.2)
def zq_kept (a : ZA) (i w : Int32) : Int32 := if w < 0 ∨ 2 < w then -2 else if i = -1 then nI (zkp a (2 ^ a.1)).length else if ¬ (¬ i < 0 ∧ i < nI (zkp a (2 ^ a.1)).length) then -6 else if w = 0 then nI ((zkp a (2 ^ a.1)).getD (zN i) (0, 0)).1 else if w = 1 then ((zkp a (2 ^ a.1)).getD (zN i) (0, 0)).2 else zB (zhd a ((zkp a (2 ^ a.1)).getD (zN i) (0, 0)).1 = true)
def zch (a : ZA) : Option Nat := zff (fun j => zhd a ((zkp a (2 ^ a.1)).getD j (0, 0)).1) (zkp a (2 ^ a.1)).length
def zq_chosen (a : ZA) (w : Int32) : Int32 := if w < 0 ∨ 2 < w then -2 else match zch a with
  | none => -6
  | some j => if w = 0 then nI ((zkp a (2 ^ a.1)).getD j (0, 0)).1 else if w = 1 then nI j else ((zkp a (2 ^ a.1)).getD j (0, 0)).2
def zq_check (a : ZA) (c s : Int32) : Int32 × ZA := if c < 0 ∨ ¬ c < 3 then (-1, a) else if ¬ (¬ s < 0 ∧ s < nI (2 ^ 2 ^ a.1)) then (-2, a) else (a.2.2.2.2.2.2 (zN c), a.1, a.2.1, a.2.2.1, a.2.2.2.1, a.2.2.2.2.1, a.2.2.2.2.2.1, upd a.2.2.2.2.2.2 (zN c) s)
def zq_open (a : ZA) (s w : Int32) : Int32 := if ¬ (¬ s < 0 ∧ s < nI (2 ^ 2 ^ a.1)) ∨ w < 0 ∨ 1 < w then -2 else if w = 0 then nI (zopn (zN s) &&& (a.2.2.2.1 ^^^ 65535)) else nI (zpc (zopn (zN s) &&& (a.2.2.2.1 ^^^ 65535)))
def zq_count (a : ZA) (ik : Nat) (w : Int32) : Int32 := if w = 0 then nI a.1 else if w = 1 then nI a.2.1 else if w = 2 then nI a.2.2.1 else if w = 3 then nI a.2.2.2.1 else if w = 4 then nI (2 ^ a.1 - zpc a.2.2.2.1) else if w = 5 then nI a.2.2.2.2.1 else if w = 6 then nI ik else zcc a w
theorem zsw {x : Int32} (v : Int32) (h : ¬ x = v) : x.toInt ≠ v.toInt := fun q => h (Int32.toInt_inj.mp q)
theorem zhe_0 (c : Nat) (g : Int32) (f : Nat → Int32) : zhe c g f 0 = f := by funext k; simp [zhe]
theorem zhe_s {c i : Nat} {g v : Int32} {f : Nat → Int32} (hv : v = if c.testBit i = true then -g else g) : upd (zhe c g f i) i v = zhe c g f (i + 1) := by
  funext k
  rw [hv]
  by_cases hk : k = i
  · subst hk; rw [pk_us]; simp [zhe]
  · rw [pk_un hk]; simp only [zhe]
    by_cases h2 : k < i
    · rw [if_pos h2, if_pos (show k < i + 1 by omega)]
    · rw [if_neg h2, if_neg (show ¬ k < i + 1 by omega)]
theorem zsp_0 (s : Nat) (h : Int32) (f : Nat → Int32) : zsp s h f 0 = f := by funext k; simp [zsp]
theorem zsp_i (s i : Nat) (h : Int32) (f : Nat → Int32) : zsp s h f i i = f i := by simp [zsp]
theorem zsp_s {s i : Nat} {h v : Int32} {f : Nat → Int32} (hs : s.testBit i = true) (hv : v = if h = 0 then 0 else - f i) : upd (zsp s h f i) i v = zsp s h f (i + 1) := by
  funext k
  rw [hv]
  by_cases hk : k = i
  · subst hk; rw [pk_us]; simp [zsp, hs]
  · rw [pk_un hk]; simp only [zsp]
    by_cases h2 : k < i
    · simp only [h2, show k < i + 1 by omega]
    · simp only [h2, show ¬ k < i + 1 by omega]
theorem zsp_n {s i : Nat} {h : Int32} {f : Nat → Int32} (hs : ¬ s.testBit i = true ∨ f i = 0) : zsp s h f (i + 1) = zsp s h f i := by
  funext k
  simp only [zsp]
  by_cases hk : k = i
  · subst hk
    rcases hs with hs | hs
    · simp [hs]
    · by_cases hb : s.testBit k = true
      · simp [hb, hs]
      · simp [hb]
  · by_cases h2 : k < i
    · simp only [h2, show k < i + 1 by omega]
    · simp only [h2, show ¬ k < i + 1 by omega]
theorem zz_lkup {x o1 o2 d : Int} (h0 : x ≠ 0) (h1 : x ≠ 1) : Op.lookupswitch.offset [(0, o1), (1, o2)] d x = d := by
  rw [Op.lookupswitch.offset_cons, if_neg (fun q => h0 q.symm), Op.lookupswitch.offset_cons, if_neg (fun q => h1 q.symm), Op.lookupswitch.offset_nil]
