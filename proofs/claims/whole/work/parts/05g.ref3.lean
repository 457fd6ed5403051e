theorem zst_w8 {d t o z m : Nat} {me ck : Nat → Int32} {k : Nat} {v : Int32} : upd (zst (d, t, o, z, m, me, ck)) (8 + k) v = zst (d, t, o, z, m, upd me k v, ck) := zst_u8 _ _ _
theorem zmn_l {x y : Int32} (h : x < y) : zmn x y = x := by
  unfold zmn
  rw [if_neg]
  intro q
  have h1 := Int32.lt_iff_toInt_lt.mp h
  have h2 := Int32.lt_iff_toInt_lt.mp q
  omega
theorem zmn_r {x y : Int32} (h : ¬ x < y) : zmn x y = y := by
  unfold zmn
  by_cases q : y < x
  · rw [if_pos q]
  · rw [if_neg q]
    apply Int32.toInt_inj.mp
    have h1 : ¬ x.toInt < y.toInt := fun z => h (Int32.lt_iff_toInt_lt.mpr z)
    have h2 : ¬ y.toInt < x.toInt := fun z => q (Int32.lt_iff_toInt_lt.mpr z)
    omega
theorem zg1_hi {h n k : Nat} {f : Nat → Int32} (hk : ¬ k < n) : zg1 h f n k = f k := by unfold zg1; rw [if_neg hk]
theorem zg2_hi {h c n k : Nat} {f : Nat → Int32} (hk : ¬ k < n) : zg2 h c f n k = f k := by unfold zg2; rw [if_neg hk]
theorem zg1_s2 {h i : Nat} {f : Nat → Int32} (hi : i < h) : upd (zg1 h f i) i (zwk (f i) (f (i + h))) = zg1 h f (i + 1) := by
  have := zg1_s (f := f) hi
  rw [zg1_hi (by omega), zg1_hi (by omega)] at this
  exact this
theorem zg2_s2 {h c i : Nat} {f : Nat → Int32} {v : Int32} (hi : i < h) (hv : v = f (i + h) + (if c.testBit i = true then - f i else f i)) : upd (zg2 h c f i) i v = zg2 h c f (i + 1) := zg2_s hi (by rw [zg2_hi (by omega)]; exact hv)
/-- a bit of k by its half -/
theorem zbit_half {k s d j : Nat} (h1 : s ≤ k) (h2 : k < s + 2 ^ (d - j)) (h3 : 2 ^ (d - j) ∣ s) (hj : j < d) : k.testBit (d - 1 - j) = true ↔ s + zhf d j ≤ k := by
  obtain ⟨q, rfl⟩ := h3
  obtain ⟨r, rfl⟩ := Nat.exists_eq_add_of_le h1
  have hr : r < 2 ^ (d - j) := by omega
  rw [zhf_eq hj, ztb_add hr, if_pos (by omega)]
  have e : 2 ^ (d - j) = 2 * 2 ^ (d - 1 - j) := by rw [show d - j = (d - 1 - j) + 1 by omega, Nat.pow_succ, Nat.mul_comm]
  have hb : r.testBit (d - 1 - j) = decide (2 ^ (d - 1 - j) ≤ r) := by
    rw [Nat.testBit_eq_decide_div_mod_eq]
    apply decide_eq_decide.mpr
    have hp := Nat.two_pow_pos (d - 1 - j)
    constructor
    · intro q
      rcases Nat.lt_or_ge r (2 ^ (d - 1 - j)) with z | z
      · rw [Nat.div_eq_of_lt z] at q
        omega
      · exact z
    · intro z
      have : r / 2 ^ (d - 1 - j) = 1 := by
        apply Nat.div_eq_of_lt_le
        · omega
        · omega
      rw [this]
  rw [hb, decide_eq_true_eq]
  omega
/-- which bit stands where: k lies among the 2 ^ (d - j) bits from the start on -/
theorem zsn_in (me : Nat → Int32) {d k w : Nat} (hk : k < 2 ^ d) : ∀ j, j ≤ d → (zsn me d k w j).2 ≤ k ∧ k < (zsn me d k w j).2 + 2 ^ (d - j) ∧ 2 ^ (d - j) ∣ (zsn me d k w j).2
  | 0, _ => by simp [zsn, hk]
  | j + 1, h => by
    obtain ⟨h1, h2, h3⟩ := zsn_in me (w := w) hk j (by omega)
    have e : 2 ^ (d - j) = 2 * 2 ^ (d - (j + 1)) := by rw [show d - j = (d - (j + 1)) + 1 by omega, Nat.pow_succ, Nat.mul_comm]
    have e2 : zhf d j = 2 ^ (d - (j + 1)) := by rw [zhf_eq (by omega)]; congr 1; omega
    have hb := zbit_half h1 h2 h3 (by omega : j < d)
    unfold zsn
    by_cases hc : k.testBit (d - 1 - j) = true
    · rw [if_pos hc]
      simp only [e2]
      have := hb.mp hc
      rw [e2] at this
      refine ⟨this, by omega, ?_⟩
      obtain ⟨q, hq⟩ := h3
      exact ⟨2 * q + 1, by rw [hq, e, Nat.mul_add, Nat.mul_one, Nat.mul_comm 2, Nat.mul_assoc]⟩
    · rw [if_neg hc]
      have : ¬ (zsn me d k w j).2 + zhf d j ≤ k := fun q => hc (hb.mpr q)
      rw [e2] at this
      simp only
      refine ⟨h1, by omega, ?_⟩
      obtain ⟨q, hq⟩ := h3
      exact ⟨2 * q, by rw [hq, e, Nat.mul_comm 2, Nat.mul_assoc]⟩
theorem zsee_j1 {me l1 : Nat → Int32} {d k w i : Nat} (hi : i < d) (hE : ∀ j, j < 2 ^ (d - i) → l1 j = (zsn me d k w i).1 j) (c : ¬ k.testBit (d - 1 - i) = true) : ∀ j, j < 2 ^ (d - (i + 1)) → zg1 (zhf d i) l1 (zhf d i) j = (zsn me d k w (i + 1)).1 j := by
  intro j hj
  have e : 2 ^ (d - i) = 2 * 2 ^ (d - (i + 1)) := by rw [show d - i = (d - (i + 1)) + 1 by omega, Nat.pow_succ, Nat.mul_comm]
  have e2 : zhf d i = 2 ^ (d - (i + 1)) := by rw [zhf_eq hi]; congr 1; omega
  conv => rhs; unfold zsn
  rw [if_neg c]
  show zg1 _ _ _ j = zg1 _ _ _ j
  unfold zg1
  rw [e2, if_pos hj, if_pos hj, hE j (by omega), hE (j + 2 ^ (d - (i + 1))) (by omega)]
theorem zsee_j2 {me l1 : Nat → Int32} {d k w i : Nat} (hi : i < d) (hE : ∀ j, j < 2 ^ (d - i) → l1 j = (zsn me d k w i).1 j) (c : k.testBit (d - 1 - i) = true) : ∀ j, j < 2 ^ (d - (i + 1)) → zg2 (zhf d i) (zcod ((w >>> (zsn me d k w i).2) &&& (2 ^ zhf d i - 1))) l1 (zhf d i) j = (zsn me d k w (i + 1)).1 j := by
  intro j hj
  have e : 2 ^ (d - i) = 2 * 2 ^ (d - (i + 1)) := by rw [show d - i = (d - (i + 1)) + 1 by omega, Nat.pow_succ, Nat.mul_comm]
  have e2 : zhf d i = 2 ^ (d - (i + 1)) := by rw [zhf_eq hi]; congr 1; omega
  conv => rhs; unfold zsn
  rw [if_pos c]
  show zg2 _ _ _ _ j = zg2 _ _ _ _ j
  unfold zg2
  rw [e2, if_pos hj, if_pos hj, hE j (by omega), hE (j + 2 ^ (d - (i + 1))) (by omega)]
def zhk (a : ZA) (w : Nat) : Nat → Bool
  | 0 => true
  | i + 1 => zhk a w i && decide (zpc (w &&& zck a i) % 2 = 0)
theorem zhk_3 (a : ZA) (w : Nat) : zhk a w 3 = zhd a w := by
  simp [zhk, zhd, Bool.and_assoc]
theorem zlt_int {x y : Int32} : x < y ↔ x.toInt < y.toInt := Int32.lt_iff_toInt_lt
theorem zle_int {x y : Int32} : x ≤ y ↔ x.toInt ≤ y.toInt := Int32.le_iff_toInt_le
theorem zI0 : (0 : Int32).toInt = 0 := by decide
theorem zint0 {x : Int32} (h : x.toInt = 0) : x = 0 := Int32.toInt_inj.mp (by rw [h]; decide)
theorem zfb_no {s : Int32} (h : ¬ s < 0) : (0 : Int32) = zfb s false := by
  unfold zfb zmx
  rw [if_neg (by decide)]
  rw [zlt_int, zI0] at h
  have hr := fb_rng s
  by_cases q : -s < 0
  · rw [if_pos q]
  · rw [if_neg q]
    rw [zlt_int, zI0, fb_negI (by omega)] at q
    rw [zint0 (show s.toInt = 0 by omega)]
    rfl
theorem zfb_n1 {s : Int32} (h : s < 0) : (0 : Int32) = zfb s true := by
  unfold zfb zmx
  rw [if_pos rfl, if_pos h]
theorem zfb_n2 {s : Int32} (h : ¬ 0 < s) (h2 : ¬ s < 0) : (0 : Int32) = zfb s true := by
  unfold zfb zmx
  rw [if_pos rfl, if_neg h2]
  rw [zlt_int, zI0] at h h2
  exact (zint0 (by omega)).symm
theorem zfb_y0 {s : Int32} (h : s < 0) (hb : -1584 ≤ s.toInt) : zab s = zfb s false := by
  unfold zfb zmx zab
  rw [if_neg (show ¬ 0 ≤ s from Int32.not_le.mpr h), if_neg (show ¬ false = true by decide), Int32.zero_sub, if_neg]
  rw [zlt_int, zI0, fb_negI (by omega)]
  rw [zlt_int, zI0] at h
  omega
theorem zfb_y1 {s : Int32} (h : 0 < s) : zab s = zfb s true := by
  have h2 := zlt_int.mp h
  rw [zI0] at h2
  unfold zfb zmx zab
  rw [if_pos rfl, if_pos (zle_int.mpr (by rw [zI0]; omega)), if_neg]
  rw [zlt_int, zI0]
  omega
/-- SEEN never grows beyond what came -/
def zbnd (c : Int) (x : Int32) : Prop := -c ≤ x.toInt ∧ x.toInt ≤ c
theorem zab_bnd {c : Int} {x : Int32} (hc : c ≤ 100000) (h : zbnd c x) : 0 ≤ (zab x).toInt ∧ (zab x).toInt ≤ c := by
  obtain ⟨h1, h2⟩ := h
  unfold zab
  by_cases q : 0 ≤ x
  · rw [if_pos q]
    rw [zle_int, zI0] at q
    omega
  · rw [if_neg q, Int32.zero_sub]
    rw [zle_int, zI0] at q
    rw [fb_negI (by omega)]
    omega
theorem zwk_bnd {c : Int} {x y : Int32} (hc : c ≤ 100000) (hx : zbnd c x) (hy : zbnd c y) : zbnd c (zwk x y) := by
  have h1 := zab_bnd hc hx
  have h2 := zab_bnd hc hy
  have h3 : 0 ≤ (zmn (zab x) (zab y)).toInt ∧ (zmn (zab x) (zab y)).toInt ≤ c := by
    unfold zmn
    split
    · exact h2
    · exact h1
  unfold zwk zbnd
  split
  · omega
  · rw [fb_negI (by omega)]
    omega
theorem zadd_bnd {c : Int} {x y : Int32} (hc : c ≤ 100000) (hx : zbnd c x) (hy : zbnd c y) : zbnd (2 * c) (x + y) := by
  unfold zbnd at *
  rw [fb_addI (by omega) (by omega)]
  omega
theorem zneg_bnd {c : Int} {x : Int32} (hc : c ≤ 100000) (hx : zbnd c x) : zbnd c (-x) := by
  unfold zbnd at *
  rw [fb_negI (by omega)]
  omega
theorem zsn_bnd {me : Nat → Int32} {d : Nat} (hd : d ≤ 4) (hm : ∀ k, k < 16 → zbnd 99 (me k)) (k w : Nat) : ∀ j, j ≤ d → ∀ y, y < 2 ^ (d - j) → zbnd (99 * 2 ^ j) ((zsn me d k w j).1 y)
  | 0, _, y, hy => by
    have : 2 ^ (d - 0) ≤ 2 ^ 4 := Nat.pow_le_pow_right (by omega) (by omega)
    have := hm y (by omega)
    simpa [zsn] using this
  | j + 1, hj, y, hy => by
    have e : 2 ^ (d - j) = 2 * 2 ^ (d - (j + 1)) := by rw [show d - j = (d - (j + 1)) + 1 by omega, Nat.pow_succ, Nat.mul_comm]
    have e2 : zhf d j = 2 ^ (d - (j + 1)) := by rw [zhf_eq (by omega)]; congr 1; omega
    have b1 := zsn_bnd hd hm k w j (by omega) y (by omega)
    have b2 := zsn_bnd hd hm k w j (by omega) (y + 2 ^ (d - (j + 1))) (by omega)
    have hc : (99 * 2 ^ j : Int) ≤ 100000 := by
      rcases (show j = 0 ∨ j = 1 ∨ j = 2 ∨ j = 3 by omega) with rfl | rfl | rfl | rfl <;> decide
    have hc2 : (99 * 2 ^ (j + 1) : Int) = 2 * (99 * 2 ^ j) := by rw [Int.pow_succ]; omega
    have hc3 : (0 : Int) ≤ 99 * 2 ^ j := by
      rcases (show j = 0 ∨ j = 1 ∨ j = 2 ∨ j = 3 by omega) with rfl | rfl | rfl | rfl <;> decide
    rw [hc2]
    unfold zsn
    split
    · show zbnd _ (zg2 _ _ _ _ y)
      unfold zg2
      rw [e2, if_pos hy]
      split
      · exact zadd_bnd hc b2 (zneg_bnd hc b1)
      · exact zadd_bnd hc b2 b1
    · show zbnd _ (zg1 _ _ _ y)
      unfold zg1
      rw [e2, if_pos hy]
      have := zwk_bnd hc b1 b2
      unfold zbnd at this ⊢
      omega
theorem zsee_bd {a : ZA} (hI : zInv a) (k w : Nat) : -1584 ≤ (zsee a.2.2.2.2.2.1 a.1 k w).toInt ∧ (zsee a.2.2.2.2.2.1 a.1 k w).toInt ≤ 1584 := by
  have h := zsn_bnd hI.1.2 (fun k hk => hI.2.2.2.2.1 k hk) k w a.1 (Nat.le_refl _) 0 (Nat.two_pow_pos _)
  have h1 := hI.1
  unfold zbnd at h
  unfold zsee
  rcases (show a.1 = 1 ∨ a.1 = 2 ∨ a.1 = 3 ∨ a.1 = 4 by omega) with e | e | e | e <;> rw [e] at h ⊢ <;> simp only [show (99 * 2 ^ 1 : Int) = 198 by decide, show (99 * 2 ^ 2 : Int) = 396 by decide, show (99 * 2 ^ 3 : Int) = 792 by decide, show (99 * 2 ^ 4 : Int) = 1584 by decide] at h <;> omega
