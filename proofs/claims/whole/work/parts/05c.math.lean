/-! ===== Euclid ends soon ===== -/
def zfib : Nat → Nat
  | 0 => 1
  | 1 => 2
  | n + 2 => zfib (n + 1) + zfib n
theorem zeu_shift (x y : Nat) : ∀ j, zeu x y (j + 1) = zeu y (x % y) j
  | 0 => rfl
  | j + 1 => by
    have ih := zeu_shift x y j
    show ((zeu x y (j + 1)).2, (zeu x y (j + 1)).1 % (zeu x y (j + 1)).2) = ((zeu y (x % y) j).2, (zeu y (x % y) j).1 % (zeu y (x % y) j).2)
    rw [ih]
def zEnd (x y n : Nat) : Prop := ∃ K, K ≤ n ∧ (∀ j, j < K → (zeu x y j).2 ≠ 0) ∧ (zeu x y K).2 = 0
theorem zEnd_step {x y n : Nat} (hy : y ≠ 0) (h : zEnd y (x % y) n) : zEnd x y (n + 1) := by
  obtain ⟨K, h1, h2, h3⟩ := h
  refine ⟨K + 1, by omega, fun j hj => ?_, by rw [zeu_shift]; exact h3⟩
  cases j with
  | zero => exact hy
  | succ j => rw [zeu_shift]; exact h2 j (by omega)
theorem zEnd_mono {x y n n' : Nat} (h : zEnd x y n) (hn : n ≤ n') : zEnd x y n' := by
  obtain ⟨K, h1, h2⟩ := h
  exact ⟨K, by omega, h2⟩
theorem zfib_pos : ∀ n, 1 ≤ zfib n ∧ 1 ≤ zfib (n + 1)
  | 0 => ⟨Nat.le_refl _, by decide⟩
  | n + 1 => ⟨(zfib_pos n).2, Nat.le_trans (zfib_pos n).2 (Nat.le_add_right _ _)⟩
theorem zEnd_fib : ∀ n, (∀ x y, y < zfib n → zEnd x y n) ∧ (∀ x y, y < zfib (n + 1) → zEnd x y (n + 1)) := by
  intro n
  induction n with
  | zero =>
    refine ⟨fun x y h => ?_, fun x y h => ?_⟩
    · have : y = 0 := by simp [zfib] at h; omega
      subst this
      exact ⟨0, Nat.le_refl _, fun j hj => absurd hj (Nat.not_lt_zero _), rfl⟩
    · have h : y < 2 := h
      rcases (show y = 0 ∨ y = 1 by omega) with rfl | rfl
      · exact ⟨0, by omega, fun j hj => absurd hj (Nat.not_lt_zero _), rfl⟩
      · refine zEnd_step (by omega) ?_
        rw [Nat.mod_one]
        exact ⟨0, Nat.le_refl _, fun j hj => absurd hj (Nat.not_lt_zero _), rfl⟩
  | succ n ih =>
    refine ⟨ih.2, fun x y h => ?_⟩
    have hf : zfib (n + 1 + 1) = zfib (n + 1) + zfib n := rfl
    have hf1 := (zfib_pos n).2
    by_cases hy : y = 0
    · subst hy
      exact ⟨0, by omega, fun j hj => absurd hj (Nat.not_lt_zero _), rfl⟩
    · have hr : x % y < y := Nat.mod_lt _ (by omega)
      by_cases h1 : x % y < zfib (n + 1)
      · exact zEnd_step hy (ih.2 y (x % y) h1)
      · refine zEnd_step hy (zEnd_step (by omega) (zEnd_mono (ih.1 (x % y) (y % (x % y)) ?_) (Nat.le_refl _)))
        have : y % (x % y) ≤ y - x % y := by
          rw [Nat.mod_eq_sub_mod (by omega)]
          exact Nat.mod_le _ _
        omega
theorem zeu_gcd (x y : Nat) : ∀ j, Nat.gcd (zeu x y j).1 (zeu x y j).2 = Nat.gcd x y
  | 0 => rfl
  | j + 1 => by
    rw [← zeu_gcd x y j]
    show Nat.gcd (zeu x y j).2 ((zeu x y j).1 % (zeu x y j).2) = _
    rw [Nat.gcd_comm, ← Nat.gcd_rec, Nat.gcd_comm]
theorem zlo_pos {o : Nat} (h : 1 ≤ o) : ∀ j, 1 ≤ zlo o j
  | 0 => h
  | j + 1 => Nat.mul_pos (zlo_pos h j) (zlo_pos h j)
theorem zfib_80 : 10000000000000000 < zfib 80 := by decide +kernel
theorem zeu_K {a : ZA} (hI : zInv a) (k : Nat) : ∃ K, K < 100 ∧ (∀ j, j < K → (zeu (zlo a.2.2.1 a.1) (zlos a k) j).2 ≠ 0) ∧ (zeu (zlo a.2.2.1 a.1) (zlos a k) K).2 = 0 ∧ (zeu (zlo a.2.2.1 a.1) (zlos a k) K).1 = zgc a k ∧ 1 ≤ zgc a k ∧ zgc a k < 2 ^ 63 := by
  have h1 := zup_le a.1 k hI.2.1.1 a.1
  rw [zup_2] at h1
  have h2 := zlo_le hI.2.1.2.2 a.1 hI.1.2
  have h3 : zlos a k < zfib 80 := by have := zfib_80; show (zup a.2.1 a.2.2.1 a.1 k a.1).1 < _; omega
  obtain ⟨K, hK, hK1, hK2⟩ := (zEnd_fib 80).1 (zlo a.2.2.1 a.1) (zlos a k) h3
  have h4 := zlo_pos (show 1 ≤ a.2.2.1 by have := hI.2.1; omega) a.1
  have h5 : (zeu (zlo a.2.2.1 a.1) (zlos a k) K).1 = zgc a k := by
    have := zeu_gcd (zlo a.2.2.1 a.1) (zlos a k) K
    rw [hK2, Nat.gcd_zero_right] at this
    exact this
  refine ⟨K, by omega, hK1, hK2, h5, Nat.gcd_pos_of_pos_left _ h4, ?_⟩
  have : zgc a k ≤ zlo a.2.2.1 a.1 := Nat.gcd_le_left _ h4
  omega
/-! ===== ranks ===== -/
theorem zct_lt {P : Nat → Bool} : ∀ {n : Nat} (b : Nat), b < n → P b = false → zct P n < n
  | 0, b, h, _ => absurd h (Nat.not_lt_zero _)
  | n + 1, b, h, hb => by
    unfold zct
    by_cases hn : b = n
    · subst hn
      rw [hb, if_neg (by decide)]
      have := zct_le P b
      omega
    · have := zct_lt b (show b < n by omega) hb
      split <;> omega
theorem zct_sub {P Q : Nat → Bool} : ∀ {n : Nat}, (∀ k, k < n → P k = true → Q k = true) → zct P n ≤ zct Q n
  | 0, _ => Nat.le_refl _
  | n + 1, h => by
    have ih := zct_sub (n := n) (fun k hk => h k (by omega))
    have h1 := h n (by omega)
    unfold zct
    by_cases hp : P n = true
    · rw [if_pos hp, if_pos (h1 hp)]; omega
    · rw [if_neg hp]; split <;> omega
theorem zct_sublt {P Q : Nat → Bool} : ∀ {n : Nat}, (∀ k, k < n → P k = true → Q k = true) → ∀ b, b < n → P b = false → Q b = true → zct P n < zct Q n
  | 0, _, b, h, _, _ => absurd h (Nat.not_lt_zero _)
  | n + 1, h, b, hb, h1, h2 => by
    unfold zct
    by_cases hn : b = n
    · subst hn
      have := zct_sub (n := b) (fun k hk => h k (by omega))
      rw [h1, h2, if_neg (by decide), if_pos rfl]
      omega
    · have ih := zct_sublt (n := n) (fun k hk => h k (by omega)) b (by omega) h1 h2
      have h3 := h n (by omega)
      by_cases hp : P n = true
      · rw [if_pos hp, if_pos (h3 hp)]; omega
      · rw [if_neg hp]; split <;> omega
theorem zct_cong {P Q : Nat → Bool} : ∀ {n : Nat}, (∀ k, k < n → P k = Q k) → zct P n = zct Q n
  | 0, _ => rfl
  | n + 1, h => by
    unfold zct
    rw [zct_cong (n := n) (fun k hk => h k (by omega)), h n (by omega)]
theorem zrk_lt {a : ZA} {k : Nat} (h : k < 2 ^ a.1) : zrk a k < 2 ^ a.1 := zct_lt k h (by unfold zbt; rw [decide_eq_false_iff_not]; omega)
theorem zrk_ne {a : ZA} {i j : Nat} (hi : i < 2 ^ a.1) (hj : j < 2 ^ a.1) (h : zbt a j i = true) : zrk a i < zrk a j := by
  refine zct_sublt (fun k _ hk => ?_) i hi ?_ h
  · unfold zbt at hk h ⊢
    rw [decide_eq_true_eq] at hk h ⊢
    omega
  · unfold zbt; rw [decide_eq_false_iff_not]; omega
theorem zrk_inj {a : ZA} {i j : Nat} (hi : i < 2 ^ a.1) (hj : j < 2 ^ a.1) (h : i ≠ j) : zrk a i ≠ zrk a j := by
  by_cases hb : zbt a j i = true
  · exact Nat.ne_of_lt (zrk_ne hi hj hb)
  · refine (Nat.ne_of_lt (zrk_ne hj hi ?_)).symm
    unfold zbt at hb ⊢
    rw [decide_eq_true_eq] at hb ⊢
    omega
theorem zbr_spec {a : ZA} (hI : zInv a) {r : Nat} (h : r < 2 ^ a.1) : zbr a r < 2 ^ a.1 ∧ zrk a (zbr a r) = r ∧ ∀ j, j < zbr a r → zrk a j ≠ r := by
  obtain ⟨b, hb, hr⟩ := fb_onto (f := zrk a) (fun i hi => zrk_lt hi) (fun i j hij hj => zrk_inj (by omega) hj (by omega)) h
  obtain ⟨i, h1, h2, h3⟩ := fb_first (p := fun b => zrk a b = r) ⟨b, hb, hr⟩
  have e : zbr a r = i := by
    unfold zbr
    rw [zff_some h1 (decide_eq_true h2) (fun j hj => decide_eq_false (h3 j hj))]
    rfl
  rw [e]
  exact ⟨h1, h2, h3⟩
theorem zInv_fz {a : ZA} (hI : zInv a) {k : Nat} (h : k < 2 ^ 2 ^ a.1) : zInv (a.1, a.2.1, a.2.2.1, k, a.2.2.2.2.1, a.2.2.2.2.2.1, a.2.2.2.2.2.2) := ⟨hI.1, hI.2.1, h, hI.2.2.2⟩
/-! ===== the sets of a size, one behind the other ===== -/
def zfold {σ : Type} (f : Nat → σ → σ) : Nat → Nat → σ → σ
  | 0, b, s => f b s
  | k + 1, b, s => zfold f k (b + 2 ^ k) (zfold f k b s)
def zit {σ : Type} (f : Nat → σ → σ) (b : Nat) : Nat → σ → σ
  | 0, s => s
  | n + 1, s => f (b + n) (zit f b n s)
theorem zit_add {σ : Type} (f : Nat → σ → σ) (b m : Nat) (s : σ) : ∀ n, zit f b (m + n) s = zit f (b + m) n (zit f b m s)
  | 0 => rfl
  | n + 1 => by
    show f (b + (m + n)) (zit f b (m + n) s) = f (b + m + n) _
    rw [zit_add f b m s n, Nat.add_assoc]
theorem zfold_it {σ : Type} (f : Nat → σ → σ) : ∀ (k b : Nat) (s : σ), zfold f k b s = zit f b (2 ^ k) s
  | 0, b, s => rfl
  | k + 1, b, s => by
    show zfold f k (b + 2 ^ k) (zfold f k b s) = _
    rw [zfold_it f k, zfold_it f k, Nat.pow_succ, Nat.mul_two, zit_add]
def zgo (w v : Nat) (s : Option (Nat × Nat)) : Option (Nat × Nat) := match s with
  | none => none
  | some (c, j) => if zpc v = w then (if v = c then (if 1 ≤ zlow c then some (znx c, j + 1) else none) else none) else some (c, j)
/-- what is known behind n numbers: the first j of the row are those of the size -/
def zGone (w n j : Nat) : Prop := (∀ i, i < j → zsq w i < n ∧ zpc (zsq w i) = w ∧ 1 ≤ zlow (zsq w i)) ∧ (∀ v, v < n → zpc v = w → ∃ i, i < j ∧ v = zsq w i) ∧ (∀ i i', i < i' → i' < j → zsq w i < zsq w i') ∧ ∀ P : Nat → Bool, zct (fun i => P (zsq w i)) j = zct (fun v => decide (zpc v = w) && P v) n
theorem zgo_sound (w : Nat) : ∀ (n c j : Nat), zit (zgo w) 0 n (some (zsq w 0, 0)) = some (c, j) → c = zsq w j ∧ zGone w n j
  | 0, c, j, h => by
    simp only [zit, Option.some.injEq, Prod.mk.injEq] at h
    obtain ⟨rfl, rfl⟩ := h
    exact ⟨rfl, fun i hi => absurd hi (Nat.not_lt_zero _), fun v hv => absurd hv (Nat.not_lt_zero _), fun i i' _ hi => absurd hi (Nat.not_lt_zero _), fun P => rfl⟩
  | n + 1, c, j, h => by
    simp only [zit, Nat.zero_add] at h
    cases hs : zit (zgo w) 0 n (some (zsq w 0, 0)) with
    | none => rw [hs] at h; simp [zgo] at h
    | some x =>
      obtain ⟨c0, j0⟩ := x
      rw [hs] at h
      obtain ⟨rfl, g1, g2, g3, g4⟩ := zgo_sound w n c0 j0 hs
      simp only [zgo] at h
      by_cases hw : zpc n = w
      · rw [if_pos hw] at h
        by_cases hv : n = zsq w j0
        · rw [if_pos hv] at h
          by_cases hl : 1 ≤ zlow (zsq w j0)
          · rw [if_pos hl] at h
            simp only [Option.some.injEq, Prod.mk.injEq] at h
            obtain ⟨rfl, rfl⟩ := h
            refine ⟨rfl, fun i hi => ?_, fun v h1 h2 => ?_, fun i i' h1 h2 => ?_, fun P => ?_⟩
            · by_cases he : i = j0
              · subst he
                exact ⟨by omega, by rw [← hv]; exact hw, hl⟩
              · have := g1 i (by omega)
                exact ⟨by omega, this.2⟩
            · by_cases he : v = n
              · exact ⟨j0, by omega, by omega⟩
              · obtain ⟨i, h3, h4⟩ := g2 v (by omega) h2
                exact ⟨i, by omega, h4⟩
            · by_cases he : i' = j0
              · subst he
                have := (g1 i h1).1
                omega
              · exact g3 i i' h1 (by omega)
            · have := g4 P
              unfold zct
              rw [this, ← hv]
              simp [hw]
          · rw [if_neg hl] at h; cases h
        · rw [if_neg hv] at h; cases h
      · rw [if_neg hw] at h
        simp only [Option.some.injEq, Prod.mk.injEq] at h
        obtain ⟨rfl, rfl⟩ := h
        refine ⟨rfl, fun i hi => ?_, fun v h1 h2 => ?_, g3, fun P => ?_⟩
        · have := g1 i hi
          exact ⟨by omega, this.2⟩
        · exact g2 v (Nat.lt_of_le_of_ne (by omega) (fun q => hw (by rw [← q]; exact h2))) h2
        · have := g4 P
          rw [this]
          show _ = zct (fun v => decide (zpc v = w) && P v) n + _
          simp [hw]
theorem ztb_add {m k r i : Nat} (hr : r < 2 ^ k) : (2 ^ k * m + r).testBit i = if i < k then r.testBit i else (2 ^ k * m).testBit i := by
  rw [Nat.testBit_two_pow_mul_add m hr i]
  by_cases h : i < k
  · rw [if_pos h, if_pos h]
  · rw [if_neg h, if_neg h, Nat.testBit_two_pow_mul]
    simp [show k ≤ i by omega]
theorem zsz_add {m k r : Nat} (hr : r < 2 ^ k) : ∀ n, zsz (2 ^ k * m + r) n = zsz (2 ^ k * m) n + zsz r n
  | 0 => rfl
  | n + 1 => by
    show zsz _ n + _ = zsz _ n + _ + (zsz _ n + _)
    rw [zsz_add hr n, ztb_add hr]
    by_cases h : n < k
    · rw [if_pos h]
      have : (2 ^ k * m).testBit n = false := by rw [Nat.testBit_two_pow_mul]; simp [show ¬ k ≤ n by omega]
      rw [this]
      simp only [Bool.toNat_false]
      omega
    · rw [if_neg h]
      have : r.testBit n = false := Nat.testBit_lt_two_pow (Nat.lt_of_lt_of_le hr (Nat.pow_le_pow_right (by omega) (by omega)))
      rw [this]
      simp only [Bool.toNat_false]
      omega
theorem zsz_lek {r k : Nat} (h : r < 2 ^ k) (n : Nat) : zsz r n ≤ k := by
  rcases Nat.le_total n k with q | q
  · exact Nat.le_trans (zsz_le r n) q
  · rw [show n = k + (n - k) by omega, zsz_hi h]
    exact zsz_le r k
/-- a stretch of numbers from b on: none has less 1 than b, none more than k more -/
theorem zpc_tree {m k v : Nat} (h1 : 2 ^ k * m ≤ v) (h2 : v < 2 ^ k * m + 2 ^ k) : zpc (2 ^ k * m) ≤ zpc v ∧ zpc v ≤ zpc (2 ^ k * m) + k := by
  obtain ⟨r, rfl⟩ := Nat.exists_eq_add_of_le h1
  have hr : r < 2 ^ k := by omega
  rw [← zsz_16, ← zsz_16, zsz_add hr]
  have := zsz_lek hr 16
  omega
theorem zit_skip {w b c j : Nat} : ∀ n, (∀ v, b ≤ v → v < b + n → zpc v ≠ w) → zit (zgo w) b n (some (c, j)) = some (c, j)
  | 0, _ => rfl
  | n + 1, h => by
    show zgo w (b + n) (zit (zgo w) b n (some (c, j))) = _
    rw [zit_skip n (fun v h1 h2 => h v h1 (by omega))]
    simp only [zgo]
    rw [if_neg (h (b + n) (by omega) (by omega))]
def zgoC (w : Nat) : Nat → Nat → Nat → (Nat → Bool) → Bool
  | 0, b, c, K => if zpc b = w then (if b = c then (if 1 ≤ zlow c then (match znx c with
      | 0 => K 0
      | n + 1 => K (n + 1)) else false) else false) else K c
  | k + 1, b, c, K => if w < zpc b ∨ zpc b + (k + 1) < w then K c else zgoC w k b c (fun c' => zgoC w k (b + 2 ^ k) c' K)
theorem zgoC_use (w : Nat) : ∀ (k b c j : Nat) (K : Nat → Bool), (∃ m, b = 2 ^ k * m) → zgoC w k b c K = true → ∃ c' j', zit (zgo w) b (2 ^ k) (some (c, j)) = some (c', j') ∧ K c' = true
  | 0, b, c, j, K, _, h => by
    show ∃ c' j', zgo w (b + 0) (some (c, j)) = some (c', j') ∧ K c' = true
    unfold zgoC at h
    simp only [zgo, Nat.add_zero]
    by_cases h1 : zpc b = w
    · rw [if_pos h1] at h ⊢
      by_cases h2 : b = c
      · rw [if_pos h2] at h ⊢
        by_cases h3 : 1 ≤ zlow c
        · rw [if_pos h3] at h ⊢
          refine ⟨znx c, j + 1, rfl, ?_⟩
          cases hz : znx c with
          | zero => rw [hz] at h; exact h
          | succ n => rw [hz] at h; exact h
        · rw [if_neg h3] at h; cases h
      · rw [if_neg h2] at h; cases h
    · rw [if_neg h1] at h ⊢
      exact ⟨c, j, rfl, h⟩
  | k + 1, b, c, j, K, hb, h => by
    obtain ⟨m, rfl⟩ := hb
    unfold zgoC at h
    by_cases hs : w < zpc (2 ^ (k + 1) * m) ∨ zpc (2 ^ (k + 1) * m) + (k + 1) < w
    · rw [if_pos hs] at h
      refine ⟨c, j, zit_skip _ (fun v h1 h2 => ?_), h⟩
      have := zpc_tree h1 h2
      omega
    · rw [if_neg hs] at h
      have e : 2 ^ (k + 1) * m = 2 ^ k * (2 * m) := by rw [Nat.pow_succ, Nat.mul_assoc]
      have e3 : 2 ^ (k + 1) * m + 2 ^ k = 2 ^ k * (2 * m + 1) := by rw [e, Nat.mul_add, Nat.mul_one]
      obtain ⟨c1, j1, e1, h1⟩ := zgoC_use w k _ c j _ ⟨2 * m, e⟩ h
      obtain ⟨c2, j2, e2, h2⟩ := zgoC_use w k _ c1 j1 _ ⟨2 * m + 1, e3⟩ h1
      refine ⟨c2, j2, ?_, h2⟩
      rw [show 2 ^ (k + 1) = 2 ^ k + 2 ^ k by rw [Nat.pow_succ]; omega] at *
      rw [zit_add, e1, e2]
def zOk (N w : Nat) : Bool := zgoC w N 0 (2 ^ w - 1) (fun c => decide (2 ^ N ≤ c) && decide (c < 2 ^ 20)) && decide (1 ≤ w)
theorem zOk_use {N w : Nat} (h : zOk N w = true) : ∃ K, zSeq w N K ∧ zGone w (2 ^ N) K := by
  unfold zOk at h
  rw [Bool.and_eq_true, decide_eq_true_eq] at h
  obtain ⟨c, j, e, hc⟩ := zgoC_use w N 0 (2 ^ w - 1) 0 _ ⟨0, (Nat.mul_zero _).symm⟩ h.1
  rw [Bool.and_eq_true, decide_eq_true_eq, decide_eq_true_eq] at hc
  obtain ⟨rfl, g⟩ := zgo_sound w (2 ^ N) c j e
  have hj : j < 2 ^ N := by
    have h1 := g.2.2.2 (fun _ => true)
    have h2 : zct (fun _ => true) j = j := by
      clear h1 g e hc
      induction j with
      | zero => rfl
      | succ j ih => show zct (fun _ => true) j + 1 = j + 1; rw [ih]
    rw [h2] at h1
    rw [h1]
    refine zct_lt 0 (Nat.two_pow_pos N) ?_
    have : zpc 0 = 0 := by decide
    simp [this, show ¬ 0 = w by omega]
  exact ⟨j, ⟨fun i hi => ⟨(g.1 i hi).2.2, (g.1 i hi).1⟩, hc.1, hc.2, hj⟩, g⟩
theorem zOk_2 : zOk 2 1 = true ∧ zOk 2 2 = true := by decide +kernel
theorem zOk_4 : zOk 4 1 = true ∧ zOk 4 2 = true ∧ zOk 4 4 = true := by decide +kernel
theorem zOk_8 : zOk 8 1 = true ∧ zOk 8 2 = true ∧ zOk 8 4 = true ∧ zOk 8 8 = true := by decide +kernel
set_option maxRecDepth 100000 in
theorem zOk_16_1 : zOk 16 1 = true := by decide +kernel
set_option maxRecDepth 100000 in
theorem zOk_16_2 : zOk 16 2 = true := by decide +kernel
set_option maxRecDepth 100000 in
theorem zOk_16_4 : zOk 16 4 = true := by decide +kernel
set_option maxRecDepth 100000 in
theorem zOk_16_8 : zOk 16 8 = true := by decide +kernel
set_option maxRecDepth 100000 in
theorem zOk_16_16 : zOk 16 16 = true := by decide +kernel
theorem zff_lt {P : Nat → Bool} {n i : Nat} (h : zff P n = some i) : i < n := List.mem_range.mp (List.mem_of_find?_eq_some h)
