def zcf0 (v : Nat) : Nat := v ^^^ ((v >>> 1) &&& 21845)
def zcf1 (v : Nat) : Nat := v ^^^ ((v >>> 2) &&& 13107)
def zcf2 (v : Nat) : Nat := v ^^^ ((v >>> 4) &&& 3855)
def zcf3 (v : Nat) : Nat := v ^^^ ((v >>> 8) &&& 255)
def zcdF (v : Nat) : Nat := zcf3 (zcf2 (zcf1 (zcf0 v)))
theorem zcdF_eq (v : Nat) : zcdF v = zcod v := rfl
def zLkP (v : Nat) : Bool := Nat.beq (Nat.land (zlow v) (zMk (zpc (zcdF v)))) 0 && (Nat.beq v 0 || !Nat.beq (zlow v) 0) && Nat.beq (zcdF (zcdF v)) v
theorem zLk_c0 : zall zLkP 12 0 = true := by decide +kernel
theorem zLk_c1 : zall zLkP 12 4096 = true := by decide +kernel
theorem zLk_c2 : zall zLkP 12 8192 = true := by decide +kernel
theorem zLk_c3 : zall zLkP 12 12288 = true := by decide +kernel
theorem zLk_c4 : zall zLkP 12 16384 = true := by decide +kernel
theorem zLk_c5 : zall zLkP 12 20480 = true := by decide +kernel
theorem zLk_c6 : zall zLkP 12 24576 = true := by decide +kernel
theorem zLk_c7 : zall zLkP 12 28672 = true := by decide +kernel
theorem zLk_c8 : zall zLkP 12 32768 = true := by decide +kernel
theorem zLk_c9 : zall zLkP 12 36864 = true := by decide +kernel
theorem zLk_c10 : zall zLkP 12 40960 = true := by decide +kernel
theorem zLk_c11 : zall zLkP 12 45056 = true := by decide +kernel
theorem zLk_c12 : zall zLkP 12 49152 = true := by decide +kernel
theorem zLk_c13 : zall zLkP 12 53248 = true := by decide +kernel
theorem zLk_c14 : zall zLkP 12 57344 = true := by decide +kernel
theorem zLk_c15 : zall zLkP 12 61440 = true := by decide +kernel
theorem zLk_all {v : Nat} (hv : v < 65536) : zlow v &&& zMk (zpc (zcod v)) = 0 ∧ (v = 0 ∨ ¬ zlow v = 0) ∧ zcod (zcod v) = v := by
  have key : zLkP v = true := by
    rcases (show (0 ≤ v ∧ v < 0 + 2 ^ 12) ∨ (4096 ≤ v ∧ v < 4096 + 2 ^ 12) ∨ (8192 ≤ v ∧ v < 8192 + 2 ^ 12) ∨ (12288 ≤ v ∧ v < 12288 + 2 ^ 12) ∨ (16384 ≤ v ∧ v < 16384 + 2 ^ 12) ∨ (20480 ≤ v ∧ v < 20480 + 2 ^ 12) ∨ (24576 ≤ v ∧ v < 24576 + 2 ^ 12) ∨ (28672 ≤ v ∧ v < 28672 + 2 ^ 12) ∨ (32768 ≤ v ∧ v < 32768 + 2 ^ 12) ∨ (36864 ≤ v ∧ v < 36864 + 2 ^ 12) ∨ (40960 ≤ v ∧ v < 40960 + 2 ^ 12) ∨ (45056 ≤ v ∧ v < 45056 + 2 ^ 12) ∨ (49152 ≤ v ∧ v < 49152 + 2 ^ 12) ∨ (53248 ≤ v ∧ v < 53248 + 2 ^ 12) ∨ (57344 ≤ v ∧ v < 57344 + 2 ^ 12) ∨ (61440 ≤ v ∧ v < 61440 + 2 ^ 12) by omega) with h | h | h | h | h | h | h | h | h | h | h | h | h | h | h | h
    · exact zall_of zLkP 12 0 zLk_c0 v h.1 h.2
    · exact zall_of zLkP 12 4096 zLk_c1 v h.1 h.2
    · exact zall_of zLkP 12 8192 zLk_c2 v h.1 h.2
    · exact zall_of zLkP 12 12288 zLk_c3 v h.1 h.2
    · exact zall_of zLkP 12 16384 zLk_c4 v h.1 h.2
    · exact zall_of zLkP 12 20480 zLk_c5 v h.1 h.2
    · exact zall_of zLkP 12 24576 zLk_c6 v h.1 h.2
    · exact zall_of zLkP 12 28672 zLk_c7 v h.1 h.2
    · exact zall_of zLkP 12 32768 zLk_c8 v h.1 h.2
    · exact zall_of zLkP 12 36864 zLk_c9 v h.1 h.2
    · exact zall_of zLkP 12 40960 zLk_c10 v h.1 h.2
    · exact zall_of zLkP 12 45056 zLk_c11 v h.1 h.2
    · exact zall_of zLkP 12 49152 zLk_c12 v h.1 h.2
    · exact zall_of zLkP 12 53248 zLk_c13 v h.1 h.2
    · exact zall_of zLkP 12 57344 zLk_c14 v h.1 h.2
    · exact zall_of zLkP 12 61440 zLk_c15 v h.1 h.2
  unfold zLkP at key
  rw [Bool.and_eq_true, Bool.and_eq_true, Bool.or_eq_true] at key
  refine ⟨Nat.eq_of_beq_eq_true key.1.1, ?_, Nat.eq_of_beq_eq_true key.2⟩
  rcases key.1.2 with q | q
  · exact Or.inl (Nat.eq_of_beq_eq_true q)
  · refine Or.inr (fun e => ?_)
    rw [e] at q
    exact absurd q (by decide)
theorem zlight_wt {v : Nat} (hv : v < 65536) (h0 : ¬ v = 0) : ∃ k, k < 16 ∧ v.testBit k = true ∧ zpc (zcod (2 ^ k)) ≤ zpc (zcod v) := by
  obtain ⟨h1, h2, _⟩ := zLk_all hv
  have h2 := h2.resolve_left h0
  rcases Classical.em (∃ k, (zlow v).testBit k = true) with ⟨k, q⟩ | q
  · have hb : v.testBit k = true := by
      unfold zlow at q
      rw [Nat.testBit_and, Bool.and_eq_true] at q
      exact q.1
    have hk : k < 16 := by
      rcases Nat.lt_or_ge k 16 with g | g
      · exact g
      · rw [Nat.testBit_lt_two_pow (Nat.lt_of_lt_of_le hv (by rw [show 65536 = 2 ^ 16 from rfl]; exact Nat.pow_le_pow_right (by omega) g))] at hb
        exact absurd hb (by decide)
    refine ⟨k, hk, hb, ?_⟩
    rcases Nat.lt_or_ge (zpc (zcod v)) (zpc (zcod (2 ^ k))) with g | g
    · exfalso
      have g1 := zMk_bit (zpc (zcod v)) (by have := zpc_le (zcod v); omega) k hk g
      have g3 : (zlow v &&& zMk (zpc (zcod v))).testBit k = true := by rw [Nat.testBit_and, q, g1]; rfl
      rw [h1] at g3
      simp at g3
    · exact g
  · exact absurd (Nat.eq_of_testBit_eq (fun i => by rw [Nat.zero_testBit]; exact Bool.eq_false_iff.mpr (fun g => q ⟨i, g⟩))) h2
def zlsS (f : Nat → Nat) (i : Nat) : Option (Nat × Nat) → Prop
  | none => i = 0
  | some (l, c) => (∃ v, v < i ∧ f (1 + v) = l) ∧ (∀ v, v < i → l ≤ f (1 + v)) ∧ c = zct (fun v => decide (f (1 + v) = l)) i
theorem zlsS_of (f : Nat → Nat) : ∀ i, zlsS f i (zls f i)
  | 0 => rfl
  | i + 1 => by
    have ih := zlsS_of f i
    unfold zls
    cases hz : zls f i with
    | none =>
      rw [hz] at ih
      have ih : i = 0 := ih
      subst ih
      refine ⟨⟨0, by omega, rfl⟩, fun v hv => ?_, ?_⟩
      · rw [show v = 0 by omega]
        exact Nat.le_refl _
      · simp [zct]
    | some p =>
      obtain ⟨l, c⟩ := p
      rw [hz] at ih
      obtain ⟨⟨v0, h1, h2⟩, h3, h4⟩ := ih
      simp only
      by_cases q : f (1 + i) < l
      · rw [if_pos q]
        refine ⟨⟨i, by omega, rfl⟩, fun v hv => ?_, ?_⟩
        · by_cases e : v = i
          · rw [e]; exact Nat.le_refl _
          · have := h3 v (by omega)
            omega
        · unfold zct
          rw [zct_zero i (fun v hv => by have := h3 v hv; simp [show ¬ f (1 + v) = f (1 + i) by omega])]
          simp
      · rw [if_neg q]
        by_cases e : f (1 + i) = l
        · rw [if_pos e]
          refine ⟨⟨v0, by omega, h2⟩, fun v hv => ?_, ?_⟩
          · by_cases e2 : v = i
            · rw [e2]; omega
            · exact h3 v (by omega)
          · unfold zct
            rw [← h4]
            simp [e]
        · rw [if_neg e]
          refine ⟨⟨v0, by omega, h2⟩, fun v hv => ?_, ?_⟩
          · by_cases e2 : v = i
            · rw [e2]; omega
            · exact h3 v (by omega)
          · unfold zct
            rw [← h4]
            simp [e]
def zsm (g : Nat → Nat) : Nat → Nat
  | 0 => 0
  | i + 1 => zsm g i + g i
theorem zsm_add (g h : Nat → Nat) : ∀ n, zsm (fun v => g v + h v) n = zsm g n + zsm h n
  | 0 => rfl
  | n + 1 => by
    show zsm (fun v => g v + h v) n + (g n + h n) = zsm g n + g n + (zsm h n + h n)
    rw [zsm_add g h n]
    omega
theorem zsm_zero {g : Nat → Nat} : ∀ n, (∀ v, v < n → g v = 0) → zsm g n = 0
  | 0, _ => rfl
  | n + 1, h => by
    show zsm g n + g n = 0
    rw [zsm_zero n (fun v hv => h v (by omega)), h n (by omega)]
theorem zsm_swap (G : Nat → Nat → Nat) (m : Nat) : ∀ n, zsm (fun v => zsm (G v) m) n = zsm (fun w => zsm (fun v => G v w) n) m
  | 0 => (zsm_zero m (fun _ _ => rfl)).symm
  | n + 1 => by
    show zsm (fun v => zsm (G v) m) n + zsm (G n) m = zsm (fun w => zsm (fun v => G v w) n + G n w) m
    rw [zsm_swap G m n, zsm_add (fun w => zsm (fun v => G v w) n) (G n) m]
theorem zsm_one {g : Nat → Nat} {k : Nat} : ∀ n, k < n → (∀ v, v < n → ¬ v = k → g v = 0) → zsm g n = g k
  | 0, hk, _ => absurd hk (Nat.not_lt_zero _)
  | n + 1, hk, h => by
    show zsm g n + g n = g k
    by_cases e : k = n
    · rw [e, zsm_zero n (fun v hv => h v (by omega) (by omega)), Nat.zero_add]
    · rw [zsm_one n (by omega) (fun v hv hn => h v (by omega) hn), h n (by omega) (fun q => e q.symm), Nat.add_zero]
theorem zsm_cong {g h : Nat → Nat} : ∀ n, (∀ v, v < n → g v = h v) → zsm g n = zsm h n
  | 0, _ => rfl
  | n + 1, e => by
    show zsm g n + g n = zsm h n + h n
    rw [zsm_cong n (fun v hv => e v (by omega)), e n (by omega)]
theorem zct_sm (P : Nat → Bool) : ∀ n, zct P n = zsm (fun v => if P v = true then 1 else 0) n
  | 0 => rfl
  | n + 1 => by
    show zct P n + _ = zsm _ n + _
    rw [zct_sm P n]
theorem zct_inv {P : Nat → Bool} {s : Nat → Nat} {n : Nat} (h1 : ∀ v, v < n → s v < n) (h2 : ∀ v, v < n → s (s v) = v) : zct (fun v => P (s v)) n = zct P n := by
  rw [zct_sm, zct_sm]
  have e1 : zsm (fun v => if P (s v) = true then 1 else 0) n = zsm (fun v => zsm (fun w => if w = s v ∧ P w = true then 1 else 0) n) n := by
    refine zsm_cong n (fun v hv => ?_)
    rw [zsm_one (k := s v) n (h1 v hv) (fun w _ hn => if_neg (fun q => hn q.1))]
    simp
  rw [e1, zsm_swap (fun v w => if w = s v ∧ P w = true then 1 else 0) n n]
  refine zsm_cong n (fun w hw => ?_)
  rw [zsm_one (k := s w) n (h1 w hw) (fun v hv hn => if_neg (fun q => hn (by rw [q.1, h2 v hv])))]
  simp [h2 w hw]
theorem zct_split (P : Nat → Bool) (m : Nat) : ∀ n, zct P (m + n) = zct P m + zct (fun v => P (m + v)) n
  | 0 => rfl
  | n + 1 => by
    show zct P (m + n) + _ = zct P m + (zct (fun v => P (m + v)) n + _)
    rw [zct_split P m n]
    exact Nat.add_assoc _ _ _
/-- how many of the first i places are free -/
def zfn (z : Nat) : Nat → Nat
  | 0 => 0
  | i + 1 => if z.testBit i = true then zfn z i else zfn z i + 1
theorem zwd_sh (z v : Nat) : ∀ i, (zwd z v i).2 = v >>> zfn z i
  | 0 => rfl
  | i + 1 => by
    have ih := zwd_sh z v i
    unfold zwd zfn
    by_cases c : z.testBit i = true
    · rw [if_pos c, if_pos c, ih]
    · rw [if_neg c, if_neg c]
      show (zwd z v i).2 >>> 1 = _
      rw [ih, Nat.shiftRight_add]
theorem zwd_lo (z : Nat) : ∀ i (v u : Nat), (∀ k, k < zfn z i → v.testBit k = u.testBit k) → (zwd z v i).1 = (zwd z u i).1
  | 0, _, _, _ => rfl
  | i + 1, v, u, h => by
    have e1 := zwd_sh z v i
    have e2 := zwd_sh z u i
    unfold zfn at h
    unfold zwd
    by_cases c : z.testBit i = true
    · rw [if_pos c] at h
      rw [if_pos c, if_pos c]
      exact zwd_lo z i v u h
    · rw [if_neg c] at h
      rw [if_neg c, if_neg c]
      show (zwd z v i).1 ||| ((zwd z v i).2 &&& 1) <<< i = (zwd z u i).1 ||| ((zwd z u i).2 &&& 1) <<< i
      have hb := h (zfn z i) (by omega)
      have e3 : v >>> zfn z i &&& 1 = u >>> zfn z i &&& 1 := by
        rw [Nat.and_one_is_mod, Nat.and_one_is_mod, Nat.shiftRight_eq_div_pow, Nat.shiftRight_eq_div_pow]
        rw [← zsz_bit, ← zsz_bit, hb]
      rw [zwd_lo z i v u (fun k hk => h k (by omega)), e1, e2, e3]
