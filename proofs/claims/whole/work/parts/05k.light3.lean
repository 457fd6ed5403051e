theorem zadd_or {i w : Nat} (hw : w < 2 ^ i) : 2 ^ i + w = w ||| 2 ^ i := by
  have h := Nat.two_pow_add_eq_or_of_lt hw 1
  rw [Nat.mul_one] at h
  rw [Nat.or_comm, h]
theorem zor_and {i w z : Nat} (hz : z.testBit i = false) : (w ||| 2 ^ i) &&& z = w &&& z := by
  apply Nat.eq_of_testBit_eq
  intro k
  rw [Nat.testBit_and, Nat.testBit_and, Nat.testBit_or, Nat.testBit_two_pow]
  by_cases e : i = k
  · subst e
    rw [hz, Bool.and_false, Bool.and_false]
  · rw [decide_eq_false e, Bool.or_false]
theorem zor_nz {i w z : Nat} (hz : z.testBit i = true) : ¬ (w ||| 2 ^ i) &&& z = 0 := by
  intro q
  have : ((w ||| 2 ^ i) &&& z).testBit i = true := by
    rw [Nat.testBit_and, Nat.testBit_or, Nat.testBit_two_pow, hz, decide_eq_true rfl, Bool.or_true]
    rfl
  rw [q] at this
  simp at this
theorem zct_wd (z : Nat) : ∀ i (P : Nat → Bool), zct (fun v => P (zwd z v i).1) (2 ^ zfn z i) = zct (fun w => decide (w &&& z = 0) && P w) (2 ^ i)
  | 0, P => by simp [zct, zwd, zfn]
  | i + 1, P => by
    rw [Nat.pow_succ, Nat.mul_two, zct_split _ (2 ^ i)]
    by_cases c : z.testBit i = true
    · rw [zct_zero (P := fun v => decide ((2 ^ i + v) &&& z = 0) && P (2 ^ i + v)) (2 ^ i) (fun w hw => by show (decide ((2 ^ i + w) &&& z = 0) && P (2 ^ i + w)) = false; rw [zadd_or hw, decide_eq_false (zor_nz c)]; rfl), Nat.add_zero, ← zct_wd z i P]
      have e1 : zfn z (i + 1) = zfn z i := by
        conv => lhs; unfold zfn
        rw [if_pos c]
      rw [e1]
      refine zct_cong (fun v _ => ?_)
      have e2 : zwd z v (i + 1) = zwd z v i := by
        conv => lhs; unfold zwd
        rw [if_pos c]
      rw [e2]
    · have cb : z.testBit i = false := Bool.eq_false_iff.mpr c
      have e1 : zfn z (i + 1) = zfn z i + 1 := by
        conv => lhs; unfold zfn
        rw [if_neg c]
      have e2 : ∀ v, (zwd z v (i + 1)).1 = (zwd z v i).1 ||| (v >>> zfn z i &&& 1) <<< i := by
        intro v
        conv => lhs; unfold zwd
        rw [if_neg c, zwd_sh]
      rw [e1, Nat.pow_succ, Nat.mul_two, zct_split _ (2 ^ zfn z i)]
      have hl : zct (fun v => P (zwd z v (i + 1)).1) (2 ^ zfn z i) = zct (fun w => decide (w &&& z = 0) && P w) (2 ^ i) := by
        rw [← zct_wd z i P]
        refine zct_cong (fun v hv => ?_)
        rw [e2, Nat.shiftRight_eq_div_pow, Nat.div_eq_of_lt hv]
        simp
      have hh : zct (fun v => P (zwd z (2 ^ zfn z i + v) (i + 1)).1) (2 ^ zfn z i) = zct (fun w => decide ((2 ^ i + w) &&& z = 0) && P (2 ^ i + w)) (2 ^ i) := by
        have ih := zct_wd z i (fun w => P (w ||| 2 ^ i))
        have r : zct (fun w => decide ((2 ^ i + w) &&& z = 0) && P (2 ^ i + w)) (2 ^ i) = zct (fun w => decide (w &&& z = 0) && P (w ||| 2 ^ i)) (2 ^ i) := by
          refine zct_cong (fun w hw => ?_)
          rw [zadd_or hw, zor_and cb]
        rw [r, ← ih]
        refine zct_cong (fun v hv => ?_)
        have d : (2 ^ zfn z i + v) >>> zfn z i = 1 := by
          rw [Nat.shiftRight_eq_div_pow, Nat.add_div_left _ (Nat.two_pow_pos _), Nat.div_eq_of_lt hv]
        have lo : (zwd z (2 ^ zfn z i + v) i).1 = (zwd z v i).1 := zwd_lo z i _ _ (fun k hk => by
          rw [zadd_or hv, Nat.testBit_or, Nat.testBit_two_pow, decide_eq_false (by omega), Bool.or_false])
        rw [e2, d, lo]
        show P ((zwd z v i).1 ||| 1 <<< i) = _
        rw [Nat.one_shiftLeft]
      rw [hl, hh]
