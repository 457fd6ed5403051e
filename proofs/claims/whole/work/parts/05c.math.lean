theorem zeu_K {a : ZA} (hI : zInv a) (k : Nat) : ∃ K, K < 100 ∧ (∀ j, j < K → (zeu (zlo a.2.2.1 a.1) (zlos a k) j).2 ≠ 0) ∧ (zeu (zlo a.2.2.1 a.1) (zlos a k) K).2 = 0 ∧ (zeu (zlo a.2.2.1 a.1) (zlos a k) K).1 = zgc a k ∧ 1 ≤ zgc a k ∧ zgc a k < 2 ^ 63 := sorry
theorem zbr_spec {a : ZA} (hI : zInv a) {r : Nat} (h : r < 2 ^ a.1) : zbr a r < 2 ^ a.1 ∧ zrk a (zbr a r) = r ∧ ∀ j, j < zbr a r → zrk a j ≠ r := sorry
theorem zInv_fz {a : ZA} (hI : zInv a) {k : Nat} (h : k < 2 ^ 2 ^ a.1) : zInv (a.1, a.2.1, a.2.2.1, k, a.2.2.2.2.1, a.2.2.2.2.2.1, a.2.2.2.2.2.2) := ⟨hI.1, hI.2.1, h, hI.2.2.2⟩
/-- the class goes through all sets of its weight, the least first -/
theorem zseq_ex {a : ZA} (hI : zInv a) (hf : ¬ 2 ^ a.1 - zpc a.2.2.2.1 = 0) : ∃ K, zSeq (zlw a.2.2.2.1 (2 ^ a.1)) (2 ^ a.1) K ∧ ∀ P : Nat → Bool, zct (fun j => P (zsq (zlw a.2.2.2.1 (2 ^ a.1)) j)) K = zct (fun v => decide (zpc v = zlw a.2.2.2.1 (2 ^ a.1)) && P v) (2 ^ 2 ^ a.1) := sorry
theorem zfl_spec {a : ZA} (hI : zInv a) (hf : ¬ 2 ^ a.1 - zpc a.2.2.2.1 = 0) {K : Nat} (hq : zSeq (zlw a.2.2.2.1 (2 ^ a.1)) (2 ^ a.1) K) : ∃ m, m < K ∧ ¬ zopn (zsq (zlw a.2.2.2.1 (2 ^ a.1)) m) &&& (a.2.2.2.1 ^^^ 65535) = 0 ∧ (∀ j, j < m → zopn (zsq (zlw a.2.2.2.1 (2 ^ a.1)) j) &&& (a.2.2.2.1 ^^^ 65535) = 0) ∧ zsq (zlw a.2.2.2.1 (2 ^ a.1)) m = zfl a (zlw a.2.2.2.1 (2 ^ a.1)) := sorry
theorem zff_lt {P : Nat → Bool} {n i : Nat} (h : zff P n = some i) : i < n := List.mem_range.mp (List.mem_of_find?_eq_some h)
theorem zch_T (a : ZA) (hl : (zkp a (2 ^ a.1)).length ≤ 8) {v : Int32} (hv : v = zfr (zch a)) (c : ¬ v < 0 ∧ v < nI (zkp a (2 ^ a.1)).length) : ∃ j, j < (zkp a (2 ^ a.1)).length ∧ zch a = some j ∧ v = nI j := by
  cases hz : zch a with
  | none =>
    rw [hz] at hv
    rw [hv] at c
    exact absurd (by decide : (zfr none) < 0) c.1
  | some j =>
    rw [hz] at hv
    exact ⟨j, zff_lt hz, rfl, hv⟩
theorem zch_F (a : ZA) (hl : (zkp a (2 ^ a.1)).length ≤ 8) {v : Int32} (hv : v = zfr (zch a)) (c : ¬ (¬ v < 0 ∧ v < nI (zkp a (2 ^ a.1)).length)) : zch a = none := by
  cases hz : zch a with
  | none => rfl
  | some j =>
    rw [hz] at hv
    have hj := zff_lt hz
    exact absurd ⟨by rw [hv]; exact nI_pos (by omega), by rw [hv]; exact nI_lt hj (by omega)⟩ c
theorem zr01 {x : Int32} (h1 : ¬ x < 0) (h2 : x < 2) : x = 0 ∨ x = 1 := by
  obtain ⟨k, h3, h4⟩ := zr0 (n := 2) ⟨h1, h2⟩ (by decide)
  rcases (show k = 0 ∨ k = 1 by omega) with rfl | rfl
  · exact Or.inl h4
  · exact Or.inr h4
def zq_image (a b0 b1 : ZA) (ik : Nat) (k : Int32) : Int32 × ZA × ZA × Nat := if k < 0 ∨ ¬ k < 2 then (-2, b0, b1, ik) else if k = 0 then (1, a, b1, ik ||| 2 ^ 0) else (1, b0, a, ik ||| 2 ^ 1)
def zq_restore (a b0 b1 : ZA) (ik : Nat) (k : Int32) : Int32 × ZA := if k < 0 ∨ ¬ k < 2 then (-2, a) else if k = 0 then (if ¬ ik.testBit 0 = true then (-3, a) else (1, b0)) else (if ¬ ik.testBit 1 = true then (-3, a) else (1, b1))
