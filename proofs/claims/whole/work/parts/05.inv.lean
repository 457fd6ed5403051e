theorem zNp {a : ZA} (h : zInv a) : 2 ^ a.1 ≤ 16 := by
  have h1 := h.1.1
  have h2 := h.1.2
  rcases (show a.1 = 1 ∨ a.1 = 2 ∨ a.1 = 3 ∨ a.1 = 4 by omega) with e | e | e | e <;> rw [e] <;> decide
