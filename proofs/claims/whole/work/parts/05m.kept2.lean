/-! Both ways of laying KEPT are sorted lists of the same rows. -/
def zRle (x y : Nat × Int32) : Prop := ¬ zah y x = true
theorem zRle_iff (x y : Nat × Int32) : zRle x y ↔ (x.2.toInt < y.2.toInt ∨ (x.2.toInt = y.2.toInt ∧ x.1 ≤ y.1)) := by
  unfold zRle zah
  rw [decide_eq_true_eq, Int32.lt_iff_toInt_lt, ← Int32.toInt_inj]
  omega
theorem zRle_tr {x y z : Nat × Int32} (h1 : zRle x y) (h2 : zRle y z) : zRle x z := by
  rw [zRle_iff] at h1 h2 ⊢
  omega
theorem zRle_as {x y : Nat × Int32} (h1 : zRle x y) (h2 : zRle y x) : x = y := by
  rw [zRle_iff] at h1 h2
  exact Prod.ext (by omega) (Int32.toInt_inj.mp (by omega))
theorem zRle_of {x y : Nat × Int32} (h : zah x y = true) : zRle x y := by
  unfold zah at h
  rw [decide_eq_true_eq, Int32.lt_iff_toInt_lt, ← Int32.toInt_inj] at h
  rw [zRle_iff]
  omega
theorem zins_pw {G : ZL} (x : Nat × Int32) (h : G.Pairwise zRle) : (zins G x).Pairwise zRle := by
  have hp := zpos_le G x G.length
  have h1 := zpos_1 G x G.length
  have h2 := zpos_2 G x G.length
  unfold zins
  generalize zpos G x G.length = p at hp h1 h2 ⊢
  have hs : (G.take p ++ G.drop p).Pairwise zRle := by rw [List.take_append_drop]; exact h
  rw [List.pairwise_append] at hs
  obtain ⟨s1, s2, s3⟩ := hs
  have hG : ∀ j (hj : j < G.length), G.getD j (0, 0) = G[j] := fun j hj => by simp [List.getD_eq_getElem?_getD, List.getElem?_eq_getElem hj]
  have ht : ∀ y ∈ G.take p, zRle y x := by
    intro y hy
    by_cases p0 : p = 0
    · subst p0
      simp at hy
    · rcases h2 with h2 | h2
      · exact absurd h2 p0
      · have hl : p - 1 < G.length := by omega
        have h3 : zRle G[p - 1] x := by
          rw [hG _ hl] at h2
          exact h2
        obtain ⟨j, hj, rfl⟩ := List.mem_take_iff_getElem.mp hy
        by_cases e : j = p - 1
        · subst e
          exact h3
        · exact zRle_tr (List.pairwise_iff_getElem.mp h j (p - 1) (by omega) hl (by omega)) h3
  have hd : ∀ y ∈ G.drop p, zRle x y := by
    intro y hy
    obtain ⟨j, hj, rfl⟩ := List.mem_drop_iff_getElem.mp hy
    have h3 := h1 (p + j) (by omega) (by omega)
    rw [hG _ (by omega)] at h3
    exact zRle_of h3
  rw [List.pairwise_append, List.pairwise_cons]
  refine ⟨s1, ⟨hd, s2⟩, fun y hy z hz => ?_⟩
  rcases List.mem_cons.mp hz with e | hz
  · rw [e]
    exact ht y hy
  · exact s3 y hy z hz
theorem zins_pm (G : ZL) (x : Nat × Int32) : List.Perm (zins G x) (x :: G) := by
  unfold zins
  refine List.Perm.trans List.perm_middle ?_
  rw [List.take_append_drop]
theorem zfold_pw : ∀ (L G : ZL), G.Pairwise zRle → (L.foldl zins G).Pairwise zRle
  | [], _, h => h
  | x :: L, G, h => zfold_pw L (zins G x) (zins_pw x h)
theorem zfold_pm : ∀ (L G : ZL), List.Perm (L.foldl zins G) (L ++ G)
  | [], G => List.Perm.refl G
  | x :: L, G => by
    refine List.Perm.trans (zfold_pm L (zins G x)) ?_
    refine List.Perm.trans (List.Perm.append_left L (zins_pm G x)) ?_
    exact List.perm_middle
theorem zso_pm (L : ZL) : List.Perm (zso L L.length) L := by
  unfold zso
  rw [List.take_length]
  have := zfold_pm L []
  rw [List.append_nil] at this
  exact this
theorem zso_pw (L : ZL) (i : Nat) : (zso L i).Pairwise zRle := zfold_pw _ _ List.Pairwise.nil
/-- the class's two made of one -/
def zC1 (a : ZA) (k : Nat) (p : Nat × Int32) : Nat × Int32 := (p.1, p.2 + zfb (zsee a.2.2.2.2.2.1 a.1 k p.1) false)
def zD1 (a : ZA) (k : Nat) (p : Nat × Int32) : Nat × Int32 := (p.1 ||| 2 ^ k, p.2 + zfb (zsee a.2.2.2.2.2.1 a.1 k p.1) true)
theorem zgr_pw (a : ZA) (k : Nat) (L : ZL) : ∀ i, (zgr a k L i).Pairwise zRle
  | 0 => List.Pairwise.nil
  | i + 1 => by
    have ih := zgr_pw a k L i
    simp only [zgr]
    split
    · exact zins_pw _ ih
    · exact zins_pw _ (zins_pw _ ih)
theorem zgr_pm (a : ZA) (k : Nat) (L : ZL) : ∀ i, i ≤ L.length → List.Perm (zgr a k L i) ((L.take i).map (zC1 a k) ++ (if Nat.testBit a.2.2.2.1 k = true then [] else (L.take i).map (zD1 a k)))
  | 0, _ => by
    simp [zgr]
  | i + 1, h => by
    have ih := zgr_pm a k L i (by omega)
    have e : L.take (i + 1) = L.take i ++ [L.getD i (0, 0)] := by
      rw [List.take_add_one]
      simp [List.getD_eq_getElem?_getD, List.getElem?_eq_getElem (show i < L.length by omega)]
    rw [e, List.map_append, List.map_append]
    simp only [zgr]
    by_cases c : Nat.testBit a.2.2.2.1 k = true
    · rw [if_pos c, if_pos c, List.append_nil]
      rw [if_pos c, List.append_nil] at ih
      refine List.Perm.trans (zins_pm _ _) ?_
      refine List.Perm.trans (List.Perm.cons _ ih) ?_
      exact (List.perm_append_singleton _ _).symm
    · rw [if_neg c, if_neg c]
      rw [if_neg c] at ih
      refine List.Perm.trans (zins_pm _ _) ?_
      refine List.Perm.trans (List.Perm.cons _ (zins_pm _ _)) ?_
      refine List.Perm.trans (List.Perm.cons _ (List.Perm.cons _ ih)) ?_
      generalize (L.take i).map (zC1 a k) = M1
      generalize (L.take i).map (zD1 a k) = M2
      have h1 : List.Perm (M1 ++ [zC1 a k (L.getD i (0, 0))] ++ (M2 ++ [zD1 a k (L.getD i (0, 0))])) (zC1 a k (L.getD i (0, 0)) :: (M1 ++ (M2 ++ [zD1 a k (L.getD i (0, 0))]))) := by
        rw [List.append_assoc]
        exact List.perm_middle
      have h2 : List.Perm (M1 ++ (M2 ++ [zD1 a k (L.getD i (0, 0))])) (zD1 a k (L.getD i (0, 0)) :: (M1 ++ M2)) := by
        rw [← List.append_assoc]
        exact List.perm_append_singleton _ _
      refine List.Perm.trans ?_ (List.Perm.trans h1 (List.Perm.cons _ h2)).symm
      exact List.Perm.swap _ _ _
/-- SEEN of a bit does not look at the bit itself -/
theorem zsn_own (me : Nat → Int32) {d k : Nat} (w : Nat) (hk : k < 2 ^ d) : ∀ j, j ≤ d → zsn me d k (w ||| 2 ^ k) j = zsn me d k w j
  | 0, _ => rfl
  | j + 1, h => by
    have ih := zsn_own me w hk j (by omega)
    obtain ⟨h1, h2, h3⟩ := zsn_in me (w := w) hk j (by omega)
    have hb := zbit_half h1 h2 h3 (by omega : j < d)
    conv => lhs; unfold zsn
    conv => rhs; unfold zsn
    rw [ih]
    by_cases c : k.testBit (d - 1 - j) = true
    · rw [if_pos c, if_pos c]
      have hs := hb.mp c
      have e : ((w ||| 2 ^ k) >>> (zsn me d k w j).2) &&& (2 ^ zhf d j - 1) = (w >>> (zsn me d k w j).2) &&& (2 ^ zhf d j - 1) := by
        apply Nat.eq_of_testBit_eq
        intro i
        rw [Nat.testBit_and, Nat.testBit_and, Nat.testBit_two_pow_sub_one]
        by_cases hi : i < zhf d j
        · rw [Nat.testBit_shiftRight, Nat.testBit_shiftRight, Nat.testBit_or, Nat.testBit_two_pow_of_ne (by omega), Bool.or_false]
        · rw [decide_eq_false hi, Bool.and_false, Bool.and_false]
      rw [e]
    · rw [if_neg c, if_neg c]
theorem zsee_own (me : Nat → Int32) {d k : Nat} (w : Nat) (hk : k < 2 ^ d) : zsee me d k (w ||| 2 ^ k) = zsee me d k w := by
  unfold zsee
  rw [zsn_own me w hk d (Nat.le_refl _)]
theorem zkp_rows (a : ZA) : ∀ k p, p ∈ zkp a k → p.1 < 2 ^ k
  | 0, p, h => by
    simp only [zkp, List.mem_singleton] at h
    rw [h]
    decide
  | k + 1, p, h => by
    have ih := zkp_rows a k
    simp only [zkp] at h
    have h1 := List.mem_of_mem_take h
    have h2 := (zgr_pm a k (zkp a k) (zkp a k).length (Nat.le_refl _)).mem_iff.mp h1
    rw [List.take_length] at h2
    have e2 : 2 ^ (k + 1) = 2 ^ k * 2 := Nat.pow_succ ..
    rcases List.mem_append.mp h2 with h2 | h2
    · obtain ⟨q, q1, q2⟩ := List.mem_map.mp h2
      have := ih q q1
      rw [← q2]
      show q.1 < _
      omega
    · by_cases c : Nat.testBit a.2.2.2.1 k = true
      · rw [if_pos c] at h2
        cases h2
      · rw [if_neg c] at h2
        obtain ⟨q, q1, q2⟩ := List.mem_map.mp h2
        have := ih q q1
        rw [← q2]
        show q.1 ||| 2 ^ k < _
        exact Nat.or_lt_two_pow (by omega) (by have := Nat.two_pow_pos k; omega)
/-- the two ways come to the same rows -/
theorem zkp_ref {a : ZA} (hI : zInv a) {k : Nat} (hk : k < 2 ^ a.1) : (zso (zla a k (zkp a k) (zkp a k).length) (zla a k (zkp a k) (zkp a k).length).length).take a.2.2.2.2.1 = zkp a (k + 1) := by
  have h0 := zkp_rows a k
  show _ = (zgr a k (zkp a k) (zkp a k).length).take a.2.2.2.2.1
  congr 1
  refine List.Perm.eq_of_pairwise (le := zRle) (fun x y _ _ h1 h2 => zRle_as h1 h2) (zso_pw _ _) (zgr_pw a k _ _) ?_
  refine List.Perm.trans (zso_pm _) ?_
  refine List.Perm.trans ?_ (zgr_pm a k (zkp a k) (zkp a k).length (Nat.le_refl _)).symm
  have eA : (zkp a k).map (zA1 a k) = (zkp a k).map (zC1 a k) := by
    apply List.map_congr_left
    intro p hp
    unfold zA1 zC1
    rw [Nat.testBit_lt_two_pow (h0 p hp)]
  have eB : (zkp a k).map (zB1 a k) = (zkp a k).map (zD1 a k) := by
    apply List.map_congr_left
    intro p hp
    unfold zB1 zD1
    rw [zsee_own _ _ hk, Nat.testBit_or, Nat.testBit_two_pow_self, Bool.or_true]
  unfold zla
  rw [List.take_length, List.drop_length, List.append_nil, eA, eB]
