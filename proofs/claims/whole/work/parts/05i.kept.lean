/-! The reference's kept rows: its sort by swaps is insertion, its two made of one are the class's. -/
def zsw2 (f : Nat → Int32) (i j : Nat) : Nat → Int32 := upd (upd f i (f j)) j (f i)
def zmid (G : ZL) (x : Nat × Int32) (R : ZL) (j : Nat) : ZL := G.take j ++ x :: (G.drop j ++ R)
theorem zmid_len (G : ZL) (x : Nat × Int32) (R : ZL) {j : Nat} (h : j ≤ G.length) : (zmid G x R j).length = G.length + 1 + R.length := by
  unfold zmid
  simp only [List.length_append, List.length_cons, List.length_take, List.length_drop]
  omega
theorem zmid_get (G : ZL) (x : Nat × Int32) (R : ZL) {j : Nat} (h : j ≤ G.length) (k : Nat) : (zmid G x R j).getD k (0, 0) = if k < j then G.getD k (0, 0) else if k = j then x else if k ≤ G.length then G.getD (k - 1) (0, 0) else R.getD (k - (G.length + 1)) (0, 0) := by
  unfold zmid
  have hl : (G.take j).length = j := by rw [List.length_take]; omega
  simp only [List.getD_eq_getElem?_getD]
  by_cases h1 : k < j
  · rw [if_pos h1, List.getElem?_append_left (by omega), List.getElem?_take_of_lt h1]
  · rw [if_neg h1, List.getElem?_append_right (by omega), hl]
    by_cases h2 : k = j
    · rw [if_pos h2, h2, Nat.sub_self]; rfl
    · rw [if_neg h2, show k - j = (k - j - 1) + 1 by omega, List.getElem?_cons_succ]
      have hd : (G.drop j).length = G.length - j := List.length_drop
      by_cases h3 : k ≤ G.length
      · rw [if_pos h3, List.getElem?_append_left (by omega), List.getElem?_drop, show j + (k - j - 1) = k - 1 by omega]
      · rw [if_neg h3, List.getElem?_append_right (by omega), hd, show k - j - 1 - (G.length - j) = k - (G.length + 1) by omega]
theorem zmid_swap {G R : ZL} {x : Nat × Int32} {r f : Nat → Int32} {n j : Nat} (h : zRL (r, f, n) (zmid G x R j)) (h1 : 1 ≤ j) (h2 : j ≤ G.length) : zRL (zsw2 r j (j - 1), zsw2 f j (j - 1), n) (zmid G x R (j - 1)) := by
  refine ⟨by rw [zmid_len _ _ _ (by omega), ← zmid_len G x R h2]; exact h.1, fun k hk => ?_⟩
  rw [zmid_len _ _ _ (by omega)] at hk
  have hj := h.2 j (by rw [zmid_len _ _ _ h2]; omega)
  have hj1 := h.2 (j - 1) (by rw [zmid_len _ _ _ h2]; omega)
  rw [zmid_get _ _ _ h2] at hj hj1
  rw [if_neg (by omega), if_pos rfl] at hj
  rw [if_pos (by omega)] at hj1
  rw [zmid_get _ _ _ (by omega)]
  show zsw2 r j (j - 1) k = _ ∧ zsw2 f j (j - 1) k = _ ∧ _
  unfold zsw2
  by_cases e1 : k = j - 1
  · subst e1
    rw [pk_us, pk_us, if_neg (by omega), if_pos rfl]
    exact hj
  · rw [pk_un e1, pk_un e1]
    by_cases e2 : k = j
    · subst e2
      rw [pk_us, pk_us, if_neg (by omega), if_neg (by omega), if_pos h2]
      exact hj1
    · rw [pk_un e2, pk_un e2]
      have hk2 := h.2 k (by rw [zmid_len _ _ _ h2]; exact hk)
      rw [zmid_get _ _ _ h2] at hk2
      by_cases e3 : k < j - 1
      · rw [if_pos e3]; rw [if_pos (by omega)] at hk2; exact hk2
      · rw [if_neg e3, if_neg e1]; rw [if_neg (by omega), if_neg e2] at hk2; exact hk2
theorem zmid_ah {G R : ZL} {x : Nat × Int32} {r f : Nat → Int32} {n j : Nat} (h : zRL (r, f, n) (zmid G x R j)) (h1 : 1 ≤ j) (h2 : j ≤ G.length) : (f j < f (j - 1) ∨ (f j = f (j - 1) ∧ r j < r (j - 1))) ↔ zah x (G.getD (j - 1) (0, 0)) = true := by
  have hj := h.2 j (by rw [zmid_len _ _ _ h2]; omega)
  have hj1 := h.2 (j - 1) (by rw [zmid_len _ _ _ h2]; omega)
  rw [zmid_get _ _ _ h2] at hj hj1
  rw [if_neg (by omega), if_pos rfl] at hj
  rw [if_pos (by omega)] at hj1
  dsimp only at hj hj1
  unfold zah
  rw [decide_eq_true_eq, hj.1, hj.2.1, hj1.1, hj1.2.1, nI_ltI (by omega) (by omega)]
def zso (L : ZL) (i : Nat) : ZL := (L.take i).foldl zins []
theorem zfold_len : ∀ (L G : ZL), (L.foldl zins G).length = G.length + L.length
  | [], G => rfl
  | x :: L, G => by
    show (L.foldl zins (zins G x)).length = _
    rw [zfold_len L, zins_len, List.length_cons]
    omega
theorem zso_len {L : ZL} {i : Nat} (h : i ≤ L.length) : (zso L i).length = i := by
  unfold zso
  rw [zfold_len, List.length_take, List.length_nil]
  omega
theorem zso_s {L : ZL} {i : Nat} (h : i < L.length) : zso L (i + 1) = zins (zso L i) (L.getD i (0, 0)) := by
  unfold zso
  rw [List.take_add_one, List.foldl_append, List.getElem?_eq_getElem h]
  simp [List.getD_eq_getElem?_getD, List.getElem?_eq_getElem h]
theorem zso_1 (L : ZL) : zso L 1 ++ L.drop 1 = L := by
  cases L with
  | nil => rfl
  | cons x L => rfl
theorem zmid_start {L : ZL} {i : Nat} (h : i < L.length) : zmid (zso L i) (L.getD i (0, 0)) (L.drop (i + 1)) i = zso L i ++ L.drop i := by
  have hl := zso_len (show i ≤ L.length by omega)
  unfold zmid
  rw [List.take_of_length_le (by omega), List.drop_of_length_le (by omega), List.nil_append]
  congr 1
  rw [List.drop_eq_getElem_cons h]
  simp [List.getD_eq_getElem?_getD, List.getElem?_eq_getElem h]
theorem zmid_end {L : ZL} {i : Nat} (h : i < L.length) : zmid (zso L i) (L.getD i (0, 0)) (L.drop (i + 1)) (zpos (zso L i) (L.getD i (0, 0)) (zso L i).length) = zso L (i + 1) ++ L.drop (i + 1) := by
  rw [zso_s h]
  unfold zmid zins
  simp
theorem zso_end {L : ZL} {n : Nat} (h : n = L.length) : zso L (1 + (n - 1)) ++ L.drop (1 + (n - 1)) = zso L L.length := by
  subst h
  cases L with
  | nil => rfl
  | cons x L =>
    have e : 1 + ((x :: L).length - 1) = (x :: L).length := by simp; omega
    rw [e, List.drop_length, List.append_nil]
theorem zia_a {x y r s : Int32} (h2 : x < y) : (1 : Int32) = zB (x < y ∨ (x = y ∧ r < s)) := zB_1 (Or.inl h2)
theorem zia_b {x y r s : Int32} (h : ¬ x = y) (h2 : ¬ x < y) : (0 : Int32) = zB (x < y ∨ (x = y ∧ r < s)) := zB_0 (by rintro (q | q); exact h2 q; exact h q.1)
theorem zia_c {x y r s : Int32} (h : x = y) (h2 : r < s) : (1 : Int32) = zB (x < y ∨ (x = y ∧ r < s)) := zB_1 (Or.inr ⟨h, h2⟩)
theorem zia_d {x y r s : Int32} (h : x = y) (h2 : ¬ r < s) : (0 : Int32) = zB (x < y ∨ (x = y ∧ r < s)) := zB_0 (by
  rintro (q | q)
  · rw [h] at q
    exact absurd (Int32.lt_iff_toInt_lt.mp q) (by omega)
  · exact h2 q.2)
/-- one bit more, as the reference lays it: the first i are done -/
def zA1 (a : ZA) (k : Nat) (p : Nat × Int32) : Nat × Int32 := (p.1, p.2 + zfb (zsee a.2.2.2.2.2.1 a.1 k p.1) (Nat.testBit p.1 k))
def zB1 (a : ZA) (k : Nat) (p : Nat × Int32) : Nat × Int32 := (p.1 ||| 2 ^ k, p.2 + zfb (zsee a.2.2.2.2.2.1 a.1 k (p.1 ||| 2 ^ k)) (Nat.testBit (p.1 ||| 2 ^ k) k))
def zla (a : ZA) (k : Nat) (L : ZL) (i : Nat) : ZL := (L.take i).map (zA1 a k) ++ L.drop i ++ (if Nat.testBit a.2.2.2.1 k = true then [] else (L.take i).map (zB1 a k))
theorem zla_0 (a : ZA) (k : Nat) (L : ZL) : zla a k L 0 = L := by
  unfold zla
  simp
theorem zla_len {a : ZA} {k : Nat} {L : ZL} {i : Nat} (h : i ≤ L.length) : (zla a k L i).length = L.length + (if Nat.testBit a.2.2.2.1 k = true then 0 else i) := by
  unfold zla
  split
  · simp only [List.length_append, List.length_map, List.length_take, List.length_drop, List.length_nil]; omega
  · simp only [List.length_append, List.length_map, List.length_take, List.length_drop]; omega
theorem zla_at {a : ZA} {k : Nat} {L : ZL} {i : Nat} (h : i < L.length) : (zla a k L i).getD i (0, 0) = L.getD i (0, 0) := by
  unfold zla
  simp only [List.getD_eq_getElem?_getD]
  have h1 : ((L.take i).map (zA1 a k)).length = i := by rw [List.length_map, List.length_take]; omega
  rw [List.append_assoc, List.getElem?_append_right (by omega), h1, Nat.sub_self, List.getElem?_append_left (by rw [List.length_drop]; omega), List.getElem?_drop, Nat.add_zero]
/-- the row a bit further -/
theorem zRL_app {r f : Nat → Int32} {n w : Nat} {x : Int32} {M : ZL} (h : zRL (r, f, n) M) (hw : w < 65536) : zRL (upd r n (nI w), upd f n x, n + 1) (M ++ [(w, x)]) := by
  have e : n = M.length := h.1
  refine ⟨by show n + 1 = _; rw [List.length_append, e]; rfl, fun k hk => ?_⟩
  rw [List.length_append] at hk
  show upd r n (nI w) k = _ ∧ upd f n x k = _ ∧ _
  by_cases hk2 : k = n
  · have e2 : (M ++ [(w, x)]).getD k (0, 0) = (w, x) := by
      simp only [List.getD_eq_getElem?_getD]
      rw [hk2, e, List.getElem?_append_right (Nat.le_refl _), Nat.sub_self]; rfl
    rw [e2, hk2, pk_us, pk_us]
    exact ⟨rfl, rfl, hw⟩
  · have hk3 : k < M.length := by simp at hk; omega
    have e2 : (M ++ [(w, x)]).getD k (0, 0) = M.getD k (0, 0) := by
      simp only [List.getD_eq_getElem?_getD]
      rw [List.getElem?_append_left hk3]
    rw [e2, pk_un hk2, pk_un hk2]
    exact h.2 k hk3
theorem zRL_set {r f : Nat → Int32} {n i : Nat} {x : Int32} {M : ZL} (h : zRL (r, f, n) M) (hi : i < M.length) : zRL (r, upd f i x, n) (M.set i ((M.getD i (0, 0)).1, x)) := by
  refine ⟨by rw [List.length_set]; exact h.1, fun k hk => ?_⟩
  rw [List.length_set] at hk
  show r k = _ ∧ upd f i x k = _ ∧ _
  have hk2 := h.2 k hk
  by_cases e : k = i
  · subst e
    have e2 : (M.set k ((M.getD k (0, 0)).1, x)).getD k (0, 0) = ((M.getD k (0, 0)).1, x) := by
      simp only [List.getD_eq_getElem?_getD]
      rw [List.getElem?_set_self hk]; rfl
    rw [e2, pk_us]
    exact ⟨hk2.1, rfl, hk2.2.2⟩
  · have e2 : (M.set i ((M.getD i (0, 0)).1, x)).getD k (0, 0) = M.getD k (0, 0) := by
      simp only [List.getD_eq_getElem?_getD]
      rw [List.getElem?_set_ne (fun q => e q.symm)]
    rw [e2, pk_un e]
    exact hk2
theorem zmap_set (a : ZA) (k : Nat) {L : ZL} {i : Nat} (h : i < L.length) : (L.take (i + 1)).map (zA1 a k) ++ L.drop (i + 1) = ((L.take i).map (zA1 a k) ++ L.drop i).set i (zA1 a k (L.getD i (0, 0))) := by
  have h1 : ((L.take i).map (zA1 a k)).length = i := by rw [List.length_map, List.length_take]; omega
  rw [List.set_append_right _ _ (by omega), h1, Nat.sub_self, List.drop_eq_getElem_cons h, List.set_cons_zero, List.take_add_one, List.map_append]
  simp [List.getD_eq_getElem?_getD, List.getElem?_eq_getElem h]
theorem zla_frz {a : ZA} {k : Nat} {L : ZL} {i : Nat} (h : i < L.length) (hz : Nat.testBit a.2.2.2.1 k = true) : zla a k L (i + 1) = (zla a k L i).set i (zA1 a k (L.getD i (0, 0))) := by
  unfold zla
  rw [if_pos hz, if_pos hz, List.append_nil, List.append_nil]
  exact zmap_set a k h
theorem zla_fre {a : ZA} {k : Nat} {L : ZL} {i : Nat} (h : i < L.length) (hz : ¬ Nat.testBit a.2.2.2.1 k = true) : zla a k L (i + 1) = (zla a k L i ++ [zB1 a k (L.getD i (0, 0))]).set i (zA1 a k (L.getD i (0, 0))) := by
  unfold zla
  rw [if_neg hz, if_neg hz]
  have hl : i < ((L.take i).map (zA1 a k) ++ L.drop i).length := by
    simp only [List.length_append, List.length_map, List.length_take, List.length_drop]; omega
  rw [List.append_assoc ((L.take i).map (zA1 a k) ++ L.drop i), List.set_append_left _ _ hl, ← zmap_set a k h]
  have e : (L.take (i + 1)).map (zB1 a k) = (L.take i).map (zB1 a k) ++ [zB1 a k (L.getD i (0, 0))] := by
    rw [List.take_add_one, List.map_append]
    simp [List.getD_eq_getElem?_getD, List.getElem?_eq_getElem h]
  rw [e]
theorem zla_stepZ {a : ZA} {k : Nat} {L : ZL} {i n : Nat} {r f : Nat → Int32} (h : zRL (r, f, n) (zla a k L i)) (hi : i < L.length) (hz : Nat.testBit a.2.2.2.1 k = true) : zRL (r, upd f i ((L.getD i (0, 0)).2 + zfb (zsee a.2.2.2.2.2.1 a.1 k (L.getD i (0, 0)).1) (Nat.testBit (L.getD i (0, 0)).1 k)), n) (zla a k L (i + 1)) := by
  have hl : i < (zla a k L i).length := by rw [zla_len (by omega)]; omega
  have h2 := zRL_set (i := i) (x := (zA1 a k (L.getD i (0, 0))).2) h hl
  rw [zla_at hi] at h2
  rw [zla_frz hi hz]
  exact h2
theorem zla_stepF {a : ZA} {k : Nat} {L : ZL} {i n : Nat} {r f : Nat → Int32} (h : zRL (r, f, n) (zla a k L i)) (hi : i < L.length) (hz : ¬ Nat.testBit a.2.2.2.1 k = true) (hw : (L.getD i (0, 0)).1 ||| 2 ^ k < 65536) : zRL (upd r n (nI ((L.getD i (0, 0)).1 ||| 2 ^ k)), upd (upd f n ((L.getD i (0, 0)).2 + zfb (zsee a.2.2.2.2.2.1 a.1 k ((L.getD i (0, 0)).1 ||| 2 ^ k)) (Nat.testBit ((L.getD i (0, 0)).1 ||| 2 ^ k) k))) i ((L.getD i (0, 0)).2 + zfb (zsee a.2.2.2.2.2.1 a.1 k (L.getD i (0, 0)).1) (Nat.testBit (L.getD i (0, 0)).1 k)), n + 1) (zla a k L (i + 1)) := by
  have h1 := zRL_app (w := (zB1 a k (L.getD i (0, 0))).1) (x := (zB1 a k (L.getD i (0, 0))).2) h hw
  have hl : i < (zla a k L i).length := by rw [zla_len (by omega)]; omega
  have hl2 : i < (zla a k L i ++ [((zB1 a k (L.getD i (0, 0))).1, (zB1 a k (L.getD i (0, 0))).2)]).length := by rw [List.length_append]; omega
  have h2 := zRL_set (i := i) (x := (zA1 a k (L.getD i (0, 0))).2) h1 hl2
  have e : (zla a k L i ++ [((zB1 a k (L.getD i (0, 0))).1, (zB1 a k (L.getD i (0, 0))).2)]).getD i (0, 0) = L.getD i (0, 0) := by
    rw [← zla_at (a := a) (k := k) hi]
    simp only [List.getD_eq_getElem?_getD]
    rw [List.getElem?_append_left hl]
  rw [e] at h2
  rw [zla_fre hi hz]
  exact h2
theorem zRL_one (r f : Nat → Int32) : zRL (upd r 0 0, upd f 0 0, 1) [(0, 0)] := ⟨rfl, fun k hk => by
  have : k = 0 := by simp at hk; omega
  subst this
  exact ⟨rfl, rfl, by decide⟩⟩
theorem zRL_cutT {r f : Nat → Int32} {n m : Nat} {M : ZL} (h : zRL (r, f, n) M) (c : ¬ m < n) : zRL (r, f, n) (M.take m) := by
  have e : n = M.length := h.1
  rw [List.take_of_length_le (by omega)]
  exact h
theorem zRL_cutF {r f : Nat → Int32} {n m : Nat} {M : ZL} (h : zRL (r, f, n) M) (c : m < n) : zRL (r, f, m) (M.take m) := by
  have e : n = M.length := h.1
  refine ⟨by rw [List.length_take]; show m = _; omega, fun k hk => ?_⟩
  rw [List.length_take] at hk
  have e2 : (M.take m).getD k (0, 0) = M.getD k (0, 0) := by
    simp only [List.getD_eq_getElem?_getD]
    rw [List.getElem?_take_of_lt (by omega)]
  rw [e2]
  exact h.2 k (by omega)
theorem zgr_pos (a : ZA) (k : Nat) (L : ZL) : ∀ i, i ≤ (zgr a k L i).length
  | 0 => Nat.zero_le _
  | i + 1 => by
    have ih := zgr_pos a k L i
    simp only [zgr]
    split
    · rw [zins_len]; omega
    · rw [zins_len, zins_len]; omega
theorem zkp_ne {a : ZA} (hI : zInv a) : ∀ i, 1 ≤ (zkp a i).length
  | 0 => Nat.le_refl _
  | i + 1 => by
    have ih := zkp_ne hI i
    have h1 := zgr_pos a i (zkp a i) (zkp a i).length
    have h2 := hI.2.2.2.1.1
    simp only [zkp]
    rw [List.length_take]
    omega
