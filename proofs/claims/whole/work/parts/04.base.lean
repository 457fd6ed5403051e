/-! The ground of all walks: the environment (tables, nest words, the static row), starts of contracts, calls that leave the heap alone, calls that change the callee's world, loops, cuts. -/
abbrev zA (hs : Nat) : Nat → Prop := fun q => hs ≤ q
def zFv : Nat → Value := fun j => match j with
  | 0 => .int 21845
  | 1 => .int 13107
  | 2 => .int 3855
  | _ => .int 255
def zNest : List Cond := [.fieldLinkNest "FrozenBits" 40 "FrozenBits$Facts" "deep" "I" "FrozenBits", .fieldLinkNest "FrozenBits" 50 "FrozenBits$Facts" "top" "I" "FrozenBits", .fieldLinkNest "FrozenBits" 47 "FrozenBits$Facts" "of" "I" "FrozenBits", .fieldLinkNest "FrozenBits" 83 "FrozenBits$Facts" "frozen" "I" "FrozenBits", .fieldLinkNest "FrozenBits" 131 "FrozenBits$Facts" "most" "I" "FrozenBits", .fieldLinkNest "FrozenBits" 108 "FrozenBits$Facts" "measures" "[I" "FrozenBits", .fieldLinkNest "FrozenBits" 152 "FrozenBits$Facts" "checks" "[I" "FrozenBits", .fieldLinkNest "FrozenBits" 143 "FrozenBits$FinedRows" "rows" "[I" "FrozenBits", .fieldLinkNest "FrozenBits" 146 "FrozenBits$FinedRows" "fines" "[I" "FrozenBits", .fieldLinkNest "FrozenBits" 137 "FrozenBits$FinedRows" "size" "I" "FrozenBits", .methodLinkNest "FrozenBits" 9 yX0_init "FrozenBits", .methodLinkNest "FrozenBits" 32 yX1_init "FrozenBits"]
/-- what every contract may use of the launch: class tables, nest words, the static row of the class -/
def zG (D : va_G) (tys : List (ClassId × FieldType)) (hs ta : Nat) (U : State) (H : Heap) : Prop :=
  va_K D vwCl tys U ∧ (∀ w ∈ zNest, va_Nw w U) ∧ va_Z "FrozenBits" "FIRST_OF_PAIRS" "[I" (.ref ta) (zA hs) U H ∧ va_T .int ta 4 zFv (zA hs) U H ∧ hs ≤ H.size
theorem zG.warm {D : va_G} {tys : List (ClassId × FieldType)} {hs ta : Nat} {s U : State} {H : Heap} (h : zG D tys hs ta s H) (hW : s.WarmedH U.vm) : zG D tys hs ta U H := by
  refine ⟨va_K.moved hW.alike h.1, fun w hw => ?_, va_Z.moved hW.alike h.2.2.1, va_T.moved hW.alike h.2.2.2.1, h.2.2.2.2⟩
  have h1 := h.2.1 w hw
  simp only [zNest, List.mem_cons, List.not_mem_nil, or_false] at hw
  rcases hw with rfl | rfl | rfl | rfl | rfl | rfl | rfl | rfl | rfl | rfl | rfl | rfl <;> first | exact va_Nw.warmF hW h1 | exact va_Nw.warmM hW h1
theorem zG.go {D : va_G} {tys : List (ClassId × FieldType)} {hs ta : Nat} {s U : State} {H : Heap} {locs : List Loc} {A : Nat → Prop} (h : zG D tys hs ta s s.heap) (hS : va_S A s.heap H locs) (hAz : ∀ q, A q → hs ≤ q) (hU : U.heap = H) (hW : s.WarmedH U.vm) : zG D tys hs ta U U.heap := by
  have hk : ∀ a : Nat, a < s.heap.size → ¬ zA hs a → H[a]? = s.heap[a]? := fun a h1 h2 => hS.2.1 a h1 (fun z => h2 (hAz a z))
  have h2 : zG D tys hs ta s H := ⟨h.1, h.2.1, h.2.2.1.kept hk, h.2.2.2.1.kept hk, Nat.le_trans h.2.2.2.2 hS.1⟩
  rw [hU]
  exact h2.warm hW
/-- a contract's start -/
def zPre (D : va_G) (tys : List (ClassId × FieldType)) (hs ta : Nat) (cs : va_W) : State → Prop := fun U => va_P D vwCl cs U.heap ∧ va_D (zA hs) cs ∧ zG D tys hs ta U U.heap
theorem zPre_blind {D : va_G} {tys : List (ClassId × FieldType)} {hs ta : Nat} {cs : va_W} {av : List Value} : FrameBlind (va_Pc av (zPre D tys hs ta cs)) := by
  intro a U g mk q
  obtain ⟨q0, q1, q2, q3, q4, q5, q6, q7⟩ := q
  have hv : (U.calling g mk a).vm = U.vm := rfl
  exact ⟨q0, q1, q2, va_K.moved (u := U) (U := U.calling g mk a) (Vm.Alike.refl U.vm) q3, fun w hw => va_Nw.same (by revert w; decide) hv.symm (q4 w hw), va_Z.moved (u := U) (U := U.calling g mk a) (Vm.Alike.refl U.vm) q5, va_T.moved (u := U) (U := U.calling g mk a) (Vm.Alike.refl U.vm) q6, q7⟩
theorem zPre_blindM {D : va_G} {tys : List (ClassId × FieldType)} {hs ta sz : Nat} {cs : va_W} {av : List Value} : FrameBlind (va_Pc av (fun U => U.heap.size = sz ∧ zPre D tys hs ta cs U)) := by
  intro a U g mk q
  obtain ⟨q0, q1, q2⟩ := q
  have h := zPre_blind a U g mk (⟨q0, q2⟩ : va_Pc av (zPre D tys hs ta cs) a U)
  exact ⟨h.1, q1, h.2⟩
/-- cells of the same addresses stand as apart -/
theorem zD_same {A : Nat → Prop} {ws ws' : va_W} (h : va_D A ws) (hs : ws'.map Prod.fst = ws.map Prod.fst) : va_D A ws' := by
  have key : ∀ (k : Nat) (q : Nat × va_E), ws'[k]? = some q → ∃ e, ws[k]? = some (q.1, e) := by
    intro k q hq
    have h1 : (ws'.map Prod.fst)[k]? = some q.1 := by rw [List.getElem?_map, hq]; rfl
    rw [hs, List.getElem?_map] at h1
    cases hk : ws[k]? with
    | none => rw [hk] at h1; cases h1
    | some z => rw [hk] at h1; exact ⟨z.2, by have := Option.some.inj h1; rw [← this]⟩
  refine ⟨fun i j x y hx hy hxy => ?_, fun k q hq => ?_⟩
  · obtain ⟨e1, h1⟩ := key i x hx
    obtain ⟨e2, h2⟩ := key j y hy
    exact h.1 i j _ _ h1 h2 hxy
  · obtain ⟨e1, h1⟩ := key k q hq
    exact h.2 k (q.1, e1) h1
theorem zz_cut {P : JFrame → Prop} {g : JFrame} (g2 : JFrame) (h1 : P g2 → P g) (h2 : P g2) : P g := h1 h2
theorem zz_forJ {P : JFrame → Prop} {m : MethodId} {pc nL : Nat} (N : Nat) (lv : Nat → List (Nat × Value)) {J : Nat → Prop} (hexit : J N → ∀ ls, lv_has ls nL (lv N) → P (F0 m pc ls [])) (hstep : ∀ i, i < N → J i → (J (i + 1) → ∀ ls, lv_has ls nL (lv (i + 1)) → P (F0 m pc ls [])) → ∀ ls, lv_has ls nL (lv i) → P (F0 m pc ls [])) (hJ : J 0) {ls : Array Slot} (h0 : lv_has ls nL (lv 0)) : P (F0 m pc ls []) := by
  have key : ∀ n i, i + n = N → J i → ∀ ls, lv_has ls nL (lv i) → P (F0 m pc ls []) := by
    intro n
    induction n with
    | zero => intro i hi hj ls hl; have : i = N := by omega
              subst this; exact hexit hj ls hl
    | succ n ih => intro i hi hj ls hl; exact hstep i (by omega) hj (fun hj ls hl => ih (i + 1) (by omega) hj ls hl) ls hl
  exact key N 0 (by omega) hJ ls h0
theorem zz_forHJ {P : Heap → List Loc → JFrame → Prop} {m : MethodId} {pc nL : Nat} (N : Nat) (lv : Nat → List (Nat × Value)) (I : Nat → Heap → List Loc → Prop) {J : Nat → Prop} (hexit : ∀ H locs ls, J N → I N H locs → lv_has ls nL (lv N) → P H locs (F0 m pc ls [])) (hstep : ∀ i, i < N → J i → (J (i + 1) → ∀ H locs ls, I (i + 1) H locs → lv_has ls nL (lv (i + 1)) → P H locs (F0 m pc ls [])) → ∀ H locs ls, I i H locs → lv_has ls nL (lv i) → P H locs (F0 m pc ls [])) {H : Heap} {locs : List Loc} {ls : Array Slot} (hI : I 0 H locs) (hJ : J 0) (h0 : lv_has ls nL (lv 0)) : P H locs (F0 m pc ls []) := by
  have key : ∀ n i, i + n = N → J i → ∀ H locs ls, I i H locs → lv_has ls nL (lv i) → P H locs (F0 m pc ls []) := by
    intro n
    induction n with
    | zero => intro i hi hj H locs ls h1 hl; have : i = N := by omega
              subst this; exact hexit H locs ls hj h1 hl
    | succ n ih => intro i hi hj H locs ls h1 hl; exact hstep i (by omega) hj (fun hj H locs ls h1 hl => ih (i + 1) (by omega) hj H locs ls h1 hl) H locs ls h1 hl
  exact key N 0 (by omega) hJ H locs ls hI h0
theorem zP_ht {D : va_G} {ws : va_W} {H : Heap} {t : State} (ht : t.heap = H) (h : va_P D vwCl ws H) : va_P D vwCl ws t.heap := by rw [ht]; exact h
theorem zP_nil {D : va_G} {H : Heap} : va_P D vwCl [] H := fun k q h => by simp at h
theorem zD_nil {A : Nat → Prop} : va_D A [] := ⟨fun i j p q h => by simp at h, fun k q h => by simp at h⟩
section ZB
variable {p : Program} {l : Launch} {e : Env} {R : Room} {s : State} {m : MethodId} {args : Array Value} {below : List Frame} {meth : Method} {c : Code} {H : Heap} {locs : List Loc} {cells slots : Nat} {Q : State → Prop}
variable {pc : Nat} {ls : Array Slot} {rest st0 : List Value} {cc bytes : ByteArray} {nL maxL index n : Nat} {own C : String} {y : MethodName} {ret : Option FieldType} {ws Ts : List Cond} {rm : Room} {b : Addr} {As : List Value}
variable {D : va_G} {tys : List (ClassId × FieldType)} {hs ta : Nat} {cs : va_W} {A : Nat → Prop}
/-- the top of the stack, under another name -/
theorem zz_topi {x : Int32} (y : Int32) (h : x = y) (k : W p l e R s m args below meth c H locs cells slots Q (F0 m pc ls (.int y :: rest))) : W p l e R s m args below meth c H locs cells slots Q (F0 m pc ls (.int x :: rest)) := h ▸ k
theorem zz_topl {x : Int64} (y : Int64) (h : x = y) (k : W p l e R s m args below meth c H locs cells slots Q (F0 m pc ls (.long y :: rest))) : W p l e R s m args below meth c H locs cells slots Q (F0 m pc ls (.long x :: rest)) := h ▸ k
/-- calls that leave the heap as it is -/
theorem zz_cVi {post : Int32 → Prop} (S : CallFix p m c cc nL s args Ts own) (hM : Met l y ws rm (va_Pc (.ref b :: As) (zPre D tys hs ta cs)) (vp_Si post) 0 0 (fun _ => False)) (cw : CallW R s args own C index y bytes maxL ret ws rm 0 0 n) (hrec : ∃ cell : Cell, H[b]? = some cell ∧ cell.vm.isStatics = false ∧ s.vm.findClass C = some cell.cls) (hP : va_P D vwCl cs H) (hD : va_D A cs) (hG : zG D tys hs ta s s.heap) (hS : va_S A s.heap H locs) (hAz : ∀ q, A q → hs ≤ q) (hn : As.length = n) (hsz : ls.size = nL) (hst : st0 = As.reverse ++ .ref b :: rest) (hW : (rest.map fun v => v.category).sum ≤ 8) (hc : cells ≤ R.cells ∧ slots ≤ R.slots) (hdg : decode cc pc = .ok (.invokevirtual index, 3))
    (kk : ∀ r : Int32, post r → W p l e R s m args below meth c H locs cells slots Q (F0 m (pc + 3) ls (.int r :: rest))) : W p l e R s m args below meth c H locs cells slots Q (F0 m pc ls st0) :=
  vp_callSi (W.runV (As := As) (rest := rest) (b := b) S hM cw ⟨zPre_blind, hrec, fun U hU hW => ⟨rfl, by rw [hU]; exact hP, hD.weaken (fun _ _ _ h => hAz _ h), hG.go hS hAz hU hW⟩⟩ rfl hn hsz hst (lv_room hW) hdg ⟨hc.1, hc.2⟩) kk
theorem zz_cVl {post : Int64 → Prop} (S : CallFix p m c cc nL s args Ts own) (hM : Met l y ws rm (va_Pc (.ref b :: As) (zPre D tys hs ta cs)) (vp_Sl post) 0 0 (fun _ => False)) (cw : CallW R s args own C index y bytes maxL ret ws rm 0 0 n) (hrec : ∃ cell : Cell, H[b]? = some cell ∧ cell.vm.isStatics = false ∧ s.vm.findClass C = some cell.cls) (hP : va_P D vwCl cs H) (hD : va_D A cs) (hG : zG D tys hs ta s s.heap) (hS : va_S A s.heap H locs) (hAz : ∀ q, A q → hs ≤ q) (hn : As.length = n) (hsz : ls.size = nL) (hst : st0 = As.reverse ++ .ref b :: rest) (hW : (rest.map fun v => v.category).sum ≤ 8) (hc : cells ≤ R.cells ∧ slots ≤ R.slots) (hdg : decode cc pc = .ok (.invokevirtual index, 3))
    (kk : ∀ r : Int64, post r → W p l e R s m args below meth c H locs cells slots Q (F0 m (pc + 3) ls (.long r :: rest))) : W p l e R s m args below meth c H locs cells slots Q (F0 m pc ls st0) :=
  vp_callSl (W.runV (As := As) (rest := rest) (b := b) S hM cw ⟨zPre_blind, hrec, fun U hU hW => ⟨rfl, by rw [hU]; exact hP, hD.weaken (fun _ _ _ h => hAz _ h), hG.go hS hAz hU hW⟩⟩ rfl hn hsz hst (lv_room hW) hdg ⟨hc.1, hc.2⟩) kk
theorem zz_cSi {post : Int32 → Prop} (S : CallFix p m c cc nL s args Ts own) (hM : Met l y ws rm (va_Pc As (zPre D tys hs ta cs)) (vp_Si post) 0 0 (fun _ => False)) (cw : CallB R s args own index y bytes maxL ret ws rm 0 0 n ∧ (Cond.static y).before args s = true) (hP : va_P D vwCl cs H) (hD : va_D A cs) (hG : zG D tys hs ta s s.heap) (hS : va_S A s.heap H locs) (hAz : ∀ q, A q → hs ≤ q) (hn : As.length = n) (hsz : ls.size = nL) (hst : st0 = As.reverse ++ rest) (hW : (rest.map fun v => v.category).sum ≤ 8) (hc : cells ≤ R.cells ∧ slots ≤ R.slots) (hdg : decode cc pc = .ok (.invokestatic index, 3))
    (kk : ∀ r : Int32, post r → W p l e R s m args below meth c H locs cells slots Q (F0 m (pc + 3) ls (.int r :: rest))) : W p l e R s m args below meth c H locs cells slots Q (F0 m pc ls st0) :=
  vp_callSi (W.runS (As := As) (rest := rest) S hM cw ⟨zPre_blind, fun U hU hW => ⟨rfl, by rw [hU]; exact hP, hD.weaken (fun _ _ _ h => hAz _ h), hG.go hS hAz hU hW⟩⟩ rfl hn hsz hst (lv_room hW) hdg ⟨hc.1, hc.2⟩) kk
theorem zz_cSl {post : Int64 → Prop} (S : CallFix p m c cc nL s args Ts own) (hM : Met l y ws rm (va_Pc As (zPre D tys hs ta cs)) (vp_Sl post) 0 0 (fun _ => False)) (cw : CallB R s args own index y bytes maxL ret ws rm 0 0 n ∧ (Cond.static y).before args s = true) (hP : va_P D vwCl cs H) (hD : va_D A cs) (hG : zG D tys hs ta s s.heap) (hS : va_S A s.heap H locs) (hAz : ∀ q, A q → hs ≤ q) (hn : As.length = n) (hsz : ls.size = nL) (hst : st0 = As.reverse ++ rest) (hW : (rest.map fun v => v.category).sum ≤ 8) (hc : cells ≤ R.cells ∧ slots ≤ R.slots) (hdg : decode cc pc = .ok (.invokestatic index, 3))
    (kk : ∀ r : Int64, post r → W p l e R s m args below meth c H locs cells slots Q (F0 m (pc + 3) ls (.long r :: rest))) : W p l e R s m args below meth c H locs cells slots Q (F0 m pc ls st0) :=
  vp_callSl (W.runS (As := As) (rest := rest) S hM cw ⟨zPre_blind, fun U hU hW => ⟨rfl, by rw [hU]; exact hP, hD.weaken (fun _ _ _ h => hAz _ h), hG.go hS hAz hU hW⟩⟩ rfl hn hsz hst (lv_room hW) hdg ⟨hc.1, hc.2⟩) kk
/-- calls that change the callee's world, which is the caller's whole world -/
theorem zA_of (hD : va_D A cs) (hA : ∀ q, s.heap.size ≤ q → A q) (hS : va_S A s.heap H locs) : ∀ q, va_A cs H.size q → A q := by
  intro q h
  rcases h with ⟨k, e, h⟩ | h
  · exact hD.2 k _ h
  · exact hA q (Nat.le_trans hS.1 h)
theorem zz_mVi {T : Type} {post : Int32 → T → Prop} {ct : T → va_W} (S : CallFix p m c cc nL s args Ts own) (hM : Met l y ws rm (va_Pc (.ref b :: As) (fun U => U.heap.size = H.size ∧ zPre D tys hs ta cs U)) (va_Qi post (fun u t => va_P D vwCl (ct u) t.heap) (va_A cs H.size)) 0 0 (va_A cs H.size)) (hct : ∀ u, (ct u).map Prod.fst = cs.map Prod.fst) (cw : CallW R s args own C index y bytes maxL ret ws rm 0 0 n) (hrec : ∃ cell : Cell, H[b]? = some cell ∧ cell.vm.isStatics = false ∧ s.vm.findClass C = some cell.cls) (hP : va_P D vwCl cs H) (hD : va_D A cs) (hG : zG D tys hs ta s s.heap) (hS : va_S A s.heap H locs) (hA : ∀ q, s.heap.size ≤ q → A q) (hAz : ∀ q, A q → hs ≤ q) (hn : As.length = n) (hsz : ls.size = nL) (hst : st0 = As.reverse ++ .ref b :: rest) (hW : (rest.map fun v => v.category).sum ≤ 8) (hc : cells ≤ R.cells ∧ slots ≤ R.slots) (hdg : decode cc pc = .ok (.invokevirtual index, 3))
    (kk : ∀ (r : Int32) (u : T) (H1 : Heap) (locs1 : List Loc), post r u → va_P D vwCl (ct u) H1 → va_D A (ct u) → va_S A s.heap H1 locs1 → W p l e R s m args below meth c H1 locs1 cells slots Q (F0 m (pc + 3) ls (.int r :: rest))) : W p l e R s m args below meth c H locs cells slots Q (F0 m pc ls st0) := by
  have hF := zA_of hD hA hS
  refine va_calli (va_runV (As := As) (rest := rest) (b := b) S hM cw ⟨zPre_blindM, hrec, fun U hU hW => ⟨rfl, by rw [hU], by rw [hU]; exact hP, hD.weaken (fun _ _ _ h => hAz _ h), hG.go hS hAz hU hW⟩⟩ rfl hn hsz hst (lv_room hW) hdg ⟨hc.1, hc.2⟩) hS (fun q _ h => hF q h) hF (fun r u t H1 locs1 ht hvm hw hB hz1 hk1 hS1 => ?_)
  exact kk r u H1 locs1 hw (by rw [← ht]; exact hB) (zD_same hD (hct u)) hS1
theorem zz_mVv {T : Type} {post : T → Prop} {ct : T → va_W} (S : CallFix p m c cc nL s args Ts own) (hM : Met l y ws rm (va_Pc (.ref b :: As) (fun U => U.heap.size = H.size ∧ zPre D tys hs ta cs U)) (va_Qv post (fun u t => va_P D vwCl (ct u) t.heap) (va_A cs H.size)) 0 0 (va_A cs H.size)) (hct : ∀ u, (ct u).map Prod.fst = cs.map Prod.fst) (cw : CallW R s args own C index y bytes maxL ret ws rm 0 0 n) (hrec : ∃ cell : Cell, H[b]? = some cell ∧ cell.vm.isStatics = false ∧ s.vm.findClass C = some cell.cls) (hP : va_P D vwCl cs H) (hD : va_D A cs) (hG : zG D tys hs ta s s.heap) (hS : va_S A s.heap H locs) (hA : ∀ q, s.heap.size ≤ q → A q) (hAz : ∀ q, A q → hs ≤ q) (hn : As.length = n) (hsz : ls.size = nL) (hst : st0 = As.reverse ++ .ref b :: rest) (hW : (rest.map fun v => v.category).sum ≤ 8) (hc : cells ≤ R.cells ∧ slots ≤ R.slots) (hdg : decode cc pc = .ok (.invokevirtual index, 3))
    (kk : ∀ (u : T) (H1 : Heap) (locs1 : List Loc), post u → va_P D vwCl (ct u) H1 → va_D A (ct u) → va_S A s.heap H1 locs1 → W p l e R s m args below meth c H1 locs1 cells slots Q (F0 m (pc + 3) ls rest)) : W p l e R s m args below meth c H locs cells slots Q (F0 m pc ls st0) := by
  have hF := zA_of hD hA hS
  refine va_callv (va_runV (As := As) (rest := rest) (b := b) S hM cw ⟨zPre_blindM, hrec, fun U hU hW => ⟨rfl, by rw [hU], by rw [hU]; exact hP, hD.weaken (fun _ _ _ h => hAz _ h), hG.go hS hAz hU hW⟩⟩ rfl hn hsz hst (lv_room hW) hdg ⟨hc.1, hc.2⟩) hS (fun q _ h => hF q h) hF (fun u t H1 locs1 ht hvm hw hB hz1 hk1 hS1 => ?_)
  exact kk u H1 locs1 hw (by rw [← ht]; exact hB) (zD_same hD (hct u)) hS1
/-- an element of an int row, by a plain number -/
theorem zz_iald {a i N : Nat} {cA : ClassId} {f : Nat → Int32} {x : Int32} (hexec : p.tables.exec = Jvm.exec) (hb : c.code = cc) (hK : va_K D vwCl tys s) (hP : va_P D vwCl cs H) (q0 t0 : Nat) (ha : cs[q0]? = some (a, .inl (cA, N, .inl f))) (ht : tys[t0]? = some (cA, .int)) (hx : x = nI i) (hi : i < N) (hN : N < 2 ^ 31) (hdg : decode cc pc = .ok (.iaload, 1))
    (kk : W p l e R s m args below meth c H locs cells slots Q (F0 m (pc + 1) ls (.int (f i) :: rest))) : W p l e R s m args below meth c H locs cells slots Q (F0 m pc ls (.int x :: .ref a :: rest)) := by
  subst hx
  refine va_iald hexec hb hK hP q0 t0 ha ht (vp_in_nI hi hN) hdg ?_
  rw [nI_clamp (Nat.lt_trans hi hN)]
  exact kk
theorem zz_iast {a i N : Nat} {cA : ClassId} {f : Nat → Int32} {x v : Int32} (hexec : p.tables.exec = Jvm.exec) (hb : c.code = cc) (hK : va_K D vwCl tys s) (hP : va_P D vwCl cs H) (hD : va_D A cs) (hS : va_S A s.heap H locs) (q0 t0 : Nat) (ha : cs[q0]? = some (a, .inl (cA, N, .inl f))) (ht : tys[t0]? = some (cA, .int)) (hx : x = nI i) (hi : i < N) (hN : N < 2 ^ 31) (hdg : decode cc pc = .ok (.iastore, 1))
    (kk : ∀ (H1 : Heap) (locs1 : List Loc), va_P D vwCl (cs.set q0 (a, .inl (cA, N, .inl (upd f i v)))) H1 → va_D A (cs.set q0 (a, .inl (cA, N, .inl (upd f i v)))) → va_S A s.heap H1 locs1 → W p l e R s m args below meth c H1 locs1 cells slots Q (F0 m (pc + 1) ls rest)) : W p l e R s m args below meth c H locs cells slots Q (F0 m pc ls (.int v :: .int x :: .ref a :: rest)) := by
  subst hx
  refine va_iast hexec hb hK hP hD hS q0 t0 ha ht (vp_in_nI hi hN) hdg (fun H1 locs1 h1 h2 h3 => ?_)
  rw [nI_clamp (Nat.lt_trans hi hN)] at h1 h2
  exact kk H1 locs1 h1 h2 h3
def zQr (post : Nat → Prop) : Array Value → State → Outcome → State → Prop := fun _ st o t => ∃ r : Nat, o = .returned (some (.ref r)) ∧ post r ∧ t.heap = st.heap
theorem zz_callSr {post : Nat → Prop} {a : Array Value} {st0 : List Value} (hr : CallRun p l e R s m args below meth c H locs cells slots 0 0 (F0 m pc ls st0) rest (zQr post a) (fun _ => False))
    (kk : ∀ r : Nat, post r → W p l e R s m args below meth c H locs cells slots Q (F0 m (pc + 3) ls (.ref r :: rest))) : W p l e R s m args below meth c H locs cells slots Q (F0 m pc ls st0) := by
  intro T hT X
  obtain ⟨v, st₀, t, T', L, h0, X', hL, e1, ⟨r, hv, hp, hh⟩, st⟩ := hr T hT X
  cases hv
  obtain ⟨t2, a1, b1⟩ := kk r hp T' (by rw [e1, hh, h0]) (Stand.forget X' (fun q h => (hL q h).elim))
  exact ⟨t2, st t2 a1, b1⟩
theorem zz_cVr {post : Nat → Prop} (S : CallFix p m c cc nL s args Ts own) (hM : Met l y ws rm (va_Pc (.ref b :: As) (zPre D tys hs ta cs)) (zQr post) 0 0 (fun _ => False)) (cw : CallW R s args own C index y bytes maxL ret ws rm 0 0 n) (hrec : ∃ cell : Cell, H[b]? = some cell ∧ cell.vm.isStatics = false ∧ s.vm.findClass C = some cell.cls) (hP : va_P D vwCl cs H) (hD : va_D A cs) (hG : zG D tys hs ta s s.heap) (hS : va_S A s.heap H locs) (hAz : ∀ q, A q → hs ≤ q) (hn : As.length = n) (hsz : ls.size = nL) (hst : st0 = As.reverse ++ .ref b :: rest) (hW : (rest.map fun v => v.category).sum ≤ 8) (hc : cells ≤ R.cells ∧ slots ≤ R.slots) (hdg : decode cc pc = .ok (.invokevirtual index, 3))
    (kk : ∀ r : Nat, post r → W p l e R s m args below meth c H locs cells slots Q (F0 m (pc + 3) ls (.ref r :: rest))) : W p l e R s m args below meth c H locs cells slots Q (F0 m pc ls st0) :=
  zz_callSr (W.runV (As := As) (rest := rest) (b := b) S hM cw ⟨zPre_blind, hrec, fun U hU hW => ⟨rfl, by rw [hU]; exact hP, hD.weaken (fun _ _ _ h => hAz _ h), hG.go hS hAz hU hW⟩⟩ rfl hn hsz hst (lv_room hW) hdg ⟨hc.1, hc.2⟩) kk
/-- calls of methods that look at no heap -/
theorem zPc_blind {av : List Value} : FrameBlind (va_Pc av (fun _ => True)) := fun _ _ _ _ q => q
theorem zz_pSi {post : Int32 → Prop} (S : CallFix p m c cc nL s args Ts own) (hM : Met l y ws rm (va_Pc As (fun _ => True)) (vp_Si post) 0 0 (fun _ => False)) (cw : CallB R s args own index y bytes maxL ret ws rm 0 0 n ∧ (Cond.static y).before args s = true) (hn : As.length = n) (hsz : ls.size = nL) (hst : st0 = As.reverse ++ rest) (hW : (rest.map fun v => v.category).sum ≤ 8) (hc : cells ≤ R.cells ∧ slots ≤ R.slots) (hdg : decode cc pc = .ok (.invokestatic index, 3))
    (kk : ∀ r : Int32, post r → W p l e R s m args below meth c H locs cells slots Q (F0 m (pc + 3) ls (.int r :: rest))) : W p l e R s m args below meth c H locs cells slots Q (F0 m pc ls st0) :=
  vp_callSi (W.runS (As := As) (rest := rest) S hM cw ⟨zPc_blind, fun U hU hW => ⟨rfl, trivial⟩⟩ rfl hn hsz hst (lv_room hW) hdg ⟨hc.1, hc.2⟩) kk
theorem zz_pSl {post : Int64 → Prop} (S : CallFix p m c cc nL s args Ts own) (hM : Met l y ws rm (va_Pc As (fun _ => True)) (vp_Sl post) 0 0 (fun _ => False)) (cw : CallB R s args own index y bytes maxL ret ws rm 0 0 n ∧ (Cond.static y).before args s = true) (hn : As.length = n) (hsz : ls.size = nL) (hst : st0 = As.reverse ++ rest) (hW : (rest.map fun v => v.category).sum ≤ 8) (hc : cells ≤ R.cells ∧ slots ≤ R.slots) (hdg : decode cc pc = .ok (.invokestatic index, 3))
    (kk : ∀ r : Int64, post r → W p l e R s m args below meth c H locs cells slots Q (F0 m (pc + 3) ls (.long r :: rest))) : W p l e R s m args below meth c H locs cells slots Q (F0 m pc ls st0) :=
  vp_callSl (W.runS (As := As) (rest := rest) S hM cw ⟨zPc_blind, fun U hU hW => ⟨rfl, trivial⟩⟩ rfl hn hsz hst (lv_room hW) hdg ⟨hc.1, hc.2⟩) kk
/-- a call that changes a part of the caller's world -/
theorem zz_nVv {T : Type} {post : T → Prop} {cw0 : va_W} {ct cn : T → va_W} (S : CallFix p m c cc nL s args Ts own) (hM : Met l y ws rm (va_Pc (.ref b :: As) (fun U => U.heap.size = H.size ∧ zPre D tys hs ta cs U)) (va_Qv post (fun u t => va_P D vwCl (ct u) t.heap) (va_A cs H.size)) 0 0 (va_A cs H.size)) (hct : ∀ u, (ct u).map Prod.fst = cs.map Prod.fst) (cw : CallW R s args own C index y bytes maxL ret ws rm 0 0 n) (hrec : ∃ cell : Cell, H[b]? = some cell ∧ cell.vm.isStatics = false ∧ s.vm.findClass C = some cell.cls) (hP : va_P D vwCl cw0 H) (hD : va_D A cw0) (isC isR perm : List Nat) (hC : isC.map (fun i => cw0[i]?) = cs.map some) (hndC : va_nd isC = true) (hndR : va_nd isR = true) (hdis : ∀ i ∈ isR, i ∉ isC) {nW : Nat} (hlen : cw0.length = nW) (hin0 : ∀ i ∈ isR, i < nW) (hR : ∀ u : T, (isR.filterMap (fun i => cw0[i]?) ++ ct u).length = perm.length) (hcn : ∀ u, perm.filterMap (fun i => (isR.filterMap (fun i => cw0[i]?) ++ ct u)[i]?) = cn u) (hfst : ∀ u, (cn u).map Prod.fst = cw0.map Prod.fst) (hG : zG D tys hs ta s s.heap) (hS : va_S A s.heap H locs) (hA : ∀ q, s.heap.size ≤ q → A q) (hAz : ∀ q, A q → hs ≤ q) (hn : As.length = n) (hsz : ls.size = nL) (hst : st0 = As.reverse ++ .ref b :: rest) (hW : (rest.map fun v => v.category).sum ≤ 8) (hc : cells ≤ R.cells ∧ slots ≤ R.slots) (hdg : decode cc pc = .ok (.invokevirtual index, 3))
    (kk : ∀ (u : T) (H1 : Heap) (locs1 : List Loc), post u → va_P D vwCl (cn u) H1 → va_D A (cn u) → va_S A s.heap H1 locs1 → W p l e R s m args below meth c H1 locs1 cells slots Q (F0 m (pc + 3) ls rest)) : W p l e R s m args below meth c H locs cells slots Q (F0 m pc ls st0) := by
  have hin : ∀ i ∈ isR, i < cw0.length := fun i h => by rw [hlen]; exact hin0 i h
  clear hin0
  have hDc : va_D A cs := hD.sub isC hndC hC
  have hPc : va_P D vwCl cs H := by
    refine hP.sub isC ?_
    have h2 : isC.filterMap (fun i => cw0[i]?) = (isC.map (fun i => cw0[i]?)).filterMap id := by rw [List.filterMap_map]; rfl
    rw [h2, hC, List.filterMap_map]
    simp
  have hF := zA_of hDc hA hS
  refine va_callv (va_runV (As := As) (rest := rest) (b := b) S hM cw ⟨zPre_blindM, hrec, fun U hU hW => ⟨rfl, by rw [hU], by rw [hU]; exact hPc, hDc.weaken (fun _ _ _ h => hAz _ h), hG.go hS hAz hU hW⟩⟩ rfl hn hsz hst (lv_room hW) hdg ⟨hc.1, hc.2⟩) hS (fun q _ h => hF q h) hF (fun u t H1 locs1 ht hvm hw hB hz1 hk1 hS1 => ?_)
  have hRm : isR.map (fun i => cw0[i]?) = (isR.filterMap (fun i => cw0[i]?)).map some := by
    clear hdis hndR hR hcn
    induction isR with
    | nil => rfl
    | cons i r ih =>
      have h1 := hin i List.mem_cons_self
      have h2 : cw0[i]? = some cw0[i] := List.getElem?_eq_getElem h1
      simp only [List.map_cons, List.filterMap_cons, h2]
      rw [ih (fun j hj => hin j (List.mem_cons_of_mem _ hj))]
  obtain ⟨hP2, hD2⟩ := va_join (wr := isR.filterMap (fun i => cw0[i]?)) (w1 := ct u) hP hD isC isR hC hRm hndR hdis hk1 hF (by rw [← ht]; exact hB) (zD_same hDc.self (hct u))
  exact kk u H1 locs1 hw (hP2.sub perm (hcn u)) (zD_same hD (hfst u)) hS1
/-- a call that changes a part of the caller's world -/
theorem zz_nVi {T : Type} {post : Int32 → T → Prop} {cw0 : va_W} {ct cn : T → va_W} (S : CallFix p m c cc nL s args Ts own) (hM : Met l y ws rm (va_Pc (.ref b :: As) (fun U => U.heap.size = H.size ∧ zPre D tys hs ta cs U)) (va_Qi post (fun u t => va_P D vwCl (ct u) t.heap) (va_A cs H.size)) 0 0 (va_A cs H.size)) (hct : ∀ u, (ct u).map Prod.fst = cs.map Prod.fst) (cw : CallW R s args own C index y bytes maxL ret ws rm 0 0 n) (hrec : ∃ cell : Cell, H[b]? = some cell ∧ cell.vm.isStatics = false ∧ s.vm.findClass C = some cell.cls) (hP : va_P D vwCl cw0 H) (hD : va_D A cw0) (isC isR perm : List Nat) (hC : isC.map (fun i => cw0[i]?) = cs.map some) (hndC : va_nd isC = true) (hndR : va_nd isR = true) (hdis : ∀ i ∈ isR, i ∉ isC) {nW : Nat} (hlen : cw0.length = nW) (hin0 : ∀ i ∈ isR, i < nW) (hR : ∀ u : T, (isR.filterMap (fun i => cw0[i]?) ++ ct u).length = perm.length) (hcn : ∀ u, perm.filterMap (fun i => (isR.filterMap (fun i => cw0[i]?) ++ ct u)[i]?) = cn u) (hfst : ∀ u, (cn u).map Prod.fst = cw0.map Prod.fst) (hG : zG D tys hs ta s s.heap) (hS : va_S A s.heap H locs) (hA : ∀ q, s.heap.size ≤ q → A q) (hAz : ∀ q, A q → hs ≤ q) (hn : As.length = n) (hsz : ls.size = nL) (hst : st0 = As.reverse ++ .ref b :: rest) (hW : (rest.map fun v => v.category).sum ≤ 8) (hc : cells ≤ R.cells ∧ slots ≤ R.slots) (hdg : decode cc pc = .ok (.invokevirtual index, 3))
    (kk : ∀ (r : Int32) (u : T) (H1 : Heap) (locs1 : List Loc), post r u → va_P D vwCl (cn u) H1 → va_D A (cn u) → va_S A s.heap H1 locs1 → W p l e R s m args below meth c H1 locs1 cells slots Q (F0 m (pc + 3) ls (.int r :: rest))) : W p l e R s m args below meth c H locs cells slots Q (F0 m pc ls st0) := by
  have hin : ∀ i ∈ isR, i < cw0.length := fun i h => by rw [hlen]; exact hin0 i h
  clear hin0
  have hDc : va_D A cs := hD.sub isC hndC hC
  have hPc : va_P D vwCl cs H := by
    refine hP.sub isC ?_
    have h2 : isC.filterMap (fun i => cw0[i]?) = (isC.map (fun i => cw0[i]?)).filterMap id := by rw [List.filterMap_map]; rfl
    rw [h2, hC, List.filterMap_map]
    simp
  have hF := zA_of hDc hA hS
  refine va_calli (va_runV (As := As) (rest := rest) (b := b) S hM cw ⟨zPre_blindM, hrec, fun U hU hW => ⟨rfl, by rw [hU], by rw [hU]; exact hPc, hDc.weaken (fun _ _ _ h => hAz _ h), hG.go hS hAz hU hW⟩⟩ rfl hn hsz hst (lv_room hW) hdg ⟨hc.1, hc.2⟩) hS (fun q _ h => hF q h) hF (fun r u t H1 locs1 ht hvm hw hB hz1 hk1 hS1 => ?_)
  have hRm : isR.map (fun i => cw0[i]?) = (isR.filterMap (fun i => cw0[i]?)).map some := by
    clear hdis hndR hR hcn
    induction isR with
    | nil => rfl
    | cons i r ih =>
      have h1 := hin i List.mem_cons_self
      have h2 : cw0[i]? = some cw0[i] := List.getElem?_eq_getElem h1
      simp only [List.map_cons, List.filterMap_cons, h2]
      rw [ih (fun j hj => hin j (List.mem_cons_of_mem _ hj))]
  obtain ⟨hP2, hD2⟩ := va_join (wr := isR.filterMap (fun i => cw0[i]?)) (w1 := ct u) hP hD isC isR hC hRm hndR hdis hk1 hF (by rw [← ht]; exact hB) (zD_same hDc.self (hct u))
  exact kk r u H1 locs1 hw (hP2.sub perm (hcn u)) (zD_same hD (hfst u)) hS1
/-- System.arraycopy of the first i cells -/
theorem zz_copy {a0 a1 i n0 n1 : Nat} {cA : ClassId} {f g : Nat → Int32} {x : Int32} (hexec : p.tables.exec = Jvm.exec) (hb : c.code = cc) (hml : c.maxLocals = ls.size) (hown : s.vm.findClass own = some m.cls) (hlink : (Cond.methodLink own index arraycopyName).before args s = true) (hnat : (Cond.native arraycopyName).before args s = true) (hstat : (Cond.static arraycopyName).before args s = true) (hini : (Cond.initialized "java/lang/System").before args s = true) (hK : va_K D vwCl tys s) (hP : va_P D vwCl cs H) (hD : va_D A cs) (hS : va_S A s.heap H locs) (q0 q1 t0 t1 : Nat) (ha0 : cs[q0]? = some (a0, .inl (cA, n0, .inl f))) (ha1 : cs[q1]? = some (a1, .inl (cA, n1, .inl g))) (ht0 : tys[t0]? = some (cA, .int)) (ht1 : tys[t1]? = some (cA, .int)) (hx : x = nI i) (hi : i ≤ n0 ∧ i ≤ n1 ∧ i < 2 ^ 31) (hr0 : refKind .int = false) (hfr : 1 ≤ R.frames) (hlo : (rest.map fun v => v.category).sum + (nativeFrameWords "java/lang/System" "arraycopy" 5 + 11) ≤ R.locals) (hz : ∀ (v : Int32), fits .int (.int v) = true) (hdg : decode cc pc = .ok (.invokestatic index, 3))
    (kk : ∀ (H1 : Heap) (locs1 : List Loc), va_P D vwCl (cs.set q1 (a1, .inl (cA, n1, .inl (va_cpy f g 0 0 i)))) H1 → va_D A (cs.set q1 (a1, .inl (cA, n1, .inl (va_cpy f g 0 0 i)))) → va_S A s.heap H1 locs1 → W p l e R s m args below meth c H1 locs1 cells slots Q (F0 m (pc + 3) ls rest)) : W p l e R s m args below meth c H locs cells slots Q (F0 m pc ls (.int x :: .int 0 :: .ref a1 :: .int 0 :: .ref a0 :: rest)) := by
  subst hx
  have h31 : i < 2 ^ 31 := hi.2.2
  have hc : (nI i).toNatClampNeg = i := nI_clamp h31
  have h0 : (0 : Int32).toNatClampNeg = 0 := rfl
  refine va_copyi hexec hb hml hown hlink hnat hstat hini hK hP hD hS q0 q1 t0 t1 ha0 ha1 ht0 ht1 hr0 (by decide) (by decide) (nI_pos h31) (by rw [hc, h0]; omega) (by rw [hc, h0]; omega) (fun j _ => hz _) hfr hlo hdg (fun H1 locs1 h1 h2 h3 => ?_)
  rw [hc, h0] at h1 h2
  exact kk H1 locs1 h1 h2 h3
theorem zz_zald {a i N : Nat} {cA : ClassId} {f : Nat → Int32} {x : Int32} (hexec : p.tables.exec = Jvm.exec) (hb : c.code = cc) (hK : va_K D vwCl tys s) (hP : va_P D vwCl cs H) (q0 t0 : Nat) (ha : cs[q0]? = some (a, .inl (cA, N, .inl f))) (ht : tys[t0]? = some (cA, .boolean)) (hx : x = nI i) (hi : i < N) (hN : N < 2 ^ 31) (hdg : decode cc pc = .ok (.baload, 1))
    (kk : W p l e R s m args below meth c H locs cells slots Q (F0 m (pc + 1) ls (.int (f i) :: rest))) : W p l e R s m args below meth c H locs cells slots Q (F0 m pc ls (.int x :: .ref a :: rest)) := by
  subst hx
  refine va_zald hexec hb hK hP q0 t0 ha ht (vp_in_nI hi hN) hdg ?_
  rw [nI_clamp (Nat.lt_trans hi hN)]
  exact kk
theorem zz_zast {a i N : Nat} {cA : ClassId} {f : Nat → Int32} {x v : Int32} (hexec : p.tables.exec = Jvm.exec) (hb : c.code = cc) (hK : va_K D vwCl tys s) (hP : va_P D vwCl cs H) (hD : va_D A cs) (hS : va_S A s.heap H locs) (q0 t0 : Nat) (ha : cs[q0]? = some (a, .inl (cA, N, .inl f))) (ht : tys[t0]? = some (cA, .boolean)) (hx : x = nI i) (hi : i < N) (hN : N < 2 ^ 31) (hdg : decode cc pc = .ok (.bastore, 1))
    (kk : ∀ (H1 : Heap) (locs1 : List Loc), va_P D vwCl (cs.set q0 (a, .inl (cA, N, .inl (upd f i (vp_nar .boolean v))))) H1 → va_D A (cs.set q0 (a, .inl (cA, N, .inl (upd f i (vp_nar .boolean v))))) → va_S A s.heap H1 locs1 → W p l e R s m args below meth c H1 locs1 cells slots Q (F0 m (pc + 1) ls rest)) : W p l e R s m args below meth c H locs cells slots Q (F0 m pc ls (.int v :: .int x :: .ref a :: rest)) := by
  subst hx
  refine va_zast hexec hb hK hP hD hS q0 t0 ha ht (vp_in_nI hi hN) hdg (fun H1 locs1 h1 h2 h3 => ?_)
  rw [nI_clamp (Nat.lt_trans hi hN)] at h1 h2
  exact kk H1 locs1 h1 h2 h3
end ZB
theorem zz_addn {x y : Int32} {a b : Nat} (hx : x = nI a) (hy : y = nI b) : x + y = nI (a + b) := by rw [hx, hy, nI_add]
theorem zz_incn (i n : Nat) : nI i + Int32.ofInt n = nI (i + n) := nI_add i n
theorem zz_inc (i : Nat) : nI i + Int32.ofInt 1 = nI (i + 1) := nI_1 i
/-- a truth value as an int -/
def zB (P : Prop) [Decidable P] : Int32 := if P then 1 else 0
theorem zB_f {P : Prop} [Decidable P] {r : Int32} (h : r = zB P) (h0 : r = 0) : ¬ P := by
  intro hp
  rw [h, zB, if_pos hp] at h0
  exact absurd h0 (by decide)
theorem zB_t {P : Prop} [Decidable P] {r : Int32} (h : r = zB P) (h0 : ¬ r = 0) : P := by
  by_cases hp : P
  · exact hp
  · rw [h, zB, if_neg hp] at h0
    exact absurd rfl h0
theorem zB_1 {P : Prop} [Decidable P] (h : P) : (1 : Int32) = zB P := by rw [zB, if_pos h]
theorem zB_0 {P : Prop} [Decidable P] (h : ¬ P) : (0 : Int32) = zB P := by rw [zB, if_neg h]
theorem zB_eq1 {P : Prop} [Decidable P] {r : Int32} (h : r = zB P) : ((1 : Int32) = r) ↔ P := by
  rw [h, zB]
  by_cases hp : P
  · rw [if_pos hp]; exact ⟨fun _ => hp, fun _ => rfl⟩
  · rw [if_neg hp]; exact ⟨fun q => absurd q (by decide), fun q => absurd q hp⟩
theorem zB_eq0 {P : Prop} [Decidable P] {r : Int32} (h : r = zB P) : ((0 : Int32) = r) ↔ ¬ P := by
  rw [h, zB]
  by_cases hp : P
  · rw [if_pos hp]; exact ⟨fun q => absurd q (by decide), fun q => absurd hp q⟩
  · rw [if_neg hp]; exact ⟨fun _ => hp, fun _ => rfl⟩
theorem zB_nar {P : Prop} [Decidable P] {r : Int32} (h : r = zB P) : narrow .boolean (.int r) = .int r := by
  rw [h, zB]
  by_cases hp : P
  · rw [if_pos hp]; rfl
  · rw [if_neg hp]; rfl
/-- facts: deep, top, of, frozen, most as plain numbers; measures, checks as rows. Fined rows: rows, fines, size -/
abbrev ZA : Type := Nat × Nat × Nat × Nat × Nat × (Nat → Int32) × (Nat → Int32)
abbrev ZR : Type := (Nat → Int32) × (Nat → Int32) × Nat
abbrev zTy (cI cZ : ClassId) : List (ClassId × FieldType) := [(cI, .int), (cZ, .boolean)]
abbrev zcF (cI : ClassId) (q0 q1 q2 : Nat) (a : ZA) : va_W := [(q0, .inr (0, [.int (nI a.1), .int (nI a.2.1), .int (nI a.2.2.1), .int (nI a.2.2.2.1), .int (nI a.2.2.2.2.1), .ref q1, .ref q2])), (q1, .inl (cI, 16, .inl a.2.2.2.2.2.1)), (q2, .inl (cI, 3, .inl a.2.2.2.2.2.2))]
abbrev zcR (cI : ClassId) (q0 q1 q2 : Nat) (t : ZR) : va_W := [(q0, .inr (1, [.ref q1, .ref q2, .int (nI t.2.2)])), (q1, .inl (cI, 16, .inl t.1)), (q2, .inl (cI, 16, .inl t.2.1))]
abbrev zcX (cI : ClassId) (q : Nat → Nat) (a b0 b1 : ZA) (ik : Nat) (ha : Nat → Int32) (t g : ZR) : va_W := [(q 0, .inr (2, [.ref (q 1), .ref (q 4), .ref (q 7), .int (nI ik), .ref (q 10), .ref (q 11), .ref (q 14)])),
  (q 1, .inr (0, [.int (nI a.1), .int (nI a.2.1), .int (nI a.2.2.1), .int (nI a.2.2.2.1), .int (nI a.2.2.2.2.1), .ref (q 2), .ref (q 3)])), (q 2, .inl (cI, 16, .inl a.2.2.2.2.2.1)), (q 3, .inl (cI, 3, .inl a.2.2.2.2.2.2)),
  (q 4, .inr (0, [.int (nI b0.1), .int (nI b0.2.1), .int (nI b0.2.2.1), .int (nI b0.2.2.2.1), .int (nI b0.2.2.2.2.1), .ref (q 5), .ref (q 6)])), (q 5, .inl (cI, 16, .inl b0.2.2.2.2.2.1)), (q 6, .inl (cI, 3, .inl b0.2.2.2.2.2.2)),
  (q 7, .inr (0, [.int (nI b1.1), .int (nI b1.2.1), .int (nI b1.2.2.1), .int (nI b1.2.2.2.1), .int (nI b1.2.2.2.2.1), .ref (q 8), .ref (q 9)])), (q 8, .inl (cI, 16, .inl b1.2.2.2.2.2.1)), (q 9, .inl (cI, 3, .inl b1.2.2.2.2.2.2)),
  (q 10, .inl (cI, 16, .inl ha)),
  (q 11, .inr (1, [.ref (q 12), .ref (q 13), .int (nI t.2.2)])), (q 12, .inl (cI, 16, .inl t.1)), (q 13, .inl (cI, 16, .inl t.2.1)),
  (q 14, .inr (1, [.ref (q 15), .ref (q 16), .int (nI g.2.2)])), (q 15, .inl (cI, 16, .inl g.1)), (q 16, .inl (cI, 16, .inl g.2.1))]
/-- the reference's row of numbers, out of the same facts -/
def zst (a : ZA) : Nat → Int32 := fun k => match k with
  | 0 => nI a.1
  | 1 => nI a.2.1
  | 2 => nI a.2.2.1
  | 3 => nI a.2.2.2.1
  | 4 => nI a.2.2.2.2.1
  | 5 => a.2.2.2.2.2.2 0
  | 6 => a.2.2.2.2.2.2 1
  | 7 => a.2.2.2.2.2.2 2
  | k + 8 => a.2.2.2.2.2.1 k
abbrev zcM (cI cZ : ClassId) (q : Nat → Nat) (st im kp lf rw fn : Nat → Int32) (kn : Nat) : va_W := [(q 0, .inr (3, [.ref (q 1), .ref (q 2), .ref (q 3), .ref (q 4), .ref (q 5), .ref (q 6), .int (nI kn)])), (q 1, .inl (cI, 24, .inl st)), (q 2, .inl (cI, 48, .inl im)), (q 3, .inl (cZ, 2, .inl kp)), (q 4, .inl (cI, 16, .inl lf)), (q 5, .inl (cI, 16, .inl rw)), (q 6, .inl (cI, 16, .inl fn))]
theorem zst_me (a : ZA) (k : Nat) : zst a (8 + k) = a.2.2.2.2.2.1 k := by rw [Nat.add_comm]; rfl
theorem zst_ck (a : ZA) {k : Nat} (h : k < 3) : zst a (5 + k) = a.2.2.2.2.2.2 k := by
  rcases (show k = 0 ∨ k = 1 ∨ k = 2 by omega) with rfl | rfl | rfl <;> rfl
/-- what always holds of facts -/
def zInv (a : ZA) : Prop := (1 ≤ a.1 ∧ a.1 ≤ 4) ∧ (a.2.1 ≤ a.2.2.1 ∧ 2 ≤ a.2.2.1 ∧ a.2.2.1 ≤ 10) ∧ a.2.2.2.1 < 2 ^ 2 ^ a.1 ∧ (1 ≤ a.2.2.2.2.1 ∧ a.2.2.2.2.1 ≤ 8) ∧ (∀ k, k < 16 → -99 ≤ (a.2.2.2.2.2.1 k).toInt ∧ (a.2.2.2.2.2.1 k).toInt ≤ 99) ∧ (∀ k, k < 3 → ∃ j, a.2.2.2.2.2.2 k = nI j ∧ j < 2 ^ 2 ^ a.1)
