/-! the class's parser -/
def cX (t n : Nat) (im0 : zIm) (x : aX) (im : zIm) (q : Nat) (A : aA) : Prop := (∀ b, b ≠ t → b ≠ t + 2 → (b < n ∨ n + 41 ≤ b) → im b = im0 b) ∧ im t 0 = im0 t 0 ∧ (im t 1 = 0 ∧ im t 2 = -1) ∧ nRep im n A ∧ q ≤ x.2 ∧ cT t x im q
def eC (t n : Nat) (im0 : zIm) (im : zIm) (c p : Int) : Prop := (∀ b, b ≠ t → b ≠ t + 2 → (b < n ∨ n + 41 ≤ b) → im b = im0 b) ∧ im t 0 = im0 t 0 ∧ im t 1 = c ∧ im t 2 = p
section PC2
variable {g : zG} {S : zSh} {im im0 : zIm} {t n : Nat} {x : aX} {q : Nat} {A : aA}
theorem cX.tb (h : cX t n im0 x im q A) (hd : t + 3 ≤ n ∨ n + 41 ≤ t) (hB : tB t x im0) : tB t x im :=
  ⟨by rw [h.2.1]; exact hB.1, fun j j0 j1 => by rw [h.1 (t + 1) (by omega) (by omega) (by omega)]; exact hB.2 j j0 j1⟩
theorem cX.ns (h : cX t n im0 x im q A) : nS n (im (n + 40) 0) im im A := ⟨fun _ _ => rfl, rfl, h.2.2.2.1⟩
theorem cX.up {im' : zIm} {A' : aA} {y : Int} (h : cX t n im0 x im q A) (hd : t + 3 ≤ n ∨ n + 41 ≤ t) (h' : nS n y im im' A') : cX t n im0 x im' q A' := by
  have e : im' t = im t := h'.1 t (by omega)
  refine ⟨fun b b0 b1 hb => by rw [h'.1 b hb]; exact h.1 b b0 b1 hb, by rw [e]; exact h.2.1, by rw [e]; exact h.2.2.1, h'.2.2, h.2.2.2.2.1, ?_⟩
  have := h.2.2.2.2.2
  unfold cT at this ⊢
  rw [e]
  exact this
theorem cX.fr {im' : zIm} {q' : Nat} (h : cX t n im0 x im q A) (hd : t + 3 ≤ n ∨ n + 41 ≤ t) (f : frT t im im') (hq : q' ≤ x.2) (hT : cT t x im' q') : cX t n im0 x im' q' A :=
  ⟨fun b b0 b1 hb => by rw [f.1 b b0]; exact h.1 b b0 b1 hb, by rw [f.2 0 (by omega)]; exact h.2.1, by rw [f.2 1 (by omega), f.2 2 (by omega)]; exact h.2.2.1, h.2.2.2.1.cong (fun b b0 b1 => f.1 b (by omega)), hq, hT⟩
theorem k_nxt (G : zOK g) (hS : zS_T S t) (hx : xB x) (hd : t + 3 ≤ n ∨ n + 41 ≤ t) (hB : tB t x im0) (hM : cX t n im0 x im q A) {Q : zIm → Prop} (hQ : ∀ im', cX t n im0 x im' (tE x q) A → im' (t + 2) = im (t + 2) → Q im') : zCV g yX5_nextToken M_X5_nextToken [.ref t] S im Q := by
  have be := tE_bd hM.2.2.2.2.1
  exact k_nextToken G hS hx be.2.1 (hM.tb hd hB) hM.2.2.2.2.2.1 (fun im' f1 t1 => hQ im' (hM.fr hd f1 be.2.1 t1) (f1.1 _ (by omega)))
theorem k_fail (G : zOK g) (hS : zS_T S t) (hM : cX t n im0 x im q A) {c : Int} (cc : zc c) {Q : Int → zIm → Prop} (hQ : ∀ im', eC t n im0 im' c (tS x q) → Q (-1) im') : zCI g yX5_fail M_X5_fail [.ref t, .int (zi c)] S im Q := by
  refine v_X5_fail G hS cc (fun im1 e1 im4 e4 => ?_)
  have k7 : im1 t 7 = (tS x q : Int) := by rw [e1, zst_o (by omega)]; exact hM.2.2.2.2.2.2.2.1
  rw [k7] at e4
  exact hQ im4 ⟨fun b b0 b1 hb => by rw [e4, zst_n b0, e1, zst_n b0]; exact hM.1 b b0 b1 hb, by rw [e4, zst_o (by omega), e1, zst_o (by omega)]; exact hM.2.1, by rw [e4, zst_o (by omega), e1, zst_s], by rw [e4, zst_s]⟩
theorem k_within (G : zOK g) {p l h : Int} (cp : zc p) (cl : zc l) (ch : zc h) {Q : Int → zIm → Prop} (ht : l ≤ p ∧ p ≤ h → Q 1 im) (hf : ¬ (l ≤ p ∧ p ≤ h) → Q 0 im) : zCI g yX7_within M_X7_within [.int (zi p), .int (zi l), .int (zi h)] S im Q :=
  v_X7_within G cp cl ch ⟨fun e => hf (by omega), fun e => ⟨fun e2 => hf (by omega), fun e2 => ht ⟨e, e2⟩⟩⟩
theorem k_num1 (hM : cX t n im0 x im q A) (hk : tK x q = 2) : im t 8 = min 1000 (tV x q) ∧ 0 ≤ tV x q ∧ tV x q ≤ 100000 := ⟨hM.2.2.2.2.2.2.2.2 hk, tV_bd hM.2.2.2.2.1⟩
theorem k_win (G : zOK g) (hM : cX t n im0 x im q A) (hk : tK x q = 2) {lo hi : Int} (l0 : 0 ≤ lo) (l1 : lo ≤ 100) (h1 : hi ≤ 100) (h0 : -10 ≤ hi) {P : Prop} (hP : P ↔ (lo ≤ tV x q ∧ tV x q ≤ hi)) {Q : Int → zIm → Prop} (ht : P → Q 1 im) (hf : ¬ P → Q 0 im) : zCI g yX7_within M_X7_within [.int (zi (im t 8)), .int (zi lo), .int (zi hi)] S im Q := by
  obtain ⟨e8, v0, v1⟩ := k_num1 hM hk
  rw [e8]
  exact k_within G (zc_of (by omega) (by omega)) (zc_of (by omega) (by omega)) (zc_of (by omega) (by omega)) (fun h => ht (hP.2 (by omega))) (fun h => hf (fun hh => h (by have := hP.1 hh; omega)))
theorem k_sB (G : zOK g) (hN : zS_N S n) (hM : cX t n im0 x im q A) (hG : gB A.1) (hk : tK x q = 2) {P : Prop} (hP : P ↔ (1 ≤ tV x q ∧ tV x q ≤ A.1 3 - 1)) {Q : Int → zIm → Prop} (ht : P → Q 1 im) (hf : ¬ P → Q 0 im) : zCI g yX4_isBase M_X4_isBase [.ref (n + 3), .int (zi (im t 8))] S im Q := by
  obtain ⟨e8, v0, v1⟩ := k_num1 hM hk
  have g3 := hG.2.2.2.1
  have e := hM.ns.st
  rw [e8]
  refine v_X4_isBase G (zN_S hN) (zc_of (by omega) (by omega)) ⟨fun e1 => hf (fun hh => by have := hP.1 hh; omega), fun e1 => ⟨fun e2 => hf (fun hh => by have := hP.1 hh; omega), fun e2 => ht (hP.2 (by omega))⟩⟩
theorem k_sS (G : zOK g) (hN : zS_N S n) (hM : cX t n im0 x im q A) (hG : gB A.1) (hk : tK x q = 2) {P : Prop} (hP : P ↔ (0 ≤ tV x q ∧ tV x q ≤ A.1 3 - 1)) {Q : Int → zIm → Prop} (ht : P → Q 1 im) (hf : ¬ P → Q 0 im) : zCI g yX4_isSite M_X4_isSite [.ref (n + 3), .int (zi (im t 8))] S im Q := by
  obtain ⟨e8, v0, v1⟩ := k_num1 hM hk
  have g3 := hG.2.2.2.1
  have e := hM.ns.st
  rw [e8]
  refine v_X4_isSite G (zN_S hN) (zc_of (by omega) (by omega)) ⟨fun e1 => hf (fun hh => by have := hP.1 hh; omega), fun e1 => ⟨fun e2 => hf (fun hh => by have := hP.1 hh; omega), fun e2 => ht (hP.2 (by omega))⟩⟩
theorem k_sI (G : zOK g) (hN : zS_N S n) (hM : cX t n im0 x im q A) (hG : gB A.1) (hk : tK x q = 2) {P : Prop} (hP : P ↔ (0 ≤ tV x q ∧ tV x q ≤ A.1 2 - 1)) {Q : Int → zIm → Prop} (ht : P → Q 1 im) (hf : ¬ P → Q 0 im) : zCI g yX4_isItem M_X4_isItem [.ref (n + 3), .int (zi (im t 8))] S im Q := by
  obtain ⟨e8, v0, v1⟩ := k_num1 hM hk
  have g2 := hG.2.2.1
  have e := hM.ns.it
  rw [e8]
  refine v_X4_isItem G (zN_S hN) (zc_of (by omega) (by omega)) ⟨fun e1 => hf (fun hh => by have := hP.1 hh; omega), fun e1 => ⟨fun e2 => hf (fun hh => by have := hP.1 hh; omega), fun e2 => ht (hP.2 (by omega))⟩⟩
theorem k_cellA (G : zOK g) (hS : zS_T S t) (hN : zS_N S n) (hM : cX t n im0 x im q A) (hG : gB A.1) (hk : tK x q = 2) {w k v0 : Int} (hw : w = 2 ∨ w = 4 ∨ w = 5 ∨ w = 6) (k0 : 0 ≤ k) (k2 : k ≤ 2) {Q : Int → zIm → Prop} (ht : rgS w k A v0 (tV x q) → Q 1 im) (hf : ¬ rgS w k A v0 (tV x q) → Q 0 im) : zCI g yX5_isCellArgument M_X5_isCellArgument [.ref t, .int (zi w), .int (zi k), .ref (n + 3)] S im (fun r im' => (r = 0 ∨ r = 1) ∧ Q r im') := by
  have er (P : Prop) (hP : P ↔ (if k = 0 then (if w = 2 then 0 ≤ tV x q ∧ tV x q ≤ A.1 3 - 1 else 1 ≤ tV x q ∧ tV x q ≤ A.1 3 - 1) else if k = 1 then 0 ≤ tV x q ∧ tV x q ≤ A.1 2 - 1 else 0 ≤ tV x q ∧ tV x q ≤ mxS w)) : rgS w k A v0 (tV x q) ↔ P := by
    rw [hP]
    unfold rgS
    rw [if_neg (by omega), if_neg (by omega), if_neg (by omega), if_neg (by omega)]
  refine v_X5_isCellArgument G hS (zc_of (by omega) (by omega)) (zc_of (by omega) (by omega)) (zN_S hN) ⟨fun h0 => ⟨fun h1 => ?_, fun h1 => ?_⟩, fun h0 => ⟨fun h2 => ?_, fun h2 => ?_⟩⟩
  · have rr : rgS w k A v0 (tV x q) ↔ (0 ≤ tV x q ∧ tV x q ≤ mxS w) := er _ (by rw [if_neg h0, if_neg h1])
    have go (v : Int) (hv : mxS w = v) (v1 : v ≤ 100) (v2 : 0 ≤ v) : zCI g yX7_within M_X7_within [.int (zi (im t 8)), .int (zi 0), .int (zi v)] S im (fun r5 im6 => ((r5 = 0 ∨ r5 = 1) ∧ ((r5 = 0 ∨ r5 = 1) ∧ Q r5 im6))) := by
      rw [hv] at rr
      exact k_win G hM hk (by omega) (by omega) v1 (by omega) rr (fun h => ⟨Or.inr rfl, Or.inr rfl, ht h⟩) (fun h => ⟨Or.inl rfl, Or.inl rfl, hf h⟩)
    refine v_X5_mostOf G (zc_of (by omega) (by omega)) ⟨fun h => go 20 (by rw [h]; rfl) (by omega) (by omega), fun h => absurd h (by omega), fun h => go 10 (by rw [h]; rfl) (by omega) (by omega), fun h => go 20 (by rw [h]; rfl) (by omega) (by omega), fun h => go 100 (by rw [show w = 6 from by omega]; rfl) (by omega) (by omega)⟩
  · exact k_sI G hN hM hG hk (er _ (by rw [if_neg h0, if_pos h1])) (fun h => ⟨Or.inr rfl, Or.inr rfl, ht h⟩) (fun h => ⟨Or.inl rfl, Or.inl rfl, hf h⟩)
  · exact k_sB G hN hM hG hk (er _ (by rw [if_pos h0, if_neg h2])) (fun h => ⟨Or.inr rfl, Or.inr rfl, ht h⟩) (fun h => ⟨Or.inl rfl, Or.inl rfl, hf h⟩)
  · exact k_sS G hN hM hG hk (er _ (by rw [if_pos h0, if_pos h2])) (fun h => ⟨Or.inr rfl, Or.inr rfl, ht h⟩) (fun h => ⟨Or.inl rfl, Or.inl rfl, hf h⟩)
theorem k_linkA (G : zOK g) (hS : zS_T S t) (hN : zS_N S n) (hM : cX t n im0 x im q A) (hG : gB A.1) (hk : tK x q = 2) {k v0 : Int} (k0 : 0 ≤ k) (k2 : k ≤ 2) (hv : k = 1 → im (t + 2) 0 = v0 ∧ v0 ≤ 100) {Q : Int → zIm → Prop} (ht : rgS 3 k A v0 (tV x q) → Q 1 im) (hf : ¬ rgS 3 k A v0 (tV x q) → Q 0 im) : zCI g yX5_isLinkArgument M_X5_isLinkArgument [.ref t, .int (zi k), .ref (n + 3)] S im (fun r im' => (r = 0 ∨ r = 1) ∧ Q r im') := by
  obtain ⟨e8, v1, v2⟩ := k_num1 hM hk
  have g3 := hG.2.2.2.1
  have er : rgS 3 k A v0 (tV x q) ↔ (if k = 2 then 1 ≤ tV x q ∧ tV x q ≤ 20 else if k = 0 then 1 ≤ tV x q ∧ tV x q ≤ A.1 3 - 1 else (1 ≤ tV x q ∧ tV x q ≤ A.1 3 - 1) ∧ tV x q ≠ v0) := Iff.rfl
  refine v_X5_isLinkArgument G hS (zc_of (by omega) (by omega)) (zN_S hN) ⟨fun h2 => ?_, fun h2 => ?_⟩
  · rw [if_neg h2] at er
    refine k_sB G hN hM hG hk (P := 1 ≤ tV x q ∧ tV x q ≤ A.1 3 - 1) Iff.rfl (fun hp => ⟨fun h => absurd h (by decide), fun _ => ⟨fun h0 => ?_, fun h0 => ?_⟩⟩) (fun hp => ⟨fun _ => ⟨Or.inl rfl, hf (fun hh => hp ?_)⟩, fun h => absurd rfl h⟩)
    · exact ⟨Or.inr rfl, ht (er.2 (by rw [if_pos h0]; exact hp))⟩
    · rw [if_neg h0] at er
      have hv' := hv (by omega)
      rw [e8, hv'.1]
      refine ⟨fun h => ⟨Or.inl rfl, hf (fun hh => by have := er.1 hh; omega)⟩, fun h => ⟨Or.inr rfl, ht (er.2 ⟨hp, by omega⟩)⟩⟩
    · have := er.1 hh
      by_cases h0 : k = 0
      · rw [if_pos h0] at this; exact this
      · rw [if_neg h0] at this; exact this.1
  · rw [if_pos h2] at er
    exact k_win G hM hk (by omega) (by omega) (by omega) (by omega) er (fun h => ⟨Or.inr rfl, Or.inr rfl, ht h⟩) (fun h => ⟨Or.inl rfl, Or.inl rfl, hf h⟩)
theorem k_inR (G : zOK g) (hS : zS_T S t) (hN : zS_N S n) (hM : cX t n im0 x im q A) (hG : gB A.1) (hk : tK x q = 2) {w k v0 : Int} (w0 : 0 ≤ w) (w7 : w ≤ 7) (k0 : 0 ≤ k) (k2 : k ≤ 2) (hv : w = 3 → k = 1 → im (t + 2) 0 = v0 ∧ v0 ≤ 100) {Q : Int → zIm → Prop} (ht : rgS w k A v0 (tV x q) → Q 1 im) (hf : ¬ rgS w k A v0 (tV x q) → Q 0 im) : zCI g yX5_isInRange M_X5_isInRange [.ref t, .int (zi w), .int (zi k), .ref (n + 3)] S im Q := by
  have two (r : Int) (im' : zIm) : ((r = 0 ∨ r = 1) ∧ Q r im') = ((r = 0 ∨ r = 1) ∧ Q r im') := rfl
  refine v_X5_isInRange G hS (zc_of (by omega) (by omega)) (zc_of (by omega) (by omega)) (zN_S hN) ⟨fun h => ⟨fun h1 => ?_, fun h1 => ?_⟩, fun h => ?_, fun h => ?_, fun h => ?_, fun h => ?_, fun h => ?_, fun h => ?_, fun h => ?_, fun h => absurd h (by omega)⟩
  · exact k_win G hM hk (by omega) (by omega) (by omega) (by omega) (P := rgS w k A v0 (tV x q)) (by unfold rgS; rw [if_pos h, if_neg h1]) (fun h => ⟨Or.inr rfl, ht h⟩) (fun h => ⟨Or.inl rfl, hf h⟩)
  · exact k_win G hM hk (by omega) (by omega) (by omega) (by omega) (P := rgS w k A v0 (tV x q)) (by unfold rgS; rw [if_pos h, if_pos h1]) (fun h => ⟨Or.inr rfl, ht h⟩) (fun h => ⟨Or.inl rfl, hf h⟩)
  · exact k_win G hM hk (by omega) (by omega) (by omega) (by omega) (P := rgS w k A v0 (tV x q)) (by unfold rgS; rw [if_neg (by omega), if_pos h]) (fun h => ⟨Or.inr rfl, ht h⟩) (fun h => ⟨Or.inl rfl, hf h⟩)
  · exact k_cellA G hS hN hM hG hk (Or.inl h) k0 k2 ht hf
  · subst h
    exact k_linkA G hS hN hM hG hk k0 k2 (hv rfl) ht hf
  · exact k_cellA G hS hN hM hG hk (Or.inr (Or.inl h)) k0 k2 ht hf
  · exact k_cellA G hS hN hM hG hk (Or.inr (Or.inr (Or.inl h))) k0 k2 ht hf
  · exact k_cellA G hS hN hM hG hk (Or.inr (Or.inr (Or.inr h))) k0 k2 ht hf
  · exact k_win G hM hk (by omega) (by omega) (by omega) (by omega) (P := rgS w k A v0 (tV x q)) (by unfold rgS; rw [if_neg (by omega), if_neg (by omega), if_neg (by omega), if_pos h]) (fun h => ⟨Or.inr rfl, ht h⟩) (fun h => ⟨Or.inl rfl, hf h⟩)
/-- one argument -/
theorem k_arg (G : zOK g) (hS : zS_T S t) (hN : zS_N S n) (hx : xB x) (hd : t + 3 ≤ n ∨ n + 41 ≤ t) (hB : tB t x im0) (hM : cX t n im0 x im q A) (hG : gB A.1) {w c v0 : Int} {k : Nat} (w0 : 0 ≤ w) (w7 : w ≤ 7) (k2 : k ≤ 2) (hc : (k : Int) < c) (hc3 : c ≤ 3) (hv : w = 3 → k = 1 → im (t + 2) 0 = v0 ∧ v0 ≤ 100) {Q : Int → zIm → Prop}
    (h1 : tK x q ≠ 2 → ∀ im', eC t n im0 im' 1 (tS x q) → Q (-1) im') (h2 : tK x q = 2 → ¬ rgS w k A v0 (tV x q) → ∀ im', eC t n im0 im' 2 (tS x q) → Q (-1) im')
    (h0 : tK x q = 2 → rgS w k A v0 (tV x q) → ∀ im', cX t n im0 x im' (tE x q) A → im' (t + 2) k = tV x q → (∀ j : Int, j ≠ k → im' (t + 2) j = im (t + 2) j) → zPI g M_X5_readStatement 72 [(0, .ref t), (1, .ref (n + 3)), (2, .int (zi w)), (3, .int (zi c)), (4, .int (zi ((k + 1 : Nat) : Int)))] S im' Q) :
    zPI g M_X5_readStatement 72 [(0, .ref t), (1, .ref (n + 3)), (2, .int (zi w)), (3, .int (zi c)), (4, .int (zi k))] S im Q := by
  have e6 : im t 6 = tK x q := hM.2.2.2.2.2.2.1
  refine v_X5_readStatement_72 G hS (zN_S hN) (zc_of (by omega) (by omega)) (zc_of (by omega) (by omega)) (zc_of (by omega) (by omega)) ⟨fun h => absurd h (by omega), fun _ => ⟨fun hk => ?_, fun hk => k_fail G hS hM (zc_of (by omega) (by omega)) (h1 (by rw [← e6]; exact hk))⟩⟩
  rw [e6] at hk
  obtain ⟨e8, v1, v2⟩ := k_num1 hM hk
  refine k_inR G hS hN hM hG hk (v0 := v0) w0 w7 (by omega) (by omega) (fun a b => hv a (by omega)) (fun hr => ⟨fun _ => ⟨⟨by omega, by omega⟩, fun im6 d6 => ?_⟩, fun h => absurd h (by decide)⟩) (fun hr => ⟨fun h => absurd rfl h, fun _ => k_fail G hS hM (zc_of (by omega) (by omega)) (h2 hk hr)⟩)
  have hle := rgS_le hG hr
  rw [e8, show min 1000 (tV x q) = tV x q from by omega] at d6
  have f6 : cX t n im0 x im6 q A := by
    have et : im6 t = im t := by rw [d6, zst_n (by omega)]
    refine ⟨fun b b0 b1 hb => by rw [d6, zst_n b1]; exact hM.1 b b0 b1 hb, by rw [et]; exact hM.2.1, by rw [et]; exact hM.2.2.1, hM.2.2.2.1.cong (fun b b0 b1 => by rw [d6, zst_n (by omega)]), hM.2.2.2.2.1, ?_⟩
    have := hM.2.2.2.2.2
    unfold cT at this ⊢
    rw [et]
    exact this
  refine k_nxt G hS hx hd hB f6 (fun im9 h9 e9 => ?_)
  rw [zwS (k := k) (by omega)]
  exact h0 hk hr im9 h9 (by rw [e9, d6, zst_s]) (fun j hj => by rw [e9, d6, zst_o hj])
/-- the semicolon -/
theorem k_semi (G : zOK g) (hS : zS_T S t) (hN : zS_N S n) (hx : xB x) (hd : t + 3 ≤ n ∨ n + 41 ≤ t) (hB : tB t x im0) (hM : cX t n im0 x im q A) {w c : Int} {k : Nat} (w0 : 0 ≤ w) (w7 : w ≤ 7) (k3 : k ≤ 3) (hc : c ≤ (k : Int)) (hc0 : 0 ≤ c) {Q : Int → zIm → Prop} (h1 : tK x q ≠ 3 → ∀ im', eC t n im0 im' 1 (tS x q) → Q (-1) im') (h0 : tK x q = 3 → ∀ im', cX t n im0 x im' (tE x q) A → im' (t + 2) = im (t + 2) → Q w im') :
    zPI g M_X5_readStatement 72 [(0, .ref t), (1, .ref (n + 3)), (2, .int (zi w)), (3, .int (zi c)), (4, .int (zi k))] S im Q := by
  have e6 : im t 6 = tK x q := hM.2.2.2.2.2.2.1
  refine v_X5_readStatement_72 G hS (zN_S hN) (zc_of (by omega) (by omega)) (zc_of (by omega) (by omega)) (zc_of (by omega) (by omega)) ⟨fun _ => ?_, fun h => absurd h (by omega)⟩
  rw [e6]
  exact ⟨fun hk => k_nxt G hS hx hd hB hM (h0 hk), fun hk => k_fail G hS hM (zc_of (by omega) (by omega)) (h1 hk)⟩
end PC2
theorem stS_1 {x : aX} {w : Int} {s : aQ} (h : (s1S x w s).2.2.1 ≠ 0) : stS x w s = s1S x w s := by
  have e2 : s2S x w s = s1S x w s := argS_e h
  have e3 : s3S x w s = s1S x w s := by unfold s3S; rw [e2]; exact argS_e h
  have e4 : s4S x w s = s1S x w s := by unfold s4S; rw [e3]; exact argS_e h
  unfold stS bdS
  split
  · rw [e2, upS_e h, finS_e h]
  · rw [e4, upS_e h, finS_e h]
theorem stS_2 {x : aX} {w : Int} {s : aQ} (h : (s2S x w s).2.2.1 ≠ 0) : stS x w s = s2S x w s := by
  have e3 : s3S x w s = s2S x w s := argS_e h
  have e4 : s4S x w s = s2S x w s := by unfold s4S; rw [e3]; exact argS_e h
  unfold stS bdS
  split
  · rw [upS_e h, finS_e h]
  · rw [e4, upS_e h, finS_e h]
theorem stS_3 {x : aX} {w : Int} {s : aQ} (ho : ¬ (w = 1 ∨ w = 7)) (h : (s3S x w s).2.2.1 ≠ 0) : stS x w s = s3S x w s := by
  have e4 : s4S x w s = s3S x w s := argS_e h
  unfold stS bdS
  rw [if_neg ho, e4, upS_e h, finS_e h]
theorem stS_4 {x : aX} {w : Int} {s : aQ} (ho : ¬ (w = 1 ∨ w = 7)) (h : (s4S x w s).2.2.1 ≠ 0) : stS x w s = s4S x w s := by
  unfold stS bdS
  rw [if_neg ho, upS_e h, finS_e h]
