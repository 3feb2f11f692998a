/-! the public methods: a code (0: none thrown), a value, what becomes of the network -/
abbrev aO : Type := Int × Int × aA
def mP (a : Nat) (im im' : zIm) (A : aA) (t : Int) : Prop := (∀ b, b ≠ a → b ≠ a + 1 → b ≠ a + 2 → im' b = im b) ∧ (∀ f, f ≠ 4 → f ≠ 5 → im' a f = im a f) ∧ im' a 4 = t ∧ mRep (im' (a + 1)) A
theorem mP_of {a : Nat} {im im0 im' : zIm} {A : aA} {t : Int} (h : mS a im0 im' A) (h0 : ∀ b, b ≠ a → b ≠ a + 1 → b ≠ a + 2 → im0 b = im b) (h1 : ∀ f, f ≠ 4 → f ≠ 5 → im0 a f = im a f) (h2 : im0 a 4 = t) : mP a im im' A t :=
  ⟨fun b b0 b1 b2 => by rw [h.1 b b1]; exact h0 b b0 b1 b2, fun f f0 f1 => by rw [h.1 a (by omega)]; exact h1 f f0 f1, by rw [h.1 a (by omega)]; exact h2, h.2⟩
theorem mS.p {a : Nat} {im im' : zIm} {A : aA} {t : Int} (h : mS a (zst im a 4 t) im' A) : mP a im im' A t :=
  mP_of h (fun b b0 _ _ => zst_n b0) (fun f f0 _ => by rw [zst_at, if_neg (fun hh => f0 hh.2)]) (by rw [zst_at, if_pos ⟨rfl, rfl⟩])
theorem mS.f {a : Nat} {im im1 : zIm} {A : aA} {t u : Int} (h : mS a (zst im a 4 u) im1 A) : mS a (zst im a 4 t) (zst im1 a 4 t) A := by
  refine ⟨fun b hb => ?_, by rw [zst_n (by omega)]; exact h.2⟩
  by_cases e : b = a
  · subst e
    funext j
    rw [zst_at, zst_at, h.1 b hb, zst_at]
    by_cases e2 : j = 4 <;> simp [e2]
  · rw [zst_n e, zst_n e, h.1 b hb, zst_n e]
theorem mS.i {a : Nat} {im im1 : zIm} {A : aA} {t : Int} (h : mRep (im (a + 1)) A) (e : im1 = zst im a 4 t) : mS a (zst im a 4 t) im1 A := by
  rw [e]
  exact ⟨fun b _ => rfl, by rw [zst_n (by omega)]; exact h⟩
def aItem (A : aA) (p q r : Int) : aA := aG (aG (aG (aG A 2 (A.1 2 + 1)) (8 + 3 * A.1 2 + 0) p) (8 + 3 * A.1 2 + 1) q) (8 + 3 * A.1 2 + 2) r
def oItem (A : aA) (p q r : Int) : aO := if (1 ≤ p ∧ p ≤ 30) ∧ (1 ≤ q ∧ q ≤ 5) ∧ (1 ≤ r ∧ r ≤ 30) then (if A.1 2 = 4 then (2, 0, A) else (0, A.1 2, aItem A p q r)) else (1, 0, A)
def aBase (A : aA) (p : Int) : aA := aG (aG A (20 + A.1 3) p) 3 (A.1 3 + 1)
def oBase (A : aA) (p : Int) : aO := if 1 ≤ p ∧ p ≤ 20 then (if A.1 3 = 8 then (2, 0, A) else (0, A.1 3, aBase A p)) else (1, 0, A)
def aJoin (A : aA) (p q r : Int) : aA := aG (aG A (28 + 8 * p + q) r) (28 + 8 * q + p) r
def oLink (A : aA) (p q r : Int) : aO := if (1 ≤ p ∧ p < A.1 3) ∧ (1 ≤ q ∧ q < A.1 3) then (if p ≠ q ∧ 0 ≤ r ∧ r ≤ 20 then (0, A.1 (28 + 8 * p + q), aJoin A p q r) else (2, 0, A)) else (1, 0, A)
def oLevel (A : aA) (s i v : Int) : aO := if (0 ≤ s ∧ s < A.1 3) ∧ (0 ≤ i ∧ i < A.1 2) then (if 0 ≤ v ∧ v ≤ 20 then (if A.1 (92 + 4 * s + i) - v ≤ A.1 (124 + 4 * s + i) then (0, A.1 (92 + 4 * s + i), aLv A s i v) else (3, 0, A)) else (2, 0, A)) else (1, 0, A)
def oNum (t mx : Int) (A : aA) (b i v : Int) : aO := if (1 ≤ b ∧ b < A.1 3) ∧ (0 ≤ i ∧ i < A.1 2) then (if 0 ≤ v ∧ v ≤ mx then (0, A.1 (t + 4 * b + i), aG A (t + 4 * b + i) v) else (2, 0, A)) else (1, 0, A)
def oLim (A : aA) (v : Int) : aO := if 0 ≤ v ∧ v ≤ 20 then (0, A.1 1, aG A 1 v) else (1, 0, A)
noncomputable def oDem (A : aA) (b i p : Int) : aO := if (1 ≤ b ∧ b < A.1 3) ∧ (0 ≤ i ∧ i < A.1 2) then (if 0 ≤ p ∧ p ≤ 9 then (if 200 ≤ A.2.1.length ∨ 100 ≤ A.2.2.1.length then (3, 0, A) else (0, (if 0 < A.1 (124 + 4 * b + i) then 1 else 0), aOcc A b i p)) else (2, 0, A)) else (1, 0, A)
noncomputable def aDn : Nat → aA → aA
  | 0, A => A
  | k + 1, A => aDay (aDn k A)
noncomputable def oAdv (A : aA) (d : Int) : aO := if 1 ≤ d ∧ d ≤ 60 then (if A.1 0 + d ≤ 9999 then (0, A.1 0 + d, aDn d.toNat A) else (2, 0, A)) else (1, 0, A)
noncomputable def oRun (A : aA) (x d : Int) : aO := if 0 ≤ x ∧ 1 ≤ d ∧ d ≤ 30 then (if A.1 0 + d ≤ 9999 then (0, (aRun A x d.toNat).2.2, (aRun A x d.toNat).1) else (2, 0, A)) else (1, 0, A)
theorem aDn_ok {m : Int} {A : aA} (h : aW (A.1 0 + 1) m A) (k : Nat) (hd : A.1 0 + k ≤ 9999) : aW (A.1 0 + k + 1) m (aDn k A) ∧ (aDn k A).1 0 = A.1 0 + k := by
  induction k with
  | zero => exact ⟨by rw [show A.1 0 + ((0 : Nat) : Int) + 1 = A.1 0 + 1 from by omega]; exact h, by show A.1 0 = _; omega⟩
  | succ k ih =>
    obtain ⟨i1, i2⟩ := ih (by omega)
    have := aW.day (A := aDn k A) (m := m) (by rw [i2]; exact i1) (by rw [i2]; omega)
    rw [i2] at this
    refine ⟨?_, ?_⟩
    · rw [show A.1 0 + ((k + 1 : Nat) : Int) + 1 = A.1 0 + k + 1 + 1 from by omega]; exact this.1
    · show (aDay (aDn k A)).1 0 = _
      rw [this.2.1]; omega
section PB
variable {g : zG} {S : zSh} {im : zIm} {a : Nat} {A : aA}
theorem r_fail (G : zOK g) (hS : zS_M S a) {im1 : zIm} (h : mS a (zst im a 4 0) im1 A) {t : Int} (ct : zc t) {Q : Int → zIm → Prop} (hQ : ∀ im', mP a im im' A t → Q 0 im') : zCI g yX8_fail M_X8_fail [.ref a, .int (zi t)] S im1 Q :=
  c_fail G hS ct (hQ _ h.f.p)
theorem r_addItem (G : zOK g) (hS : zS_M S a) (hM : mRep (im (a + 1)) A) (hG : gB A.1) {p q r : Int} (cp : zc p) (cq : zc q) (cr : zc r) {Q : Int → zIm → Prop} (hQ : ∀ im', mP a im im' (oItem A p q r).2.2 (oItem A p q r).1 → Q (oItem A p q r).2.1 im') : zCI g yX8_addItem M_X8_addItem [.ref a, .int (zi p), .int (zi q), .int (zi r)] S im Q := by
  have g2 := hG.2.2.1
  refine v_X8_addItem G hS cp cq cr (fun im1 e1 => ?_)
  have h1 := mS.i hM e1
  have bad (hb : ¬ ((1 ≤ p ∧ p ≤ 30) ∧ (1 ≤ q ∧ q ≤ 5) ∧ (1 ≤ r ∧ r ≤ 30))) : zCI g yX8_fail M_X8_fail [.ref a, .int (zi 1)] S im1 (fun r im' => Q r im') := by
    have e : oItem A p q r = (1, 0, A) := by unfold oItem; rw [if_neg hb]
    rw [e] at hQ
    exact r_fail G hS h1 (zc_of (by omega) (by omega)) hQ
  refine c_between G cp (zc_of (by omega) (by omega)) (zc_of (by omega) (by omega)) (fun a1 a2 => ⟨fun h => absurd h (by decide), fun _ => ?_⟩) (fun a1 => ⟨fun _ => bad (by omega), fun h => absurd rfl h⟩)
  refine c_between G cq (zc_of (by omega) (by omega)) (zc_of (by omega) (by omega)) (fun b1 b2 => ⟨fun h => absurd h (by decide), fun _ => ?_⟩) (fun b1 => ⟨fun _ => bad (by omega), fun h => absurd rfl h⟩)
  refine c_between G cr (zc_of (by omega) (by omega)) (zc_of (by omega) (by omega)) (fun d1 d2 => ⟨fun _ => ?_, fun h => absurd h (by decide)⟩) (fun d1 => ⟨fun h => absurd rfl h, fun _ => bad (by omega)⟩)
  rw [h1.h (i := 2) (by omega) (by omega)]
  refine ⟨fun hn => ?_, fun hn => ?_⟩
  · have e : oItem A p q r = (0, A.1 2, aItem A p q r) := by unfold oItem; rw [if_pos ⟨⟨a1, a2⟩, ⟨b1, b2⟩, d1, d2⟩, if_neg hn]
    rw [e] at hQ
    refine v_X8_appendItem G hS cp cq cr ?_
    have e2 := h1.h (i := 2) (by omega) (by omega)
    refine c_append G hS (by omega) (by omega) (zc_of (by omega) (by omega)) (zc_of (by omega) (by omega)) (by omega) (by omega) ?_
    rw [e2]
    have h2 := h1.v (i := 2) (v := A.1 2 + 1) (im' := zsr im1 (a + 1) (zup (im1 (a + 1)) 2 (A.1 2 + 1))) rfl (by omega) (by omega)
    rw [zw_of (n := 8 + 3 * A.1 2 + 0) (by omega) (by omega), zw_of (n := 8 + 3 * A.1 2 + 1) (by omega) (by omega), zw_of (n := 8 + 3 * A.1 2 + 2) (by omega) (by omega)]
    refine ⟨⟨by omega, by omega⟩, fun i3 e3 => ⟨⟨by omega, by omega⟩, fun i4 e4 => ⟨⟨by omega, by omega⟩, fun i5 e5 => ?_⟩⟩⟩
    have h5 : mS a (zst im a 4 0) i5 (aItem A p q r) := ((h2.u e3 (by omega) (by omega)).u e4 (by omega) (by omega)).u e5 (by omega) (by omega)
    rw [h5.h (i := 2) (by omega) (by omega)]
    have z : (aItem A p q r).1 2 = A.1 2 + 1 := by unfold aItem; rw [aG_n (by omega), aG_n (by omega), aG_n (by omega), aG_s]
    rw [z, zw_of (by omega) (by omega), Int.add_sub_cancel]
    exact hQ i5 h5.p
  · have e : oItem A p q r = (2, 0, A) := by unfold oItem; rw [if_pos ⟨⟨a1, a2⟩, ⟨b1, b2⟩, d1, d2⟩, if_pos hn]
    rw [e] at hQ
    exact r_fail G hS h1 (zc_of (by omega) (by omega)) hQ
theorem r_addBase (G : zOK g) (hS : zS_M S a) (hM : mRep (im (a + 1)) A) (hG : gB A.1) {p : Int} (cp : zc p) {Q : Int → zIm → Prop} (hQ : ∀ im', mP a im im' (oBase A p).2.2 (oBase A p).1 → Q (oBase A p).2.1 im') : zCI g yX8_addBase M_X8_addBase [.ref a, .int (zi p)] S im Q := by
  have g3 := hG.2.2.2.1
  refine v_X8_addBase G hS cp (fun im1 e1 => ?_)
  have h1 := mS.i hM e1
  refine c_between G cp (zc_of (by omega) (by omega)) (zc_of (by omega) (by omega)) (fun a1 a2 => ⟨fun _ => ?_, fun h => absurd h (by decide)⟩) (fun a1 => ⟨fun h => absurd rfl h, fun _ => ?_⟩)
  · rw [h1.h (i := 3) (by omega) (by omega)]
    refine ⟨fun hn => ?_, fun hn => ?_⟩
    · have e : oBase A p = (0, A.1 3, aBase A p) := by unfold oBase; rw [if_pos ⟨a1, a2⟩, if_neg hn]
      rw [e] at hQ
      refine v_X8_appendBase G hS cp ?_
      rw [h1.h (i := 3) (by omega) (by omega), zw_of (n := 20 + A.1 3) (by omega) (by omega)]
      refine ⟨⟨by omega, by omega⟩, fun i2 e2 i3 e3 => ?_⟩
      have h2 := h1.u e2 (by omega) (by omega)
      rw [h2.h (i := 3) (by omega) (by omega), aG_n (by omega), zw_of (by omega) (by omega)] at e3
      have h3 : mS a (zst im a 4 0) i3 (aBase A p) := h2.v e3 (by omega) (by omega)
      rw [h3.h (i := 3) (by omega) (by omega)]
      have z : (aBase A p).1 3 = A.1 3 + 1 := aG_s
      rw [z, zw_of (by omega) (by omega), Int.add_sub_cancel]
      exact hQ i3 h3.p
    · have e : oBase A p = (2, 0, A) := by unfold oBase; rw [if_pos ⟨a1, a2⟩, if_pos hn]
      rw [e] at hQ
      exact r_fail G hS h1 (zc_of (by omega) (by omega)) hQ
  · have e : oBase A p = (1, 0, A) := by unfold oBase; rw [if_neg (by omega)]
    rw [e] at hQ
    exact r_fail G hS h1 (zc_of (by omega) (by omega)) hQ
theorem r_isBase (G : zOK g) (hS : zS_M S a) {im0 im1 : zIm} (h : mS a im0 im1 A) (hG : gB A.1) {p : Int} (cp : zc p) {Q : Int → zIm → Prop} (ht : 1 ≤ p → p < A.1 3 → Q 1 im1) (hf : ¬ (1 ≤ p ∧ p < A.1 3) → Q 0 im1) : zCI g yX8_isBase M_X8_isBase [.ref a, .int (zi p)] S im1 Q := by
  have g3 := hG.2.2.2.1
  have e := h.h (i := 3) (by omega) (by omega)
  exact c_isBase G hS cp (by omega) (fun h1 h2 => ht h1 (by omega)) (fun h1 => hf (by omega))
theorem r_isSite (G : zOK g) (hS : zS_M S a) {im0 im1 : zIm} (h : mS a im0 im1 A) (hG : gB A.1) {p : Int} (cp : zc p) {Q : Int → zIm → Prop} (ht : 0 ≤ p → p < A.1 3 → Q 1 im1) (hf : ¬ (0 ≤ p ∧ p < A.1 3) → Q 0 im1) : zCI g yX8_isSite M_X8_isSite [.ref a, .int (zi p)] S im1 Q := by
  have g3 := hG.2.2.2.1
  have e := h.h (i := 3) (by omega) (by omega)
  exact c_isSite G hS cp (by omega) (fun h1 h2 => ht h1 (by omega)) (fun h1 => hf (by omega))
theorem r_isItem (G : zOK g) (hS : zS_M S a) {im0 im1 : zIm} (h : mS a im0 im1 A) (hG : gB A.1) {p : Int} (cp : zc p) {Q : Int → zIm → Prop} (ht : 0 ≤ p → p < A.1 2 → Q 1 im1) (hf : ¬ (0 ≤ p ∧ p < A.1 2) → Q 0 im1) : zCI g yX8_isItem M_X8_isItem [.ref a, .int (zi p)] S im1 Q := by
  have g2 := hG.2.2.1
  have e := h.h (i := 2) (by omega) (by omega)
  exact c_isItem G hS cp (by omega) (fun h1 h2 => ht h1 (by omega)) (fun h1 => hf (by omega))
end PB
