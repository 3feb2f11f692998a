/-! the reference's parser -/
def pX (a : Nat) (im0 : zIm) (x : aX) (im : zIm) (s : aQ) : Prop := (∀ b, b ≠ a → b ≠ a + 1 → im b = im0 b) ∧ (∀ f, (f < 8 ∨ 15 < f) → im a f = im0 a f) ∧ mRep (im (a + 1)) s.2.1 ∧ s.1 ≤ x.2 ∧ mT a x im s.1 ∧ im a 13 = s.2.2.1 ∧ im a 14 = s.2.2.2
theorem pX.rb {a : Nat} {im0 im : zIm} {x : aX} {s : aQ} (h : pX a im0 x im s) (hB : rB a x im0) : rB a x im :=
  ⟨by rw [h.2.1 7 (by omega)]; exact hB.1, fun j j0 j1 => by rw [h.1 (a + 5) (by omega) (by omega)]; exact hB.2 j j0 j1⟩
theorem pX.up {a : Nat} {im0 im im' : zIm} {x : aX} {s : aQ} {A : aA} (h : pX a im0 x im s) (h' : mS a im im' A) : pX a im0 x im' (s.1, A, s.2.2) := by
  have e : im' a = im a := h'.1 a (by omega)
  refine ⟨fun b b0 b1 => by rw [h'.1 b b1]; exact h.1 b b0 b1, fun f hf => by rw [e]; exact h.2.1 f hf, h'.2, h.2.2.2.1, ?_, by rw [e]; exact h.2.2.2.2.2.1, by rw [e]; exact h.2.2.2.2.2.2⟩
  have := h.2.2.2.2.1
  unfold mT at this ⊢
  rw [e]
  exact this
noncomputable def s1S (x : aX) (w : Int) (s : aQ) : aQ := advS x (rqS x (capS w s.2.1) 3 s)
noncomputable def s2S (x : aX) (w : Int) (s : aQ) : aQ := argS x (rgS w 0 s.2.1 0) (s1S x w s)
noncomputable def s3S (x : aX) (w : Int) (s : aQ) : aQ := argS x (rgS w 1 s.2.1 (tV x (s1S x w s).1)) (s2S x w s)
noncomputable def s4S (x : aX) (w : Int) (s : aQ) : aQ := argS x (rgS w 2 s.2.1 (tV x (s1S x w s).1)) (s3S x w s)
noncomputable def bdS (x : aX) (w : Int) (s : aQ) : aQ := if w = 1 ∨ w = 7 then upS (s2S x w s) (apS w s.2.1 (tV x (s1S x w s).1) 0 0) else upS (s4S x w s) (apS w s.2.1 (tV x (s1S x w s).1) (tV x (s2S x w s).1) (tV x (s3S x w s).1))
noncomputable def stS (x : aX) (w : Int) (s : aQ) : aQ := finS x (bdS x w s)
noncomputable def psS (x : aX) (s : aQ) : aQ := if wk x s.1 = -1 then rqS x False 1 s else stS x (wk x s.1) s
theorem s1S_A {x : aX} {w : Int} {s : aQ} : (s1S x w s).2.1 = s.2.1 := by
  unfold s1S advS
  split <;> exact rqS_1.2
theorem s2S_A {x : aX} {w : Int} {s : aQ} : (s2S x w s).2.1 = s.2.1 := argS_A.trans s1S_A
theorem s3S_A {x : aX} {w : Int} {s : aQ} : (s3S x w s).2.1 = s.2.1 := argS_A.trans s2S_A
theorem s4S_A {x : aX} {w : Int} {s : aQ} : (s4S x w s).2.1 = s.2.1 := argS_A.trans s3S_A
theorem s1S_ok {x : aX} {w : Int} {s : aQ} (h : (s1S x w s).2.2.1 = 0) : s.2.2.1 = 0 ∧ capS w s.2.1 := by
  unfold s1S at h
  by_cases hc : s.2.2.1 = 0
  · refine ⟨hc, ?_⟩
    by_cases hp : capS w s.2.1
    · exact hp
    · rw [rqS_n hc hp] at h
      exact absurd h (show ¬ (3 : Int) = 0 by decide)
  · rw [rqS_e hc] at h
    unfold advS at h
    rw [if_neg hc] at h
    exact absurd h hc
theorem s2S_ok {x : aX} {w : Int} {s : aQ} (h : (s2S x w s).2.2.1 = 0) : s.2.2.1 = 0 ∧ capS w s.2.1 ∧ rgS w 0 s.2.1 0 (tV x (s1S x w s).1) := by
  obtain ⟨h1, _, h3⟩ := argS_ok h
  obtain ⟨k1, k2⟩ := s1S_ok h1
  exact ⟨k1, k2, h3⟩
theorem s4S_ok {x : aX} {w : Int} {s : aQ} (h : (s4S x w s).2.2.1 = 0) : s.2.2.1 = 0 ∧ capS w s.2.1 ∧ rgS w 0 s.2.1 0 (tV x (s1S x w s).1) ∧ rgS w 1 s.2.1 (tV x (s1S x w s).1) (tV x (s2S x w s).1) ∧ rgS w 2 s.2.1 (tV x (s1S x w s).1) (tV x (s3S x w s).1) := by
  obtain ⟨h1, _, h3⟩ := argS_ok h
  obtain ⟨i1, _, i3⟩ := argS_ok h1
  obtain ⟨k1, k2, k3⟩ := s2S_ok i1
  exact ⟨k1, k2, k3, i3, h3⟩
theorem argS_link {x : aX} {lo hi b : Int} {s : aQ} : argS x (fun v => lo ≤ v ∧ v ≤ hi) (rqS x (tK x s.1 ≠ 2 ∨ tV x s.1 ≠ b) 2 s) = argS x (fun v => (lo ≤ v ∧ v ≤ hi) ∧ v ≠ b) s := by
  obtain ⟨q, A, c, p⟩ := s
  by_cases hc : c = 0
  · subst hc
    by_cases h1 : tK x q = 2
    · by_cases h2 : tV x q = b
      · rw [rqS_n (s := (q, A, 0, p)) rfl (fun hh => hh.elim (fun h => h h1) (fun h => h h2)), argS_e (show (2 : Int) ≠ 0 by decide), argS_2 h1 (fun hh => hh.2 h2)]
      · rw [rqS_y (s := (q, A, 0, p)) (Or.inr h2)]
        by_cases h3 : lo ≤ tV x q ∧ tV x q ≤ hi
        · rw [argS_0 h1 h3, argS_0 h1 ⟨h3, h2⟩]
        · rw [argS_2 h1 h3, argS_2 h1 (fun hh => h3 hh.1)]
    · rw [rqS_y (s := (q, A, 0, p)) (Or.inl h1), argS_1 h1, argS_1 h1]
  · rw [rqS_e (s := (q, A, c, p)) hc, argS_e (s := (q, A, c, p)) hc, argS_e (s := (q, A, c, p)) hc]
section PR
variable {g : zG} {S : zSh} {im im0 : zIm} {a : Nat} {x : aX} {s : aQ}
theorem c_rq (G : zOK g) (hS : zS_M S a) (hM : pX a im0 x im s) {P : Prop} {v c : Int} (hv : (P ∧ v = 1) ∨ (¬ P ∧ v = 0)) (cc : zc c) {Q : zIm → Prop} (hQ : ∀ im', pX a im0 x im' (rqS x P c s) → Q im') : zCV g yX8_require M_X8_require [.ref a, .int (zi v), .int (zi c)] S im Q := by
  obtain ⟨h1, h2, h3, h4, h5, h6, h7⟩ := id hM
  refine v_X8_require G hS (zc_of (by omega) (by omega)) cc ⟨fun h => ?_, fun h => ⟨fun h' => ?_, fun h' im2 e2 im5 e5 => ?_⟩⟩
  · rcases hv with hv | hv
    · rw [rqS_y hv.1] at hQ; exact hQ im hM
    · exact absurd hv.2 h
  · rw [rqS_e (by rw [← h6]; exact h')] at hQ; exact hQ im hM
  · rcases hv with hv | hv
    · omega
    · rw [rqS_n (by rw [← h6]; exact h') hv.1] at hQ
      have k9 : im2 a 9 = (tS x s.1 : Int) := by rw [e2, zst_o (by omega)]; exact h5.2.1
      rw [k9] at e5
      have o (f : Int) (f3 : f ≠ 13) (f4 : f ≠ 14) : im5 a f = im a f := by rw [e5, zst_o f4, e2, zst_o f3]
      refine hQ im5 ⟨fun b b0 b1 => by rw [e5, zst_n b0, e2, zst_n b0]; exact h1 b b0 b1, fun f hf => by rw [o f (by omega) (by omega)]; exact h2 f hf, by rw [e5, zst_n (by omega), e2, zst_n (by omega)]; exact h3, h4, ?_, by rw [e5, zst_o (by omega), e2, zst_s], by rw [e5, zst_s]⟩
      unfold mT at h5 ⊢
      rw [o 8 (by omega) (by omega), o 9 (by omega) (by omega), o 10 (by omega) (by omega), o 12 (by omega) (by omega), o 11 (by omega) (by omega), o 15 (by omega) (by omega)]
      exact h5
theorem c_adv (G : zOK g) (hS : zS_M S a) (hx : xB x) (hB : rB a x im0) (hM : pX a im0 x im s) {Q : zIm → Prop} (hQ : ∀ im', pX a im0 x im' (advS x s) → Q im') : zCV g yX8_advanceToken M_X8_advanceToken [.ref a] S im Q := by
  obtain ⟨h1, h2, h3, h4, h5, h6, h7⟩ := id hM
  have be := tE_bd h4
  refine v_X8_advanceToken G hS ⟨fun h => ?_, fun h => ?_⟩
  · have e : advS x s = s := by unfold advS; rw [if_neg (by rw [← h6]; exact h)]
    rw [e] at hQ; exact hQ im hM
  · have e : advS x s = (tE x s.1, s.2) := by unfold advS; rw [if_pos (by rw [← h6]; exact h)]
    rw [e] at hQ
    refine c_nextToken G hS hx be.2.1 (hM.rb hB) h5.1 (fun im' f1 t1 => hQ im' ⟨fun b b0 b1 => by rw [f1.1 b b0]; exact h1 b b0 b1, fun f hf => by rw [f1.2 f (by omega)]; exact h2 f hf, by rw [f1.1 (a + 1) (by omega)]; exact h3, be.2.1, t1, by rw [f1.2 13 (by omega)]; exact h6, by rw [f1.2 14 (by omega)]; exact h7⟩)
theorem c_pnt (G : zOK g) (hS : zS_M S a) (hx : xB x) (hB : rB a x im0) (hM : pX a im0 x im s) {lo hi : Int} (cl : zc lo) (ch : zc hi) {Q : Int → zIm → Prop} (hQ : ∀ im', pX a im0 x im' (advS x (rqS x (lo ≤ tV x s.1 ∧ tV x s.1 ≤ hi) 2 s)) → Q (tV x s.1) im') :
    zCI g yX8_isBetween M_X8_isBetween [.int (zi (im a 12)), .int (zi lo), .int (zi hi)] S im (fun r5 im6 => zCV g yX8_require M_X8_require [.ref a, .int (zi r5), .int (zi 2)] S im6 (fun im8 => zCV g yX8_advanceToken M_X8_advanceToken [.ref a] S im8 (fun im11 => Q (im8 a 12) im11))) := by
  have vb := tV_bd hM.2.2.2.1
  have tl (v : Int) (hv : ((lo ≤ tV x s.1 ∧ tV x s.1 ≤ hi) ∧ v = 1) ∨ (¬ (lo ≤ tV x s.1 ∧ tV x s.1 ≤ hi) ∧ v = 0)) : zCV g yX8_require M_X8_require [.ref a, .int (zi v), .int (zi 2)] S im (fun im8 => zCV g yX8_advanceToken M_X8_advanceToken [.ref a] S im8 (fun im11 => Q (im8 a 12) im11)) := by
    refine c_rq G hS hM hv (zc_of (by omega) (by omega)) (fun im8 h8 => ?_)
    have e : im8 a 12 = tV x s.1 := by rw [h8.2.2.2.2.1.2.2.2.1, rqS_1.1]
    rw [e]
    exact c_adv G hS hx hB h8 hQ
  rw [hM.2.2.2.2.1.2.2.2.1]
  exact c_between G (zc_of (by omega) (by omega)) cl ch (fun h1 h2 => tl 1 (Or.inl ⟨⟨h1, h2⟩, rfl⟩)) (fun h => tl 0 (Or.inr ⟨by omega, rfl⟩))
theorem c_pn (G : zOK g) (hS : zS_M S a) (hx : xB x) (hB : rB a x im0) (hM : pX a im0 x im s) {lo hi : Int} (cl : zc lo) (ch : zc hi) {Q : Int → zIm → Prop} (hQ : ∀ im', pX a im0 x im' (argS x (fun v => lo ≤ v ∧ v ≤ hi) s) → Q (tV x s.1) im') : zCI g yX8_parseNumber M_X8_parseNumber [.ref a, .int (zi lo), .int (zi hi)] S im Q := by
  have rk := rK_s (tK x s.1)
  refine v_X8_parseNumber G hS cl ch ?_
  rw [hM.2.2.2.2.1.2.2.1]
  have tl (im2 : zIm) (h2 : pX a im0 x im2 (rqS x (tK x s.1 = 2) 1 s)) := c_pnt (Q := Q) G hS hx hB h2 cl ch
  rw [rqS_1.1] at tl
  exact ⟨fun h => c_rq G hS hM (P := tK x s.1 = 2) (Or.inr ⟨fun hh => h (rk.2.2.1.2 hh), rfl⟩) (zc_of (by omega) (by omega)) (fun im2 h2 => tl im2 h2 hQ), fun h => c_rq G hS hM (P := tK x s.1 = 2) (Or.inl ⟨rk.2.2.1.1 h, rfl⟩) (zc_of (by omega) (by omega)) (fun im2 h2 => tl im2 h2 hQ)⟩
theorem c_pB (G : zOK g) (hS : zS_M S a) (hx : xB x) (hB : rB a x im0) (hM : pX a im0 x im s) (hG : gB s.2.1.1) {Q : Int → zIm → Prop} (hQ : ∀ im', pX a im0 x im' (argS x (fun v => 1 ≤ v ∧ v ≤ s.2.1.1 3 - 1) s) → Q (tV x s.1) im') : zCI g yX8_parseBase M_X8_parseBase [.ref a] S im Q := by
  have g3 := hG.2.2.2.1
  refine v_X8_parseBase G hS ?_
  rw [hM.2.2.1.g (i := 3) (by omega) (by omega) (by omega) (by omega) (by omega), zw_of (by omega) (by omega)]
  exact c_pn G hS hx hB hM (zc_of (by omega) (by omega)) (zc_of (by omega) (by omega)) hQ
theorem c_pI (G : zOK g) (hS : zS_M S a) (hx : xB x) (hB : rB a x im0) (hM : pX a im0 x im s) (hG : gB s.2.1.1) {Q : Int → zIm → Prop} (hQ : ∀ im', pX a im0 x im' (argS x (fun v => 0 ≤ v ∧ v ≤ s.2.1.1 2 - 1) s) → Q (tV x s.1) im') : zCI g yX8_parseItem M_X8_parseItem [.ref a] S im Q := by
  have g2 := hG.2.2.1
  refine v_X8_parseItem G hS ?_
  rw [hM.2.2.1.g (i := 2) (by omega) (by omega) (by omega) (by omega) (by omega), zw_of (by omega) (by omega)]
  exact c_pn G hS hx hB hM zc_0 (zc_of (by omega) (by omega)) hQ
theorem c_fin (G : zOK g) (hS : zS_M S a) (hx : xB x) (hB : rB a x im0) (hM : pX a im0 x im s) {Q : zIm → Prop} (hQ : ∀ im', pX a im0 x im' (finS x s) → Q im') :
    ((¬ (im a 10) = 4 → zCV g yX8_require M_X8_require [.ref a, .int (zi 0), .int (zi 1)] S im (fun im9 => zCV g yX8_advanceToken M_X8_advanceToken [.ref a] S im9 (fun im11 => Q im11))) ∧ ((im a 10) = 4 → zCV g yX8_require M_X8_require [.ref a, .int (zi 1), .int (zi 1)] S im (fun im9 => zCV g yX8_advanceToken M_X8_advanceToken [.ref a] S im9 (fun im11 => Q im11)))) := by
  have rk := rK_s (tK x s.1)
  rw [hM.2.2.2.2.1.2.2.1]
  exact ⟨fun h => c_rq G hS hM (P := tK x s.1 = 3) (Or.inr ⟨fun hh => h (rk.2.2.2.2 hh), rfl⟩) (zc_of (by omega) (by omega)) (fun im2 h2 => c_adv G hS hx hB h2 hQ), fun h => c_rq G hS hM (P := tK x s.1 = 3) (Or.inl ⟨rk.2.2.2.1 h, rfl⟩) (zc_of (by omega) (by omega)) (fun im2 h2 => c_adv G hS hx hB h2 hQ)⟩
theorem c_appendItem (G : zOK g) (hS : zS_M S a) {A : aA} (h1 : mS a im0 im A) (hG : gB A.1) (hk : A.1 2 < 4) {p q r : Int} (cp : zc p) (cq : zc q) (cr : zc r) {Q : Int → zIm → Prop} (hQ : ∀ v im', mS a im0 im' (aItem A p q r) → Q v im') : zCI g yX8_appendItem M_X8_appendItem [.ref a, .int (zi p), .int (zi q), .int (zi r)] S im Q := by
  have g2 := hG.2.2.1
  refine v_X8_appendItem G hS cp cq cr ?_
  have e2 := h1.h (i := 2) (by omega) (by omega)
  refine c_append G hS (by omega) (by omega) (zc_of (by omega) (by omega)) (zc_of (by omega) (by omega)) (by omega) (by omega) ?_
  rw [e2]
  have h2 := h1.v (i := 2) (v := A.1 2 + 1) (im' := zsr im (a + 1) (zup (im (a + 1)) 2 (A.1 2 + 1))) rfl (by omega) (by omega)
  rw [zw_of (n := 8 + 3 * A.1 2 + 0) (by omega) (by omega), zw_of (n := 8 + 3 * A.1 2 + 1) (by omega) (by omega), zw_of (n := 8 + 3 * A.1 2 + 2) (by omega) (by omega)]
  refine ⟨⟨by omega, by omega⟩, fun i3 e3 => ⟨⟨by omega, by omega⟩, fun i4 e4 => ⟨⟨by omega, by omega⟩, fun i5 e5 => ?_⟩⟩⟩
  exact hQ _ i5 (((h2.u e3 (by omega) (by omega)).u e4 (by omega) (by omega)).u e5 (by omega) (by omega))
theorem c_appendBase (G : zOK g) (hS : zS_M S a) {A : aA} (h1 : mS a im0 im A) (hG : gB A.1) (hk : A.1 3 < 8) {p : Int} (cp : zc p) {Q : Int → zIm → Prop} (hQ : ∀ v im', mS a im0 im' (aBase A p) → Q v im') : zCI g yX8_appendBase M_X8_appendBase [.ref a, .int (zi p)] S im Q := by
  have g3 := hG.2.2.2.1
  refine v_X8_appendBase G hS cp ?_
  rw [h1.h (i := 3) (by omega) (by omega), zw_of (n := 20 + A.1 3) (by omega) (by omega)]
  refine ⟨⟨by omega, by omega⟩, fun i2 e2 i3 e3 => ?_⟩
  have h2 := h1.u e2 (by omega) (by omega)
  rw [h2.h (i := 3) (by omega) (by omega), aG_n (by omega), zw_of (by omega) (by omega)] at e3
  exact hQ _ i3 (h2.v e3 (by omega) (by omega))
theorem c_putLink (G : zOK g) (hS : zS_M S a) {A : aA} (h1 : mS a im0 im A) {p q r : Int} (p0 : 0 ≤ p) (p1 : p < 8) (q0 : 0 ≤ q) (q1 : q < 8) (cr : zc r) {Q : Int → zIm → Prop} (hQ : ∀ v im', mS a im0 im' (aJoin A p q r) → Q v im') : zCI g yX8_putLink M_X8_putLink [.ref a, .int (zi p), .int (zi q), .int (zi r)] S im Q := by
  refine v_X8_putLink G hS (zc_of (by omega) (by omega)) (zc_of (by omega) (by omega)) cr ?_
  refine c_link G hS (by omega) (by omega) (by omega) (by omega) ?_
  rw [zw_of (n := 28 + 8 * p + q) (by omega) (by omega), zw_of (n := 28 + 8 * q + p) (by omega) (by omega)]
  refine ⟨⟨by omega, by omega⟩, fun i2 e2 => ⟨⟨by omega, by omega⟩, fun i3 e3 => ?_⟩⟩
  exact hQ _ i3 ((h1.u e2 (by omega) (by omega)).u e3 (by omega) (by omega))
theorem pX.m (h : pX a im0 x im s) : mS a im im s.2.1 := ⟨fun _ _ => rfl, h.2.2.1⟩
theorem pX.v (h : pX a im0 x im s) : 0 ≤ tV x s.1 ∧ tV x s.1 ≤ 100000 := tV_bd h.2.2.2.1
theorem pX.c (h : pX a im0 x im s) : im a 13 = s.2.2.1 := h.2.2.2.2.2.1
/-! the statements -/
theorem c_stItem (G : zOK g) (hS : zS_M S a) (hx : xB x) (hB : rB a x im0) (hM : pX a im0 x im s) (hL : lI s.2.1) {Q : zIm → Prop} (hQ : ∀ im', pX a im0 x im' (bdS x 0 s) → Q im') : zCV g yX8_parseItemStatement M_X8_parseItemStatement [.ref a] S im Q := by
  have hG := hL.1.1.1
  have e2 := hM.2.2.1.g (i := 2) (by omega) (by omega) (by omega) (by omega) (by omega)
  have eb : bdS x 0 s = upS (s4S x 0 s) (aItem s.2.1 (tV x (s1S x 0 s).1) (tV x (s2S x 0 s).1) (tV x (s3S x 0 s).1)) := rfl
  rw [eb] at hQ
  refine v_X8_parseItemStatement G hS ?_
  rw [e2]
  refine ⟨fun h => c_rq G hS hM (P := capS 0 s.2.1) (Or.inr ⟨fun hh => by have := hh.1 rfl; omega, rfl⟩) (zc_of (by omega) (by omega)) ?_, fun h => c_rq G hS hM (P := capS 0 s.2.1) (Or.inl ⟨⟨fun _ => h, fun h => absurd h (by decide)⟩, rfl⟩) (zc_of (by omega) (by omega)) ?_⟩
  all_goals
    intro im2 h2
    refine c_adv G hS hx hB h2 (fun im4 h4 => ?_)
    refine c_pn G hS hx hB (s := s1S x 0 s) h4 (zc_of (by omega) (by omega)) (zc_of (by omega) (by omega)) (fun im7 h7 => ?_)
    refine c_pn G hS hx hB (s := s2S x 0 s) h7 (zc_of (by omega) (by omega)) (zc_of (by omega) (by omega)) (fun im10 h10 => ?_)
    refine c_pn G hS hx hB (s := s3S x 0 s) h10 (zc_of (by omega) (by omega)) (zc_of (by omega) (by omega)) (fun im13 h13 => ?_)
    have h13 : pX a im0 x im13 (s4S x 0 s) := h13
    have v1 := pX.v (s := s1S x 0 s) h4
    have v2 := pX.v (s := s2S x 0 s) h7
    have v3 := pX.v (s := s3S x 0 s) h10
    rw [h13.c]
    refine ⟨fun hc => ?_, fun hc => ?_⟩
    · rw [upS_e hc] at hQ; exact hQ im13 h13
    · have ok := s4S_ok hc
      unfold upS at hQ
      rw [if_pos hc] at hQ
      have hm := h13.m
      rw [s4S_A] at hm
      exact c_appendItem G hS hm hG (ok.2.1.1 rfl) (zc_of (by omega) (by omega)) (zc_of (by omega) (by omega)) (zc_of (by omega) (by omega)) (fun _ im' h' => hQ im' (h13.up h'))
theorem c_stBase (G : zOK g) (hS : zS_M S a) (hx : xB x) (hB : rB a x im0) (hM : pX a im0 x im s) (hL : lI s.2.1) {Q : zIm → Prop} (hQ : ∀ im', pX a im0 x im' (bdS x 1 s) → Q im') : zCV g yX8_parseBaseStatement M_X8_parseBaseStatement [.ref a] S im Q := by
  have hG := hL.1.1.1
  have e2 := hM.2.2.1.g (i := 3) (by omega) (by omega) (by omega) (by omega) (by omega)
  have eb : bdS x 1 s = upS (s2S x 1 s) (aBase s.2.1 (tV x (s1S x 1 s).1)) := rfl
  rw [eb] at hQ
  refine v_X8_parseBaseStatement G hS ?_
  rw [e2]
  refine ⟨fun h => c_rq G hS hM (P := capS 1 s.2.1) (Or.inr ⟨fun hh => by have := hh.2 rfl; omega, rfl⟩) (zc_of (by omega) (by omega)) ?_, fun h => c_rq G hS hM (P := capS 1 s.2.1) (Or.inl ⟨⟨fun h => absurd h (by decide), fun _ => h⟩, rfl⟩) (zc_of (by omega) (by omega)) ?_⟩
  all_goals
    intro im2 h2
    refine c_adv G hS hx hB h2 (fun im4 h4 => ?_)
    refine c_pn G hS hx hB (s := s1S x 1 s) h4 (zc_of (by omega) (by omega)) (zc_of (by omega) (by omega)) (fun im13 h13 => ?_)
    have h13 : pX a im0 x im13 (s2S x 1 s) := h13
    have v1 := pX.v (s := s1S x 1 s) h4
    rw [h13.c]
    refine ⟨fun hc => ?_, fun hc => ?_⟩
    · rw [upS_e hc] at hQ; exact hQ im13 h13
    · have ok := s2S_ok hc
      unfold upS at hQ
      rw [if_pos hc] at hQ
      have hm := h13.m
      rw [s2S_A] at hm
      exact c_appendBase G hS hm hG (ok.2.1.2 rfl) (zc_of (by omega) (by omega)) (fun _ im' h' => hQ im' (h13.up h'))
theorem c_adv1 (G : zOK g) (hS : zS_M S a) (hx : xB x) (hB : rB a x im0) (hM : pX a im0 x im s) {w : Int} (hw : capS w s.2.1) {Q : zIm → Prop} (hQ : ∀ im', pX a im0 x im' (s1S x w s) → Q im') : zCV g yX8_advanceToken M_X8_advanceToken [.ref a] S im Q := by
  unfold s1S at hQ
  rw [rqS_y hw] at hQ
  exact c_adv G hS hx hB hM hQ
theorem c_stLevel (G : zOK g) (hS : zS_M S a) (hx : xB x) (hB : rB a x im0) (hM : pX a im0 x im s) (hL : lI s.2.1) {Q : zIm → Prop} (hQ : ∀ im', pX a im0 x im' (bdS x 2 s) → Q im') : zCV g yX8_parseLevelStatement M_X8_parseLevelStatement [.ref a] S im Q := by
  have hG := hL.1.1.1
  have g3 := hG.2.2.2.1
  have g2 := hG.2.2.1
  have eb : bdS x 2 s = upS (s4S x 2 s) (aLv s.2.1 (tV x (s1S x 2 s).1) (tV x (s2S x 2 s).1) (tV x (s3S x 2 s).1)) := rfl
  rw [eb] at hQ
  refine v_X8_parseLevelStatement G hS ?_
  refine c_adv1 G hS hx hB hM (w := 2) ⟨fun h => absurd h (by decide), fun h => absurd h (by decide)⟩ (fun im4 h4 => ?_)
  have m4 := h4.2.2.1
  rw [s1S_A] at m4
  rw [m4.g (i := 3) (by omega) (by omega) (by omega) (by omega) (by omega), zw_of (by omega) (by omega)]
  refine c_pn G hS hx hB h4 zc_0 (zc_of (by omega) (by omega)) (fun im7 h7 => ?_)
  have h7 : pX a im0 x im7 (s2S x 2 s) := h7
  refine c_pI G hS hx hB h7 (by rw [s2S_A]; exact hG) (fun im10 h10 => ?_)
  rw [s2S_A] at h10
  have h10 : pX a im0 x im10 (s3S x 2 s) := h10
  refine c_pn G hS hx hB h10 zc_0 (zc_of (by omega) (by omega)) (fun im13 h13 => ?_)
  have h13 : pX a im0 x im13 (s4S x 2 s) := h13
  rw [h13.c]
  refine ⟨fun hc => ?_, fun hc => ?_⟩
  · rw [upS_e hc] at hQ; exact hQ im13 h13
  · obtain ⟨_, _, k0, k1, k2⟩ := s4S_ok hc
    have k0 : 0 ≤ tV x (s1S x 2 s).1 ∧ tV x (s1S x 2 s).1 ≤ s.2.1.1 3 - 1 := k0
    have k1 : 0 ≤ tV x (s2S x 2 s).1 ∧ tV x (s2S x 2 s).1 ≤ s.2.1.1 2 - 1 := k1
    have k2 : 0 ≤ tV x (s3S x 2 s).1 ∧ tV x (s3S x 2 s).1 ≤ 20 := k2
    unfold upS at hQ
    rw [if_pos hc] at hQ
    have hm := h13.m
    rw [s4S_A] at hm
    exact c_putLevel G hS hm hL.1 (by rw [hL.2.1]; omega) ⟨k0.1, by omega⟩ ⟨k1.1, by omega⟩ k2.1 k2.2 (fun im' h' => hQ im' (h13.up h'))
theorem c_stLink (G : zOK g) (hS : zS_M S a) (hx : xB x) (hB : rB a x im0) (hM : pX a im0 x im s) (hL : lI s.2.1) {Q : zIm → Prop} (hQ : ∀ im', pX a im0 x im' (bdS x 3 s) → Q im') : zCV g yX8_parseLinkStatement M_X8_parseLinkStatement [.ref a] S im Q := by
  have hG := hL.1.1.1
  have g3 := hG.2.2.2.1
  have g2 := hG.2.2.1
  have eb : bdS x 3 s = upS (s4S x 3 s) (aJoin s.2.1 (tV x (s1S x 3 s).1) (tV x (s2S x 3 s).1) (tV x (s3S x 3 s).1)) := rfl
  rw [eb] at hQ
  refine v_X8_parseLinkStatement G hS ?_
  refine c_adv1 G hS hx hB hM (w := 3) ⟨fun h => absurd h (by decide), fun h => absurd h (by decide)⟩ (fun im4 h4 => ?_)
  refine c_pB G hS hx hB h4 (by rw [s1S_A]; exact hG) (fun im7 h7 => ?_)
  rw [s1S_A] at h7
  have h7 : pX a im0 x im7 (s2S x 3 s) := h7
  have rk := rK_s (tK x (s2S x 3 s).1)
  rw [h7.2.2.2.2.1.2.2.1, h7.2.2.2.2.1.2.2.2.1]
  refine ⟨fun h => c_rq G hS h7 (P := tK x (s2S x 3 s).1 ≠ 2 ∨ tV x (s2S x 3 s).1 ≠ tV x (s1S x 3 s).1) (Or.inl ⟨Or.inl (fun hh => h (rk.2.2.1.2 hh)), rfl⟩) (zc_of (by omega) (by omega)) ?_, fun h => ⟨fun h' => c_rq G hS h7 (P := tK x (s2S x 3 s).1 ≠ 2 ∨ tV x (s2S x 3 s).1 ≠ tV x (s1S x 3 s).1) (Or.inr ⟨fun hh => hh.elim (fun k => k (rk.2.2.1.1 h)) (fun k => k h'), rfl⟩) (zc_of (by omega) (by omega)) ?_, fun h' => c_rq G hS h7 (P := tK x (s2S x 3 s).1 ≠ 2 ∨ tV x (s2S x 3 s).1 ≠ tV x (s1S x 3 s).1) (Or.inl ⟨Or.inr h', rfl⟩) (zc_of (by omega) (by omega)) ?_⟩⟩
  all_goals
    intro im8 h8
    have eA : (rqS x (tK x (s2S x 3 s).1 ≠ 2 ∨ tV x (s2S x 3 s).1 ≠ tV x (s1S x 3 s).1) 2 (s2S x 3 s)).2.1 = s.2.1 := rqS_1.2.trans s2S_A
    refine c_pB G hS hx hB h8 (by rw [eA]; exact hG) (fun im10 h10 => ?_)
    rw [eA, argS_link] at h10
    have h10 : pX a im0 x im10 (s3S x 3 s) := h10
    rw [rqS_1.1]
    refine c_pn G hS hx hB h10 (zc_of (by omega) (by omega)) (zc_of (by omega) (by omega)) (fun im13 h13 => ?_)
    have h13 : pX a im0 x im13 (s4S x 3 s) := h13
    rw [h13.c]
    refine ⟨fun hc => ?_, fun hc => ?_⟩
    · rw [upS_e hc] at hQ; exact hQ im13 h13
    · obtain ⟨_, _, k0, k1, k2⟩ := s4S_ok hc
      have k0 : 1 ≤ tV x (s1S x 3 s).1 ∧ tV x (s1S x 3 s).1 ≤ s.2.1.1 3 - 1 := k0
      have k1 : (1 ≤ tV x (s2S x 3 s).1 ∧ tV x (s2S x 3 s).1 ≤ s.2.1.1 3 - 1) ∧ tV x (s2S x 3 s).1 ≠ tV x (s1S x 3 s).1 := k1
      have k2 : 1 ≤ tV x (s3S x 3 s).1 ∧ tV x (s3S x 3 s).1 ≤ 20 := k2
      unfold upS at hQ
      rw [if_pos hc] at hQ
      have hm := h13.m
      rw [s4S_A] at hm
      exact c_putLink G hS hm (by omega) (by omega) (by omega) (by omega) (zc_of (by omega) (by omega)) (fun _ im' h' => hQ im' (h13.up h'))
theorem c_stN4 (G : zOK g) (hS : zS_M S a) (hx : xB x) (hB : rB a x im0) (hM : pX a im0 x im s) (hL : lI s.2.1) {Q : zIm → Prop} (hQ : ∀ im', pX a im0 x im' (bdS x 4 s) → Q im') : zCV g yX8_parseNumberStatement M_X8_parseNumberStatement [.ref a, .int (zi 188), .int (zi 10)] S im Q := by
  have hG := hL.1.1.1
  have g3 := hG.2.2.2.1
  have g2 := hG.2.2.1
  have eb : bdS x 4 s = upS (s4S x 4 s) (aG s.2.1 (188 + 4 * tV x (s1S x 4 s).1 + tV x (s2S x 4 s).1) (tV x (s3S x 4 s).1)) := rfl
  rw [eb] at hQ
  refine v_X8_parseNumberStatement G hS (zc_of (by omega) (by omega)) (zc_of (by omega) (by omega)) ?_
  refine c_adv1 G hS hx hB hM (w := 4) ⟨fun h => absurd h (by decide), fun h => absurd h (by decide)⟩ (fun im4 h4 => ?_)
  refine c_pB G hS hx hB h4 (by rw [s1S_A]; exact hG) (fun im7 h7 => ?_)
  rw [s1S_A] at h7
  have h7 : pX a im0 x im7 (s2S x 4 s) := h7
  refine c_pI G hS hx hB h7 (by rw [s2S_A]; exact hG) (fun im10 h10 => ?_)
  rw [s2S_A] at h10
  have h10 : pX a im0 x im10 (s3S x 4 s) := h10
  refine c_pn G hS hx hB h10 zc_0 (zc_of (by omega) (by omega)) (fun im13 h13 => ?_)
  have h13 : pX a im0 x im13 (s4S x 4 s) := h13
  rw [h13.c]
  refine ⟨fun hc => ?_, fun hc => ?_⟩
  · rw [upS_e hc] at hQ; exact hQ im13 h13
  · obtain ⟨_, _, k0, k1, k2⟩ := s4S_ok hc
    have k0 : 1 ≤ tV x (s1S x 4 s).1 ∧ tV x (s1S x 4 s).1 ≤ s.2.1.1 3 - 1 := k0
    have k1 : 0 ≤ tV x (s2S x 4 s).1 ∧ tV x (s2S x 4 s).1 ≤ s.2.1.1 2 - 1 := k1
    have k2 : 0 ≤ tV x (s3S x 4 s).1 ∧ tV x (s3S x 4 s).1 ≤ 10 := k2
    unfold upS at hQ
    rw [if_pos hc] at hQ
    have hm := h13.m
    rw [s4S_A] at hm
    refine c_at G (by omega) (by omega) (by omega) (by omega) (by omega) (by omega) ⟨⟨by omega, by omega⟩, fun im' e' => hQ im' (h13.up (hm.u e' (by omega) (by omega)))⟩
theorem c_stN5 (G : zOK g) (hS : zS_M S a) (hx : xB x) (hB : rB a x im0) (hM : pX a im0 x im s) (hL : lI s.2.1) {Q : zIm → Prop} (hQ : ∀ im', pX a im0 x im' (bdS x 5 s) → Q im') : zCV g yX8_parseNumberStatement M_X8_parseNumberStatement [.ref a, .int (zi 156), .int (zi 20)] S im Q := by
  have hG := hL.1.1.1
  have g3 := hG.2.2.2.1
  have g2 := hG.2.2.1
  have eb : bdS x 5 s = upS (s4S x 5 s) (aG s.2.1 (156 + 4 * tV x (s1S x 5 s).1 + tV x (s2S x 5 s).1) (tV x (s3S x 5 s).1)) := rfl
  rw [eb] at hQ
  refine v_X8_parseNumberStatement G hS (zc_of (by omega) (by omega)) (zc_of (by omega) (by omega)) ?_
  refine c_adv1 G hS hx hB hM (w := 5) ⟨fun h => absurd h (by decide), fun h => absurd h (by decide)⟩ (fun im4 h4 => ?_)
  refine c_pB G hS hx hB h4 (by rw [s1S_A]; exact hG) (fun im7 h7 => ?_)
  rw [s1S_A] at h7
  have h7 : pX a im0 x im7 (s2S x 5 s) := h7
  refine c_pI G hS hx hB h7 (by rw [s2S_A]; exact hG) (fun im10 h10 => ?_)
  rw [s2S_A] at h10
  have h10 : pX a im0 x im10 (s3S x 5 s) := h10
  refine c_pn G hS hx hB h10 zc_0 (zc_of (by omega) (by omega)) (fun im13 h13 => ?_)
  have h13 : pX a im0 x im13 (s4S x 5 s) := h13
  rw [h13.c]
  refine ⟨fun hc => ?_, fun hc => ?_⟩
  · rw [upS_e hc] at hQ; exact hQ im13 h13
  · obtain ⟨_, _, k0, k1, k2⟩ := s4S_ok hc
    have k0 : 1 ≤ tV x (s1S x 5 s).1 ∧ tV x (s1S x 5 s).1 ≤ s.2.1.1 3 - 1 := k0
    have k1 : 0 ≤ tV x (s2S x 5 s).1 ∧ tV x (s2S x 5 s).1 ≤ s.2.1.1 2 - 1 := k1
    have k2 : 0 ≤ tV x (s3S x 5 s).1 ∧ tV x (s3S x 5 s).1 ≤ 20 := k2
    unfold upS at hQ
    rw [if_pos hc] at hQ
    have hm := h13.m
    rw [s4S_A] at hm
    refine c_at G (by omega) (by omega) (by omega) (by omega) (by omega) (by omega) ⟨⟨by omega, by omega⟩, fun im' e' => hQ im' (h13.up (hm.u e' (by omega) (by omega)))⟩
theorem c_stN6 (G : zOK g) (hS : zS_M S a) (hx : xB x) (hB : rB a x im0) (hM : pX a im0 x im s) (hL : lI s.2.1) {Q : zIm → Prop} (hQ : ∀ im', pX a im0 x im' (bdS x 6 s) → Q im') : zCV g yX8_parseNumberStatement M_X8_parseNumberStatement [.ref a, .int (zi 220), .int (zi 100)] S im Q := by
  have hG := hL.1.1.1
  have g3 := hG.2.2.2.1
  have g2 := hG.2.2.1
  have eb : bdS x 6 s = upS (s4S x 6 s) (aG s.2.1 (220 + 4 * tV x (s1S x 6 s).1 + tV x (s2S x 6 s).1) (tV x (s3S x 6 s).1)) := rfl
  rw [eb] at hQ
  refine v_X8_parseNumberStatement G hS (zc_of (by omega) (by omega)) (zc_of (by omega) (by omega)) ?_
  refine c_adv1 G hS hx hB hM (w := 6) ⟨fun h => absurd h (by decide), fun h => absurd h (by decide)⟩ (fun im4 h4 => ?_)
  refine c_pB G hS hx hB h4 (by rw [s1S_A]; exact hG) (fun im7 h7 => ?_)
  rw [s1S_A] at h7
  have h7 : pX a im0 x im7 (s2S x 6 s) := h7
  refine c_pI G hS hx hB h7 (by rw [s2S_A]; exact hG) (fun im10 h10 => ?_)
  rw [s2S_A] at h10
  have h10 : pX a im0 x im10 (s3S x 6 s) := h10
  refine c_pn G hS hx hB h10 zc_0 (zc_of (by omega) (by omega)) (fun im13 h13 => ?_)
  have h13 : pX a im0 x im13 (s4S x 6 s) := h13
  rw [h13.c]
  refine ⟨fun hc => ?_, fun hc => ?_⟩
  · rw [upS_e hc] at hQ; exact hQ im13 h13
  · obtain ⟨_, _, k0, k1, k2⟩ := s4S_ok hc
    have k0 : 1 ≤ tV x (s1S x 6 s).1 ∧ tV x (s1S x 6 s).1 ≤ s.2.1.1 3 - 1 := k0
    have k1 : 0 ≤ tV x (s2S x 6 s).1 ∧ tV x (s2S x 6 s).1 ≤ s.2.1.1 2 - 1 := k1
    have k2 : 0 ≤ tV x (s3S x 6 s).1 ∧ tV x (s3S x 6 s).1 ≤ 100 := k2
    unfold upS at hQ
    rw [if_pos hc] at hQ
    have hm := h13.m
    rw [s4S_A] at hm
    refine c_at G (by omega) (by omega) (by omega) (by omega) (by omega) (by omega) ⟨⟨by omega, by omega⟩, fun im' e' => hQ im' (h13.up (hm.u e' (by omega) (by omega)))⟩
end PR
