section PC
variable {g : zG} {S : zSh} {im : zIm} {a : Nat} {A : aA}
theorem r_setLink (G : zOK g) (hS : zS_M S a) (hM : mRep (im (a + 1)) A) (hG : gB A.1) {p q r : Int} (cp : zc p) (cq : zc q) (cr : zc r) {Q : Int → zIm → Prop} (hQ : ∀ im', mP a im im' (oLink A p q r).2.2 (oLink A p q r).1 → Q (oLink A p q r).2.1 im') : zCI g yX8_setLink M_X8_setLink [.ref a, .int (zi p), .int (zi q), .int (zi r)] S im Q := by
  have g3 := hG.2.2.2.1
  refine v_X8_setLink G hS cp cq cr (fun im1 e1 => ?_)
  have h1 := mS.i hM e1
  have bad1 (hb : ¬ ((1 ≤ p ∧ p < A.1 3) ∧ (1 ≤ q ∧ q < A.1 3))) : zCI g yX8_fail M_X8_fail [.ref a, .int (zi 1)] S im1 (fun r im' => Q r im') := by
    have e : oLink A p q r = (1, 0, A) := by unfold oLink; rw [if_neg hb]
    rw [e] at hQ
    exact r_fail G hS h1 (zc_of (by omega) (by omega)) hQ
  refine r_isBase G hS h1 hG cp (fun a1 a2 => ⟨fun h => absurd h (by decide), fun _ => ?_⟩) (fun a1 => ⟨fun _ => bad1 (by omega), fun h => absurd rfl h⟩)
  refine r_isBase G hS h1 hG cq (fun b1 b2 => ⟨fun _ => ?_, fun h => absurd h (by decide)⟩) (fun b1 => ⟨fun h => absurd rfl h, fun _ => bad1 (by omega)⟩)
  have bad2 (hb : ¬ (p ≠ q ∧ 0 ≤ r ∧ r ≤ 20)) : zCI g yX8_fail M_X8_fail [.ref a, .int (zi 2)] S im1 (fun r im' => Q r im') := by
    have e : oLink A p q r = (2, 0, A) := by unfold oLink; rw [if_pos ⟨⟨a1, a2⟩, b1, b2⟩, if_neg hb]
    rw [e] at hQ
    exact r_fail G hS h1 (zc_of (by omega) (by omega)) hQ
  refine ⟨fun e => bad2 (fun hh => hh.1 e), fun hne => ?_⟩
  refine c_between G cr zc_0 (zc_of (by omega) (by omega)) (fun d1 d2 => ⟨fun _ => ?_, fun h => absurd h (by decide)⟩) (fun d1 => ⟨fun h => absurd rfl h, fun _ => bad2 (by omega)⟩)
  have e : oLink A p q r = (0, A.1 (28 + 8 * p + q), aJoin A p q r) := by unfold oLink; rw [if_pos ⟨⟨a1, a2⟩, b1, b2⟩, if_pos ⟨hne, d1, d2⟩]
  rw [e] at hQ
  refine v_X8_putLink G hS cp cq cr ?_
  refine c_link G hS (by omega) (by omega) (by omega) (by omega) ?_
  rw [h1.g (by omega) (by omega), zw_of (n := 28 + 8 * p + q) (by omega) (by omega), zw_of (n := 28 + 8 * q + p) (by omega) (by omega)]
  refine ⟨⟨by omega, by omega⟩, fun i2 e2 => ⟨⟨by omega, by omega⟩, fun i3 e3 => ?_⟩⟩
  exact hQ i3 ((h1.u e2 (by omega) (by omega)).u e3 (by omega) (by omega)).p
theorem r_setLevel (G : zOK g) (hS : zS_M S a) (hM : mRep (im (a + 1)) A) {lo m : Int} (hW : aW lo m A) (hl : lo ≤ A.1 0 + 1) {s i v : Int} (cp : zc s) (cq : zc i) (cr : zc v) {Q : Int → zIm → Prop} (hQ : ∀ im', mP a im im' (oLevel A s i v).2.2 (oLevel A s i v).1 → Q (oLevel A s i v).2.1 im') : zCI g yX8_setLevel M_X8_setLevel [.ref a, .int (zi s), .int (zi i), .int (zi v)] S im Q := by
  have hG := hW.1.1
  have g2 := hG.2.2.1
  have g3 := hG.2.2.2.1
  refine v_X8_setLevel G hS cp cq cr (fun im1 e1 => ?_)
  have h1 := mS.i hM e1
  have bad1 (hb : ¬ ((0 ≤ s ∧ s < A.1 3) ∧ (0 ≤ i ∧ i < A.1 2))) : zCI g yX8_fail M_X8_fail [.ref a, .int (zi 1)] S im1 (fun r im' => Q r im') := by
    have e : oLevel A s i v = (1, 0, A) := by unfold oLevel; rw [if_neg hb]
    rw [e] at hQ
    exact r_fail G hS h1 (zc_of (by omega) (by omega)) hQ
  refine r_isSite G hS h1 hG cp (fun a1 a2 => ⟨fun h => absurd h (by decide), fun _ => ?_⟩) (fun a1 => ⟨fun _ => bad1 (by omega), fun h => absurd rfl h⟩)
  refine r_isItem G hS h1 hG cq (fun b1 b2 => ⟨fun _ => ?_, fun h => absurd h (by decide)⟩) (fun b1 => ⟨fun h => absurd rfl h, fun _ => bad1 (by omega)⟩)
  refine c_between G cr zc_0 (zc_of (by omega) (by omega)) (fun d1 d2 => ⟨fun _ => ?_, fun h => absurd h (by decide)⟩) (fun d1 => ⟨fun h => absurd rfl h, fun _ => ?_⟩)
  · have lvb := hG.2.2.2.2.2.2.2.1 (92 + 4 * s + i) (by omega) (by omega)
    refine c_at G (by omega) (by omega) (by omega) (by omega) (by omega) (by omega) ⟨⟨by omega, by omega⟩, ?_⟩
    refine c_at G (by omega) (by omega) (by omega) (by omega) (by omega) (by omega) ⟨⟨by omega, by omega⟩, ?_⟩
    rw [h1.g (i := 92 + 4 * s + i) (by omega) (by omega), h1.g (i := 124 + 4 * s + i) (by omega) (by omega), zw_of (by omega) (by omega)]
    refine ⟨fun hn => ?_, fun hn => ?_⟩
    · have e : oLevel A s i v = (0, A.1 (92 + 4 * s + i), aLv A s i v) := by unfold oLevel; rw [if_pos ⟨⟨a1, a2⟩, b1, b2⟩, if_pos ⟨d1, d2⟩, if_pos hn]
      rw [e] at hQ
      exact c_putLevel G hS h1 hW hl ⟨a1, a2⟩ ⟨b1, b2⟩ d1 d2 (fun im' h' => hQ im' h'.p)
    · have e : oLevel A s i v = (3, 0, A) := by unfold oLevel; rw [if_pos ⟨⟨a1, a2⟩, b1, b2⟩, if_pos ⟨d1, d2⟩, if_neg (by omega)]
      rw [e] at hQ
      exact r_fail G hS h1 (zc_of (by omega) (by omega)) hQ
  · have e : oLevel A s i v = (2, 0, A) := by unfold oLevel; rw [if_pos ⟨⟨a1, a2⟩, b1, b2⟩, if_neg (by omega)]
    rw [e] at hQ
    exact r_fail G hS h1 (zc_of (by omega) (by omega)) hQ
theorem r_setNumber (G : zOK g) (hS : zS_M S a) (hM : mRep (im (a + 1)) A) (hG : gB A.1) {t mx b i v : Int} (t0 : 92 ≤ t) (t1 : t ≤ 380) (m0 : 0 ≤ mx) (m1 : mx ≤ 100) (cp : zc b) (cq : zc i) (cr : zc v) {Q : Int → zIm → Prop} (hQ : ∀ im', mP a im im' (oNum t mx A b i v).2.2 (oNum t mx A b i v).1 → Q (oNum t mx A b i v).2.1 im') : zCI g yX8_setNumber M_X8_setNumber [.ref a, .int (zi t), .int (zi b), .int (zi i), .int (zi v), .int (zi mx)] S im Q := by
  have g2 := hG.2.2.1
  have g3 := hG.2.2.2.1
  refine v_X8_setNumber G hS (zc_of (by omega) (by omega)) cp cq cr (zc_of (by omega) (by omega)) (fun im1 e1 => ?_)
  have h1 := mS.i hM e1
  have bad1 (hb : ¬ ((1 ≤ b ∧ b < A.1 3) ∧ (0 ≤ i ∧ i < A.1 2))) : zCI g yX8_fail M_X8_fail [.ref a, .int (zi 1)] S im1 (fun r im' => Q r im') := by
    have e : oNum t mx A b i v = (1, 0, A) := by unfold oNum; rw [if_neg hb]
    rw [e] at hQ
    exact r_fail G hS h1 (zc_of (by omega) (by omega)) hQ
  refine r_isBase G hS h1 hG cp (fun a1 a2 => ⟨fun h => absurd h (by decide), fun _ => ?_⟩) (fun a1 => ⟨fun _ => bad1 (by omega), fun h => absurd rfl h⟩)
  refine r_isItem G hS h1 hG cq (fun b1 b2 => ⟨fun _ => ?_, fun h => absurd h (by decide)⟩) (fun b1 => ⟨fun h => absurd rfl h, fun _ => bad1 (by omega)⟩)
  refine c_between G cr zc_0 (zc_of (by omega) (by omega)) (fun d1 d2 => ⟨fun _ => ?_, fun h => absurd h (by decide)⟩) (fun d1 => ⟨fun h => absurd rfl h, fun _ => ?_⟩)
  · refine c_at G (by omega) (by omega) (by omega) (by omega) (by omega) (by omega) ⟨⟨by omega, by omega⟩, ?_⟩
    refine c_at G (by omega) (by omega) (by omega) (by omega) (by omega) (by omega) ⟨⟨by omega, by omega⟩, fun i2 e2 => ?_⟩
    rw [h1.g (by omega) (by omega)]
    have e : oNum t mx A b i v = (0, A.1 (t + 4 * b + i), aG A (t + 4 * b + i) v) := by unfold oNum; rw [if_pos ⟨⟨a1, a2⟩, b1, b2⟩, if_pos ⟨d1, d2⟩]
    rw [e] at hQ
    exact hQ i2 (h1.u e2 (by omega) (by omega)).p
  · have e : oNum t mx A b i v = (2, 0, A) := by unfold oNum; rw [if_pos ⟨⟨a1, a2⟩, b1, b2⟩, if_neg (by omega)]
    rw [e] at hQ
    exact r_fail G hS h1 (zc_of (by omega) (by omega)) hQ
theorem r_setLimit (G : zOK g) (hS : zS_M S a) (hM : mRep (im (a + 1)) A) {v : Int} (cv : zc v) {Q : Int → zIm → Prop} (hQ : ∀ im', mP a im im' (oLim A v).2.2 (oLim A v).1 → Q (oLim A v).2.1 im') : zCI g yX8_setLateralLimit M_X8_setLateralLimit [.ref a, .int (zi v)] S im Q := by
  refine v_X8_setLateralLimit G hS cv (fun im1 e1 => ?_)
  have h1 := mS.i hM e1
  refine c_between G cv zc_0 (zc_of (by omega) (by omega)) (fun d1 d2 => ⟨fun _ i2 e2 => ?_, fun h => absurd h (by decide)⟩) (fun d1 => ⟨fun h => absurd rfl h, fun _ => ?_⟩)
  · have e : oLim A v = (0, A.1 1, aG A 1 v) := by unfold oLim; rw [if_pos ⟨d1, d2⟩]
    rw [e] at hQ
    rw [h1.h (by omega) (by omega)]
    exact hQ i2 (h1.v e2 (by omega) (by omega)).p
  · have e : oLim A v = (1, 0, A) := by unfold oLim; rw [if_neg (by omega)]
    rw [e] at hQ
    exact r_fail G hS h1 (zc_of (by omega) (by omega)) hQ
theorem r_demand (G : zOK g) (hS : zS_M S a) (hM : mRep (im (a + 1)) A) {lo m : Int} (hW : aW lo m A) {b i p : Int} (cb : zc b) (ci : zc i) (cp : zc p) {Q : Int → zIm → Prop} (hQ : ∀ im', mP a im im' (oDem A b i p).2.2 (oDem A b i p).1 → Q (oDem A b i p).2.1 im') : zCI g yX8_demand M_X8_demand [.ref a, .int (zi b), .int (zi i), .int (zi p)] S im Q := by
  have hG := hW.1.1
  have sz := hW.sz
  have g2 := hG.2.2.1
  have g3 := hG.2.2.2.1
  have h0 : mS a im im A := ⟨fun _ _ => rfl, hM⟩
  have fin (t : Int) (ht : t ≠ 0) (e : oDem A b i p = (t, 0, A)) (im4 : zIm) (e4 : im4 = zst im a 4 t) (Z : Prop) : (¬ (im4 a 4) = 0 → Q 0 im4) ∧ ((im4 a 4) = 0 → Z) := by
    rw [e] at hQ
    have e5 : im4 a 4 = t := by rw [e4, zst_at, if_pos ⟨rfl, rfl⟩]
    exact ⟨fun _ => hQ im4 (mS.i hM e4).p, fun hh => absurd (e5.symm.trans hh) ht⟩
  refine v_X8_demand G hS cb ci cp ?_
  refine r_isBase G hS h0 hG cb (fun a1 a2 => ⟨fun h => absurd h (by decide), fun _ => ?_⟩) (fun a1 => ⟨fun _ im4 e4 => fin 1 (by omega) (by unfold oDem; rw [if_neg (by omega)]) im4 e4 _, fun h => absurd rfl h⟩)
  refine r_isItem G hS h0 hG ci (fun b1 b2 => ⟨fun _ => ?_, fun h => absurd h (by decide)⟩) (fun b1 => ⟨fun h => absurd rfl h, fun _ im4 e4 => fin 1 (by omega) (by unfold oDem; rw [if_neg (by omega)]) im4 e4 _⟩)
  refine c_between G cp zc_0 (zc_of (by omega) (by omega)) (fun d1 d2 => ⟨fun _ => ?_, fun h => absurd h (by decide)⟩) (fun d1 => ⟨fun h => absurd rfl h, fun _ im4 e4 => fin 2 (by omega) (by unfold oDem; rw [if_pos ⟨⟨a1, a2⟩, b1, b2⟩, if_neg (by omega)]) im4 e4 _⟩)
  refine c_isRefused G hS h0 (fun hf => ⟨fun h => absurd h (by decide), fun _ im4 e4 => fin 3 (by omega) (by unfold oDem; rw [if_pos ⟨⟨a1, a2⟩, b1, b2⟩, if_pos ⟨d1, d2⟩, if_pos hf]) im4 e4 _⟩) (fun u1 u2 => ⟨fun _ im4 e4 => ?_, fun h => absurd rfl h⟩)
  have e : oDem A b i p = (0, (if 0 < A.1 (124 + 4 * b + i) then 1 else 0), aOcc A b i p) := by unfold oDem; rw [if_pos ⟨⟨a1, a2⟩, b1, b2⟩, if_pos ⟨d1, d2⟩, if_neg (by omega)]
  rw [e] at hQ
  have e5 : im4 a 4 = 0 := by rw [e4, zst_at, if_pos ⟨rfl, rfl⟩]
  refine ⟨fun h => absurd e5 h, fun _ => ?_⟩
  refine c_occur G hS (mS.i hM e4) hG (by omega) (by omega) (by omega) (by omega) (by omega) (by omega) (by omega) cp (fun im5 h5 => ?_)
  have hq := hQ im5 h5.p
  by_cases hz : 0 < A.1 (124 + 4 * b + i)
  · rw [if_pos hz] at hq ⊢; exact ⟨fun h => absurd h (by decide), fun _ => hq⟩
  · rw [if_neg hz] at hq ⊢; exact ⟨fun _ => hq, fun h => absurd rfl h⟩
theorem r_adv_loop (G : zOK g) (hS : zS_M S a) {m : Int} (hW : aW (A.1 0 + 1) m A) {d : Nat} (hd : A.1 0 + d ≤ 9999) (d1 : d ≤ 60) {im0 : zIm} {Q : Int → zIm → Prop} (hQ : ∀ im', mS a im0 im' (aDn d A) → Q (A.1 0 + d) im') :
    ∀ (f k : Nat) (im1 : zIm), k + f = d → mS a im0 im1 (aDn k A) → zPI g M_X8_advance 43 [(0, .ref a), (1, .int (zi d)), (2, .int (zi k))] S im1 Q := by
  have d0 := hW.1.1.1
  intro f
  induction f with
  | zero =>
    intro k im1 hk h1
    have hk' : k = d := by omega
    subst hk'
    refine v_X8_advance_43 G hS (zc_of (by omega) (by omega)) (zc_of (by omega) (by omega)) ⟨fun _ => ?_, fun h => absurd h (by omega)⟩
    rw [h1.h (by omega) (by omega), (aDn_ok hW k hd).2]
    exact hQ im1 h1
  | succ f ih =>
    intro k im1 hk h1
    have ok := aDn_ok hW k (by omega)
    refine v_X8_advance_43 G hS (zc_of (by omega) (by omega)) (zc_of (by omega) (by omega)) ⟨fun h => absurd h (by omega), fun _ => ?_⟩
    rw [zwS (k := k) (by omega)]
    exact c_beginDay G hS h1 (by rw [ok.2]; exact ok.1) (by rw [ok.2]; omega) (fun im2 h2 => ih (k + 1) im2 (by omega) h2)
theorem r_advance (G : zOK g) (hS : zS_M S a) (hM : mRep (im (a + 1)) A) {m : Int} (hW : aW (A.1 0 + 1) m A) {d : Int} (cd : zc d) {Q : Int → zIm → Prop} (hQ : ∀ im', mP a im im' (oAdv A d).2.2 (oAdv A d).1 → Q (oAdv A d).2.1 im') : zCI g yX8_advance M_X8_advance [.ref a, .int (zi d)] S im Q := by
  have d0 := hW.1.1.1
  refine v_X8_advance G hS cd (fun im1 e1 => ?_)
  have h1 := mS.i hM e1
  refine c_between G cd (zc_of (by omega) (by omega)) (zc_of (by omega) (by omega)) (fun d1 d2 => ⟨fun _ => ?_, fun h => absurd h (by decide)⟩) (fun d1 => ⟨fun h => absurd rfl h, fun _ => ?_⟩)
  · rw [h1.h (by omega) (by omega), zw_of (by omega) (by omega)]
    refine ⟨fun hn => ?_, fun hn => ?_⟩
    · have e : oAdv A d = (0, A.1 0 + d, aDn d.toNat A) := by unfold oAdv; rw [if_pos ⟨d1, d2⟩, if_pos hn]
      rw [e] at hQ
      have := r_adv_loop (im0 := zst im a 4 0) (Q := Q) G hS hW (d := d.toNat) (by omega) (by omega) (fun im' h' => by rw [show A.1 0 + (d.toNat : Int) = A.1 0 + d from by omega]; exact hQ im' h'.p) d.toNat 0 im1 (by omega) h1
      rw [show ((d.toNat : Nat) : Int) = d from by omega] at this
      exact this
    · have e : oAdv A d = (2, 0, A) := by unfold oAdv; rw [if_pos ⟨d1, d2⟩, if_neg (by omega)]
      rw [e] at hQ
      exact r_fail G hS h1 (zc_of (by omega) (by omega)) hQ
  · have e : oAdv A d = (1, 0, A) := by unfold oAdv; rw [if_neg (by omega)]
    rw [e] at hQ
    exact r_fail G hS h1 (zc_of (by omega) (by omega)) hQ
end PC
