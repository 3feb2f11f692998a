section CN
variable {g : zG} {S : zSh} {im : zIm} {a an as av at_ : Nat} {A : aA} {y : Int}
/-- a number of a base and an item, exchanged -/
theorem k_num (G : zOK g) (hS : zDep S a an as av at_) (hM : nS an y im im A) (hG : gB A.1) {c : Nat} {t mx b i v : Int} (hc : tP c t) (hkd : zkd S (an + c) = 9) (hln : zln S (an + c) = 32) (m1 : mx ≤ 100) (m0 : 0 ≤ mx) (cp : zc b) (cq : zc i) (cr : zc v) {Q : Int → zIm → Prop} {X : String → zSh → zIm → Prop} (h0 : (oNum t mx A b i v).1 = 0 → ∀ im', nP an im im' (oNum t mx A b i v).2.2 → Q (oNum t mx A b i v).2.1 im') (h1 : (oNum t mx A b i v).1 = 1 → X "java/lang/IndexOutOfBoundsException" (zpush S 14 0) im) (h2 : (oNum t mx A b i v).1 = 2 → X "java/lang/IllegalArgumentException" (zpush S 14 0) im) :
    zCVx g yX7_checkBase M_X7_checkBase [.ref a, .int (zi b)] S im (fun im1 => zCVx g yX7_checkItem M_X7_checkItem [.ref a, .int (zi i)] S im1 (fun im3 => zCVx g yX7_checkRange M_X7_checkRange [.int (zi v), .int (zi 0), .int (zi mx)] S im3 (fun im5 => zCI g yX7_cell M_X7_cell [.int (zi b), .int (zi i)] S im5 (fun r7 im8 => zCI g yX7_exchange M_X7_exchange [.ref (an + c), .int (zi r7), .int (zi v)] S im8 (fun r10 im11 => Q r10 im11))) X) X) X := by
  have g2 := hG.2.2.1
  have g3 := hG.2.2.2.1
  have bad (hb : ¬ ((1 ≤ b ∧ b < A.1 3) ∧ (0 ≤ i ∧ i < A.1 2))) : X "java/lang/IndexOutOfBoundsException" (zpush S 14 0) im := h1 (by unfold oNum; rw [if_neg hb])
  refine k_base G hS hM cp (fun a1 a2 => ?_) (fun hn => bad (by omega))
  refine k_item G hS hM cq (fun b1 b2 => ?_) (fun hn => bad (by omega))
  refine k_range G cr zc_0 (zc_of (by omega) (by omega)) (fun d1 d2 => ?_) (fun hn => h2 (by unfold oNum; rw [if_pos ⟨⟨a1, a2⟩, b1, b2⟩, if_neg hn]))
  refine c_cell G (by omega) (by omega) b1 (by omega) ?_
  refine v_X7_exchange G hkd (zc_of (by omega) (by omega)) cr ⟨by rw [hln]; omega, fun im1 e1 => ?_⟩
  have e : oNum t mx A b i v = (0, A.1 (t + 4 * b + i), aG A (t + 4 * b + i) v) := by unfold oNum; rw [if_pos ⟨⟨a1, a2⟩, b1, b2⟩, if_pos ⟨d1, d2⟩]
  rw [e] at h0
  rw [hM.t hc (by omega) (by omega) b1 (by omega)]
  exact h0 rfl im1 ⟨y, hM.ut hG hc (by omega) (by omega) b1 (by omega) e1⟩
/-- a number of a site and an item, read -/
def oAt (t : Int) (A : aA) (s i : Int) : aO := if (0 ≤ s ∧ s < A.1 3) ∧ (0 ≤ i ∧ i < A.1 2) then (0, A.1 (t + 4 * s + i), A) else (1, 0, A)
theorem nS.self (h : nS an y im im A) : nP an im im A := ⟨y, h⟩
theorem k_level (G : zOK g) (hS : zDep S a an as av at_) (hM : nS an y im im A) (hG : gB A.1) {s i : Int} (cp : zc s) (cq : zc i) {Q : Int → zIm → Prop} {X : String → zSh → zIm → Prop} (h0 : (oAt 92 A s i).1 = 0 → Q (oAt 92 A s i).2.1 im) (h1 : (oAt 92 A s i).1 = 1 → X "java/lang/IndexOutOfBoundsException" (zpush S 14 0) im) : zCIx g yX7_level M_X7_level [.ref a, .int (zi s), .int (zi i)] S im Q X := by
  have g2 := hG.2.2.1
  have g3 := hG.2.2.2.1
  have bad (hb : ¬ ((0 ≤ s ∧ s < A.1 3) ∧ (0 ≤ i ∧ i < A.1 2))) : X "java/lang/IndexOutOfBoundsException" (zpush S 14 0) im := h1 (by unfold oAt; rw [if_neg hb])
  refine v_X7_level G hS cp cq ?_
  refine k_site G hS hM cp (fun a1 a2 => ?_) (fun hn => bad (by omega))
  refine k_item G hS hM cq (fun b1 b2 => ?_) (fun hn => bad (by omega))
  refine c_cell G (by omega) (by omega) b1 (by omega) ⟨⟨by omega, by omega⟩, ?_⟩
  rw [hM.t (c := 1) (t := 92) (by unfold tP; omega) (by omega) (by omega) b1 (by omega)]
  have e : oAt 92 A s i = (0, A.1 (92 + 4 * s + i), A) := by unfold oAt; rw [if_pos ⟨⟨a1, a2⟩, b1, b2⟩]
  rw [e] at h0
  exact h0 rfl
theorem k_onHand (G : zOK g) (hS : zDep S a an as av at_) (hM : nS an y im im A) (hG : gB A.1) {s i : Int} (cp : zc s) (cq : zc i) {Q : Int → zIm → Prop} {X : String → zSh → zIm → Prop} (h0 : (oAt 124 A s i).1 = 0 → Q (oAt 124 A s i).2.1 im) (h1 : (oAt 124 A s i).1 = 1 → X "java/lang/IndexOutOfBoundsException" (zpush S 14 0) im) : zCIx g yX7_onHand M_X7_onHand [.ref a, .int (zi s), .int (zi i)] S im Q X := by
  have g2 := hG.2.2.1
  have g3 := hG.2.2.2.1
  have bad (hb : ¬ ((0 ≤ s ∧ s < A.1 3) ∧ (0 ≤ i ∧ i < A.1 2))) : X "java/lang/IndexOutOfBoundsException" (zpush S 14 0) im := h1 (by unfold oAt; rw [if_neg hb])
  refine v_X7_onHand G hS cp cq ?_
  refine k_site G hS hM cp (fun a1 a2 => ?_) (fun hn => bad (by omega))
  refine k_item G hS hM cq (fun b1 b2 => ?_) (fun hn => bad (by omega))
  refine c_cell G (by omega) (by omega) b1 (by omega) ⟨⟨by omega, by omega⟩, ?_⟩
  rw [hM.t (c := 2) (t := 124) (by unfold tP; omega) (by omega) (by omega) b1 (by omega)]
  have e : oAt 124 A s i = (0, A.1 (124 + 4 * s + i), A) := by unfold oAt; rw [if_pos ⟨⟨a1, a2⟩, b1, b2⟩]
  rw [e] at h0
  exact h0 rfl
theorem r_level (G : zOK g) {a : Nat} (hS : zS_M S a) (hM : mRep (im (a + 1)) A) (hG : gB A.1) {s i : Int} (cp : zc s) (cq : zc i) {Q : Int → zIm → Prop} (hQ : ∀ im', mP a im im' (oAt 92 A s i).2.2 (oAt 92 A s i).1 → Q (oAt 92 A s i).2.1 im') : zCI g yX8_level M_X8_level [.ref a, .int (zi s), .int (zi i)] S im Q := by
  have g2 := hG.2.2.1
  have g3 := hG.2.2.2.1
  refine v_X8_level G hS cp cq (fun im1 e1 => ?_)
  have h1 := mS.i hM e1
  have bad (hb : ¬ ((0 ≤ s ∧ s < A.1 3) ∧ (0 ≤ i ∧ i < A.1 2))) : zCI g yX8_fail M_X8_fail [.ref a, .int (zi 1)] S im1 (fun r im' => Q r im') := by
    have e : oAt 92 A s i = (1, 0, A) := by unfold oAt; rw [if_neg hb]
    rw [e] at hQ
    exact r_fail G hS h1 (zc_of (by omega) (by omega)) hQ
  refine r_isSite G hS h1 hG cp (fun a1 a2 => ⟨fun h => absurd h (by decide), fun _ => ?_⟩) (fun a1 => ⟨fun _ => bad (by omega), fun h => absurd rfl h⟩)
  refine r_isItem G hS h1 hG cq (fun b1 b2 => ⟨fun h => absurd h (by decide), fun _ => ?_⟩) (fun b1 => ⟨fun _ => bad (by omega), fun h => absurd rfl h⟩)
  refine c_at G (by omega) (by omega) (by omega) (by omega) b1 (by omega) ⟨⟨by omega, by omega⟩, ?_⟩
  rw [h1.g (by omega) (by omega)]
  have e : oAt 92 A s i = (0, A.1 (92 + 4 * s + i), A) := by unfold oAt; rw [if_pos ⟨⟨a1, a2⟩, b1, b2⟩]
  rw [e] at hQ
  exact hQ im1 h1.p
theorem r_onHand (G : zOK g) {a : Nat} (hS : zS_M S a) (hM : mRep (im (a + 1)) A) (hG : gB A.1) {s i : Int} (cp : zc s) (cq : zc i) {Q : Int → zIm → Prop} (hQ : ∀ im', mP a im im' (oAt 124 A s i).2.2 (oAt 124 A s i).1 → Q (oAt 124 A s i).2.1 im') : zCI g yX8_onHand M_X8_onHand [.ref a, .int (zi s), .int (zi i)] S im Q := by
  have g2 := hG.2.2.1
  have g3 := hG.2.2.2.1
  refine v_X8_onHand G hS cp cq (fun im1 e1 => ?_)
  have h1 := mS.i hM e1
  have bad (hb : ¬ ((0 ≤ s ∧ s < A.1 3) ∧ (0 ≤ i ∧ i < A.1 2))) : zCI g yX8_fail M_X8_fail [.ref a, .int (zi 1)] S im1 (fun r im' => Q r im') := by
    have e : oAt 124 A s i = (1, 0, A) := by unfold oAt; rw [if_neg hb]
    rw [e] at hQ
    exact r_fail G hS h1 (zc_of (by omega) (by omega)) hQ
  refine r_isSite G hS h1 hG cp (fun a1 a2 => ⟨fun h => absurd h (by decide), fun _ => ?_⟩) (fun a1 => ⟨fun _ => bad (by omega), fun h => absurd rfl h⟩)
  refine r_isItem G hS h1 hG cq (fun b1 b2 => ⟨fun h => absurd h (by decide), fun _ => ?_⟩) (fun b1 => ⟨fun _ => bad (by omega), fun h => absurd rfl h⟩)
  refine c_at G (by omega) (by omega) (by omega) (by omega) b1 (by omega) ⟨⟨by omega, by omega⟩, ?_⟩
  rw [h1.g (by omega) (by omega)]
  have e : oAt 124 A s i = (0, A.1 (124 + 4 * s + i), A) := by unfold oAt; rw [if_pos ⟨⟨a1, a2⟩, b1, b2⟩]
  rw [e] at hQ
  exact hQ im1 h1.p
end CN
