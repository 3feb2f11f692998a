section CM
variable {g : zG} {S : zSh} {im : zIm} {a an as av at_ : Nat} {A : aA} {y : Int}
theorem k_setLevel (G : zOK g) (hS : zDep S a an as av at_) (hM : nS an y im im A) {lo m : Int} (hW : aW lo m A) (hl : lo ≤ A.1 0 + 1) {s i v : Int} (cp : zc s) (cq : zc i) (cr : zc v) {Q : Int → zIm → Prop} {X : String → zSh → zIm → Prop} (h0 : (oLevel A s i v).1 = 0 → ∀ im', nP an im im' (oLevel A s i v).2.2 → Q (oLevel A s i v).2.1 im') (h1 : (oLevel A s i v).1 = 1 → X "java/lang/IndexOutOfBoundsException" (zpush S 14 0) im) (h2 : (oLevel A s i v).1 = 2 → X "java/lang/IllegalArgumentException" (zpush S 14 0) im) (h3 : (oLevel A s i v).1 = 3 → X "java/lang/IllegalStateException" (zpush S 14 0) im) : zCIx g yX7_setLevel M_X7_setLevel [.ref a, .int (zi s), .int (zi i), .int (zi v)] S im Q X := by
  have hG := hW.1.1
  have g2 := hG.2.2.1
  have g3 := hG.2.2.2.1
  have bad (hb : ¬ ((0 ≤ s ∧ s < A.1 3) ∧ (0 ≤ i ∧ i < A.1 2))) : X "java/lang/IndexOutOfBoundsException" (zpush S 14 0) im := h1 (by unfold oLevel; rw [if_neg hb])
  refine v_X7_setLevel G hS cp cq cr ?_
  refine k_site G hS hM cp (fun a1 a2 => ?_) (fun hn => bad (by omega))
  refine k_item G hS hM cq (fun b1 b2 => ?_) (fun hn => bad (by omega))
  refine k_range G cr zc_0 (zc_of (by omega) (by omega)) (fun d1 d2 => ?_) (fun hn => h2 (by unfold oLevel; rw [if_pos ⟨⟨a1, a2⟩, b1, b2⟩, if_neg hn]))
  have lvb := hG.2.2.2.2.2.2.2.1 (92 + 4 * s + i) (by omega) (by omega)
  refine c_cell G (by omega) (by omega) b1 (by omega) ⟨⟨by omega, by omega⟩, ⟨by omega, by omega⟩, ?_⟩
  rw [hM.t (c := 1) (t := 92) (by unfold tP; omega) (by omega) (by omega) b1 (by omega), hM.t (c := 2) (t := 124) (by unfold tP; omega) (by omega) (by omega) b1 (by omega), zw_of (by omega) (by omega)]
  refine ⟨fun hn => ?_, fun hn => h3 (by unfold oLevel; rw [if_pos ⟨⟨a1, a2⟩, b1, b2⟩, if_pos ⟨d1, d2⟩, if_neg (by omega)])⟩
  have e : oLevel A s i v = (0, A.1 (92 + 4 * s + i), aLv A s i v) := by unfold oLevel; rw [if_pos ⟨⟨a1, a2⟩, b1, b2⟩, if_pos ⟨d1, d2⟩, if_pos hn]
  rw [e] at h0
  exact n_changeLevel G hS.2.2.2.2.2.1 hM hW hl ⟨a1, a2⟩ ⟨b1, b2⟩ d1 d2 (fun im' h' => h0 rfl im' ⟨y, h'⟩)
theorem k_setLimit (G : zOK g) (hS : zDep S a an as av at_) (hM : nS an y im im A) (hG : gB A.1) {v : Int} (cv : zc v) {Q : Int → zIm → Prop} {X : String → zSh → zIm → Prop} (h0 : (oLim A v).1 = 0 → ∀ im', nP an im im' (oLim A v).2.2 → Q (oLim A v).2.1 im') (h1 : (oLim A v).1 = 1 → X "java/lang/IllegalArgumentException" (zpush S 14 0) im) : zCIx g yX7_setLateralLimit M_X7_setLateralLimit [.ref a, .int (zi v)] S im Q X := by
  refine v_X7_setLateralLimit G hS cv ?_
  refine k_range G cv zc_0 (zc_of (by omega) (by omega)) (fun d1 d2 im1 e1 => ?_) (fun hn => h1 (by unfold oLim; rw [if_neg hn]))
  have e : oLim A v = (0, A.1 1, aG A 1 v) := by unfold oLim; rw [if_pos ⟨d1, d2⟩]
  rw [e] at h0
  rw [hM.lm]
  exact h0 rfl im1 ⟨y, hM.mkLim hG e1⟩
theorem k_demand (G : zOK g) (hS : zDep S a an as av at_) (hM : nS an y im im A) {lo m : Int} (hW : aW lo m A) (hl : lo ≤ A.1 0 + 1) {b i p : Int} (cb : zc b) (ci : zc i) (cp : zc p) {Q : Int → zIm → Prop} {X : String → zSh → zIm → Prop} (h0 : (oDem A b i p).1 = 0 → ∀ im', nP an im im' (oDem A b i p).2.2 → Q (oDem A b i p).2.1 im') (h1 : (oDem A b i p).1 = 1 → X "java/lang/IndexOutOfBoundsException" (zpush S 14 0) im) (h2 : (oDem A b i p).1 = 2 → X "java/lang/IllegalArgumentException" (zpush S 14 0) im) (h3 : (oDem A b i p).1 = 3 → X "java/lang/IllegalStateException" (zpush S 14 0) im) : zCIx g yX7_demand M_X7_demand [.ref a, .int (zi b), .int (zi i), .int (zi p)] S im Q X := by
  have sz := hW.sz
  have bad (hb : ¬ ((1 ≤ b ∧ b < A.1 3) ∧ (0 ≤ i ∧ i < A.1 2))) : X "java/lang/IndexOutOfBoundsException" (zpush S 14 0) im := h1 (by unfold oDem; rw [if_neg hb])
  refine v_X7_demand G hS cb ci cp ?_
  refine k_base G hS hM cb (fun a1 a2 => ?_) (fun hn => bad (by omega))
  refine k_item G hS hM ci (fun b1 b2 => ?_) (fun hn => bad (by omega))
  refine k_range G cp zc_0 (zc_of (by omega) (by omega)) (fun d1 d2 => ?_) (fun hn => h2 (by unfold oDem; rw [if_pos ⟨⟨a1, a2⟩, b1, b2⟩, if_neg hn]))
  refine n_refuses G hS.2.2.2.2.2.1 hM (by omega) (fun hf => ⟨fun h => absurd h (by decide), fun _ => h3 (by unfold oDem; rw [if_pos ⟨⟨a1, a2⟩, b1, b2⟩, if_pos ⟨d1, d2⟩, if_pos hf])⟩) (fun u1 u2 => ⟨fun _ => ?_, fun h => absurd rfl h⟩)
  have e : oDem A b i p = (0, (if 0 < A.1 (124 + 4 * b + i) then 1 else 0), aOcc A b i p) := by unfold oDem; rw [if_pos ⟨⟨a1, a2⟩, b1, b2⟩, if_pos ⟨d1, d2⟩, if_neg (by omega)]
  rw [e] at h0
  refine n_occ G hS.2.2.2.2.2.1 hM hW.1 hl (by omega) (by omega) (by omega) ⟨a1, a2⟩ ⟨b1, b2⟩ d1 d2 (fun im' h' => ⟨?_, h0 rfl im' ⟨y, h'⟩⟩)
  split
  · exact Or.inr rfl
  · exact Or.inl rfl
theorem k_last (G : zOK g) (hS : zDep S a an as av at_) (hM : nS an y im im A) (hG : gB A.1) {d : Int} (d0 : 0 ≤ d) (d1 : d ≤ 1000) {Q : zIm → Prop} {X : String → zSh → zIm → Prop} (hq : A.1 0 + d ≤ 9999 → Q im) (hx : ¬ A.1 0 + d ≤ 9999 → X "java/lang/IllegalStateException" (zpush S 14 0) im) : zCVx g yX7_checkLastDay M_X7_checkLastDay [.ref a, .int (zi d)] S im Q X := by
  have dd := hG.1
  refine v_X7_checkLastDay G hS (zc_of (by omega) (by omega)) ?_
  rw [hM.d, zw_of (by omega) (by omega)]
  exact ⟨hq, fun h => hx (by omega)⟩
theorem k_adv_loop (G : zOK g) (hS : zDep S a an as av at_) {m : Int} (hW : aW (A.1 0 + 1) m A) {d : Nat} (hd : A.1 0 + d ≤ 9999) (d1 : d ≤ 60) {im0 : zIm} {Q : Int → zIm → Prop} {X : String → zSh → zIm → Prop} (hQ : ∀ im', nS an y im0 im' (aDn d A) → Q (A.1 0 + d) im') :
    ∀ (f k : Nat) (im1 : zIm), k + f = d → nS an y im0 im1 (aDn k A) → zPIx g M_X7_advance 2 12 14 [(0, .ref a), (1, .int (zi d)), (2, .int (zi k))] S im1 Q X := by
  have d0 := hW.1.1.1
  intro f
  induction f with
  | zero =>
    intro k im1 hk h1
    have hk' : k = d := by omega
    subst hk'
    refine v_X7_advance_14 G hS (zc_of (by omega) (by omega)) (zc_of (by omega) (by omega)) ⟨fun _ => ?_, fun h => absurd h (by omega)⟩
    rw [h1.d, (aDn_ok hW k hd).2]
    exact hQ im1 h1
  | succ f ih =>
    intro k im1 hk h1
    have ok := aDn_ok hW k (by omega)
    refine v_X7_advance_14 G hS (zc_of (by omega) (by omega)) (zc_of (by omega) (by omega)) ⟨fun h => absurd h (by omega), fun _ => ?_⟩
    rw [zwS (k := k) (by omega)]
    exact n_beginDay G hS.2.2.2.2.2.1 h1 (by rw [ok.2]; exact ok.1) (by rw [ok.2]; omega) (fun im2 h2 => ih (k + 1) im2 (by omega) h2)
theorem k_advance (G : zOK g) (hS : zDep S a an as av at_) (hM : nS an y im im A) {m : Int} (hW : aW (A.1 0 + 1) m A) {d : Int} (cd : zc d) {Q : Int → zIm → Prop} {X : String → zSh → zIm → Prop} (h0 : (oAdv A d).1 = 0 → ∀ im', nP an im im' (oAdv A d).2.2 → Q (oAdv A d).2.1 im') (h1 : (oAdv A d).1 = 1 → X "java/lang/IllegalArgumentException" (zpush S 14 0) im) (h2 : (oAdv A d).1 = 2 → X "java/lang/IllegalStateException" (zpush S 14 0) im) : zCIx g yX7_advance M_X7_advance [.ref a, .int (zi d)] S im Q X := by
  refine v_X7_advance G hS cd ?_
  refine k_range G cd (zc_of (by omega) (by omega)) (zc_of (by omega) (by omega)) (fun d1 d2 => ?_) (fun hn => h1 (by unfold oAdv; rw [if_neg hn]))
  refine k_last G hS hM hW.1.1 (by omega) (by omega) (fun hn => ?_) (fun hn => h2 (by unfold oAdv; rw [if_pos ⟨d1, d2⟩, if_neg hn]))
  have e : oAdv A d = (0, A.1 0 + d, aDn d.toNat A) := by unfold oAdv; rw [if_pos ⟨d1, d2⟩, if_pos hn]
  rw [e] at h0
  have := k_adv_loop (im0 := im) (Q := Q) (X := X) G hS hW (d := d.toNat) (by omega) (by omega) (fun im' h' => by rw [show A.1 0 + (d.toNat : Int) = A.1 0 + d from by omega]; exact h0 rfl im' ⟨y, h'⟩) d.toNat 0 im (by omega) hM
  rw [show ((d.toNat : Nat) : Int) = d from by omega] at this
  exact this
theorem k_run (G : zOK g) (hS : zDep S a an as av at_) (hM : nS an y im im A) {m : Int} (hW : aW (A.1 0 + 1) m A) (hm : m ≤ 700000000) {x d : Int} (cx : zc x) (cd : zc d) {Q : Int → zIm → Prop} {X : String → zSh → zIm → Prop} (h0 : (oRun A x d).1 = 0 → ∀ im', nP an im im' (oRun A x d).2.2 → Q (oRun A x d).2.1 im') (h1 : (oRun A x d).1 = 1 → X "java/lang/IllegalArgumentException" (zpush S 14 0) im) (h2 : (oRun A x d).1 = 2 → X "java/lang/IllegalStateException" (zpush S 14 0) im) : zCIx g yX7_run M_X7_run [.ref a, .int (zi x), .int (zi d)] S im Q X := by
  have bx := zc_bd cx
  refine v_X7_run G hS cx cd ?_
  refine k_range G cx zc_0 (zc_of (by omega) (by omega)) (fun x1 x2 => ?_) (fun hn => h1 (by unfold oRun; rw [if_neg (by omega)]))
  refine k_range G cd (zc_of (by omega) (by omega)) (zc_of (by omega) (by omega)) (fun d1 d2 => ?_) (fun hn => h1 (by unfold oRun; rw [if_neg (by omega)]))
  refine k_last G hS hM hW.1.1 (by omega) (by omega) (fun hn => ?_) (fun hn => h2 (by unfold oRun; rw [if_pos ⟨x1, d1, d2⟩, if_neg hn]))
  have e : oRun A x d = (0, (aRun A x d.toNat).2.2, (aRun A x d.toNat).1) := by unfold oRun; rw [if_pos ⟨x1, d1, d2⟩, if_pos hn]
  rw [e] at h0
  have := n_runDays G hS.2.2.2.2.2.1 (q := d.toNat) (x := x) (Q := Q) hW hM x1 (by omega) (by omega) (by omega) (fun im' h' => h0 rfl im' ⟨_, h'⟩)
  rw [show ((d.toNat : Nat) : Int) = d from by omega] at this
  exact this
theorem r_run (G : zOK g) {a : Nat} (hS : zS_M S a) (hM : mRep (im (a + 1)) A) {m : Int} (hW : aW (A.1 0 + 1) m A) (hm : m ≤ 700000000) {x d : Int} (cx : zc x) (cd : zc d) {Q : Int → zIm → Prop} (hQ : ∀ im', mP a im im' (oRun A x d).2.2 (oRun A x d).1 → Q (oRun A x d).2.1 im') : zCI g yX8_run M_X8_run [.ref a, .int (zi x), .int (zi d)] S im Q := by
  have d0 := hW.1.1.1
  have bx := zc_bd cx
  refine v_X8_run G hS cx cd (fun im1 e1 => ?_)
  have h1 := mS.i hM e1
  have bad (hb : ¬ (0 ≤ x ∧ 1 ≤ d ∧ d ≤ 30)) : zCI g yX8_fail M_X8_fail [.ref a, .int (zi 1)] S im1 (fun r im' => Q r im') := by
    have e : oRun A x d = (1, 0, A) := by unfold oRun; rw [if_neg hb]
    rw [e] at hQ
    exact r_fail G hS h1 (zc_of (by omega) (by omega)) hQ
  refine ⟨fun h => bad (by omega), fun x1 => ?_⟩
  refine c_between G cd (zc_of (by omega) (by omega)) (zc_of (by omega) (by omega)) (fun d1 d2 => ⟨fun _ => ?_, fun h => absurd h (by decide)⟩) (fun d1 => ⟨fun h => absurd rfl h, fun _ => bad (by omega)⟩)
  rw [h1.h (by omega) (by omega), zw_of (by omega) (by omega)]
  refine ⟨fun hn => ?_, fun hn => ?_⟩
  · have e : oRun A x d = (0, (aRun A x d.toNat).2.2, (aRun A x d.toNat).1) := by unfold oRun; rw [if_pos ⟨x1, d1, d2⟩, if_pos hn]
    rw [e] at hQ
    have := c_runDays G hS (n := d.toNat) (x := x) (Q := Q) hW h1 x1 (by omega) (by omega) (by omega) (fun im' h' => hQ im' (mP_of h' (fun b b0 _ _ => by rw [zst_n b0, zst_n b0]) (fun f f0 f1 => by rw [zst_at, if_neg (fun hh => f1 hh.2), zst_at, if_neg (fun hh => f0 hh.2)]) (by rw [zst_at, if_neg (by omega), zst_at, if_pos ⟨rfl, rfl⟩])))
    rw [show ((d.toNat : Nat) : Int) = d from by omega] at this
    exact this
  · have e : oRun A x d = (2, 0, A) := by unfold oRun; rw [if_pos ⟨x1, d1, d2⟩, if_neg (by omega)]
    rw [e] at hQ
    exact r_fail G hS h1 (zc_of (by omega) (by omega)) hQ
end CM
