/-! bestSite -/
theorem aW.lvu {lo m s i v : Int} {A : aA} (h : aW lo m A) (hl : lo ≤ A.1 0 + 1) (hs : kS A s) (hi : kI A i) (v0 : 0 ≤ v) (v1 : v ≤ 20) (hv : A.1 (92 + 4 * s + i) ≤ v) : aW lo m (aLv A s i v) ∧ ∀ j, (j < 92 ∨ (156 ≤ j ∧ j < 316)) → (aLv A s i v).1 j = A.1 j := by
  obtain ⟨b1, b2⟩ := vI.b h hs hi v0 v1
  have hs' := hs
  have hi' := hi
  unfold kS at hs'
  unfold kI at hi'
  have g2 := h.1.1.2.2.1
  have g3 := h.1.1.2.2.2.1
  unfold aLv
  rw [if_neg (by omega)]
  have hl1 : lo ≤ (aG A (92 + 4 * s + i) v).1 0 + 1 := by rw [aG_n (by omega)]; exact hl
  have hs1 : kS (aG A (92 + 4 * s + i) v) s := by unfold kS; rw [aG_n (by omega)]; exact hs
  have hi1 : kI (aG A (92 + 4 * s + i) v) i := by unfold kI; rw [aG_n (by omega)]; exact hi
  have := vI.n ⟨eK.refl b1, b2⟩ hl1 hs1 hi1 (v - A.1 (92 + 4 * s + i)).toNat (by omega)
  obtain ⟨k, d⟩ := this
  rw [show v - A.1 (92 + 4 * s + i) - ((v - A.1 (92 + 4 * s + i)).toNat : Nat) = 0 from by omega, ite_self] at d
  refine ⟨⟨k.1, d.zero, Nat.le_trans k.2.2.1 h.2.2.1, fun j j0 j1 => ?_⟩, fun j hj => ?_⟩
  · rw [k.2.1 j (by omega), k.2.1 (j + 32) (by omega), aG_n (by omega), aG_n (by omega)]; exact h.2.2.2 j j0 j1
  · rw [k.2.1 j (by omega), aG_n (by omega)]
theorem aRun_ok {A : aA} {m x : Int} {n : Nat} (hW : aW (A.1 0 + 1) m A) (x0 : 0 ≤ x) (x1 : x < 2147483648) (hd : A.1 0 + n ≤ 9999) (hm : m + 28 * n ≤ 900000000) : rI (A.1 0 + n) (A.1 2) (A.1 3) (m + 28 * n) (aRun A x n) :=
  rI.ds (T := (A, x, 0)) ⟨rfl, rfl, rfl, hW, ⟨x0, x1⟩, zc_0⟩ n hd hm
noncomputable def bL (A : aA) (i : Int) (s : Nat) : aA := aLv A s i (A.1 (92 + 4 * s + i) + 1)
noncomputable def bV (A : aA) (i x : Int) (d s : Nat) : Int := zw (vS (aRun (bL A i s) x d).1 348 (-1) (-1))
noncomputable def bS (A : aA) (i x : Int) (d : Nat) : Nat → Int × Int
  | 0 => (-1, 0)
  | s + 1 => if A.1 (92 + 4 * s + i) = 20 then bS A i x d s else if (bS A i x d s).1 = -1 ∨ bV A i x d s < (bS A i x d s).2 then ((s : Int), bV A i x d s) else bS A i x d s
theorem bS_bd (A : aA) (i x : Int) (d s : Nat) : -1 ≤ (bS A i x d s).1 ∧ (bS A i x d s).1 < s ∧ zc (bS A i x d s).2 := by
  induction s with
  | zero => exact ⟨by show (-1 : Int) ≤ -1; omega, by show (-1 : Int) < _; omega, zc_0⟩
  | succ s ih =>
    rw [bS]
    split
    · exact ⟨ih.1, by omega, ih.2.2⟩
    · split
      · exact ⟨by show -1 ≤ (s : Int); omega, by show (s : Int) < _; omega, zc_zw _⟩
      · exact ⟨ih.1, by omega, ih.2.2⟩
noncomputable def oBest (A : aA) (i x d : Int) : aO := if 0 ≤ i ∧ i < A.1 2 then (if 0 ≤ x ∧ 1 ≤ d ∧ d ≤ 10 then (if A.1 0 + d ≤ 9999 then (0, (bS A i x d.toNat (A.1 3).toNat).1, A) else (3, 0, A)) else (2, 0, A)) else (1, 0, A)
theorem bL_ok {A : aA} {m i : Int} {s : Nat} (hW : aW (A.1 0 + 1) m A) (hs : (s : Int) < A.1 3) (hi : kI A i) (h20 : A.1 (92 + 4 * s + i) ≠ 20) : aW ((bL A i s).1 0 + 1) m (bL A i s) ∧ (bL A i s).1 0 = A.1 0 ∧ 0 ≤ A.1 (92 + 4 * s + i) ∧ A.1 (92 + 4 * s + i) < 20 := by
  have g2 := hW.1.1.2.2.1
  have g3 := hW.1.1.2.2.2.1
  have hi' := hi
  unfold kI at hi'
  have lvb := hW.1.1.2.2.2.2.2.2.2.1 (92 + 4 * s + i) (by omega) (by omega)
  have := hW.lvu (s := s) (i := i) (v := A.1 (92 + 4 * s + i) + 1) (by omega) ⟨by omega, hs⟩ hi (by omega) (by omega) (by omega)
  have e0 : (bL A i s).1 0 = A.1 0 := this.2 0 (by omega)
  refine ⟨?_, e0, lvb.1, by omega⟩
  rw [e0]
  exact this.1
theorem nRep.cong {im im' : zIm} {n : Nat} {A : aA} (h : nRep im n A) (e : ∀ b, n ≤ b → b < n + 40 → im' b = im b) : nRep im' n A :=
  ⟨h.1.cong (fun b b0 b1 => e b b0 (by omega)), h.2.1.cong (fun b b0 b1 => e b (by omega) (by omega)), h.2.2.1.cong (fun b b0 b1 => e b (by omega) (by omega)), h.2.2.2.1.cong (fun b b0 b1 => e b (by omega) (by omega)), h.2.2.2.2.cong (fun b b0 b1 => e b (by omega) (by omega))⟩
section BE
variable {g : zG} {S : zSh} {im : zIm} {a an as av at_ : Nat} {A : aA} {y : Int}
theorem r_bs_loop (G : zOK g) (hS : zS_M S a) {m : Int} (hW : aW (A.1 0 + 1) m A) (hm : m + 280 ≤ 700000000) {i x : Int} {d : Nat} (hi : kI A i) (x0 : 0 ≤ x) (x1 : x < 2147483648) (d0 : 1 ≤ d) (d1 : d ≤ 10) (hd : A.1 0 + d ≤ 9999) {Q : Int → zIm → Prop} (hQ : ∀ im', mP a im im' A 0 → Q (bS A i x d (A.1 3).toNat).1 im') :
    ∀ (f s : Nat) (im1 : zIm), (s : Int) + f = A.1 3 → mP a im im1 A 0 → mRep (im1 (a + 2)) A → zPI g M_X8_bestSite 89 [(0, .ref a), (1, .int (zi i)), (2, .int (zi x)), (3, .int (zi d)), (4, .int (zi (A.1 3))), (5, .int (zi (bS A i x d s).1)), (6, .int (zi (bS A i x d s).2)), (7, .int (zi s))] S im1 Q := by
  have hG := hW.1.1
  have g2 := hG.2.2.1
  have g3 := hG.2.2.2.1
  have g0 := hG.1
  have hi' := hi
  unfold kI at hi'
  have hF := hW.fit
  intro f
  induction f with
  | zero =>
    intro s im1 hs hP hB
    have bd := bS_bd A i x d s
    refine v_X8_bestSite_89 G hS (zc_of (by omega) (by omega)) (zc_of (by omega) (by omega)) (zc_of (by omega) (by omega)) (zc_of (by omega) (by omega)) (zc_of (by omega) (by omega)) bd.2.2 (zc_of (by omega) (by omega)) ⟨fun _ => ?_, fun h => absurd h (by omega)⟩
    rw [show s = (A.1 3).toNat from by omega]
    exact hQ im1 hP
  | succ f ih =>
    intro s im1 hs hP hB
    have bd := bS_bd A i x d s
    refine v_X8_bestSite_89 G hS (zc_of (by omega) (by omega)) (zc_of (by omega) (by omega)) (zc_of (by omega) (by omega)) (zc_of (by omega) (by omega)) (zc_of (by omega) (by omega)) bd.2.2 (zc_of (by omega) (by omega)) ⟨fun h => absurd h (by omega), fun _ => ?_⟩
    rw [zwS (k := s) (by omega)]
    refine c_at G (by omega) (by omega) (by omega) (by omega) hi'.1 (by omega) ⟨⟨by omega, by omega⟩, ?_⟩
    rw [hB.g (i := 92 + 4 * s + i) (by omega) (by omega) (by omega) (by omega) (by omega)]
    refine ⟨fun hn => ?_, fun hn => ?_⟩
    · obtain ⟨w1, w2, w3, w4⟩ := bL_ok hW (by omega) hi hn
      have w5 := aRun_ok (n := d) w1 x0 x1 (by rw [w2]; exact hd) (by omega)
      refine c_at G (by omega) (by omega) (by omega) (by omega) hi'.1 (by omega) ⟨⟨by omega, by omega⟩, ?_⟩
      rw [hP.2.2.2.g (i := 92 + 4 * s + i) (by omega) (by omega) (by omega) (by omega) (by omega), zw_of (by omega) (by omega)]
      refine c_putLevel G hS (mS.i0 (t := 0) hP.2.2.2) hW (by omega) ⟨by omega, by omega⟩ hi (by omega) (by omega) (fun im2 h2 => ?_)
      refine c_runDays G hS w1 h2 x0 x1 (by omega) (by rw [w2]; exact hd) (fun im3 h3 => ?_)
      refine c_sum G hS h3 w5.2.2.2.1.1.1 (by omega) (by omega) (zc_of (by omega) (by omega)) (zc_of (by omega) (by omega)) ?_
      change (_ → _) ∧ (_ → _)
      have back (b v : Int) (hbv : bS A i x d (s + 1) = (b, v)) : zCV g yX8_copy M_X8_copy [.ref (a + 2), .int (zi 0), .ref (a + 1), .int (zi 0)] S im3 (fun im19 => zPI g M_X8_bestSite 89 [(0, .ref a), (1, .int (zi i)), (2, .int (zi x)), (3, .int (zi d)), (4, .int (zi (A.1 3))), (5, .int (zi b)), (6, .int (zi v)), (7, .int (zi ((s + 1 : Nat) : Int)))] S im19 Q) := by
        have l2 : zln S (a + 2) = 7692 := (hS 2 (by decide)).2.1
        have l1 : zln S (a + 1) = 7692 := (hS 1 (by decide)).2.1
        refine c_copy G (hS 2 (by decide)).1 (hS 1 (by decide)).1 (by omega) (by omega) (by omega) (by omega) (by omega) (by omega) (by omega) ?_
        have e2 : im3 (a + 2) = im1 (a + 2) := by rw [h3.1 _ (by omega), zst_n (by omega)]
        have := ih (s + 1) (zsr im3 (a + 1) (fun j => if (0 : Int) ≤ j ∧ j < 0 + 7692 then im3 (a + 2) (0 + (j - 0)) else im3 (a + 1) j)) (by omega) ⟨fun b b0 b1 b2 => ?_, fun f f4 f5 => ?_, ?_, ?_⟩ ?_
        · rw [hbv] at this
          exact this
        · rw [zsr_n b1, h3.1 b b1, zst_n b0]; exact hP.1 b b0 b1 b2
        · rw [zsr_n (by omega), h3.1 a (by omega), zst_at, if_neg (fun hh => f5 hh.2)]; exact hP.2.1 f f4 f5
        · rw [zsr_n (by omega), h3.1 a (by omega), zst_at, if_neg (by omega)]; exact hP.2.2.1
        · rw [zsr_s]
          refine hB.cong hF (fun j j0 j1 => ?_)
          rw [if_pos (by omega), e2]
          congr 1
          omega
        · rw [zsr_n (by omega), e2]; exact hB
      have eS : bS A i x d (s + 1) = if (bS A i x d s).1 = -1 ∨ bV A i x d s < (bS A i x d s).2 then ((s : Int), bV A i x d s) else bS A i x d s := by rw [bS, if_neg hn]
      refine ⟨fun h5 => back _ _ (by rw [eS, if_pos (Or.inl h5)]; rfl), fun h5 => ⟨fun h6 => back _ _ (by rw [eS, if_neg (fun hh => hh.elim h5 (fun h7 => absurd h6 (Int.not_le.mpr h7)))]), fun h6 => back _ _ (by rw [eS, if_pos (Or.inr (show bV A i x d s < (bS A i x d s).2 from h6))]; rfl)⟩⟩
    · have := ih (s + 1) im1 (by omega) hP hB
      rw [bS, if_pos hn] at this
      exact this
theorem r_bestSite (G : zOK g) (hS : zS_M S a) (hM : mRep (im (a + 1)) A) {m : Int} (hW : aW (A.1 0 + 1) m A) (hm : m + 280 ≤ 700000000) {i x d : Int} (ci : zc i) (cx : zc x) (cd : zc d) {Q : Int → zIm → Prop} (hQ : ∀ im', mP a im im' (oBest A i x d).2.2 (oBest A i x d).1 → Q (oBest A i x d).2.1 im') : zCI g yX8_bestSite M_X8_bestSite [.ref a, .int (zi i), .int (zi x), .int (zi d)] S im Q := by
  have hG := hW.1.1
  have g0 := hG.1
  have g3 := hG.2.2.2.1
  have bx := zc_bd cx
  refine v_X8_bestSite G hS ci cx cd (fun im1 e1 => ?_)
  have h1 := mS.i hM e1
  refine r_isItem G hS h1 hG ci (fun b1 b2 => ⟨fun _ => ?_, fun h => absurd h (by decide)⟩) (fun b1 => ⟨fun h => absurd rfl h, fun _ => ?_⟩)
  · have bad (hb : ¬ (0 ≤ x ∧ 1 ≤ d ∧ d ≤ 10)) : zCI g yX8_fail M_X8_fail [.ref a, .int (zi 2)] S im1 (fun r im' => Q r im') := by
      have e : oBest A i x d = (2, 0, A) := by unfold oBest; rw [if_pos ⟨b1, b2⟩, if_neg hb]
      rw [e] at hQ
      exact r_fail G hS h1 (zc_of (by omega) (by omega)) hQ
    refine ⟨fun h => bad (by omega), fun x0 => ?_⟩
    refine c_between G cd (zc_of (by omega) (by omega)) (zc_of (by omega) (by omega)) (fun d1 d2 => ⟨fun _ => ?_, fun h => absurd h (by decide)⟩) (fun d1 => ⟨fun h => absurd rfl h, fun _ => bad (by omega)⟩)
    rw [h1.h (i := 0) (by omega) (by omega), zw_of (by omega) (by omega)]
    refine ⟨fun hn => ?_, fun hn => ?_⟩
    · have e : oBest A i x d = (0, (bS A i x d.toNat (A.1 3).toNat).1, A) := by unfold oBest; rw [if_pos ⟨b1, b2⟩, if_pos ⟨x0, d1, d2⟩, if_pos hn]
      rw [e] at hQ
      have l2 : zln S (a + 2) = 7692 := (hS 2 (by decide)).2.1
      have l1 : zln S (a + 1) = 7692 := (hS 1 (by decide)).2.1
      refine c_copy G (hS 1 (by decide)).1 (hS 2 (by decide)).1 (by omega) (by omega) (by omega) (by omega) (by omega) (by omega) (by omega) ?_
      rw [zsr_n (by omega), h1.h (i := 3) (by omega) (by omega)]
      have := r_bs_loop (im := im) G hS hW hm (d := d.toNat) ⟨b1, b2⟩ x0 (by omega) (by omega) (by omega) (by omega) (Q := Q) hQ (A.1 3).toNat 0 (zsr im1 (a + 2) (fun j => if (0 : Int) ≤ j ∧ j < 0 + 7692 then im1 (a + 1) (0 + (j - 0)) else im1 (a + 2) j)) (by omega) ⟨fun b b0 b1 b2 => ?_, fun f f4 f5 => ?_, ?_, ?_⟩ ?_
      · rw [show ((d.toNat : Nat) : Int) = d from by omega] at this
        exact this
      · rw [zsr_n b2, h1.1 b b1, zst_n b0]
      · rw [zsr_n (by omega), h1.1 a (by omega), zst_at, if_neg (fun hh => f4 hh.2)]
      · rw [zsr_n (by omega), h1.1 a (by omega), zst_at, if_pos ⟨rfl, rfl⟩]
      · rw [zsr_n (by omega)]; exact h1.2
      · rw [zsr_s]
        refine h1.2.cong hW.fit (fun j j0 j1 => ?_)
        rw [if_pos (by omega)]
        congr 1
        omega
    · have e : oBest A i x d = (3, 0, A) := by unfold oBest; rw [if_pos ⟨b1, b2⟩, if_pos ⟨x0, d1, d2⟩, if_neg (by omega)]
      rw [e] at hQ
      exact r_fail G hS h1 (zc_of (by omega) (by omega)) hQ
  · have e : oBest A i x d = (1, 0, A) := by unfold oBest; rw [if_neg b1]
    rw [e] at hQ
    exact r_fail G hS h1 (zc_of (by omega) (by omega)) hQ
theorem k_bs_loop (G : zOK g) (hS : zDep S a an as av at_) (hdis : as + 41 ≤ an ∨ an + 41 ≤ as) (hR : nRep im an A) {m : Int} (hW : aW (A.1 0 + 1) m A) (hm : m + 280 ≤ 700000000) {i x : Int} {d : Nat} (hi : kI A i) (x0 : 0 ≤ x) (x1 : x < 2147483648) (d0 : 1 ≤ d) (d1 : d ≤ 10) (hd : A.1 0 + d ≤ 9999) {Q : Int → zIm → Prop} {X : String → zSh → zIm → Prop} (hQ : ∀ im', (∀ b, (b < as ∨ as + 41 ≤ b) → im' b = im b) → Q (bS A i x d (A.1 3).toNat).1 im') :
    ∀ (f s : Nat) (im1 : zIm), (s : Int) + f = A.1 3 → (∀ b, (b < as ∨ as + 41 ≤ b) → im1 b = im b) → zPIx g M_X7_bestSite 4 24 33 [(0, .ref a), (1, .int (zi i)), (2, .int (zi x)), (3, .int (zi d)), (4, .int (zi (bS A i x d s).1)), (5, .int (zi (bS A i x d s).2)), (6, .int (zi s))] S im1 Q X := by
  have hG := hW.1.1
  have g2 := hG.2.2.1
  have g3 := hG.2.2.2.1
  have g0 := hG.1
  have sz := hW.sz
  have hi' := hi
  unfold kI at hi'
  have hSn := hS.2.2.2.2.2.1
  have hSs := hS.2.2.2.2.2.2.1
  have hN (im1 : zIm) (hf : ∀ b, (b < as ∨ as + 41 ≤ b) → im1 b = im b) : nS an (im1 (an + 40) 0) im1 im1 A := ⟨fun _ _ => rfl, rfl, hR.cong (fun b b0 b1 => hf b (by omega))⟩
  intro f
  induction f with
  | zero =>
    intro s im1 hs hf
    have bd := bS_bd A i x d s
    have hM := hN im1 hf
    refine v_X7_bestSite_33 G hS (zc_of (by omega) (by omega)) (zc_of (by omega) (by omega)) (zc_of (by omega) (by omega)) (zc_of (by omega) (by omega)) bd.2.2 (zc_of (by omega) (by omega)) ⟨fun _ => ?_, fun h => absurd h (by rw [hM.st]; omega)⟩
    rw [show s = (A.1 3).toNat from by omega]
    exact hQ im1 hf
  | succ f ih =>
    intro s im1 hs hf
    have bd := bS_bd A i x d s
    have hM := hN im1 hf
    refine v_X7_bestSite_33 G hS (zc_of (by omega) (by omega)) (zc_of (by omega) (by omega)) (zc_of (by omega) (by omega)) (zc_of (by omega) (by omega)) bd.2.2 (zc_of (by omega) (by omega)) ⟨fun h => absurd h (by rw [hM.st]; omega), fun _ => ?_⟩
    rw [zwS (k := s) (by omega)]
    refine c_cell G (by omega) (by omega) hi'.1 (by omega) ⟨⟨by omega, by omega⟩, ?_⟩
    rw [hM.t (c := 1) (t := 92) (by unfold tP; omega) (by omega) (by omega) hi'.1 (by omega)]
    have lvb := hG.2.2.2.2.2.2.2.1 (92 + 4 * s + i) (by omega) (by omega)
    refine ⟨fun hn => ?_, fun hn => ?_⟩
    · have := ih (s + 1) im1 (by omega) hf
      rw [bS, if_pos (by omega)] at this
      exact this
    · obtain ⟨w1, w2, w3, w4⟩ := bL_ok hW (s := s) (by omega) hi (by omega)
      have w5 := aRun_ok (n := d) w1 x0 x1 (by rw [w2]; exact hd) (by omega)
      refine k_copyFrom G hSs hSn hdis hM.2.2 hG (by omega) (by omega) (by omega) (fun im2 h2 => ?_)
      refine c_cell G (by omega) (by omega) hi'.1 (by omega) ⟨⟨by omega, by omega⟩, ?_⟩
      rw [h2.t (c := 1) (t := 92) (by unfold tP; omega) (by omega) (by omega) hi'.1 (by omega), zw_of (by omega) (by omega)]
      refine n_changeLevel G hSs h2 hW (by omega) ⟨by omega, by omega⟩ hi (by omega) (by omega) (fun im3 h3 => ?_)
      refine n_runDays G hSs w1 h3 x0 x1 (by omega) (by rw [w2]; exact hd) (fun im4 h4 => ?_)
      refine k_total G hSs h4 w5.2.2.2.1.1.1 (c := 16) (t := 348) (by unfold tP; omega) (hSs 16 (by decide)).1 (hSs 16 (by decide)).2.1 (Or.inl rfl) (Or.inl rfl) ?_
      have hf4 : ∀ b, (b < as ∨ as + 41 ≤ b) → im4 b = im b := fun b hb => by rw [h4.1 b hb]; exact hf b hb
      have eS : bS A i x d (s + 1) = if (bS A i x d s).1 = -1 ∨ bV A i x d s < (bS A i x d s).2 then ((s : Int), bV A i x d s) else bS A i x d s := by rw [bS, if_neg (by omega)]
      have := ih (s + 1) im4 (by omega) hf4
      rw [eS] at this
      refine ⟨fun h5 => ?_, fun h5 => ⟨fun h6 => ?_, fun h6 => ?_⟩⟩
      · rw [if_pos (Or.inl h5)] at this; exact this
      · rw [if_neg (fun hh => hh.elim h5 (fun h7 => absurd h6 (Int.not_le.mpr h7)))] at this; exact this
      · rw [if_pos (Or.inr (show bV A i x d s < (bS A i x d s).2 from h6))] at this; exact this
theorem k_bestSite (G : zOK g) (hS : zDep S a an as av at_) (hdis : as + 41 ≤ an ∨ an + 41 ≤ as) (hM : nS an y im im A) {m : Int} (hW : aW (A.1 0 + 1) m A) (hm : m + 280 ≤ 700000000) {i x d : Int} (ci : zc i) (cx : zc x) (cd : zc d) {Q : Int → zIm → Prop} {X : String → zSh → zIm → Prop} (h0 : (oBest A i x d).1 = 0 → ∀ im', (∀ b, (b < as ∨ as + 41 ≤ b) → im' b = im b) → Q (oBest A i x d).2.1 im') (h1 : (oBest A i x d).1 = 1 → X "java/lang/IndexOutOfBoundsException" (zpush S 14 0) im) (h2 : (oBest A i x d).1 = 2 → X "java/lang/IllegalArgumentException" (zpush S 14 0) im) (h3 : (oBest A i x d).1 = 3 → X "java/lang/IllegalStateException" (zpush S 14 0) im) : zCIx g yX7_bestSite M_X7_bestSite [.ref a, .int (zi i), .int (zi x), .int (zi d)] S im Q X := by
  have hG := hW.1.1
  have g3 := hG.2.2.2.1
  have bx := zc_bd cx
  refine v_X7_bestSite G hS ci cx cd ?_
  refine k_item G hS hM ci (fun b1 b2 => ?_) (fun hn => h1 (by unfold oBest; rw [if_neg hn]))
  have bad (hb : ¬ (0 ≤ x ∧ 1 ≤ d ∧ d ≤ 10)) : X "java/lang/IllegalArgumentException" (zpush S 14 0) im := h2 (by unfold oBest; rw [if_pos ⟨b1, b2⟩, if_neg hb])
  refine k_range G cx zc_0 (zc_of (by omega) (by omega)) (fun x0 _ => ?_) (fun hn => bad (by omega))
  refine k_range G cd (zc_of (by omega) (by omega)) (zc_of (by omega) (by omega)) (fun d1 d2 => ?_) (fun hn => bad (by omega))
  refine k_last G hS hM hG (by omega) (by omega) (fun hn => ?_) (fun hn => h3 (by unfold oBest; rw [if_pos ⟨b1, b2⟩, if_pos ⟨x0, d1, d2⟩, if_neg hn]))
  have e : oBest A i x d = (0, (bS A i x d.toNat (A.1 3).toNat).1, A) := by unfold oBest; rw [if_pos ⟨b1, b2⟩, if_pos ⟨x0, d1, d2⟩, if_pos hn]
  rw [e] at h0
  have := k_bs_loop (X := X) G hS hdis hM.2.2 hW hm (d := d.toNat) ⟨b1, b2⟩ x0 (by omega) (by omega) (by omega) (by omega) (Q := Q) (h0 rfl) (A.1 3).toNat 0 im (by omega) (fun _ _ => rfl)
  rw [show ((d.toNat : Nat) : Int) = d from by omega] at this
  exact this
end BE
