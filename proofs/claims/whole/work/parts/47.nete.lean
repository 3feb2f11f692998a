/-! the class's runs and levels -/
theorem nS.gx {n : Nat} {x v : Int} {im0 im im' : zIm} {A : aA} (h : nS n x im0 im A) (e : im' = zst im (n + 40) 0 v) : nS n v im0 im' A := by
  obtain ⟨hf, hx, hg, hu, hw, ho, hc⟩ := h
  have n1 (b : Nat) (hb : b ≠ n + 40) : im' b = im b := by rw [e, zst_n hb]
  exact ⟨fun b hb => by rw [n1 b (by omega)]; exact hf b hb, by rw [e, zst_at, if_pos ⟨rfl, rfl⟩], hg.cong (fun b b0 b1 => n1 b (by omega)), hu.cong (fun b b0 b1 => n1 b (by omega)), hw.cong (fun b b0 b1 => n1 b (by omega)), ho.cong (fun b b0 b1 => n1 b (by omega)), hc.cong (fun b b0 b1 => n1 b (by omega))⟩
theorem nS.rfu {n : Nat} {x : Int} {im0 im im' : zIm} {A : aA} (h : nS n x im0 im A) (hg : gB A.1) {v : Int} (e : im' = zst im (n + 12) 0 v) : nS n x im0 im' (aG A 7 v) := by
  obtain ⟨hf, hx, ⟨a0, a1, a2, a3, a4, a5, a6, a7, a8⟩, hu, hw, ho, hcu⟩ := h
  have g2 := hg.2.2.1
  have g3 := hg.2.2.2.1
  have n1 (b : Nat) (hb : b ≠ n + 12) : im' b = im b := by rw [e, zst_n hb]
  have z (j : Int) (hj : j ≠ 7) : (aG A 7 v).1 j = A.1 j := aG_n hj
  refine ⟨fun b hb => by rw [n1 b (by omega)]; exact hf b hb, by rw [n1 _ (by omega)]; exact hx, ⟨?_, ?_, ?_, ?_, ?_, fun k k0 k1 => ?_, fun k k0 k1 => ?_, fun j j0 j1 => ?_, fun c' t' hc2 j j0 j1 => ?_⟩, hu.cong (fun b b0 b1 => n1 b (by omega)), hw.cong (fun b b0 b1 => n1 b (by omega)), ho.cong (fun b b0 b1 => n1 b (by omega)), hcu.cong (fun b b0 b1 => n1 b (by omega))⟩
  · rw [n1 _ (by omega), z _ (by omega)]; exact a0
  · rw [n1 _ (by omega), z _ (by omega)]; exact a1
  · rw [n1 _ (by omega), z _ (by omega)]; exact a2
  · rw [n1 _ (by omega), z _ (by omega)]; exact a3
  · rw [e, zst_at, if_pos ⟨rfl, rfl⟩]; exact aG_s.symm
  · rw [z 2 (by omega)] at k1
    rw [n1 _ (by omega), n1 _ (by omega), n1 _ (by omega), z _ (by omega), z _ (by omega), z _ (by omega)]; exact a5 k k0 k1
  · rw [z 3 (by omega)] at k1
    rw [n1 _ (by omega), z _ (by omega)]; exact a6 k k0 k1
  · rw [n1 _ (by omega), z _ (by omega)]; exact a7 j j0 j1
  · have h2 := a8 c' t' hc2 j j0 j1
    unfold tP at hc2
    rw [n1 _ (by omega), z _ (by omega)]; exact h2
section NF
variable {g : zG} {S : zSh} {n : Nat} {im0 : zIm}
theorem n_draw (G : zOK g) {x c : Int} {im : zIm} {A : aA} (hS : zS_N S n) (hM : nS n x im0 im A) (cc : zc c) (c0 : 0 < c) {Q : Int → zIm → Prop} (hQ : ∀ im', nS n (rn x) im0 im' A → Q (dv (rn x) c) im') : zCI g yX1_draw M_X1_draw [.ref (n + 40), .int (zi c)] S im Q := by
  refine v_X1_draw G (zN_G hS) cc (fun im1 e1 => ⟨fun _ => ⟨by omega, ?_⟩, fun h => absurd h (by omega)⟩)
  rw [hM.2.1] at e1
  have h1 : nS n (rn x) im0 im1 A := hM.gx e1
  rw [h1.2.1]
  exact hQ im1 h1
theorem n_refuses (G : zOK g) {x : Int} {im : zIm} {A : aA} (hS : zS_N S n) (hM : nS n x im0 im A) (hU : A.2.1.length < 1000) {Q : Int → zIm → Prop} (ht : (200 ≤ A.2.1.length ∨ 100 ≤ A.2.2.1.length) → Q 1 im) (hf : A.2.1.length < 200 → A.2.2.1.length < 100 → Q 0 im) : zCI g yX2_refuses M_X2_refuses [.ref n] S im Q := by
  have h1 := hM.2.2.2.1.1
  have h2 := hM.2.2.2.2.1.1
  have h3 := hM.2.2.2.2.2.2.1
  have hl := sr_wl_len A.2.1
  refine v_X2_refuses G hS ?_
  rw [h1, h2, h3, zw_of (by omega) (by omega)]
  exact ⟨fun h => ht (by omega), fun h => ⟨fun h' => hf (by omega) (by omega), fun h' => ht (by omega)⟩⟩
theorem n_drawDemand (G : zOK g) {T : aT} {im : zIm} {d it st m b i : Int} (hS : zS_N S n) (hI : rI d it st m T) (hM : nS n T.2.1 im0 im T.1) (b0 : 1 ≤ b) (b1 : b < st) (i0 : 0 ≤ i) (i1 : i < it) {Q : Int → zIm → Prop} (hQ : ∀ r im', nS n (aDD T b i).2.1 im0 im' (aDD T b i).1 → zw (T.2.2 + r) = (aDD T b i).2.2 → Q r im') : zCI g yX2_drawDemand M_X2_drawDemand [.ref n, .int (zi b), .int (zi i)] S im Q := by
  have hs := hI.st
  have sz := hI.2.2.2.1.sz
  have hx := hI.2.2.2.2.1
  have r1 := rn_bd hx.1 hx.2
  have r2 := rn_bd r1.1 r1.2
  have p := dv_bd (c := 10) r2.1 r2.2 (by omega) (by omega)
  have hB := hI.2.2.2.1.1
  unfold aDD at hQ
  refine v_X2_drawDemand G hS (zc_of (by omega) (by omega)) (zc_of (by omega) (by omega)) ?_
  refine n_draw G hS hM (zc_of (by omega) (by omega)) (by omega) (fun im1 h1 => ?_)
  refine c_cell G (by omega) (by omega) (by omega) (by omega) ⟨⟨by omega, by omega⟩, ?_⟩
  rw [h1.t (c := 11) (t := 220) (by unfold tP; omega) (by omega) (by omega) (by omega) (by omega)]
  refine ⟨fun hr => ?_, fun hr => ?_⟩
  · rw [if_neg (by omega)] at hQ
    refine n_draw G hS h1 (zc_of (by omega) (by omega)) (by omega) (fun im2 h2 => ?_)
    refine n_refuses G hS h2 (by omega) (fun hf => ⟨fun h => absurd h (by decide), fun _ im3 e3 => ?_⟩) (fun u1 u2 => ⟨fun _ => ?_, fun h => absurd rfl h⟩)
    · rw [if_pos hf] at hQ
      rw [h2.rf] at e3
      exact hQ 0 im3 (h2.rfu hB.1 e3) rfl
    · rw [if_neg (by omega)] at hQ
      refine n_occ G hS h2 hB (by rw [hI.1]; omega) (by omega) (by omega) (by omega) ⟨b0, by rw [hI.2.2.1]; exact b1⟩ ⟨i0, by rw [hI.2.1]; exact i1⟩ p.1 (by omega) (fun im3 h3 => ?_)
      exact hQ 1 im3 h3 rfl
  · rw [if_pos hr] at hQ
    exact hQ 0 im1 h1 rfl
theorem n_it_loop (G : zOK g) {T : aT} {d it st m b q k : Int} (hS : zS_N S n) (hI : rI d it st m T) (hm : m ≤ 900000000) (b0 : 1 ≤ b) (b1 : b < st) (cn : zc q) (ck : zc k) {Q : Int → zIm → Prop} (hQ : ∀ im', nS n (aIt b it.toNat T).2.1 im0 im' (aIt b it.toNat T).1 → zPI g M_X2_runDays 26 [(0, .ref n), (2, .int (zi q)), (3, .int (zi (aIt b it.toNat T).2.2)), (4, .int (zi k)), (5, .int (zi (zw (b + 1))))] S im' Q) :
    ∀ (f j : Nat) (im : zIm), (j : Int) + f = it → nS n (aIt b j T).2.1 im0 im (aIt b j T).1 → zPI g M_X2_runDays 41 [(0, .ref n), (2, .int (zi q)), (3, .int (zi (aIt b j T).2.2)), (4, .int (zi k)), (5, .int (zi b)), (6, .int (zi j))] S im Q := by
  have hs := hI.st
  intro f
  induction f with
  | zero =>
    intro j im hj hM
    have hI' := hI.it b0 b1 j (by omega) (by omega)
    refine v_X2_runDays_41 G hS cn hI'.2.2.2.2.2 ck (zc_of (by omega) (by omega)) (zc_of (by omega) (by omega)) ⟨fun _ => ?_, fun h => ?_⟩
    · rw [show it.toNat = j from by omega] at hQ
      exact hQ im hM
    · rw [hM.it, hI'.2.1] at h; omega
  | succ f ih =>
    intro j im hj hM
    have hI' := hI.it b0 b1 j (by omega) (by omega)
    refine v_X2_runDays_41 G hS cn hI'.2.2.2.2.2 ck (zc_of (by omega) (by omega)) (zc_of (by omega) (by omega)) ⟨fun h => ?_, fun _ => ?_⟩
    · rw [hM.it, hI'.2.1] at h; omega
    · refine n_drawDemand G hS hI' hM b0 b1 (by omega) (by omega) (fun r im1 h1 e1 => ?_)
      have st := ih (j + 1) im1 (by omega) h1
      rw [show (aIt b (j + 1) T).2.2 = zw ((aIt b j T).2.2 + r) from e1.symm] at st
      rw [zwS (k := j) (by omega)]
      exact st
theorem n_bs_loop (G : zOK g) {T : aT} {d it st m q k : Int} (hS : zS_N S n) (hI : rI d it st m T) (hm : m ≤ 800000000) (cn : zc q) (ck : zc k) {Q : Int → zIm → Prop} (hQ : ∀ im', nS n (aBs it.toNat (st.toNat - 1) T).2.1 im0 im' (aBs it.toNat (st.toNat - 1) T).1 → zPI g M_X2_runDays 13 [(0, .ref n), (2, .int (zi q)), (3, .int (zi (aBs it.toNat (st.toNat - 1) T).2.2)), (4, .int (zi (zw (k + 1))))] S im' Q) :
    ∀ (f j : Nat) (im : zIm), (j : Int) + 1 + f = st → nS n (aBs it.toNat j T).2.1 im0 im (aBs it.toNat j T).1 → zPI g M_X2_runDays 26 [(0, .ref n), (2, .int (zi q)), (3, .int (zi (aBs it.toNat j T).2.2)), (4, .int (zi k)), (5, .int (zi ((j : Int) + 1)))] S im Q := by
  have hs := hI.st
  intro f
  induction f with
  | zero =>
    intro j im hj hM
    have hI' := hI.bs j (by omega) hs.1 hs.2.2 (by omega)
    refine v_X2_runDays_26 G hS cn hI'.2.2.2.2.2 ck (zc_of (by omega) (by omega)) ⟨fun _ => ?_, fun h => ?_⟩
    · rw [show st.toNat - 1 = j from by omega] at hQ
      exact hQ im hM
    · rw [hM.st, hI'.2.2.1] at h; omega
  | succ f ih =>
    intro j im hj hM
    have hI' := hI.bs j (by omega) hs.1 hs.2.2 (by omega)
    refine v_X2_runDays_26 G hS cn hI'.2.2.2.2.2 ck (zc_of (by omega) (by omega)) ⟨fun h => ?_, fun _ => ?_⟩
    · rw [hM.st, hI'.2.2.1] at h; omega
    · refine n_it_loop G hS hI' (by omega) (b := (j : Int) + 1) (by omega) (by omega) cn ck (fun im1 h1 => ?_) it.toNat 0 im (by omega) hM
      have st := ih (j + 1) im1 (by omega) h1
      rw [zw_of (by omega) (by omega), show (j : Int) + 1 + 1 = ((j + 1 : Nat) : Int) + 1 from by omega]
      exact st
theorem n_ds_loop (G : zOK g) {T : aT} {d it st m : Int} {q : Nat} (hS : zS_N S n) (hI : rI d it st m T) (hm : m + 28 * q ≤ 800000000) (hd : d + q ≤ 9999) {Q : Int → zIm → Prop} (hQ : ∀ im', nS n (aDs it.toNat st.toNat q T).2.1 im0 im' (aDs it.toNat st.toNat q T).1 → Q (aDs it.toNat st.toNat q T).2.2 im') :
    ∀ (f j : Nat) (im : zIm), j + f = q → nS n (aDs it.toNat st.toNat j T).2.1 im0 im (aDs it.toNat st.toNat j T).1 → zPI g M_X2_runDays 13 [(0, .ref n), (2, .int (zi q)), (3, .int (zi (aDs it.toNat st.toNat j T).2.2)), (4, .int (zi j))] S im Q := by
  have hs := hI.st
  have d0 := hI.2.2.2.1.1.1.1
  rw [hI.1] at d0
  intro f
  induction f with
  | zero =>
    intro j im hj hM
    have hI' := hI.ds j (by omega) (by omega)
    refine v_X2_runDays_13 G hS (zc_of (by omega) (by omega)) hI'.2.2.2.2.2 (zc_of (by omega) (by omega)) ⟨fun _ => ?_, fun h => absurd h (by omega)⟩
    rw [show q = j from by omega] at hQ
    exact hQ im hM
  | succ f ih =>
    intro j im hj hM
    have hI' := hI.ds j (by omega) (by omega)
    refine v_X2_runDays_13 G hS (zc_of (by omega) (by omega)) hI'.2.2.2.2.2 (zc_of (by omega) (by omega)) ⟨fun h => absurd h (by omega), fun _ => ?_⟩
    have hI2 := hI'.day (by omega)
    refine n_beginDay G hS hM (by rw [hI'.1]; exact hI'.2.2.2.1) (by rw [hI'.1]; omega) (fun im1 h1 => ?_)
    refine n_bs_loop G hS (k := j) hI2 (by omega) (zc_of (by omega) (by omega)) (zc_of (by omega) (by omega)) (fun im2 h2 => ?_) (st.toNat - 1) 0 im1 (by omega) h1
    rw [zwS (k := j) (by omega)]
    exact ih (j + 1) im2 (by omega) h2
theorem n_runDays (G : zOK g) {A : aA} {m x y : Int} {q : Nat} {im : zIm} (hS : zS_N S n) (hW : aW (A.1 0 + 1) m A) (hM : nS n y im0 im A) (x0 : 0 ≤ x) (x1 : x < 2147483648) (hm : m + 28 * q ≤ 800000000) (hd : A.1 0 + q ≤ 9999) {Q : Int → zIm → Prop} (hQ : ∀ im', nS n (aRun A x q).2.1 im0 im' (aRun A x q).1 → Q (aRun A x q).2.2 im') : zCI g yX2_runDays M_X2_runDays [.ref n, .int (zi x), .int (zi q)] S im Q := by
  have d0 := hW.1.1.1
  refine v_X2_runDays G hS (zc_of (by omega) (by omega)) (zc_of (by omega) (by omega)) ?_
  refine v_X1_start G (zN_G hS) (zc_of (by omega) (by omega)) (fun im1 e1 => ?_)
  exact n_ds_loop G hS (T := (A, x, 0)) (d := A.1 0) (it := A.1 2) (st := A.1 3) (m := m) ⟨rfl, rfl, rfl, hW, ⟨x0, x1⟩, zc_0⟩ hm hd hQ q 0 im1 (by omega) (hM.gx e1)
theorem n_lv_loop (G : zOK g) {x lo s i c : Int} {A : aA} (hS : zS_N S n) (hV : vI lo s i c A A) (hz : A.2.2.1.length ≤ 100 ∧ A.2.2.2.length ≤ 281) (hl : lo ≤ A.1 0 + 1) (hs : kS A s) (hi : kI A i) (c0 : 0 ≤ c) (c1 : c ≤ 20) {Q : zIm → Prop} (hQ : ∀ im', nS n x im0 im' (aLvN s i c.toNat A) → Q im') :
    ∀ (f k : Nat) (im : zIm), (k : Int) + f = c → nS n x im0 im (aLvN s i k A) → zPV g M_X2_changeLevel 46 [(0, .ref n), (1, .int (zi s)), (2, .int (zi i)), (5, .int (zi c)), (6, .int (zi k))] S im Q := by
  have hs' := hs
  have hi' := hi
  unfold kS at hs'
  unfold kI at hi'
  have g2 := hV.1.1.1.2.2.1
  have g3 := hV.1.1.1.2.2.2.1
  intro f
  induction f with
  | zero =>
    intro k im hk hM
    refine v_X2_changeLevel_46 G hS (zc_of (by omega) (by omega)) (zc_of (by omega) (by omega)) (zc_of (by omega) (by omega)) (zc_of (by omega) (by omega)) ⟨fun _ => ?_, fun h => absurd h (by omega)⟩
    rw [show c.toNat = k from by omega] at hQ
    exact hQ im hM
  | succ f ih =>
    intro k im hk hM
    have hk' := hV.n hl hs hi k (by omega)
    have e2 := hk'.1.2.1 2 (by omega)
    have e3 := hk'.1.2.1 3 (by omega)
    have sz : (aLvN s i k A).2.1.length ≤ 201 + 80 := by
      have := hk'.2.szU (by split <;> omega) hk'.1.1
      omega
    have szC := hk'.1.2.2.1
    have szO := hk'.1.2.2.2.1
    have hi2 : kI (aLvN s i k A) i := by unfold kI; rw [e2]; exact hi
    refine v_X2_changeLevel_46 G hS (zc_of (by omega) (by omega)) (zc_of (by omega) (by omega)) (zc_of (by omega) (by omega)) (zc_of (by omega) (by omega)) ⟨fun h => absurd h (by omega), fun _ => ?_⟩
    rw [zwS (k := k) (by omega)]
    refine ⟨fun e => ?_, fun e => ?_⟩
    · refine n_come G hS hM hk'.1.1 (by omega) ⟨by omega, by rw [e3]; exact hs'.2⟩ hi2 (fun im1 h1 => ih (k + 1) im1 (by omega) ?_)
      show nS n x im0 im1 (aLvS s i (aLvN s i k A))
      unfold aLvS
      rw [if_neg e]
      exact h1
    · refine n_fill G hS hM hk'.1.1 (by omega) (by omega) hi2 (fun im1 h1 => ih (k + 1) im1 (by omega) ?_)
      show nS n x im0 im1 (aLvS s i (aLvN s i k A))
      unfold aLvS
      rw [if_pos e]
      exact h1
theorem n_changeLevel (G : zOK g) {x lo m s i v : Int} {A : aA} {im : zIm} (hS : zS_N S n) (hM : nS n x im0 im A) (hW : aW lo m A) (hl : lo ≤ A.1 0 + 1) (hs : kS A s) (hi : kI A i) (v0 : 0 ≤ v) (v1 : v ≤ 20) {Q : zIm → Prop} (hQ : ∀ im', nS n x im0 im' (aLv A s i v) → Q im') : zCV g yX2_changeLevel M_X2_changeLevel [.ref n, .int (zi s), .int (zi i), .int (zi v)] S im Q := by
  obtain ⟨b1, b2⟩ := vI.b hW hs hi v0 v1
  have hs' := hs
  have hi' := hi
  unfold kS at hs'
  unfold kI at hi'
  have sz := hW.sz
  have g2 := hW.1.1.2.2.1
  have g3 := hW.1.1.2.2.2.1
  have lvb := hW.1.1.2.2.2.2.2.2.2.1 (92 + 4 * s + i) (by omega) (by omega)
  refine v_X2_changeLevel G hS (zc_of (by omega) (by omega)) (zc_of (by omega) (by omega)) (zc_of (by omega) (by omega)) ?_
  refine c_cell G (by omega) (by omega) hi'.1 (by omega) ⟨⟨by omega, by omega⟩, fun im1 e1 => ?_⟩
  have h1 := hM.ut hW.1.1 (c := 1) (t := 92) (by unfold tP; omega) (by omega) (by omega) hi'.1 (by omega) e1
  rw [hM.t (c := 1) (t := 92) (by unfold tP; omega) (by omega) (by omega) hi'.1 (by omega), zw_of (n := v - A.1 (92 + 4 * s + i)) (by omega) (by omega)]
  unfold aLv at hQ
  refine ⟨fun hn => ?_, fun hn => ⟨⟨by omega, by omega⟩, fun im2 e2 => ?_⟩⟩
  · rw [if_neg (by omega)] at hQ
    have hl1 : lo ≤ (aG A (92 + 4 * s + i) v).1 0 + 1 := by rw [aG_n (by omega)]; exact hl
    have hs1 : kS (aG A (92 + 4 * s + i) v) s := by unfold kS; rw [aG_n (by omega)]; exact hs
    have hi1 : kI (aG A (92 + 4 * s + i) v) i := by unfold kI; rw [aG_n (by omega)]; exact hi
    exact n_lv_loop G hS (c := v - A.1 (92 + 4 * s + i)) ⟨eK.refl b1, b2⟩ ⟨sz.2.1, sz.2.2⟩ hl1 hs1 hi1 (by omega) (by omega) hQ (v - A.1 (92 + 4 * s + i)).toNat 0 im1 (by omega) h1
  · rw [if_pos (by omega)] at hQ
    rw [h1.t (c := 2) (t := 124) (by unfold tP; omega) (by omega) (by omega) hi'.1 (by omega), aG_n (by omega)] at e2
    have h2 := h1.ut b1.1 (c := 2) (t := 124) (by unfold tP; omega) (by omega) (by omega) hi'.1 (by omega) e2
    refine v_X2_changeLevel_46 G hS (zc_of (by omega) (by omega)) (zc_of (by omega) (by omega)) (zc_of (by omega) (by omega)) zc_0 ⟨fun _ => hQ im2 h2, fun h => absurd h (by omega)⟩
end NF
