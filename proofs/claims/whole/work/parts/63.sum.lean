/-! figures: sums over bases and items -/
def fS (G : aR) (t b i : Int) (s e : Nat) : Int := if (b = -1 ∨ b = (s : Int)) ∧ (i = -1 ∨ i = (e : Int)) then G (t + 4 * s + e) else 0
def hSm (G : aR) (t b i : Int) (it s : Nat) : Int := if s = 0 then 0 else sN (fS G t b i s) it
def vS (A : aA) (t b i : Int) : Int := sN (hSm A.1 t b i (A.1 2).toNat) (A.1 3).toNat
def mB (A : aA) (b : Int) : Prop := b = -1 ∨ (1 ≤ b ∧ b < A.1 3)
def mI (A : aA) (i : Int) : Prop := i = -1 ∨ (0 ≤ i ∧ i < A.1 2)
noncomputable def oFig (A : aA) (b i v : Int) : aO := @ite _ (mB A b ∧ mI A i) (Classical.propDecidable _) (0, v, A) (1, 0, A)
theorem oFig_y {A : aA} {b i v : Int} (hb : mB A b) (hi : mI A i) : oFig A b i v = (0, v, A) := by unfold oFig; exact if_pos ⟨hb, hi⟩
theorem oFig_n {A : aA} {b i v : Int} (h : ¬ (mB A b ∧ mI A i)) : oFig A b i v = (1, 0, A) := by unfold oFig; exact if_neg h
theorem hSm_0 {G : aR} {t b i : Int} {it : Nat} : sN (hSm G t b i it) 1 = 0 := by simp [sN, hSm]
section SA
variable {g : zG} {S : zSh} {im im0 : zIm} {a an as av at_ : Nat} {A : aA} {y : Int}
theorem c_sm_loop2 (G : zOK g) (hS0 : zS_M S a) (hM : mS a im0 im A) (hG : gB A.1) {t b i c : Int} {s : Nat} (t0 : 7 ≤ t) (t1 : t ≤ 380) (cb : zc b) (ci : zc i) (s0 : 1 ≤ s) (s1 : (s : Int) < A.1 3) {Q : Int → zIm → Prop} (hQ : zPI g M_X8_sum 6 [(0, .ref a), (1, .int (zi t)), (2, .int (zi b)), (3, .int (zi i)), (4, .int (zi (zw (c + sN (fS A.1 t b i s) (A.1 2).toNat)))), (5, .int (zi ((s + 1 : Nat) : Int)))] S im Q) :
    ∀ (f e : Nat), (e : Int) + f = A.1 2 → zPI g M_X8_sum 20 [(0, .ref a), (1, .int (zi t)), (2, .int (zi b)), (3, .int (zi i)), (4, .int (zi (zw (c + sN (fS A.1 t b i s) e)))), (5, .int (zi s)), (6, .int (zi e))] S im Q := by
  have g2 := hG.2.2.1
  have g3 := hG.2.2.2.1
  have e2 := hM.h (i := 2) (by omega) (by omega)
  intro f
  induction f with
  | zero =>
    intro e he
    refine v_X8_sum_20 G hS0 (zc_of (by omega) (by omega)) cb ci (zc_zw _) (zc_of (by omega) (by omega)) (zc_of (by omega) (by omega)) ⟨fun _ => ?_, fun h => absurd h (by omega)⟩
    rw [zwS (k := s) (by omega), show e = (A.1 2).toNat from by omega]
    exact hQ
  | succ f ih =>
    intro e he
    have st := ih (e + 1) (by omega)
    simp only [sN, ← Int.add_assoc] at st
    refine v_X8_sum_20 G hS0 (zc_of (by omega) (by omega)) cb ci (zc_zw _) (zc_of (by omega) (by omega)) (zc_of (by omega) (by omega)) ⟨fun h => absurd h (by omega), fun _ => ?_⟩
    rw [zwS (k := e) (by omega), zwa]
    have sn (h : ¬ ((b = -1 ∨ b = (s : Int)) ∧ (i = -1 ∨ i = (e : Int)))) : zPI g M_X8_sum 20 [(0, .ref a), (1, .int (zi t)), (2, .int (zi b)), (3, .int (zi i)), (4, .int (zi (zw (c + sN (fS A.1 t b i s) e + 0)))), (5, .int (zi s)), (6, .int (zi ((e + 1 : Nat) : Int)))] S im Q := by
      have z : fS A.1 t b i s e = 0 := by unfold fS; rw [if_neg h]
      rw [z] at st; exact st
    have sy (h : (b = -1 ∨ b = (s : Int)) ∧ (i = -1 ∨ i = (e : Int))) : zCI g yX8_at M_X8_at [.int (zi t), .int (zi s), .int (zi e)] S im (fun r2 im3 => ((0 ≤ r2 ∧ r2 < 7692) ∧ zPI g M_X8_sum 20 [(0, .ref a), (1, .int (zi t)), (2, .int (zi b)), (3, .int (zi i)), (4, .int (zi (zw (zw (c + sN (fS A.1 t b i s) e) + (im3 (a + 1) r2))))), (5, .int (zi s)), (6, .int (zi ((e + 1 : Nat) : Int)))] S im3 Q)) := by
      have z : fS A.1 t b i s e = A.1 (t + 4 * s + e) := by unfold fS; rw [if_pos h]
      rw [z] at st
      refine c_at G (by omega) (by omega) (by omega) (by omega) (by omega) (by omega) ⟨⟨by omega, by omega⟩, ?_⟩
      rw [hM.g (by omega) (by omega), zwa]
      exact st
    refine ⟨fun h1 => ⟨fun h2 => sy ⟨Or.inl h1, Or.inl h2⟩, fun h2 => ⟨fun h3 => sn (fun hh => hh.2.elim h2 h3), fun h3 => sy ⟨Or.inl h1, Or.inr h3⟩⟩⟩, fun h1 => ⟨fun h4 => sn (fun hh => hh.1.elim h1 h4), fun h4 => ⟨fun h2 => sy ⟨Or.inr h4, Or.inl h2⟩, fun h2 => ⟨fun h3 => sn (fun hh => hh.2.elim h2 h3), fun h3 => sy ⟨Or.inr h4, Or.inr h3⟩⟩⟩⟩⟩
theorem c_sm_loop1 (G : zOK g) (hS0 : zS_M S a) (hM : mS a im0 im A) (hG : gB A.1) {t b i : Int} (t0 : 7 ≤ t) (t1 : t ≤ 380) (cb : zc b) (ci : zc i) {Q : Int → zIm → Prop} (hQ : Q (zw (vS A t b i)) im) :
    ∀ (f s : Nat), (s : Int) + f = A.1 3 → 1 ≤ s → zPI g M_X8_sum 6 [(0, .ref a), (1, .int (zi t)), (2, .int (zi b)), (3, .int (zi i)), (4, .int (zi (zw (sN (hSm A.1 t b i (A.1 2).toNat) s)))), (5, .int (zi s))] S im Q := by
  have g2 := hG.2.2.1
  have g3 := hG.2.2.2.1
  have e3 := hM.h (i := 3) (by omega) (by omega)
  intro f
  induction f with
  | zero =>
    intro s hs s1
    refine v_X8_sum_6 G hS0 (zc_of (by omega) (by omega)) cb ci (zc_zw _) (zc_of (by omega) (by omega)) ⟨fun _ => ?_, fun h => absurd h (by omega)⟩
    rw [show s = (A.1 3).toNat from by omega]
    exact hQ
  | succ f ih =>
    intro s hs s1
    have st := ih (s + 1) (by omega) (by omega)
    refine v_X8_sum_6 G hS0 (zc_of (by omega) (by omega)) cb ci (zc_zw _) (zc_of (by omega) (by omega)) ⟨fun h => absurd h (by omega), fun _ => ?_⟩
    have z : sN (hSm A.1 t b i (A.1 2).toNat) (s + 1) = sN (hSm A.1 t b i (A.1 2).toNat) s + sN (fS A.1 t b i s) (A.1 2).toNat := by
      rw [sN]
      congr 1
      unfold hSm
      rw [if_neg (by omega)]
    rw [z] at st
    have := c_sm_loop2 G hS0 hM hG (c := sN (hSm A.1 t b i (A.1 2).toNat) s) t0 t1 cb ci s1 (by omega) st (A.1 2).toNat 0 (by omega)
    simp only [sN, Int.add_zero] at this
    exact this
theorem c_sum (G : zOK g) (hS0 : zS_M S a) (hM : mS a im0 im A) (hG : gB A.1) {t b i : Int} (t0 : 7 ≤ t) (t1 : t ≤ 380) (cb : zc b) (ci : zc i) {Q : Int → zIm → Prop} (hQ : Q (zw (vS A t b i)) im) : zCI g yX8_sum M_X8_sum [.ref a, .int (zi t), .int (zi b), .int (zi i)] S im Q := by
  have g3 := hG.2.2.2.1
  have := c_sm_loop1 G hS0 hM hG t0 t1 cb ci hQ ((A.1 3).toNat - 1) 1 (by omega) (by omega)
  rw [hSm_0] at this
  exact v_X8_sum G hS0 (zc_of (by omega) (by omega)) cb ci this
theorem c_areMeant (G : zOK g) (hS0 : zS_M S a) (hM : mS a im0 im A) (hG : gB A.1) {b i : Int} (cb : zc b) (ci : zc i) {Q : Int → zIm → Prop} (ht : mB A b → mI A i → Q 1 im) (hf : ¬ (mB A b ∧ mI A i) → Q 0 im) : zCI g yX8_areMeant M_X8_areMeant [.ref a, .int (zi b), .int (zi i)] S im Q := by
  refine v_X8_areMeant G hS0 cb ci ⟨fun h1 => ⟨fun h2 => ht (Or.inl h1) (Or.inl h2), fun h2 => ?_⟩, fun h1 => ?_⟩
  · exact r_isItem G hS0 hM hG ci (fun b1 b2 => ⟨fun h => absurd h (by decide), fun _ => ht (Or.inl h1) (Or.inr ⟨b1, b2⟩)⟩) (fun b1 => ⟨fun _ => hf (fun hh => hh.2.elim h2 b1), fun h => absurd rfl h⟩)
  · refine r_isBase G hS0 hM hG cb (fun a1 a2 => ⟨fun h => absurd h (by decide), fun _ => ⟨fun h2 => ht (Or.inr ⟨a1, a2⟩) (Or.inl h2), fun h2 => ?_⟩⟩) (fun a1 => ⟨fun _ => hf (fun hh => hh.1.elim h1 a1), fun h => absurd rfl h⟩)
    exact r_isItem G hS0 hM hG ci (fun b1 b2 => ⟨fun h => absurd h (by decide), fun _ => ht (Or.inr ⟨a1, a2⟩) (Or.inr ⟨b1, b2⟩)⟩) (fun b1 => ⟨fun _ => hf (fun hh => hh.2.elim h2 b1), fun h => absurd rfl h⟩)
theorem r_figure (G : zOK g) (hS0 : zS_M S a) (hM : mRep (im (a + 1)) A) (hG : gB A.1) {t b i : Int} (t0 : 7 ≤ t) (t1 : t ≤ 380) (cb : zc b) (ci : zc i) {Q : Int → zIm → Prop} (hQ : ∀ im', mP a im im' (oFig A b i (zw (vS A t b i))).2.2 (oFig A b i (zw (vS A t b i))).1 → Q (oFig A b i (zw (vS A t b i))).2.1 im') : zCI g yX8_figure M_X8_figure [.ref a, .int (zi t), .int (zi b), .int (zi i)] S im Q := by
  refine v_X8_figure G hS0 (zc_of (by omega) (by omega)) cb ci (fun im1 e1 => ?_)
  have h1 := mS.i hM e1
  refine c_areMeant G hS0 h1 hG cb ci (fun hb hi => ⟨fun h => absurd h (by decide), fun _ => ?_⟩) (fun hn => ⟨fun _ => ?_, fun h => absurd rfl h⟩)
  · rw [oFig_y hb hi] at hQ
    exact c_sum G hS0 h1 hG t0 t1 cb ci (hQ im1 h1.p)
  · rw [oFig_n hn] at hQ
    exact r_fail G hS0 h1 (zc_of (by omega) (by omega)) hQ
/-! the class's totals -/
theorem k_tt_loop2 (G : zOK g) {n : Nat} (hM : nS n y im0 im A) (hG : gB A.1) {c : Nat} {t b i w fi li lb : Int} {s : Nat} (hc : tP c t) (hkd : zkd S (n + c) = 9) (hln : zln S (n + c) = 32) (hb : b = -1 ∨ b = (s : Int)) (s0 : 1 ≤ s) (s1 : (s : Int) < A.1 3) (clb : zc lb) (hi : (i = -1 ∧ fi = 0 ∧ li = A.1 2 - 1) ∨ (kI A i ∧ fi = i ∧ li = i)) {Q : Int → zIm → Prop} (hQ : zPI g M_X2_total 71 [(1, .ref (n + c)), (5, .int (zi lb)), (6, .int (zi fi)), (7, .int (zi li)), (8, .int (zi (zw (w + sN (fS A.1 t b i s) (li + 1).toNat)))), (9, .int (zi ((s + 1 : Nat) : Int)))] S im Q) :
    ∀ (f e : Nat), (e : Int) + f = li + 1 → fi ≤ e → zPI g M_X2_total 82 [(1, .ref (n + c)), (5, .int (zi lb)), (6, .int (zi fi)), (7, .int (zi li)), (8, .int (zi (zw (w + sN (fS A.1 t b i s) e)))), (9, .int (zi s)), (10, .int (zi e))] S im Q := by
  have g2 := hG.2.2.1
  have g3 := hG.2.2.2.1
  have hi0 : 0 ≤ fi ∧ li < A.1 2 := by unfold kI at hi; omega
  intro f
  induction f with
  | zero =>
    intro e he h0
    refine v_X2_total_82 G hkd clb (zc_of (by omega) (by omega)) (zc_of (by omega) (by omega)) (zc_zw _) (zc_of (by omega) (by omega)) (zc_of (by omega) (by omega)) ⟨fun _ => ?_, fun h => absurd h (by omega)⟩
    rw [zwS (k := s) (by omega), show e = (li + 1).toNat from by omega]
    exact hQ
  | succ f ih =>
    intro e he h0
    have st := ih (e + 1) (by omega) (by omega)
    simp only [sN, ← Int.add_assoc] at st
    have z : fS A.1 t b i s e = A.1 (t + 4 * s + e) := by unfold fS; rw [if_pos ⟨hb, by omega⟩]
    rw [z] at st
    refine v_X2_total_82 G hkd clb (zc_of (by omega) (by omega)) (zc_of (by omega) (by omega)) (zc_zw _) (zc_of (by omega) (by omega)) (zc_of (by omega) (by omega)) ⟨fun h => absurd h (by omega), fun _ => ?_⟩
    refine c_cell G (by omega) (by omega) (by omega) (by omega) ⟨⟨by omega, by rw [hln]; omega⟩, ?_⟩
    rw [zwS (k := e) (by omega), hM.t hc (by omega) (by omega) (by omega) (by omega), zwa]
    exact st
theorem fS_0 {G : aR} {t b i fi li it : Int} {s : Nat} (hi : (i = -1 ∧ fi = 0 ∧ li = it - 1) ∨ ((0 ≤ i ∧ i < it) ∧ fi = i ∧ li = i)) : sN (fS G t b i s) fi.toNat = 0 := by
  rw [sN_ext (p := 0) (by omega) (fun k k0 k1 => ?_)]
  · rfl
  · unfold fS
    rw [if_neg (by omega)]
theorem fS_1 {G : aR} {t b i fi li it : Int} {s : Nat} (h0 : 0 ≤ it) (hi : (i = -1 ∧ fi = 0 ∧ li = it - 1) ∨ ((0 ≤ i ∧ i < it) ∧ fi = i ∧ li = i)) : sN (fS G t b i s) it.toNat = sN (fS G t b i s) (li + 1).toNat := by
  refine sN_ext (by omega) (fun k k0 k1 => ?_)
  unfold fS
  rw [if_neg (by omega)]
theorem hSm_n {G : aR} {t b i : Int} {it s : Nat} (hb : ¬ (b = -1 ∨ b = (s : Int))) : hSm G t b i it s = 0 := by
  unfold hSm
  split
  · rfl
  · rw [sN_ext (p := 0) (by omega) (fun k k0 k1 => ?_)]
    · rfl
    · unfold fS
      rw [if_neg (fun hh => hb hh.1)]
theorem k_tt_loop1 (G : zOK g) {n : Nat} (hM : nS n y im0 im A) (hG : gB A.1) {c : Nat} {t b i fb lb fi li : Int} (hc : tP c t) (hkd : zkd S (n + c) = 9) (hln : zln S (n + c) = 32) (hb : (b = -1 ∧ fb = 1 ∧ lb = A.1 3 - 1) ∨ (kB A b ∧ fb = b ∧ lb = b)) (hi : (i = -1 ∧ fi = 0 ∧ li = A.1 2 - 1) ∨ (kI A i ∧ fi = i ∧ li = i)) {Q : Int → zIm → Prop} (hQ : Q (zw (vS A t b i)) im) :
    ∀ (f s : Nat), (s : Int) + f = lb + 1 → fb ≤ s → zPI g M_X2_total 71 [(1, .ref (n + c)), (5, .int (zi lb)), (6, .int (zi fi)), (7, .int (zi li)), (8, .int (zi (zw (sN (hSm A.1 t b i (A.1 2).toNat) s)))), (9, .int (zi s))] S im Q := by
  have g2 := hG.2.2.1
  have g3 := hG.2.2.2.1
  have hb0 : 1 ≤ fb ∧ lb < A.1 3 ∧ 0 ≤ lb := by unfold kB at hb; omega
  have hi0 : 0 ≤ fi ∧ fi ≤ 3 ∧ li < A.1 2 ∧ -1 ≤ li := by unfold kI at hi; omega
  intro f
  induction f with
  | zero =>
    intro s hs h0
    refine v_X2_total_71 G hkd (zc_of (by omega) (by omega)) (zc_of (by omega) (by omega)) (zc_of (by omega) (by omega)) (zc_zw _) (zc_of (by omega) (by omega)) ⟨fun _ => ?_, fun h => absurd h (by omega)⟩
    have z : sN (hSm A.1 t b i (A.1 2).toNat) (A.1 3).toNat = sN (hSm A.1 t b i (A.1 2).toNat) s := by
      refine sN_ext (by omega) (fun k k0 k1 => hSm_n ?_)
      unfold kB at hb
      omega
    rw [← z]
    exact hQ
  | succ f ih =>
    intro s hs h0
    have st := ih (s + 1) (by omega) (by omega)
    have z : sN (hSm A.1 t b i (A.1 2).toNat) (s + 1) = sN (hSm A.1 t b i (A.1 2).toNat) s + sN (fS A.1 t b i s) (li + 1).toNat := by
      rw [sN]
      congr 1
      unfold hSm
      rw [if_neg (by omega)]
      exact fS_1 g2.1 hi
    rw [z] at st
    refine v_X2_total_71 G hkd (zc_of (by omega) (by omega)) (zc_of (by omega) (by omega)) (zc_of (by omega) (by omega)) (zc_zw _) (zc_of (by omega) (by omega)) ⟨fun h => absurd h (by omega), fun _ => ?_⟩
    have hbs : b = -1 ∨ b = (s : Int) := by unfold kB at hb; omega
    by_cases hle : fi ≤ li + 1
    · have := k_tt_loop2 G hM hG (w := sN (hSm A.1 t b i (A.1 2).toNat) s) (lb := lb) (b := b) hc hkd hln hbs (by omega) (by omega) (zc_of (by omega) (by omega)) hi st (li + 1 - fi).toNat fi.toNat (by omega) (by omega)
      rw [fS_0 hi, Int.add_zero, show ((fi.toNat : Nat) : Int) = fi from by omega] at this
      exact this
    · omega
theorem k_total (G : zOK g) {n : Nat} (hS0 : zS_N S n) (hM : nS n y im0 im A) (hG : gB A.1) {c : Nat} {t b i : Int} (hc : tP c t) (hkd : zkd S (n + c) = 9) (hln : zln S (n + c) = 32) (hb : mB A b) (hi : mI A i) {Q : Int → zIm → Prop} (hQ : Q (zw (vS A t b i)) im) : zCI g yX2_total M_X2_total [.ref n, .ref (n + c), .int (zi b), .int (zi i)] S im Q := by
  have g2 := hG.2.2.1
  have g3 := hG.2.2.2.1
  have z0 (fb : Int) (hfb : (b = -1 ∧ fb = 1) ∨ (b ≠ -1 ∧ fb = b ∧ 1 ≤ b)) : sN (hSm A.1 t b i (A.1 2).toNat) fb.toNat = 0 := by
    rw [sN_ext (p := 1) (by omega) (fun k k0 k1 => hSm_n (by omega)), hSm_0]
  have go (fb lb fi li : Int) (h1 : (b = -1 ∧ fb = 1 ∧ lb = A.1 3 - 1) ∨ (kB A b ∧ fb = b ∧ lb = b)) (h2 : (i = -1 ∧ fi = 0 ∧ li = A.1 2 - 1) ∨ (kI A i ∧ fi = i ∧ li = i)) : zPI g M_X2_total 71 [(1, .ref (n + c)), (5, .int (zi lb)), (6, .int (zi fi)), (7, .int (zi li)), (8, .int (zi 0)), (9, .int (zi fb))] S im Q := by
    have hz : 1 ≤ fb ∧ fb ≤ lb + 1 := by unfold kB at h1; omega
    have := k_tt_loop1 G hM hG hc hkd hln h1 h2 hQ (lb + 1 - fb).toNat fb.toNat (by omega) (by omega)
    rw [z0 fb (by unfold kB at h1; omega), show ((fb.toNat : Nat) : Int) = fb from by omega] at this
    exact this
  have cb : zc b := zc_of (by unfold mB at hb; omega) (by unfold mB at hb; omega)
  have ci : zc i := zc_of (by unfold mI at hi; omega) (by unfold mI at hi; omega)
  refine v_X2_total G hS0 hkd cb ci ?_
  rw [hM.it, hM.st, zw_of (n := A.1 3 - 1) (by omega) (by omega), zw_of (n := A.1 2 - 1) (by omega) (by omega)]
  rcases hb with rfl | hb
  · rcases hi with rfl | hi
    · exact ⟨fun h => absurd rfl h, fun _ => ⟨fun h => absurd rfl h, fun _ => ⟨fun h => absurd rfl h, fun _ => ⟨fun h => absurd rfl h, fun _ => go _ _ _ _ (Or.inl ⟨rfl, rfl, rfl⟩) (Or.inl ⟨rfl, rfl, rfl⟩)⟩⟩⟩⟩
    · have hn : ¬ i = -1 := by omega
      exact ⟨fun h => absurd rfl h, fun _ => ⟨fun h => absurd rfl h, fun _ => ⟨fun _ => ⟨fun _ => go _ _ _ _ (Or.inl ⟨rfl, rfl, rfl⟩) (Or.inr ⟨hi, rfl, rfl⟩), fun h => absurd h hn⟩, fun h => absurd h hn⟩⟩⟩
  · have hnb : ¬ b = -1 := by omega
    rcases hi with rfl | hi
    · exact ⟨fun _ => ⟨fun _ => ⟨fun h => absurd rfl h, fun _ => ⟨fun h => absurd rfl h, fun _ => go _ _ _ _ (Or.inr ⟨hb, rfl, rfl⟩) (Or.inl ⟨rfl, rfl, rfl⟩)⟩⟩, fun h => absurd h hnb⟩, fun h => absurd h hnb⟩
    · have hn : ¬ i = -1 := by omega
      exact ⟨fun _ => ⟨fun _ => ⟨fun _ => ⟨fun _ => go _ _ _ _ (Or.inr ⟨hb, rfl, rfl⟩) (Or.inr ⟨hi, rfl, rfl⟩), fun h => absurd h hn⟩, fun h => absurd h hn⟩, fun h => absurd h hnb⟩, fun h => absurd h hnb⟩
theorem k_fig (G : zOK g) (hS0 : zDep S a an as av at_) (hM : nS an y im im A) {b i v : Int} (cb : zc b) (ci : zc i) {Q : Int → zIm → Prop} {X : String → zSh → zIm → Prop} (h0 : (oFig A b i v).1 = 0 → Q (oFig A b i v).2.1 im) (h1 : (oFig A b i v).1 = 1 → X "java/lang/IndexOutOfBoundsException" (zpush S 14 0) im) {B : zIm → Prop} (hB : mB A b → mI A i → Q v im → B im) : zCVx g yX7_checkFigure M_X7_checkFigure [.ref a, .int (zi b), .int (zi i)] S im (fun im1 => B im1) X := by
  have ok (hb : mB A b) (hi : mI A i) : B im := by
    rw [oFig_y hb hi] at h0
    exact hB hb hi (h0 rfl)
  have bad (hn : ¬ (mB A b ∧ mI A i)) : X "java/lang/IndexOutOfBoundsException" (zpush S 14 0) im := h1 (by rw [oFig_n hn])
  refine v_X7_checkFigure G hS0 cb ci ⟨fun e1 => ⟨fun e2 => ok (Or.inl e1) (Or.inl e2), fun e2 => ?_⟩, fun e1 => ?_⟩
  · exact k_item G hS0 hM ci (fun b1 b2 => ok (Or.inl e1) (Or.inr ⟨b1, b2⟩)) (fun hn => bad (fun hh => hh.2.elim e2 hn))
  · refine k_base G hS0 hM cb (fun a1 a2 => ⟨fun e2 => ok (Or.inr ⟨a1, a2⟩) (Or.inl e2), fun e2 => ?_⟩) (fun hn => bad (fun hh => hh.1.elim e1 hn))
    exact k_item G hS0 hM ci (fun b1 b2 => ok (Or.inr ⟨a1, a2⟩) (Or.inr ⟨b1, b2⟩)) (fun hn => bad (fun hh => hh.2.elim e2 hn))
/-! common divisors -/
theorem tm_nat (p q : Nat) : Int.tmod (p : Int) (q : Int) = ((p % q : Nat) : Int) := rfl
theorem td_nat (p q : Nat) : Int.tdiv (p : Int) (q : Int) = ((p / q : Nat) : Int) := rfl
theorem zwNt {k : Nat} (h : k ≤ 2147483647) : zw (k : Int) = k := zw_of (by omega) (by omega)
theorem gcd_st (p q : Nat) : Nat.gcd q (p % q) = Nat.gcd p q := by rw [Nat.gcd_comm p q, Nat.gcd_rec q p, Nat.gcd_comm]
theorem c_gcd (G : zOK g) {Q : Int → zIm → Prop} : ∀ (f p q : Nat), q ≤ f → p < 2147483648 → q < 2147483648 → Q (Nat.gcd p q : Nat) im → zPI g M_X8_commonDivisor 4 [(2, .int (zi p)), (3, .int (zi q))] S im Q := by
  intro f
  induction f with
  | zero =>
    intro p q hq hp hq2 hQ
    have : q = 0 := by omega
    subst this
    rw [Nat.gcd_zero_right] at hQ
    exact v_X8_commonDivisor_4 G (zc_of (by omega) (by omega)) (zc_of (by omega) (by omega)) ⟨fun _ => hQ, fun h => absurd rfl h⟩
  | succ f ih =>
    intro p q hq hp hq2 hQ
    by_cases e : q = 0
    · subst e
      rw [Nat.gcd_zero_right] at hQ
      exact v_X8_commonDivisor_4 G (zc_of (by omega) (by omega)) (zc_of (by omega) (by omega)) ⟨fun _ => hQ, fun h => absurd rfl h⟩
    · have hlt := Nat.mod_lt p (show 0 < q by omega)
      refine v_X8_commonDivisor_4 G (zc_of (by omega) (by omega)) (zc_of (by omega) (by omega)) ⟨fun h => absurd h (by omega), fun h => ⟨h, ?_⟩⟩
      rw [tm_nat, zw_of (by omega) (by omega)]
      exact ih q (p % q) (by omega) hq2 (by omega) (by rw [gcd_st]; exact hQ)
theorem mod_half {b r : Nat} (h0 : 0 < r) (h : r < b) : 2 * (b % r) < b := by
  have h1 := Nat.mod_lt b h0
  have h2 := Nat.mod_add_div b r
  have h3 : 1 ≤ b / r := (Nat.le_div_iff_mul_le h0).2 (by omega)
  have h4 : r ≤ r * (b / r) := Nat.le_mul_of_pos_right r h3
  omega
theorem k_gcd_end (G : zOK g) {p x : Nat} (hp : p < 2147483648) (hp0 : 0 < p) (hx : x ≤ 64) {Q : Int → zIm → Prop} (hQ : Q (p : Int) im) : zPI g M_X7_commonDivisor 7 [(2, .int (zi p)), (3, .int (zi ((0 : Nat) : Int))), (4, .int (zi x))] S im Q :=
  v_X7_commonDivisor_7 G (zc_of (by omega) (by omega)) (zc_of (by omega) (by omega)) (zc_of (by omega) (by omega)) ⟨fun _ => ⟨fun _ => hQ, fun h => absurd h (by omega)⟩, fun _ => ⟨fun _ => ⟨fun _ => hQ, fun h => absurd h (by omega)⟩, fun h => absurd rfl h⟩⟩
theorem k_gcd_st (G : zOK g) {p q x : Nat} (hp : p < 2147483648) (hq : q < 2147483648) (hq0 : q ≠ 0) (hx : x < 64) {Q : Int → zIm → Prop} (h : zPI g M_X7_commonDivisor 7 [(2, .int (zi q)), (3, .int (zi ((p % q : Nat) : Int))), (4, .int (zi ((x + 1 : Nat) : Int)))] S im Q) : zPI g M_X7_commonDivisor 7 [(2, .int (zi p)), (3, .int (zi q)), (4, .int (zi x))] S im Q := by
  have hlt := Nat.mod_lt p (show 0 < q by omega)
  refine v_X7_commonDivisor_7 G (zc_of (by omega) (by omega)) (zc_of (by omega) (by omega)) (zc_of (by omega) (by omega)) ⟨fun h => absurd h (by omega), fun _ => ⟨fun h => absurd h (by omega), fun h0 => ⟨h0, ?_⟩⟩⟩
  rw [tm_nat, zw_of (n := ((p % q : Nat) : Int)) (by omega) (by omega), zwS (k := x) (by omega)]
  exact h
theorem k_gcd_loop (G : zOK g) {Q : Int → zIm → Prop} : ∀ (j p q x : Nat), q < 2 ^ j → p < 2147483648 → q < 2147483648 → 0 < p + q → x + 2 * j ≤ 64 → Q (Nat.gcd p q : Nat) im → zPI g M_X7_commonDivisor 7 [(2, .int (zi p)), (3, .int (zi q)), (4, .int (zi x))] S im Q := by
  intro j
  induction j with
  | zero =>
    intro p q x hq hp hq2 h0 hx hQ
    have : q = 0 := by simp at hq; omega
    subst this
    rw [Nat.gcd_zero_right] at hQ
    exact k_gcd_end G hp (by omega) (by omega) hQ
  | succ j ih =>
    intro p q x hq hp hq2 h0 hx hQ
    by_cases e : q = 0
    · subst e
      rw [Nat.gcd_zero_right] at hQ
      exact k_gcd_end G hp (by omega) (by omega) hQ
    · have hlt := Nat.mod_lt p (show 0 < q by omega)
      refine k_gcd_st G hp hq2 e (by omega) ?_
      rw [← gcd_st] at hQ
      by_cases e2 : p % q = 0
      · rw [e2] at hQ ⊢
        rw [Nat.gcd_zero_right] at hQ
        exact k_gcd_end G hq2 (by omega) (by omega) hQ
      · refine k_gcd_st G hq2 (by omega) e2 (by omega) ?_
        rw [← gcd_st] at hQ
        have hh := mod_half (b := q) (r := p % q) (by omega) hlt
        have h2 := Nat.mod_lt q (show 0 < p % q by omega)
        rw [Nat.pow_succ] at hq
        exact ih (p % q) (q % (p % q)) (x + 1 + 1) (by omega) (by omega) (by omega) (by omega) (by omega) hQ
/-! the fill rate -/
theorem vS_bd {lo m : Int} {A : aA} (hW : aW lo m A) (hm : m ≤ 70000000) (b i : Int) : 0 ≤ vS A 284 b i ∧ vS A 284 b i ≤ vS A 252 b i ∧ vS A 252 b i ≤ 2000000000 := by
  have hG := hW.1.1
  have g2 := hG.2.2.1
  have g3 := hG.2.2.2.1
  have m0 : 0 ≤ m := by have := hW.2.2.2 252 (by omega) (by omega); omega
  have f1 (s e : Nat) (hs : s < 8) (he : e < 4) : 0 ≤ fS A.1 284 b i s e ∧ fS A.1 284 b i s e ≤ fS A.1 252 b i s e ∧ fS A.1 252 b i s e ≤ m := by
    unfold fS
    split
    · have := hW.2.2.2 (252 + 4 * s + e) (by omega) (by omega)
      rw [show (284 : Int) + 4 * s + e = 252 + 4 * s + e + 32 from by omega]
      exact this
    · omega
  have f2 (s : Nat) (hs : s < 8) : ∀ e, e ≤ 4 → 0 ≤ sN (fS A.1 284 b i s) e ∧ sN (fS A.1 284 b i s) e ≤ sN (fS A.1 252 b i s) e ∧ sN (fS A.1 252 b i s) e ≤ e * m := by
    intro e
    induction e with
    | zero => intro _; simp [sN]
    | succ e ih =>
      intro he
      have i1 := ih (by omega)
      have i2 := f1 s e hs (by omega)
      simp only [sN]
      rw [Int.natCast_add, Int.add_mul]
      omega
  have f3 (s : Nat) (hs : s < 8) : 0 ≤ hSm A.1 284 b i (A.1 2).toNat s ∧ hSm A.1 284 b i (A.1 2).toNat s ≤ hSm A.1 252 b i (A.1 2).toNat s ∧ hSm A.1 252 b i (A.1 2).toNat s ≤ 4 * m := by
    unfold hSm
    split
    · omega
    · have := f2 s hs (A.1 2).toNat (by omega)
      have h5 : (((A.1 2).toNat : Nat) : Int) * m ≤ 4 * m := Int.mul_le_mul_of_nonneg_right (by omega) m0
      omega
  have f4 : ∀ s, s ≤ 8 → 0 ≤ sN (hSm A.1 284 b i (A.1 2).toNat) s ∧ sN (hSm A.1 284 b i (A.1 2).toNat) s ≤ sN (hSm A.1 252 b i (A.1 2).toNat) s ∧ sN (hSm A.1 252 b i (A.1 2).toNat) s ≤ s * (4 * m) - 4 * m + (if s = 0 then 4 * m else 0) := by
    intro s
    induction s with
    | zero => intro _; simp [sN]; omega
    | succ s ih =>
      intro hs
      have i1 := ih (by omega)
      have i2 := f3 s (by omega)
      simp only [sN]
      rw [Int.natCast_add, Int.add_mul, if_neg (by omega)]
      by_cases e : s = 0
      · subst e
        rw [if_pos rfl] at i1
        have z1 : hSm A.1 252 b i (A.1 2).toNat 0 = 0 := by unfold hSm; rw [if_pos rfl]
        omega
      · rw [if_neg e] at i1
        omega
  have := f4 (A.1 3).toNat (by omega)
  rw [if_neg (by omega)] at this
  have h5 : (((A.1 3).toNat : Nat) : Int) * (4 * m) ≤ 8 * (4 * m) := Int.mul_le_mul_of_nonneg_right (by omega) (by omega)
  unfold vS
  omega
def vFR (A : aA) (b i : Int) (nu : Int) : Int := if vS A 284 b i = 0 then (if nu = 0 then 1 else 0) else (((if nu = 0 then vS A 252 b i else vS A 284 b i).toNat / Nat.gcd (vS A 284 b i).toNat (vS A 252 b i).toNat : Nat) : Int)
theorem r_fillRate (G : zOK g) (hS0 : zS_M S a) (hM : mRep (im (a + 1)) A) {lo m : Int} (hW : aW lo m A) (hm : m ≤ 70000000) {b i nu : Int} (cb : zc b) (ci : zc i) (hnu : nu = 0 ∨ nu = 1) {Q : Int → zIm → Prop} (hQ : ∀ im', mP a im im' (oFig A b i (vFR A b i nu)).2.2 (oFig A b i (vFR A b i nu)).1 → Q (oFig A b i (vFR A b i nu)).2.1 im') : zCI g yX8_fillRate M_X8_fillRate [.ref a, .int (zi b), .int (zi i), .int (zi nu)] S im Q := by
  have hG := hW.1.1
  have bd := vS_bd hW hm b i
  refine v_X8_fillRate G hS0 cb ci (zc_of (by omega) (by omega)) (fun im1 e1 => ?_)
  have h1 := mS.i hM e1
  refine c_areMeant G hS0 h1 hG cb ci (fun hb hi => ⟨fun _ => ?_, fun h => absurd h (by decide)⟩) (fun hn => ⟨fun h => absurd rfl h, fun _ => ?_⟩)
  · rw [oFig_y hb hi] at hQ
    have hq := hQ im1 h1.p
    refine c_sum G hS0 h1 hG (by omega) (by omega) cb ci ?_
    refine c_sum G hS0 h1 hG (by omega) (by omega) cb ci ?_
    rw [zw_of (n := vS A 284 b i) (by omega) (by omega), zw_of (n := vS A 252 b i) (by omega) (by omega)]
    unfold vFR at hq
    refine ⟨fun h0 => ?_, fun h0 => ?_⟩
    · rw [if_neg h0] at hq
      obtain ⟨p, hp⟩ : ∃ p : Nat, vS A 284 b i = p := ⟨(vS A 284 b i).toNat, by omega⟩
      obtain ⟨q, hq'⟩ : ∃ q : Nat, vS A 252 b i = q := ⟨(vS A 252 b i).toNat, by omega⟩
      rw [hp, hq'] at hq bd ⊢
      simp only [Int.toNat_natCast] at hq
      have hg := Nat.gcd_pos_of_pos_left q (show 0 < p by omega)
      have hg2 := Nat.gcd_le_left q (show 0 < p by omega)
      refine ⟨fun h2 => ?_, fun h2 => ?_⟩
      · refine v_X8_commonDivisor G (zc_of (by omega) (by omega)) (zc_of (by omega) (by omega)) (c_gcd G q p q (Nat.le_refl _) (by omega) (by omega) ⟨by omega, ?_⟩)
        have hd := Nat.div_le_self q (p.gcd q)
        rw [td_nat, zwNt (Nat.le_trans hd (by omega))]
        rw [if_pos h2] at hq
        exact hq
      · refine v_X8_commonDivisor G (zc_of (by omega) (by omega)) (zc_of (by omega) (by omega)) (c_gcd G q p q (Nat.le_refl _) (by omega) (by omega) ⟨by omega, ?_⟩)
        have hd := Nat.div_le_self p (p.gcd q)
        rw [td_nat, zwNt (Nat.le_trans hd (by omega))]
        rw [if_neg h2] at hq
        exact hq
    · rw [if_pos h0] at hq
      exact ⟨fun h2 => by rw [if_pos h2] at hq; exact hq, fun h2 => by rw [if_neg h2] at hq; exact hq⟩
  · rw [oFig_n hn] at hQ
    exact r_fail G hS0 h1 (zc_of (by omega) (by omega)) hQ
theorem k_fillNumerator (G : zOK g) (hS0 : zDep S a an as av at_) (hM : nS an y im im A) {lo m : Int} (hW : aW lo m A) (hm : m ≤ 70000000) (hkd : zkd S (an + 13) = 9) (hln : zln S (an + 13) = 32) (hkd2 : zkd S (an + 14) = 9) (hln2 : zln S (an + 14) = 32) {b i : Int} (cb : zc b) (ci : zc i) {Q : Int → zIm → Prop} {X : String → zSh → zIm → Prop} (h0 : (oFig A b i (vFR A b i 1)).1 = 0 → Q (oFig A b i (vFR A b i 1)).2.1 im) (h1 : (oFig A b i (vFR A b i 1)).1 = 1 → X "java/lang/IndexOutOfBoundsException" (zpush S 14 0) im) : zCIx g yX7_fillNumerator M_X7_fillNumerator [.ref a, .int (zi b), .int (zi i)] S im Q X := by
  have bd := vS_bd hW hm b i
  refine v_X7_fillNumerator G hS0 cb ci (k_fig G hS0 hM cb ci h0 h1 (fun hb hi hq => ?_))
  refine k_total G hS0.2.2.2.2.2.1 hM hW.1.1 (t := 284) (by unfold tP; omega) hkd2 hln2 hb hi ?_
  rw [zw_of (n := vS A 284 b i) (by omega) (by omega)]
  unfold vFR at hq
  refine ⟨fun h0 => ?_, fun h0 => by rw [if_pos h0, if_neg (by decide)] at hq; exact hq⟩
  refine k_total G hS0.2.2.2.2.2.1 hM hW.1.1 (t := 252) (by unfold tP; omega) hkd hln hb hi ?_
  rw [zw_of (n := vS A 252 b i) (by omega) (by omega)]
  rw [if_neg h0, if_neg (by decide)] at hq
  obtain ⟨p, hp⟩ : ∃ p : Nat, vS A 284 b i = p := ⟨(vS A 284 b i).toNat, by omega⟩
  obtain ⟨q, hq'⟩ : ∃ q : Nat, vS A 252 b i = q := ⟨(vS A 252 b i).toNat, by omega⟩
  rw [hp, hq'] at hq bd ⊢
  simp only [Int.toNat_natCast] at hq
  rw [Nat.gcd_comm] at hq
  have hg := Nat.gcd_pos_of_pos_right q (show 0 < p by omega)
  refine v_X7_commonDivisor G (zc_of (by omega) (by omega)) (zc_of (by omega) (by omega)) (k_gcd_loop G 31 q p 0 (by omega) (by omega) (by omega) (by omega) (by omega) ⟨by omega, ?_⟩)
  have hd := Nat.div_le_self p (q.gcd p)
  rw [td_nat, zwNt (Nat.le_trans hd (by omega))]
  exact hq
theorem k_fillDenominator (G : zOK g) (hS0 : zDep S a an as av at_) (hM : nS an y im im A) {lo m : Int} (hW : aW lo m A) (hm : m ≤ 70000000) (hkd : zkd S (an + 13) = 9) (hln : zln S (an + 13) = 32) (hkd2 : zkd S (an + 14) = 9) (hln2 : zln S (an + 14) = 32) {b i : Int} (cb : zc b) (ci : zc i) {Q : Int → zIm → Prop} {X : String → zSh → zIm → Prop} (h0 : (oFig A b i (vFR A b i 0)).1 = 0 → Q (oFig A b i (vFR A b i 0)).2.1 im) (h1 : (oFig A b i (vFR A b i 0)).1 = 1 → X "java/lang/IndexOutOfBoundsException" (zpush S 14 0) im) : zCIx g yX7_fillDenominator M_X7_fillDenominator [.ref a, .int (zi b), .int (zi i)] S im Q X := by
  have bd := vS_bd hW hm b i
  refine v_X7_fillDenominator G hS0 cb ci (k_fig G hS0 hM cb ci h0 h1 (fun hb hi hq => ?_))
  refine k_total G hS0.2.2.2.2.2.1 hM hW.1.1 (t := 284) (by unfold tP; omega) hkd2 hln2 hb hi ?_
  rw [zw_of (n := vS A 284 b i) (by omega) (by omega)]
  unfold vFR at hq
  refine ⟨fun h0 => ?_, fun h0 => by rw [if_pos h0, if_pos rfl] at hq; exact hq⟩
  refine k_total G hS0.2.2.2.2.2.1 hM hW.1.1 (t := 252) (by unfold tP; omega) hkd hln hb hi ?_
  rw [zw_of (n := vS A 252 b i) (by omega) (by omega)]
  rw [if_neg h0, if_pos rfl] at hq
  obtain ⟨p, hp⟩ : ∃ p : Nat, vS A 284 b i = p := ⟨(vS A 284 b i).toNat, by omega⟩
  obtain ⟨q, hq'⟩ : ∃ q : Nat, vS A 252 b i = q := ⟨(vS A 252 b i).toNat, by omega⟩
  rw [hp, hq'] at hq bd ⊢
  simp only [Int.toNat_natCast] at hq
  rw [Nat.gcd_comm] at hq
  have hg := Nat.gcd_pos_of_pos_right q (show 0 < p by omega)
  refine v_X7_commonDivisor G (zc_of (by omega) (by omega)) (zc_of (by omega) (by omega)) (k_gcd_loop G 31 q p 0 (by omega) (by omega) (by omega) (by omega) (by omega) ⟨by omega, ?_⟩)
  have hd := Nat.div_le_self q (q.gcd p)
  rw [td_nat, zwNt (Nat.le_trans hd (by omega))]
  exact hq
end SA
