def rn (x : Int) : Int := zwl (Int.tmod (zwl (x * 1103515245 + 12345)) 2147483648)
def dv (x c : Int) : Int := zw (zwl (Int.tmod (zwl (Int.tdiv x 65536)) c))
theorem rn_bd {x : Int} (h0 : 0 ≤ x) (h1 : x < 2147483648) : 0 ≤ rn x ∧ rn x < 2147483648 := by
  unfold rn
  rw [zwl_of (n := x * 1103515245 + 12345) (by omega) (by omega)]
  have a := Int.tmod_nonneg 2147483648 (a := x * 1103515245 + 12345) (by omega)
  have b := Int.tmod_lt_of_pos (x * 1103515245 + 12345) (b := 2147483648) (by omega)
  rw [zwl_of (by omega) (by omega)]
  exact ⟨a, b⟩
theorem dv_bd {x c : Int} (h0 : 0 ≤ x) (h1 : x < 2147483648) (c0 : 0 < c) (c1 : c ≤ 1000) : 0 ≤ dv x c ∧ dv x c < c := by
  unfold dv
  have q0 := Int.tdiv_nonneg h0 (show (0 : Int) ≤ 65536 by omega)
  have q1 : Int.tdiv x 65536 ≤ x := by rw [Int.tdiv_eq_ediv_of_nonneg h0]; omega
  rw [zwl_of (n := Int.tdiv x 65536) (by omega) (by omega)]
  have a := Int.tmod_nonneg c q0
  have b := Int.tmod_lt_of_pos (Int.tdiv x 65536) c0
  rw [zwl_of (by omega) (by omega), zw_of (by omega) (by omega)]
  exact ⟨a, b⟩
/-- a run's state: the network, the number that the draws go on from, the demands counted -/
abbrev aT : Type := aA × Int × Int
noncomputable def aDD (T : aT) (b i : Int) : aT :=
  if T.1.1 (220 + 4 * b + i) ≤ dv (rn T.2.1) 100 then (T.1, rn T.2.1, zw (T.2.2 + 0))
  else if 200 ≤ T.1.2.1.length ∨ 100 ≤ T.1.2.2.1.length then (aG T.1 7 (zw (T.1.1 7 + 1)), rn (rn T.2.1), zw (T.2.2 + 0))
  else (aOcc T.1 b i (dv (rn (rn T.2.1)) 10), rn (rn T.2.1), zw (T.2.2 + 1))
noncomputable def aIt (b : Int) : Nat → aT → aT
  | 0, T => T
  | n + 1, T => aDD (aIt b n T) b n
noncomputable def aBs (it : Nat) : Nat → aT → aT
  | 0, T => T
  | n + 1, T => aIt ((n : Int) + 1) it (aBs it n T)
noncomputable def aDs (it st : Nat) : Nat → aT → aT
  | 0, T => T
  | n + 1, T => aBs it (st - 1) (aDay (aDs it st n T).1, (aDs it st n T).2)
noncomputable def aRun (A : aA) (x : Int) (n : Nat) : aT := aDs (A.1 2).toNat (A.1 3).toNat n (A, x, 0)
def rI (d it st m : Int) (T : aT) : Prop := T.1.1 0 = d ∧ T.1.1 2 = it ∧ T.1.1 3 = st ∧ aW (d + 1) m T.1 ∧ (0 ≤ T.2.1 ∧ T.2.1 < 2147483648) ∧ zc T.2.2
theorem aW.ref {lo m v : Int} {A : aA} (h : aW lo m A) (cv : zc v) : aW lo m (aG A 7 v) := by
  obtain ⟨⟨⟨a0, a1, a2, a3, a4, a5, a6, a7, a8⟩, b2, b3, b4⟩, hD, hC, hf⟩ := h
  have n (i : Int) (hi : i ≠ 7) : (aG A 7 v).1 i = A.1 i := aG_n hi
  refine ⟨⟨⟨?_, ?_, ?_, ?_, fun i i0 i1 => ?_, fun s s0 s1 => ?_, fun b o b0 b1 o0 o1 => ?_, fun k k0 k1 => ?_, fun k k0 k1 => ?_⟩, ?_, ?_, ?_⟩, hD.g (by omega) (by omega), hC, fun j j0 j1 => ?_⟩
  · rw [n 0 (by omega)]; exact a0
  · rw [n 1 (by omega)]; exact a1
  · rw [n 2 (by omega)]; exact a2
  · rw [n 3 (by omega)]; exact a3
  · rw [n 2 (by omega)] at i1
    rw [n _ (by omega), n _ (by omega), n _ (by omega)]; exact a4 i i0 i1
  · rw [n 3 (by omega)] at s1
    rw [n _ (by omega)]; exact a5 s s0 s1
  · rw [n _ (by omega)]; exact a6 b o b0 b1 o0 o1
  · rw [n _ (by omega)]; exact a7 k k0 k1
  · by_cases e : k = 7
    · rw [e, aG_s]; exact cv
    · rw [n k e]; exact a8 k k0 k1
  · rw [n 0 (by omega), n 2 (by omega), n 3 (by omega)]; exact b2
  · rw [n 0 (by omega), n 2 (by omega), n 3 (by omega)]; exact b3
  · rw [n 2 (by omega), n 3 (by omega)]; exact b4
  · rw [n _ (by omega), n _ (by omega)]; exact hf j j0 j1
theorem rI.dd {d it st m b i : Int} {T : aT} (h : rI d it st m T) (b0 : 1 ≤ b) (b1 : b < st) (i0 : 0 ≤ i) (i1 : i < it) (hm : m ≤ 1000000000) : rI d it st (m + 1) (aDD T b i) := by
  obtain ⟨e0, e2, e3, hW, hx, hc⟩ := h
  have r1 := rn_bd hx.1 hx.2
  have r2 := rn_bd r1.1 r1.2
  unfold aDD
  split
  · exact ⟨e0, e2, e3, hW.mono (by omega), r1, zc_zw _⟩
  · split
    · exact ⟨(aG_n (by omega)).trans e0, (aG_n (by omega)).trans e2, (aG_n (by omega)).trans e3, (hW.ref (zc_zw _)).mono (by omega), r2, zc_zw _⟩
    · rename_i hn
      have p := dv_bd (c := 10) r2.1 r2.2 (by omega) (by omega)
      obtain ⟨w, s⟩ := hW.occ (b := b) (i := i) (p := dv (rn (rn T.2.1)) 10) (by omega) ⟨b0, by omega⟩ ⟨i0, by omega⟩ p.1 (by omega) (by omega) (by omega) hm
      exact ⟨by rw [← e0]; exact s 0 (by omega), by rw [← e2]; exact s 2 (by omega), by rw [← e3]; exact s 3 (by omega), w, r2, zc_zw _⟩
theorem rI.mono {d it st m m' : Int} {T : aT} (h : rI d it st m T) (hm : m ≤ m') : rI d it st m' T := ⟨h.1, h.2.1, h.2.2.1, h.2.2.2.1.mono hm, h.2.2.2.2⟩
theorem rI.it {d it st m b : Int} {T : aT} (h : rI d it st m T) (b0 : 1 ≤ b) (b1 : b < st) (n : Nat) (hn : (n : Int) ≤ it) (hm : m + n ≤ 1000000000) : rI d it st (m + n) (aIt b n T) := by
  induction n with
  | zero => exact h.mono (by omega)
  | succ n ih =>
    have := (ih (by omega) (by omega)).dd (i := n) b0 b1 (by omega) (by omega) (by omega)
    exact this.mono (by omega)
theorem rI.bs {d it st m : Int} {T : aT} (h : rI d it st m T) (n : Nat) (hn : (n : Int) < st) (h2 : 0 ≤ it ∧ it ≤ 4) (h3 : st ≤ 8) (hm : m ≤ 900000000) : rI d it st (m + 4 * n) (aBs it.toNat n T) := by
  induction n with
  | zero => exact h.mono (by omega)
  | succ n ih =>
    have := (ih (by omega)).it (b := (n : Int) + 1) (by omega) (by omega) it.toNat (by omega) (by omega)
    exact this.mono (by omega)
theorem rI.st {d it st m : Int} {T : aT} (h : rI d it st m T) : (0 ≤ it ∧ it ≤ 4) ∧ 1 ≤ st ∧ st ≤ 8 := by
  have g2 := h.2.2.2.1.1.1.2.2.1
  have g3 := h.2.2.2.1.1.1.2.2.2.1
  rw [h.2.1] at g2
  rw [h.2.2.1] at g3
  exact ⟨g2, g3⟩
theorem rI.day {d it st m : Int} {T : aT} (h : rI d it st m T) (hd : d < 9999) : rI (d + 1) it st m (aDay T.1, T.2) := by
  obtain ⟨e0, e2, e3, hW, hx, hc⟩ := h
  subst e0
  obtain ⟨w, z, s⟩ := aW.day hW hd
  exact ⟨z, by rw [← e2]; exact s 2 (by omega) (by omega), by rw [← e3]; exact s 3 (by omega) (by omega), w, hx, hc⟩
theorem rI.ds {d it st m : Int} {T : aT} (h : rI d it st m T) (n : Nat) (hd : d + n ≤ 9999) (hm : m + 28 * n ≤ 900000000) : rI (d + n) it st (m + 28 * n) (aDs it.toNat st.toNat n T) := by
  induction n with
  | zero => rw [show d + ((0 : Nat) : Int) = d from by omega]; exact h.mono (by omega)
  | succ n ih =>
    have hs := h.st
    have h1 := (ih (by omega) (by omega)).day (by omega)
    have h2 := h1.bs (st.toNat - 1) (by omega) hs.1 hs.2.2 (by omega)
    rw [show d + ((n + 1 : Nat) : Int) = d + n + 1 from by omega]
    exact h2.mono (by omega)
theorem mS.x {a : Nat} {im0 im : zIm} {A : aA} {x x' : Int} (h : mS a (zst im0 a 5 x) im A) : mS a (zst im0 a 5 x') (zst im a 5 x') A := by
  refine ⟨fun b hb => ?_, ?_⟩
  · by_cases e : b = a
    · subst e
      rw [zst_df, zst_df, zsr_s, zsr_s, h.1 b hb, zst_df, zsr_s]
      funext j
      unfold zup
      split <;> rfl
    · rw [zst_df, zst_df, zsr_n e, zsr_n e, h.1 b hb, zst_df, zsr_n e]
  · rw [zst_df, zsr_n (by omega)]; exact h.2
theorem mS.y {a : Nat} {im0 im : zIm} {A : aA} {x' : Int} (h : mS a im0 im A) : mS a (zst im0 a 5 x') (zst im a 5 x') A := by
  refine ⟨fun b hb => ?_, ?_⟩
  · by_cases e : b = a
    · subst e
      rw [zst_df, zst_df, zsr_s, zsr_s, h.1 b hb]
    · rw [zst_df, zst_df, zsr_n e, zsr_n e, h.1 b hb]
  · rw [zst_df, zsr_n (by omega)]; exact h.2
theorem mS.r {a : Nat} {im0 im : zIm} {A : aA} {x : Int} (h : mS a (zst im0 a 5 x) im A) : im a 5 = x := by
  rw [h.1 a (by omega), zst_df, zsr_s, zup_s]
section RUN
variable {g : zG} {S : zSh} {im0 : zIm} {a : Nat}
theorem c_draw (G : zOK g) (hS : zS_M S a) {A : aA} {im : zIm} {x c : Int} (hM : mS a (zst im0 a 5 x) im A) (cc : zc c) (c0 : 0 < c) {Q : Int → zIm → Prop} (hQ : ∀ im', mS a (zst im0 a 5 (rn x)) im' A → Q (dv (rn x) c) im') : zCI g yX8_draw M_X8_draw [.ref a, .int (zi c)] S im Q := by
  refine v_X8_draw G hS cc (fun im1 e1 => ⟨by omega, ?_⟩)
  rw [hM.r] at e1
  have h1 : mS a (zst im0 a 5 (rn x)) im1 A := by rw [e1]; exact hM.x
  rw [h1.r]
  exact hQ im1 h1
theorem c_drawDemand (G : zOK g) (hS : zS_M S a) {T : aT} {im : zIm} {d it st m b i : Int} (hI : rI d it st m T) (hM : mS a (zst im0 a 5 T.2.1) im T.1) (b0 : 1 ≤ b) (b1 : b < st) (i0 : 0 ≤ i) (i1 : i < it) {Q : Int → zIm → Prop} (hQ : ∀ r im', (r = 0 ∨ r = 1) → mS a (zst im0 a 5 (aDD T b i).2.1) im' (aDD T b i).1 → zw (T.2.2 + r) = (aDD T b i).2.2 → Q r im') : zCI g yX8_drawDemand M_X8_drawDemand [.ref a, .int (zi b), .int (zi i)] S im Q := by
  have hs := hI.st
  have sz := hI.2.2.2.1.sz
  have hx := hI.2.2.2.2.1
  have r1 := rn_bd hx.1 hx.2
  have r2 := rn_bd r1.1 r1.2
  have p := dv_bd (c := 10) r2.1 r2.2 (by omega) (by omega)
  unfold aDD at hQ
  refine v_X8_drawDemand G hS (zc_of (by omega) (by omega)) (zc_of (by omega) (by omega)) ?_
  refine c_draw G hS hM (zc_of (by omega) (by omega)) (by omega) (fun im1 h1 => ?_)
  refine c_at G (by omega) (by omega) (by omega) (by omega) (by omega) (by omega) ⟨⟨by omega, by omega⟩, ?_⟩
  rw [h1.g (by omega) (by omega)]
  refine ⟨fun hr => ?_, fun hr => ?_⟩
  · rw [if_neg (by omega)] at hQ
    refine c_draw G hS h1 (zc_of (by omega) (by omega)) (by omega) (fun im2 h2 => ?_)
    refine c_isRefused G hS h2 (fun hf => ⟨fun h => absurd h (by decide), fun _ im3 e3 => ?_⟩) (fun u1 u2 => ⟨fun _ => ?_, fun h => absurd rfl h⟩)
    · rw [if_pos hf] at hQ
      rw [h2.g (by omega) (by omega)] at e3
      exact hQ 0 im3 (Or.inl rfl) (h2.u e3 (by omega) (by omega)) rfl
    · rw [if_neg (by omega)] at hQ
      refine c_occur G hS h2 hI.2.2.2.1.1.1 (by omega) (by omega) (by omega) (by omega) (by omega) (by omega) (by omega) (zc_of (by omega) (by omega)) (fun im3 h3 => ?_)
      exact hQ 1 im3 (Or.inr rfl) h3 rfl
  · rw [if_pos hr] at hQ
    exact hQ 0 im1 (Or.inl rfl) h1 rfl
theorem c_it_loop (G : zOK g) (hS : zS_M S a) {T : aT} {d it st m b n k : Int} (hI : rI d it st m T) (hm : m ≤ 900000000) (b0 : 1 ≤ b) (b1 : b < st) (cn : zc n) (ck : zc k) {Q : Int → zIm → Prop} (hQ : ∀ im', mS a (zst im0 a 5 (aIt b it.toNat T).2.1) im' (aIt b it.toNat T).1 → zPI g M_X8_runDays 24 [(0, .ref a), (2, .int (zi n)), (3, .int (zi (aIt b it.toNat T).2.2)), (4, .int (zi k)), (5, .int (zi (zw (b + 1))))] S im' Q) :
    ∀ (f j : Nat) (im : zIm), (j : Int) + f = it → mS a (zst im0 a 5 (aIt b j T).2.1) im (aIt b j T).1 → zPI g M_X8_runDays 38 [(0, .ref a), (2, .int (zi n)), (3, .int (zi (aIt b j T).2.2)), (4, .int (zi k)), (5, .int (zi b)), (6, .int (zi j))] S im Q := by
  have hs := hI.st
  intro f
  induction f with
  | zero =>
    intro j im hj hM
    have hI' := hI.it b0 b1 j (by omega) (by omega)
    refine v_X8_runDays_38 G hS cn hI'.2.2.2.2.2 ck (zc_of (by omega) (by omega)) (zc_of (by omega) (by omega)) ⟨fun _ => ?_, fun h => ?_⟩
    · rw [show it.toNat = j from by omega] at hQ
      exact hQ im hM
    · rw [hM.h (by omega) (by omega), hI'.2.1] at h; omega
  | succ f ih =>
    intro j im hj hM
    have hI' := hI.it b0 b1 j (by omega) (by omega)
    refine v_X8_runDays_38 G hS cn hI'.2.2.2.2.2 ck (zc_of (by omega) (by omega)) (zc_of (by omega) (by omega)) ⟨fun h => ?_, fun _ => ?_⟩
    · rw [hM.h (by omega) (by omega), hI'.2.1] at h; omega
    · refine c_drawDemand G hS hI' hM b0 b1 (by omega) (by omega) (fun r im1 hr h1 e1 => ?_)
      have st := ih (j + 1) im1 (by omega) h1
      rw [show (aIt b (j + 1) T).2.2 = zw ((aIt b j T).2.2 + r) from e1.symm] at st
      rw [zwS (k := j) (by omega)]
      rcases hr with rfl | rfl
      · exact ⟨fun _ => st, fun h => absurd rfl h⟩
      · exact ⟨fun h => absurd h (by decide), fun _ => st⟩
theorem c_bs_loop (G : zOK g) (hS : zS_M S a) {T : aT} {d it st m n k : Int} (hI : rI d it st m T) (hm : m ≤ 800000000) (cn : zc n) (ck : zc k) {Q : Int → zIm → Prop} (hQ : ∀ im', mS a (zst im0 a 5 (aBs it.toNat (st.toNat - 1) T).2.1) im' (aBs it.toNat (st.toNat - 1) T).1 → zPI g M_X8_runDays 11 [(0, .ref a), (2, .int (zi n)), (3, .int (zi (aBs it.toNat (st.toNat - 1) T).2.2)), (4, .int (zi (zw (k + 1))))] S im' Q) :
    ∀ (f j : Nat) (im : zIm), (j : Int) + 1 + f = st → mS a (zst im0 a 5 (aBs it.toNat j T).2.1) im (aBs it.toNat j T).1 → zPI g M_X8_runDays 24 [(0, .ref a), (2, .int (zi n)), (3, .int (zi (aBs it.toNat j T).2.2)), (4, .int (zi k)), (5, .int (zi ((j : Int) + 1)))] S im Q := by
  have hs := hI.st
  intro f
  induction f with
  | zero =>
    intro j im hj hM
    have hI' := hI.bs j (by omega) hs.1 hs.2.2 (by omega)
    refine v_X8_runDays_24 G hS cn hI'.2.2.2.2.2 ck (zc_of (by omega) (by omega)) ⟨fun _ => ?_, fun h => ?_⟩
    · rw [show st.toNat - 1 = j from by omega] at hQ
      exact hQ im hM
    · rw [hM.h (by omega) (by omega), hI'.2.2.1] at h; omega
  | succ f ih =>
    intro j im hj hM
    have hI' := hI.bs j (by omega) hs.1 hs.2.2 (by omega)
    refine v_X8_runDays_24 G hS cn hI'.2.2.2.2.2 ck (zc_of (by omega) (by omega)) ⟨fun h => ?_, fun _ => ?_⟩
    · rw [hM.h (by omega) (by omega), hI'.2.2.1] at h; omega
    · refine c_it_loop G hS hI' (by omega) (b := (j : Int) + 1) (by omega) (by omega) cn ck (fun im1 h1 => ?_) it.toNat 0 im (by omega) hM
      have st := ih (j + 1) im1 (by omega) h1
      rw [zw_of (by omega) (by omega), show (j : Int) + 1 + 1 = ((j + 1 : Nat) : Int) + 1 from by omega]
      exact st
theorem c_ds_loop (G : zOK g) (hS : zS_M S a) {T : aT} {d it st m : Int} {n : Nat} (hI : rI d it st m T) (hm : m + 28 * n ≤ 800000000) (hd : d + n ≤ 9999) {Q : Int → zIm → Prop} (hQ : ∀ im', mS a (zst im0 a 5 (aDs it.toNat st.toNat n T).2.1) im' (aDs it.toNat st.toNat n T).1 → Q (aDs it.toNat st.toNat n T).2.2 im') :
    ∀ (f j : Nat) (im : zIm), j + f = n → mS a (zst im0 a 5 (aDs it.toNat st.toNat j T).2.1) im (aDs it.toNat st.toNat j T).1 → zPI g M_X8_runDays 11 [(0, .ref a), (2, .int (zi n)), (3, .int (zi (aDs it.toNat st.toNat j T).2.2)), (4, .int (zi j))] S im Q := by
  have hs := hI.st
  have d0 := hI.2.2.2.1.1.1.1
  rw [hI.1] at d0
  intro f
  induction f with
  | zero =>
    intro j im hj hM
    have hI' := hI.ds j (by omega) (by omega)
    refine v_X8_runDays_11 G hS (zc_of (by omega) (by omega)) hI'.2.2.2.2.2 (zc_of (by omega) (by omega)) ⟨fun _ => ?_, fun h => absurd h (by omega)⟩
    rw [show n = j from by omega] at hQ
    exact hQ im hM
  | succ f ih =>
    intro j im hj hM
    have hI' := hI.ds j (by omega) (by omega)
    refine v_X8_runDays_11 G hS (zc_of (by omega) (by omega)) hI'.2.2.2.2.2 (zc_of (by omega) (by omega)) ⟨fun h => absurd h (by omega), fun _ => ?_⟩
    have hI2 := hI'.day (by omega)
    refine c_beginDay G hS hM (by rw [hI'.1]; exact hI'.2.2.2.1) (by rw [hI'.1]; omega) (fun im1 h1 => ?_)
    refine c_bs_loop G hS (k := j) hI2 (by omega) (zc_of (by omega) (by omega)) (zc_of (by omega) (by omega)) (fun im2 h2 => ?_) (st.toNat - 1) 0 im1 (by omega) h1
    rw [zwS (k := j) (by omega)]
    exact ih (j + 1) im2 (by omega) h2
theorem c_runDays (G : zOK g) (hS : zS_M S a) {A : aA} {m x : Int} {n : Nat} {im : zIm} (hW : aW (A.1 0 + 1) m A) (hM : mS a im0 im A) (x0 : 0 ≤ x) (x1 : x < 2147483648) (hm : m + 28 * n ≤ 800000000) (hd : A.1 0 + n ≤ 9999) {Q : Int → zIm → Prop} (hQ : ∀ im', mS a (zst im0 a 5 (aRun A x n).2.1) im' (aRun A x n).1 → Q (aRun A x n).2.2 im') : zCI g yX8_runDays M_X8_runDays [.ref a, .int (zi x), .int (zi n)] S im Q := by
  have d0 := hW.1.1.1
  refine v_X8_runDays G hS (zc_of (by omega) (by omega)) (zc_of (by omega) (by omega)) (fun im1 e1 => ?_)
  have h1 : mS a (zst im0 a 5 x) im1 A := by rw [e1]; exact hM.y
  exact c_ds_loop G hS (T := (A, x, 0)) (d := A.1 0) (it := A.1 2) (st := A.1 3) (m := m) ⟨rfl, rfl, rfl, hW, ⟨x0, x1⟩, zc_0⟩ hm hd hQ n 0 im1 (by omega) h1
end RUN
