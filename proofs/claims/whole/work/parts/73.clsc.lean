/-! the class: a cleared network -/
def vC0 (c : Nat) (j : Int) : Int := if c = 3 ∧ j = 1 then 1 else 0
def zr0 (im im' : zIm) (n : Nat) (L : Nat → Int) : Prop := (∀ b, (b < n ∨ n + 40 ≤ b) → im' b = im b) ∧ ∀ c, c < 40 → ∀ j, 0 ≤ j → j < L c → im' (n + c) j = vC0 c j
theorem zr0.i {im : zIm} {n : Nat} : zr0 im im n (fun _ => 0) := ⟨fun _ _ => rfl, fun _ _ _ j0 j1 => absurd (show _ < (0 : Int) from j1) (by omega)⟩
theorem zr0.row {im im' im'' : zIm} {n : Nat} {L : Nat → Int} {N : Int} (h : zr0 im im' n L) (c : Nat) (hc : c < 40) (h3 : c ≠ 3) (e : im'' = zsr im' (n + c) (fun j => if 0 ≤ j ∧ j < N then 0 else im' (n + c) j)) : zr0 im im'' n (fun d => if d = c then N else L d) := by
  refine ⟨fun b hb => by rw [e, zsr_n (by omega)]; exact h.1 b hb, fun d hd j j0 j1 => ?_⟩
  dsimp only at j1
  rw [e]
  by_cases ed : d = c
  · subst ed
    rw [if_pos rfl] at j1
    rw [zsr_s]
    show (if 0 ≤ j ∧ j < N then 0 else im' (n + d) j) = _
    rw [if_pos ⟨j0, j1⟩]
    unfold vC0
    rw [if_neg (fun hh => h3 hh.1)]
  · rw [if_neg ed] at j1
    rw [zsr_n (by omega)]
    exact h.2 d hd j j0 j1
theorem zr0.fld {im im' im'' : zIm} {n : Nat} {L : Nat → Int} {k v : Int} (h : zr0 im im' n L) (c : Nat) (hc : c < 40) (hk : L c = k) (hv : vC0 c k = v) (e : im'' = zst im' (n + c) k v) : zr0 im im'' n (fun d => if d = c then k + 1 else L d) := by
  refine ⟨fun b hb => by rw [e, zst_n (by omega)]; exact h.1 b hb, fun d hd j j0 j1 => ?_⟩
  dsimp only at j1
  rw [e, zst_at]
  by_cases ed : d = c
  · subst ed
    rw [if_pos rfl] at j1
    by_cases ej : j = k
    · rw [if_pos ⟨rfl, ej⟩, ej, hv]
    · rw [if_neg (fun hh => ej hh.2)]
      exact h.2 d hd j j0 (by omega)
  · rw [if_neg ed] at j1
    rw [if_neg (by omega)]
    exact h.2 d hd j j0 j1
def lCl (d : Nat) : Int := if d = 35 then 0 + 1 else if d = 30 then 0 + 1 else if d = 25 then 0 + 1 else if d = 18 then 0 + 1 else if d = 17 then 32 else if d = 16 then 32 else if d = 15 then 32 else if d = 14 then 32 else if d = 13 then 32 else if d = 12 then 0 + 1 else if d = 11 then 32 else if d = 10 then 32 else if d = 9 then 32 else if d = 8 then 64 else if d = 3 then 2 + 1 else if d = 3 then 1 + 1 else if d = 3 then 0 + 1 else if d = 2 then 32 else if d = 1 then 32 else if d = 0 then 0 + 1 else 0
theorem nRep_0 {im im' : zIm} {n : Nat} (h : zr0 im im' n lCl) : nRep im' n A0S := by
  have z (j : Int) (h : j ≠ 3) : A0S.1 j = 0 := g0_o h
  refine ⟨⟨?_, ?_, ?_, ?_, ?_, fun i i0 i1 => ?_, fun s s0 s1 => ?_, fun j j0 j1 => ?_, fun c t ht j j0 j1 => ?_⟩, ⟨?_, fun k hk => ?_⟩, ⟨?_, fun k hk => ?_⟩, ⟨?_, fun k hk => ?_⟩, ⟨?_, fun k hk => ?_⟩⟩
  · rw [z 0 (by omega)]; exact h.2 0 (by decide) 0 (by decide) (show (0 : Int) < 1 by decide)
  · rw [z 2 (by omega)]; exact h.2 3 (by decide) 0 (by decide) (show (0 : Int) < 3 by decide)
  · exact h.2 3 (by decide) 1 (by decide) (show (1 : Int) < 3 by decide)
  · rw [z 1 (by omega)]; exact h.2 3 (by decide) 2 (by decide) (show (2 : Int) < 3 by decide)
  · rw [z 7 (by omega)]; exact h.2 12 (by decide) 0 (by decide) (show (0 : Int) < 1 by decide)
  · rw [z 2 (by omega)] at i1; omega
  · have : s < g0S 3 := s1
    rw [g0_3] at this; omega
  · rw [z _ (by omega)]; exact h.2 8 (by decide) j j0 (show j < 64 by omega)
  · unfold tP at ht
    rcases ht with ⟨rfl, rfl⟩ | ⟨rfl, rfl⟩ | ⟨rfl, rfl⟩ | ⟨rfl, rfl⟩ | ⟨rfl, rfl⟩ | ⟨rfl, rfl⟩ | ⟨rfl, rfl⟩ | ⟨rfl, rfl⟩ | ⟨rfl, rfl⟩ | ⟨rfl, rfl⟩ <;> (rw [z _ (by omega)]; exact h.2 _ (by decide) j j0 j1)
  · exact h.2 18 (by decide) 0 (by decide) (show (0 : Int) < 1 by decide)
  · exact absurd hk (Nat.not_lt_zero _)
  · exact h.2 25 (by decide) 0 (by decide) (show (0 : Int) < 1 by decide)
  · exact absurd hk (Nat.not_lt_zero _)
  · exact h.2 30 (by decide) 0 (by decide) (show (0 : Int) < 1 by decide)
  · exact absurd hk (Nat.not_lt_zero _)
  · exact h.2 35 (by decide) 0 (by decide) (show (0 : Int) < 1 by decide)
  · exact absurd hk (Nat.not_lt_zero _)
section CL0
variable {g : zG} {S : zSh} {im im0 : zIm} {n : Nat}
theorem k_fl_loop (G : zOK g) {p N : Nat} (hk : zkd S p = 9) (hl : zln S p = N) (hN : N ≤ 1000) {Q : zIm → Prop} (hQ : Q (zsr im p (fun j => if 0 ≤ j ∧ j < (N : Int) then 0 else im p j))) :
    ∀ (f k : Nat), k + f = N → zPV g M_J7_fill_53178 5 [(0, .ref p), (1, .int (zi 0)), (2, .int (zi k)), (3, .int (zi (N : Int)))] S (zsr im p (fun j => if 0 ≤ j ∧ j < (k : Int) then 0 else im p j)) Q := by
  intro f
  induction f with
  | zero =>
    intro k hk2
    have e : k = N := by omega
    subst e
    exact v_J7_fill_53178_5 G hk zc_0 (zc_of (by omega) (by omega)) (zc_of (by omega) (by omega)) ⟨fun _ => hQ, fun h => absurd h (by omega)⟩
  | succ f ih =>
    intro k hk2
    refine v_J7_fill_53178_5 G hk zc_0 (zc_of (by omega) (by omega)) (zc_of (by omega) (by omega)) ⟨fun h => absurd h (by omega), fun _ => ⟨⟨by omega, by rw [hl]; omega⟩, fun im1 e1 => ?_⟩⟩
    rw [zst_sr] at e1
    have er : zup (fun j => if 0 ≤ j ∧ j < (k : Int) then 0 else im p j) k 0 = (fun j => if 0 ≤ j ∧ j < ((k + 1 : Nat) : Int) then 0 else im p j) := by
      funext j
      unfold zup
      dsimp only
      by_cases ej : j = k
      · rw [if_pos ej, if_pos (by omega)]
      · rw [if_neg ej]
        by_cases e2 : 0 ≤ j ∧ j < (k : Int)
        · rw [if_pos e2, if_pos (by omega)]
        · rw [if_neg e2, if_neg (by omega)]
    rw [er] at e1
    rw [e1, zwS (k := k) (by omega)]
    exact ih (k + 1) (by omega)
theorem k_fill (G : zOK g) {p N : Nat} (hk : zkd S p = 9) (hl : zln S p = N) (hN : N ≤ 1000) {Q : zIm → Prop} (hQ : ∀ im', im' = zsr im p (fun j => if 0 ≤ j ∧ j < (N : Int) then 0 else im p j) → Q im') : zCV g yJ7_fill_53178 M_J7_fill_53178 [.ref p, .int (zi 0)] S im Q := by
  have := k_fl_loop G hk hl hN (hQ _ rfl) N 0 (Nat.zero_add _)
  have e : zsr im p (fun j => if 0 ≤ j ∧ j < ((0 : Nat) : Int) then 0 else im p j) = im := by
    have : (fun j => if 0 ≤ j ∧ j < ((0 : Nat) : Int) then 0 else im p j) = im p := by
      funext j
      rw [if_neg (by omega)]
    rw [this]
    exact zsr_id
  rw [e] at this
  exact v_J7_fill_53178 G hk zc_0 ⟨zc_of (by omega) (by omega), by rw [hl]; exact this⟩
theorem k_clear (G : zOK g) (hS : zS_N S n) {Q : zIm → Prop} (hQ : ∀ im', nS n (im (n + 40) 0) im im' A0S → Q im') : zCV g yX2_clear M_X2_clear [.ref n] S im Q := by
  have row (c N : Nat) (h1 : (zt_N c).1 = 9) (h2 : (zt_N c).2.1 = N) (hc : c < 41) : zkd S (n + c) = 9 ∧ zln S (n + c) = N := ⟨(hS c hc).1.trans h1, (hS c hc).2.1.trans h2⟩
  refine v_X2_clear G hS (fun i1 e1 => ?_)
  have h := zr0.i.fld (n := n) 0 (by decide) rfl rfl e1
  refine k_fill G (row 1 32 rfl rfl (by decide)).1 (row 1 32 rfl rfl (by decide)).2 (by decide) (fun i e => ?_)
  have h := h.row 1 (by decide) (by decide) e
  refine k_fill G (row 2 32 rfl rfl (by decide)).1 (row 2 32 rfl rfl (by decide)).2 (by decide) (fun i e => ?_)
  have h := h.row 2 (by decide) (by decide) e
  refine v_X4_clear G (zN_S hS) (fun i1 e1 i2 e2 i3 e3 => ?_)
  have h := ((h.fld 3 (by decide) rfl rfl e1).fld 3 (by decide) rfl rfl e2).fld 3 (by decide) rfl rfl e3
  refine k_fill G (row 8 64 rfl rfl (by decide)).1 (row 8 64 rfl rfl (by decide)).2 (by decide) (fun i e => ?_)
  have h := h.row 8 (by decide) (by decide) e
  refine k_fill G (row 9 32 rfl rfl (by decide)).1 (row 9 32 rfl rfl (by decide)).2 (by decide) (fun i e => ?_)
  have h := h.row 9 (by decide) (by decide) e
  refine k_fill G (row 10 32 rfl rfl (by decide)).1 (row 10 32 rfl rfl (by decide)).2 (by decide) (fun i e => ?_)
  have h := h.row 10 (by decide) (by decide) e
  refine k_fill G (row 11 32 rfl rfl (by decide)).1 (row 11 32 rfl rfl (by decide)).2 (by decide) (fun i e => ?_)
  have h := h.row 11 (by decide) (by decide) e
  refine v_X0_clear G (zN_F hS) (fun i1 e1 => ?_)
  have h := h.fld 12 (by decide) rfl rfl e1
  refine k_fill G (row 13 32 rfl rfl (by decide)).1 (row 13 32 rfl rfl (by decide)).2 (by decide) (fun i e => ?_)
  have h := h.row 13 (by decide) (by decide) e
  refine k_fill G (row 14 32 rfl rfl (by decide)).1 (row 14 32 rfl rfl (by decide)).2 (by decide) (fun i e => ?_)
  have h := h.row 14 (by decide) (by decide) e
  refine k_fill G (row 15 32 rfl rfl (by decide)).1 (row 15 32 rfl rfl (by decide)).2 (by decide) (fun i e => ?_)
  have h := h.row 15 (by decide) (by decide) e
  refine k_fill G (row 16 32 rfl rfl (by decide)).1 (row 16 32 rfl rfl (by decide)).2 (by decide) (fun i e => ?_)
  have h := h.row 16 (by decide) (by decide) e
  refine k_fill G (row 17 32 rfl rfl (by decide)).1 (row 17 32 rfl rfl (by decide)).2 (by decide) (fun i e => ?_)
  have h := h.row 17 (by decide) (by decide) e
  intro i11 e11 i13 e13 i15 e15 i17 e17
  have h := (((h.fld 18 (by decide) rfl rfl e11).fld 25 (by decide) rfl rfl e13).fld 30 (by decide) rfl rfl e15).fld 35 (by decide) rfl rfl e17
  exact hQ i17 ⟨fun b hb => h.1 b (by omega), by rw [h.1 (n + 40) (by omega)], nRep_0 (im := im) h⟩
/-! the class's setters, for a network wherever it lies -/
theorem k_newItem (G : zOK g) (hS : zS_N S n) {A : aA} {y : Int} (hM : nS n y im0 im A) (hG : gB A.1) (hn : A.1 2 < 4) {p q r : Int} (cp : zc p) (cq : zc q) (cr : zc r) {Q : Int → zIm → Prop} (hQ : ∀ v im', nS n y im0 im' (aItem A p q r) → Q v im') : zCI g yX4_newItem M_X4_newItem [.ref (n + 3), .int (zi p), .int (zi q), .int (zi r)] S im Q := by
  have g2 := hG.2.2.1
  refine v_X4_newItem G (zN_S hS) cp cq cr ?_
  rw [hM.it]
  have b : 0 ≤ A.1 2 ∧ A.1 2 < 4 := by omega
  refine ⟨fun _ => ⟨b, fun i1 e1 => ?_⟩, fun h => absurd h (by omega)⟩
  have c1 : i1 (n + 3) 0 = A.1 2 := by rw [e1, zst_n (by omega)]; exact hM.it
  rw [c1]
  refine ⟨b, fun i2 e2 => ?_⟩
  have c2 : i2 (n + 3) 0 = A.1 2 := by rw [e2, zst_n (by omega)]; exact c1
  rw [c2]
  refine ⟨b, fun i3 e3 i4 e4 => ?_⟩
  have c3 : i3 (n + 3) 0 = A.1 2 := by rw [e3, zst_n (by omega)]; exact c2
  rw [c3, zw_of (by omega) (by omega)] at e4
  exact hQ _ i4 (hM.mkItem hG hn (by rw [e4, e3, e2, e1]))
theorem k_newBase (G : zOK g) (hS : zS_N S n) {A : aA} {y : Int} (hM : nS n y im0 im A) (hG : gB A.1) (hn : A.1 3 < 8) {p : Int} (cp : zc p) {Q : Int → zIm → Prop} (hQ : ∀ v im', nS n y im0 im' (aBase A p) → Q v im') : zCI g yX4_newBase M_X4_newBase [.ref (n + 3), .int (zi p)] S im Q := by
  have g3 := hG.2.2.2.1
  refine v_X4_newBase G (zN_S hS) cp ?_
  rw [hM.st]
  have b : 0 ≤ A.1 3 ∧ A.1 3 < 8 := by omega
  refine ⟨fun _ => ⟨b, fun i1 e1 i2 e2 => ?_⟩, fun h => absurd h (by omega)⟩
  have c1 : i1 (n + 3) 1 = A.1 3 := by rw [e1, zst_n (by omega)]; exact hM.st
  rw [c1, zw_of (by omega) (by omega)] at e2
  exact hQ _ i2 (hM.mkBase hG hn (by rw [e2, e1]))
theorem k_join (G : zOK g) (hS : zS_N S n) {A : aA} {y lo m : Int} (hM : nS n y im0 im A) (hW : aW lo m A) {p q r : Int} (p0 : 0 ≤ p) (p1 : p < 8) (q0 : 0 ≤ q) (q1 : q < 8) (hn : p ≠ q) (r0 : 0 ≤ r) (r1 : r ≤ 20) {Q : zIm → Prop} (hQ : ∀ im', nS n y im0 im' (aJoin A p q r) → Q im') : zCV g yX4_join M_X4_join [.ref (n + 3), .int (zi p), .int (zi q), .int (zi r)] S im Q := by
  refine v_X4_join G (zN_S hS) (zc_of (by omega) (by omega)) (zc_of (by omega) (by omega)) (zc_of (by omega) (by omega)) ?_
  rw [zw_of (n := p * 8 + q) (by omega) (by omega), zw_of (n := q * 8 + p) (by omega) (by omega), Int.mul_comm p 8, Int.mul_comm q 8, show n + 3 + 5 = n + 8 from rfl]
  refine ⟨⟨by omega, by omega⟩, fun i1 e1 => ⟨⟨by omega, by omega⟩, fun i2 e2 => ?_⟩⟩
  have n1 := hM.mkLink hW.1.1 (by omega) (by omega) (by omega) (by omega) e1
  exact hQ i2 (n1.mkLink (hW.lnk p0 p1 q0 q1 hn r0 r1).1.1 (by omega) (by omega) (by omega) (by omega) e2)
end CL0
