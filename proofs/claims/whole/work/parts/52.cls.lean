/-! the class's setters -/
theorem nS.su {n : Nat} {x : Int} {im0 im im' : zIm} {A : aA} {G' : aR} (h : nS n x im0 im A) (f : ∀ b, (b < n + 3 ∨ n + 9 ≤ b) → im' b = im b) (hg : nG im' n G') : nS n x im0 im' (G', A.2) := by
  obtain ⟨hf, hx, _, hu, hw, ho, hc⟩ := h
  exact ⟨fun b hb => by rw [f b (by omega)]; exact hf b hb, by rw [f _ (by omega)]; exact hx, hg, hu.cong (fun b b0 b1 => f b (by omega)), hw.cong (fun b b0 b1 => f b (by omega)), ho.cong (fun b b0 b1 => f b (by omega)), hc.cong (fun b b0 b1 => f b (by omega))⟩
theorem nS.mkItem {n : Nat} {x : Int} {im0 im im' : zIm} {A : aA} (h : nS n x im0 im A) (hG : gB A.1) {p q r : Int} (hk : A.1 2 < 4) (e : im' = zst (zst (zst (zst im (n + 4) (A.1 2) p) (n + 5) (A.1 2) q) (n + 6) (A.1 2) r) (n + 3) 0 (A.1 2 + 1)) : nS n x im0 im' (aItem A p q r) := by
  have g2 := hG.2.2.1
  have g3 := hG.2.2.2.1
  refine h.su (G' := (aItem A p q r).1) (fun b hb => by rw [e, zst_n (by omega), zst_n (by omega), zst_n (by omega), zst_n (by omega)]) ?_
  obtain ⟨a0, a1, a2, a3, a4, a5, a6, a7, a8⟩ := h.2.2.1
  have z2 : (aItem A p q r).1 2 = A.1 2 + 1 := by unfold aItem; rw [aG_n (by omega), aG_n (by omega), aG_n (by omega), aG_s]
  have z (j : Int) (h2 : j ≠ 2) (hj : j < 8 + 3 * A.1 2 ∨ 8 + 3 * A.1 2 + 3 ≤ j) : (aItem A p q r).1 j = A.1 j := by unfold aItem; rw [aG_n (by omega), aG_n (by omega), aG_n (by omega), aG_n h2]
  have c (b : Nat) (hb : b < n + 3 ∨ n + 7 ≤ b) : im' b = im b := by rw [e, zst_n (by omega), zst_n (by omega), zst_n (by omega), zst_n (by omega)]
  refine ⟨?_, ?_, ?_, ?_, ?_, fun i i0 i1 => ?_, fun s s0 s1 => ?_, fun j j0 j1 => ?_, fun c' t' hc j j0 j1 => ?_⟩
  · rw [c _ (by omega), z _ (by omega) (by omega)]; exact a0
  · rw [e, zst_at, if_pos ⟨rfl, rfl⟩, z2]
  · rw [e, zst_at, if_neg (by omega), zst_n (by omega), zst_n (by omega), zst_n (by omega), z _ (by omega) (by omega)]; exact a2
  · rw [e, zst_at, if_neg (by omega), zst_n (by omega), zst_n (by omega), zst_n (by omega), z _ (by omega) (by omega)]; exact a3
  · rw [c _ (by omega), z _ (by omega) (by omega)]; exact a4
  · rw [z2] at i1
    rw [e]
    simp only [zst_at]
    by_cases ei : i = A.1 2
    · subst ei
      unfold aItem
      refine ⟨?_, ?_, ?_⟩
      · rw [aG_n (by omega), aG_n (by omega), aG_s, if_neg (by omega), if_neg (by omega), if_neg (by omega), if_pos ⟨trivial, rfl⟩]
      · rw [aG_n (by omega), aG_s, if_neg (by omega), if_neg (by omega), if_pos ⟨trivial, rfl⟩]
      · rw [aG_s, if_neg (by omega), if_pos ⟨trivial, rfl⟩]
    · rw [z _ (by omega) (by omega), z _ (by omega) (by omega), z _ (by omega) (by omega)]
      have := a5 i i0 (by omega)
      simp [ei, this]
  · rw [z 3 (by omega) (by omega)] at s1
    rw [c _ (by omega), z _ (by omega) (by omega)]; exact a6 s s0 s1
  · rw [c _ (by omega), z _ (by omega) (by omega)]; exact a7 j j0 j1
  · have h2 := a8 c' t' hc j j0 j1
    unfold tP at hc
    rw [c _ (by omega), z _ (by omega) (by omega)]; exact h2
theorem nS.mkBase {n : Nat} {x : Int} {im0 im im' : zIm} {A : aA} (h : nS n x im0 im A) (hG : gB A.1) {p : Int} (hk : A.1 3 < 8) (e : im' = zst (zst im (n + 7) (A.1 3) p) (n + 3) 1 (A.1 3 + 1)) : nS n x im0 im' (aBase A p) := by
  have g2 := hG.2.2.1
  have g3 := hG.2.2.2.1
  refine h.su (G' := (aBase A p).1) (fun b hb => by rw [e, zst_n (by omega), zst_n (by omega)]) ?_
  obtain ⟨a0, a1, a2, a3, a4, a5, a6, a7, a8⟩ := h.2.2.1
  have z3 : (aBase A p).1 3 = A.1 3 + 1 := aG_s
  have z (j : Int) (h2 : j ≠ 3) (hj : j ≠ 20 + A.1 3) : (aBase A p).1 j = A.1 j := by unfold aBase; rw [aG_n h2, aG_n hj]
  have c (b : Nat) (hb : b ≠ n + 3 ∧ b ≠ n + 7) : im' b = im b := by rw [e, zst_n (by omega), zst_n (by omega)]
  refine ⟨?_, ?_, ?_, ?_, ?_, fun i i0 i1 => ?_, fun s s0 s1 => ?_, fun j j0 j1 => ?_, fun c' t' hc j j0 j1 => ?_⟩
  · rw [c _ (by omega), z _ (by omega) (by omega)]; exact a0
  · rw [e, zst_at, if_neg (by omega), zst_n (by omega), z _ (by omega) (by omega)]; exact a1
  · rw [e, zst_at, if_pos ⟨rfl, rfl⟩, z3]
  · rw [e, zst_at, if_neg (by omega), zst_n (by omega), z _ (by omega) (by omega)]; exact a3
  · rw [c _ (by omega), z _ (by omega) (by omega)]; exact a4
  · rw [z 2 (by omega) (by omega)] at i1
    rw [c _ (by omega), c _ (by omega), c _ (by omega), z _ (by omega) (by omega), z _ (by omega) (by omega), z _ (by omega) (by omega)]; exact a5 i i0 i1
  · rw [z3] at s1
    rw [e]
    simp only [zst_at]
    by_cases ei : s = A.1 3
    · subst ei
      unfold aBase
      rw [aG_n (by omega), aG_s, if_neg (by omega), if_pos ⟨trivial, rfl⟩]
    · rw [z _ (by omega) (by omega), if_neg (by omega), if_neg (by omega)]
      exact a6 s s0 (by omega)
  · rw [c _ (by omega), z _ (by omega) (by omega)]; exact a7 j j0 j1
  · have h2 := a8 c' t' hc j j0 j1
    unfold tP at hc
    rw [c _ (by omega), z _ (by omega) (by omega)]; exact h2
theorem nS.mkLink {n : Nat} {x : Int} {im0 im im' : zIm} {A : aA} (h : nS n x im0 im A) (hG : gB A.1) {b o v : Int} (b0 : 0 ≤ b) (b1 : b < 8) (o0 : 0 ≤ o) (o1 : o < 8) (e : im' = zst im (n + 8) (8 * b + o) v) : nS n x im0 im' (aG A (28 + 8 * b + o) v) := by
  have g2 := hG.2.2.1
  have g3 := hG.2.2.2.1
  refine h.su (G' := (aG A (28 + 8 * b + o) v).1) (fun b hb => by rw [e, zst_n (by omega)]) ?_
  obtain ⟨a0, a1, a2, a3, a4, a5, a6, a7, a8⟩ := h.2.2.1
  have z (j : Int) (hj : j < 28 ∨ 92 ≤ j) : (aG A (28 + 8 * b + o) v).1 j = A.1 j := aG_n (by omega)
  have c (b : Nat) (hb : b ≠ n + 8) : im' b = im b := by rw [e, zst_n (by omega)]
  refine ⟨?_, ?_, ?_, ?_, ?_, fun i i0 i1 => ?_, fun s s0 s1 => ?_, fun j j0 j1 => ?_, fun c' t' hc j j0 j1 => ?_⟩
  · rw [c _ (by omega), z _ (by omega)]; exact a0
  · rw [c _ (by omega), z _ (by omega)]; exact a1
  · rw [c _ (by omega), z _ (by omega)]; exact a2
  · rw [c _ (by omega), z _ (by omega)]; exact a3
  · rw [c _ (by omega), z _ (by omega)]; exact a4
  · rw [z 2 (by omega)] at i1
    rw [c _ (by omega), c _ (by omega), c _ (by omega), z _ (by omega), z _ (by omega), z _ (by omega)]; exact a5 i i0 i1
  · rw [z 3 (by omega)] at s1
    rw [c _ (by omega), z _ (by omega)]; exact a6 s s0 s1
  · rw [e, zst_at]
    by_cases ej : j = 8 * b + o
    · rw [if_pos ⟨rfl, ej⟩, show 28 + j = 28 + 8 * b + o from by omega]; exact aG_s.symm
    · rw [if_neg (fun hh => ej hh.2), aG_n (by omega)]; exact a7 j j0 j1
  · have h2 := a8 c' t' hc j j0 j1
    unfold tP at hc
    rw [c _ (by omega), z _ (by omega)]; exact h2
theorem nS.mkLim {n : Nat} {x : Int} {im0 im im' : zIm} {A : aA} (h : nS n x im0 im A) (hG : gB A.1) {v : Int} (e : im' = zst im (n + 3) 2 v) : nS n x im0 im' (aG A 1 v) := by
  have g2 := hG.2.2.1
  have g3 := hG.2.2.2.1
  refine h.su (G' := (aG A 1 v).1) (fun b hb => by rw [e, zst_n (by omega)]) ?_
  obtain ⟨a0, a1, a2, a3, a4, a5, a6, a7, a8⟩ := h.2.2.1
  have z (j : Int) (hj : j ≠ 1) : (aG A 1 v).1 j = A.1 j := aG_n hj
  have c (b : Nat) (hb : b ≠ n + 3) : im' b = im b := by rw [e, zst_n (by omega)]
  refine ⟨?_, ?_, ?_, ?_, ?_, fun i i0 i1 => ?_, fun s s0 s1 => ?_, fun j j0 j1 => ?_, fun c' t' hc j j0 j1 => ?_⟩
  · rw [c _ (by omega), z _ (by omega)]; exact a0
  · rw [e, zst_at, if_neg (by omega), z _ (by omega)]; exact a1
  · rw [e, zst_at, if_neg (by omega), z _ (by omega)]; exact a2
  · rw [e, zst_at, if_pos ⟨rfl, rfl⟩]; exact aG_s.symm
  · rw [c _ (by omega), z _ (by omega)]; exact a4
  · rw [z 2 (by omega)] at i1
    rw [c _ (by omega), c _ (by omega), c _ (by omega), z _ (by omega), z _ (by omega), z _ (by omega)]; exact a5 i i0 i1
  · rw [z 3 (by omega)] at s1
    rw [c _ (by omega), z _ (by omega)]; exact a6 s s0 s1
  · rw [c _ (by omega), z _ (by omega)]; exact a7 j j0 j1
  · have h2 := a8 c' t' hc j j0 j1
    unfold tP at hc
    rw [c _ (by omega), z _ (by omega)]; exact h2
