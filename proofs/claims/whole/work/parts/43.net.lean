/-! the class's network -/
def tP (c : Nat) (t : Int) : Prop := (c = 1 ∧ t = 92) ∨ (c = 2 ∧ t = 124) ∨ (c = 9 ∧ t = 156) ∨ (c = 10 ∧ t = 188) ∨ (c = 11 ∧ t = 220) ∨ (c = 13 ∧ t = 252) ∨ (c = 14 ∧ t = 284) ∨ (c = 15 ∧ t = 316) ∨ (c = 16 ∧ t = 348) ∨ (c = 17 ∧ t = 380)
def nG (im : zIm) (n : Nat) (G : aR) : Prop := im n 0 = G 0 ∧ im (n + 3) 0 = G 2 ∧ im (n + 3) 1 = G 3 ∧ im (n + 3) 2 = G 1 ∧ im (n + 12) 0 = G 7 ∧
  (∀ i, 0 ≤ i → i < G 2 → im (n + 4) i = G (8 + 3 * i + 0) ∧ im (n + 5) i = G (8 + 3 * i + 1) ∧ im (n + 6) i = G (8 + 3 * i + 2)) ∧
  (∀ s, 1 ≤ s → s < G 3 → im (n + 7) s = G (20 + s)) ∧ (∀ j, 0 ≤ j → j < 64 → im (n + 8) j = G (28 + j)) ∧ (∀ c t, tP c t → ∀ j, 0 ≤ j → j < 32 → im (n + c) j = G (t + j))
def ol (l : List aR) : List aR := l.map (fun o => mkC (o 1) (o 0) (o 2) 0)
def nRep (im : zIm) (n : Nat) (A : aA) : Prop := nG im n A.1 ∧ uRp im (n + 18) (sr A.2.1) ∧ qRp False im (n + 25) (wl A.2.1) ∧ qRp False im (n + 30) (ol A.2.2.2) ∧ qRp True im (n + 35) A.2.2.1
def nS (n : Nat) (x : Int) (im0 im : zIm) (A : aA) : Prop := (∀ b, (b < n ∨ n + 41 ≤ b) → im b = im0 b) ∧ im (n + 40) 0 = x ∧ nRep im n A
theorem uRp.cong {im im' : zIm} {u : Nat} {R : List aR} (h : uRp im u R) (e : ∀ b, u ≤ b → b < u + 7 → im' b = im b) : uRp im' u R := by
  refine ⟨by rw [e u (by omega) (by omega)]; exact h.1, fun k hk => ?_⟩
  have := h.2 k hk
  unfold uF at this ⊢
  rw [e _ (by omega) (by omega), e _ (by omega) (by omega), e _ (by omega) (by omega), e _ (by omega) (by omega), e _ (by omega) (by omega), e _ (by omega) (by omega)]
  exact this
theorem qRp.cong {sn : Prop} {im im' : zIm} {u : Nat} {R : List aR} (h : qRp sn im u R) (e : ∀ b, u ≤ b → b < u + 5 → im' b = im b) : qRp sn im' u R := by
  refine ⟨by rw [e u (by omega) (by omega)]; exact h.1, fun k hk => ?_⟩
  have := h.2 k hk
  unfold qF at this ⊢
  rw [e _ (by omega) (by omega), e _ (by omega) (by omega), e _ (by omega) (by omega), e _ (by omega) (by omega)]
  exact this
theorem nG.cong {im im' : zIm} {n : Nat} {G : aR} (h : nG im n G) (e : ∀ b, n ≤ b → b < n + 18 → im' b = im b) : nG im' n G := by
  obtain ⟨a0, a1, a2, a3, a4, a5, a6, a7, a8⟩ := h
  refine ⟨by rw [e _ (by omega) (by omega)]; exact a0, by rw [e _ (by omega) (by omega)]; exact a1, by rw [e _ (by omega) (by omega)]; exact a2, by rw [e _ (by omega) (by omega)]; exact a3, by rw [e _ (by omega) (by omega)]; exact a4, fun i i0 i1 => ?_, fun s s0 s1 => ?_, fun j j0 j1 => ?_, fun c t hc j j0 j1 => ?_⟩
  · rw [e _ (by omega) (by omega), e _ (by omega) (by omega), e _ (by omega) (by omega)]; exact a5 i i0 i1
  · rw [e _ (by omega) (by omega)]; exact a6 s s0 s1
  · rw [e _ (by omega) (by omega)]; exact a7 j j0 j1
  · have := a8 c t hc j j0 j1
    unfold tP at hc
    rw [e _ (by omega) (by omega)]; exact this
section NT
variable {n : Nat} {x : Int} {im0 im im' : zIm} {A : aA}
theorem nS.t (h : nS n x im0 im A) {c : Nat} {t s i : Int} (hc : tP c t) (s0 : 0 ≤ s) (s1 : s < 8) (i0 : 0 ≤ i) (i1 : i < 4) : im (n + c) (4 * s + i) = A.1 (t + 4 * s + i) := by
  rw [h.2.2.1.2.2.2.2.2.2.2.2 c t hc (4 * s + i) (by omega) (by omega), Int.add_assoc]
theorem nS.d (h : nS n x im0 im A) : im n 0 = A.1 0 := h.2.2.1.1
theorem nS.it (h : nS n x im0 im A) : im (n + 3) 0 = A.1 2 := h.2.2.1.2.1
theorem nS.st (h : nS n x im0 im A) : im (n + 3) 1 = A.1 3 := h.2.2.1.2.2.1
theorem nS.lm (h : nS n x im0 im A) : im (n + 3) 2 = A.1 1 := h.2.2.1.2.2.2.1
theorem nS.rf (h : nS n x im0 im A) : im (n + 12) 0 = A.1 7 := h.2.2.1.2.2.2.2.1
theorem nS.pl (h : nS n x im0 im A) {i : Int} (hi : kI A i) : im (n + 4) i = A.1 (8 + 3 * i + 0) ∧ im (n + 5) i = A.1 (8 + 3 * i + 1) ∧ im (n + 6) i = A.1 (8 + 3 * i + 2) := h.2.2.1.2.2.2.2.2.1 i hi.1 hi.2
theorem nS.ld (h : nS n x im0 im A) {s : Int} (hs : kB A s) : im (n + 7) s = A.1 (20 + s) := h.2.2.1.2.2.2.2.2.2.1 s hs.1 hs.2
theorem nS.lk (h : nS n x im0 im A) {b o : Int} (b0 : 0 ≤ b) (b1 : b < 8) (o0 : 0 ≤ o) (o1 : o < 8) : im (n + 8) (8 * b + o) = A.1 (28 + 8 * b + o) := by
  rw [h.2.2.1.2.2.2.2.2.2.2.1 (8 * b + o) (by omega) (by omega), Int.add_assoc]
theorem nS.ut (h : nS n x im0 im A) (hg : gB A.1) {c : Nat} {t s i v : Int} (hc : tP c t) (s0 : 0 ≤ s) (s1 : s < 8) (i0 : 0 ≤ i) (i1 : i < 4) (e : im' = zst im (n + c) (4 * s + i) v) : nS n x im0 im' (aG A (t + 4 * s + i) v) := by
  obtain ⟨hf, hx, ⟨a0, a1, a2, a3, a4, a5, a6, a7, a8⟩, hu, hw, ho, hcu⟩ := h
  have hc' := hc
  unfold tP at hc'
  have g2 := hg.2.2.1
  have g3 := hg.2.2.2.1
  have n1 (b : Nat) (hb : b ≠ n + c) : im' b = im b := by rw [e, zst_n hb]
  have z (j : Int) (hj : j ≠ t + 4 * s + i) : (aG A (t + 4 * s + i) v).1 j = A.1 j := aG_n hj
  refine ⟨fun b hb => by rw [n1 b (by omega)]; exact hf b hb, by rw [n1 _ (by omega)]; exact hx, ⟨?_, ?_, ?_, ?_, ?_, fun k k0 k1 => ?_, fun k k0 k1 => ?_, fun j j0 j1 => ?_, fun c' t' hc2 j j0 j1 => ?_⟩, hu.cong (fun b b0 b1 => n1 b (by omega)), hw.cong (fun b b0 b1 => n1 b (by omega)), ho.cong (fun b b0 b1 => n1 b (by omega)), hcu.cong (fun b b0 b1 => n1 b (by omega))⟩
  · rw [n1 _ (by omega), z _ (by omega)]; exact a0
  · rw [n1 _ (by omega), z _ (by omega)]; exact a1
  · rw [n1 _ (by omega), z _ (by omega)]; exact a2
  · rw [n1 _ (by omega), z _ (by omega)]; exact a3
  · rw [n1 _ (by omega), z _ (by omega)]; exact a4
  · rw [z 2 (by omega)] at k1
    rw [n1 _ (by omega), n1 _ (by omega), n1 _ (by omega), z _ (by omega), z _ (by omega), z _ (by omega)]; exact a5 k k0 k1
  · rw [z 3 (by omega)] at k1
    rw [n1 _ (by omega), z _ (by omega)]; exact a6 k k0 k1
  · rw [n1 _ (by omega), z _ (by omega)]; exact a7 j j0 j1
  · have h2 := a8 c' t' hc2 j j0 j1
    unfold tP at hc2
    by_cases e9 : c' = c
    · subst e9
      have : t' = t := by omega
      subst this
      rw [e, zst_at]
      by_cases e8 : j = 4 * s + i
      · rw [if_pos ⟨rfl, e8⟩, show t' + j = t' + 4 * s + i from by omega]; exact aG_s.symm
      · rw [if_neg (fun hh => e8 hh.2), z _ (by omega)]; exact h2
    · rw [n1 _ (by omega), z _ (by omega)]; exact h2
end NT
