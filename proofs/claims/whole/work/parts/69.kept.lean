/-! what setters keep -/
theorem uB.mono {it st it' st' lo dy : Int} {u : aR} (h : uB it st lo dy u) (h1 : it ≤ it') (h2 : st ≤ st') : uB it' st' lo dy u := by
  unfold uB at h ⊢
  omega
theorem cB.mono {it st it' st' dy : Int} {u : aR} (h : cB it st dy u) (h1 : it ≤ it') (h2 : st ≤ st') : cB it' st' dy u := by
  unfold cB at h ⊢
  omega
theorem oB.mono {it st it' st' : Int} {u : aR} (h : oB it st u) (h1 : it ≤ it') (h2 : st ≤ st') : oB it' st' u := by
  unfold oB at h ⊢
  omega
theorem aW.item {lo m p q r : Int} {A : aA} (h : aW lo m A) (hk : A.1 2 < 4) (p0 : 1 ≤ p) (p1 : p ≤ 30) (q0 : 1 ≤ q) (q1 : q ≤ 5) (r0 : 1 ≤ r) (r1 : r ≤ 30) : aW lo m (aItem A p q r) := by
  obtain ⟨⟨⟨a0, a1, a2, a3, a4, a5, a6, a7, a8⟩, b2, b3, b4⟩, hD, hC, hf⟩ := h
  have z2 : (aItem A p q r).1 2 = A.1 2 + 1 := by unfold aItem; rw [aG_n (by omega), aG_n (by omega), aG_n (by omega), aG_s]
  have z (j : Int) (h2 : j ≠ 2) (hj : j < 8 + 3 * A.1 2 ∨ 8 + 3 * A.1 2 + 3 ≤ j) : (aItem A p q r).1 j = A.1 j := by unfold aItem; rw [aG_n (by omega), aG_n (by omega), aG_n (by omega), aG_n h2]
  have y0 : (aItem A p q r).1 (8 + 3 * A.1 2 + 0) = p := by unfold aItem; rw [aG_n (by omega), aG_n (by omega), aG_s]
  have y1 : (aItem A p q r).1 (8 + 3 * A.1 2 + 1) = q := by unfold aItem; rw [aG_n (by omega), aG_s]
  have y2 : (aItem A p q r).1 (8 + 3 * A.1 2 + 2) = r := by unfold aItem; rw [aG_s]
  refine ⟨⟨⟨?_, ?_, ?_, ?_, fun i i0 i1 => ?_, fun s s0 s1 => ?_, fun b o b0 b1 o0 o1 => ?_, fun k k0 k1 => ?_, fun k k0 k1 => ?_⟩, fun u hu => ?_, fun u hu => ?_, fun u hu => ?_⟩, ?_, hC, fun j j0 j1 => ?_⟩
  · rw [z 0 (by omega) (by omega)]; exact a0
  · rw [z 1 (by omega) (by omega)]; exact a1
  · rw [z2]; omega
  · rw [z 3 (by omega) (by omega)]; exact a3
  · rw [z2] at i1
    by_cases e : i = A.1 2
    · subst e; rw [y0, y1, y2]; omega
    · rw [z _ (by omega) (by omega), z _ (by omega) (by omega), z _ (by omega) (by omega)]; exact a4 i i0 (by omega)
  · rw [z 3 (by omega) (by omega)] at s1
    rw [z _ (by omega) (by omega)]; exact a5 s s0 s1
  · rw [z _ (by omega) (by omega)]; exact a6 b o b0 b1 o0 o1
  · rw [z _ (by omega) (by omega)]; exact a7 k k0 k1
  · by_cases e2 : k = 2
    · rw [e2, z2]; exact zc_of (by omega) (by omega)
    · by_cases e : k < 8 + 3 * A.1 2 ∨ 8 + 3 * A.1 2 + 3 ≤ k
      · rw [z k e2 e]; exact a8 k k0 k1
      · have : k = 8 + 3 * A.1 2 + 0 ∨ k = 8 + 3 * A.1 2 + 1 ∨ k = 8 + 3 * A.1 2 + 2 := by omega
        rcases this with e3 | e3 | e3
        · rw [e3, y0]; exact zc_of (by omega) (by omega)
        · rw [e3, y1]; exact zc_of (by omega) (by omega)
        · rw [e3, y2]; exact zc_of (by omega) (by omega)
  · rw [z 0 (by omega) (by omega), z2, z 3 (by omega) (by omega)]; exact (b2 u hu).mono (by omega) (by omega)
  · rw [z 0 (by omega) (by omega), z2, z 3 (by omega) (by omega)]; exact (b3 u hu).mono (by omega) (by omega)
  · rw [z2, z 3 (by omega) (by omega)]; exact (b4 u hu).mono (by omega) (by omega)
  · unfold aItem
    exact (((hD.g (by omega) (by omega)).g (by omega) (by omega)).g (by omega) (by omega)).g (by omega) (by omega)
  · rw [z _ (by omega) (by omega), z _ (by omega) (by omega)]; exact hf j j0 j1
theorem aW.base {lo m p : Int} {A : aA} (h : aW lo m A) (hk : A.1 3 < 8) (p0 : 1 ≤ p) (p1 : p ≤ 20) : aW lo m (aBase A p) := by
  obtain ⟨⟨⟨a0, a1, a2, a3, a4, a5, a6, a7, a8⟩, b2, b3, b4⟩, hD, hC, hf⟩ := h
  have z3 : (aBase A p).1 3 = A.1 3 + 1 := aG_s
  have z (j : Int) (h2 : j ≠ 3) (hj : j ≠ 20 + A.1 3) : (aBase A p).1 j = A.1 j := by unfold aBase; rw [aG_n h2, aG_n hj]
  have y0 : (aBase A p).1 (20 + A.1 3) = p := by unfold aBase; rw [aG_n (by omega), aG_s]
  refine ⟨⟨⟨?_, ?_, ?_, ?_, fun i i0 i1 => ?_, fun s s0 s1 => ?_, fun b o b0 b1 o0 o1 => ?_, fun k k0 k1 => ?_, fun k k0 k1 => ?_⟩, fun u hu => ?_, fun u hu => ?_, fun u hu => ?_⟩, ?_, hC, fun j j0 j1 => ?_⟩
  · rw [z 0 (by omega) (by omega)]; exact a0
  · rw [z 1 (by omega) (by omega)]; exact a1
  · rw [z 2 (by omega) (by omega)]; exact a2
  · rw [z3]; omega
  · rw [z 2 (by omega) (by omega)] at i1
    rw [z _ (by omega) (by omega), z _ (by omega) (by omega), z _ (by omega) (by omega)]; exact a4 i i0 i1
  · rw [z3] at s1
    by_cases e : s = A.1 3
    · subst e; rw [y0]; omega
    · rw [z _ (by omega) (by omega)]; exact a5 s s0 (by omega)
  · rw [z _ (by omega) (by omega)]; exact a6 b o b0 b1 o0 o1
  · rw [z _ (by omega) (by omega)]; exact a7 k k0 k1
  · by_cases e2 : k = 3
    · rw [e2, z3]; exact zc_of (by omega) (by omega)
    · by_cases e : k = 20 + A.1 3
      · rw [e, y0]; exact zc_of (by omega) (by omega)
      · rw [z k e2 e]; exact a8 k k0 k1
  · rw [z 0 (by omega) (by omega), z3, z 2 (by omega) (by omega)]; exact (b2 u hu).mono (by omega) (by omega)
  · rw [z 0 (by omega) (by omega), z3, z 2 (by omega) (by omega)]; exact (b3 u hu).mono (by omega) (by omega)
  · rw [z3, z 2 (by omega) (by omega)]; exact (b4 u hu).mono (by omega) (by omega)
  · unfold aBase
    exact (hD.g (by omega) (by omega)).g (by omega) (by omega)
  · rw [z _ (by omega) (by omega), z _ (by omega) (by omega)]; exact hf j j0 j1
theorem aW.lnk {lo m p q r : Int} {A : aA} (h : aW lo m A) (p0 : 0 ≤ p) (p1 : p < 8) (q0 : 0 ≤ q) (q1 : q < 8) (hn : p ≠ q) (r0 : 0 ≤ r) (r1 : r ≤ 20) : aW lo m (aG A (28 + 8 * p + q) r) := by
  obtain ⟨⟨⟨a0, a1, a2, a3, a4, a5, a6, a7, a8⟩, b2, b3, b4⟩, hD, hC, hf⟩ := h
  have z (j : Int) (hj : j < 28 ∨ 92 ≤ j) : (aG A (28 + 8 * p + q) r).1 j = A.1 j := aG_n (by omega)
  refine ⟨⟨⟨?_, ?_, ?_, ?_, fun i i0 i1 => ?_, fun s s0 s1 => ?_, fun b o b0 b1 o0 o1 => ?_, fun k k0 k1 => ?_, fun k k0 k1 => ?_⟩, ?_, ?_, ?_⟩, hD.g (by omega) (by omega), hC, fun j j0 j1 => ?_⟩
  · rw [z 0 (by omega)]; exact a0
  · rw [z 1 (by omega)]; exact a1
  · rw [z 2 (by omega)]; exact a2
  · rw [z 3 (by omega)]; exact a3
  · rw [z 2 (by omega)] at i1
    rw [z _ (by omega), z _ (by omega), z _ (by omega)]; exact a4 i i0 i1
  · rw [z 3 (by omega)] at s1
    rw [z _ (by omega)]; exact a5 s s0 s1
  · have l := a6 b o b0 b1 o0 o1
    by_cases ej : 28 + 8 * b + o = 28 + 8 * p + q
    · rw [ej, aG_s]; exact ⟨r0, r1, fun hh => by omega⟩
    · rw [aG_n ej]; exact l
  · rw [z _ (by omega)]; exact a7 k k0 k1
  · by_cases e : k = 28 + 8 * p + q
    · rw [e, aG_s]; exact zc_of (by omega) (by omega)
    · rw [aG_n e]; exact a8 k k0 k1
  · rw [z 0 (by omega), z 2 (by omega), z 3 (by omega)]; exact b2
  · rw [z 0 (by omega), z 2 (by omega), z 3 (by omega)]; exact b3
  · rw [z 2 (by omega), z 3 (by omega)]; exact b4
  · rw [z _ (by omega), z _ (by omega)]; exact hf j j0 j1
theorem aW.join {lo m p q r : Int} {A : aA} (h : aW lo m A) (p0 : 0 ≤ p) (p1 : p < 8) (q0 : 0 ≤ q) (q1 : q < 8) (hn : p ≠ q) (r0 : 0 ≤ r) (r1 : r ≤ 20) : aW lo m (aJoin A p q r) :=
  (h.lnk p0 p1 q0 q1 hn r0 r1).lnk q0 q1 p0 p1 (Ne.symm hn) r0 r1
/-! networks as a setup text makes them -/
def lI (A : aA) : Prop := aW 1 0 A ∧ A.1 0 = 0 ∧ A.2 = ([], [], []) ∧ ∀ j, 0 ≤ j → j < 32 → A.1 (124 + j) = A.1 (92 + j)
theorem bO_nil {A : aA} {i : Int} (h : A.2 = ([], [], [])) : bO A i = -1 := by unfold bO; rw [h]; rfl
theorem bC_nil {A : aA} {b i : Int} (h : A.2 = ([], [], [])) : bC A b i = -1 := by unfold bC; rw [h]; rfl
theorem lvN_nil {s i : Int} {A : aA} (h : A.2 = ([], [], [])) (h0 : 0 ≤ A.1 (124 + 4 * s + i)) (h1 : A.1 (124 + 4 * s + i) ≤ 20) : ∀ n : Nat, n ≤ 20 → aLvN s i n A = aG A (124 + 4 * s + i) (A.1 (124 + 4 * s + i) + n) := by
  intro n
  induction n with
  | zero =>
    intro _
    rw [aLvN, show A.1 (124 + 4 * s + i) + ((0 : Nat) : Int) = A.1 (124 + 4 * s + i) from by omega, aG_id]
  | succ n ih =>
    intro hn
    rw [aLvN, ih (by omega)]
    have e : (aG A (124 + 4 * s + i) (A.1 (124 + 4 * s + i) + n)).2 = ([], [], []) := h
    have z : zw (A.1 (124 + 4 * s + i) + (n : Int) + 1) = A.1 (124 + 4 * s + i) + ((n + 1 : Nat) : Int) := by rw [zw_of (by omega) (by omega)]; omega
    have gg (v w : Int) : aG (aG A (124 + 4 * s + i) v) (124 + 4 * s + i) w = aG A (124 + 4 * s + i) w := by
      unfold aG
      congr 1
      funext j
      unfold zup
      by_cases e : j = 124 + 4 * s + i <;> simp [e]
    unfold aLvS
    by_cases hs : s = 0
    · subst hs
      rw [if_pos rfl, aFill, if_pos (bO_nil e), aG_s, z, gg]
    · rw [if_neg hs, aCome, if_pos (bC_nil e), aG_s, z, gg]
theorem lI.lv {s i v : Int} {A : aA} (h : lI A) (hs : kS A s) (hi : kI A i) (v0 : 0 ≤ v) (v1 : v ≤ 20) : lI (aLv A s i v) := by
  obtain ⟨hW, hd, hl, he⟩ := h
  have g2 := hW.1.1.2.2.1
  have g3 := hW.1.1.2.2.2.1
  unfold kS at hs
  unfold kI at hi
  have lvb := hW.1.1.2.2.2.2.2.2.2.1 (92 + 4 * s + i) (by omega) (by omega)
  have e0 := he (4 * s + i) (by omega) (by omega)
  rw [← Int.add_assoc, ← Int.add_assoc] at e0
  have w := hW.lv (s := s) (i := i) (v := v) (by omega) hs hi v0 v1 (by omega)
  have ex : aLv A s i v = aG (aG A (92 + 4 * s + i) v) (124 + 4 * s + i) v := by
    unfold aLv
    split
    · rw [e0, zw_of (by omega) (by omega), show A.1 (92 + 4 * s + i) + (v - A.1 (92 + 4 * s + i)) = v from by omega]
    · have z : (aG A (92 + 4 * s + i) v).1 (124 + 4 * s + i) = A.1 (92 + 4 * s + i) := by rw [aG_n (by omega)]; exact e0
      rw [lvN_nil (A := aG A (92 + 4 * s + i) v) hl (by rw [z]; omega) (by rw [z]; omega) _ (by omega), z, show A.1 (92 + 4 * s + i) + (((v - A.1 (92 + 4 * s + i)).toNat : Nat) : Int) = v from by omega]
  refine ⟨w.1, by rw [w.2 0 (by omega)]; exact hd, by rw [ex]; exact hl, fun j j0 j1 => ?_⟩
  rw [ex]
  by_cases e : j = 4 * s + i
  · rw [e, show 124 + (4 * s + i) = 124 + 4 * s + i from by omega, show 92 + (4 * s + i) = 92 + 4 * s + i from by omega, aG_s, aG_n (by omega), aG_s]
  · rw [aG_n (by omega), aG_n (by omega), aG_n (by omega), aG_n (by omega)]; exact he j j0 j1
def mxS (w : Int) : Int := if w = 2 then 20 else if w = 4 then 10 else if w = 5 then 20 else 100
def rgS (w k : Int) (A : aA) (v0 v : Int) : Prop :=
  if w = 0 then (if k = 1 then 1 ≤ v ∧ v ≤ 5 else 1 ≤ v ∧ v ≤ 30)
  else if w = 1 then 1 ≤ v ∧ v ≤ 20
  else if w = 3 then (if k = 2 then 1 ≤ v ∧ v ≤ 20 else if k = 0 then 1 ≤ v ∧ v ≤ A.1 3 - 1 else (1 ≤ v ∧ v ≤ A.1 3 - 1) ∧ v ≠ v0)
  else if w = 7 then 0 ≤ v ∧ v ≤ 20
  else if k = 0 then (if w = 2 then 0 ≤ v ∧ v ≤ A.1 3 - 1 else 1 ≤ v ∧ v ≤ A.1 3 - 1)
  else if k = 1 then 0 ≤ v ∧ v ≤ A.1 2 - 1
  else 0 ≤ v ∧ v ≤ mxS w
def capS (w : Int) (A : aA) : Prop := (w = 0 → A.1 2 < 4) ∧ (w = 1 → A.1 3 < 8)
def apS (w : Int) (A : aA) (v0 v1 v2 : Int) : aA :=
  if w = 0 then aItem A v0 v1 v2 else if w = 1 then aBase A v0 else if w = 2 then aLv A v0 v1 v2 else if w = 3 then aJoin A v0 v1 v2
  else if w = 4 then aG A (188 + 4 * v0 + v1) v2 else if w = 5 then aG A (156 + 4 * v0 + v1) v2 else if w = 6 then aG A (220 + 4 * v0 + v1) v2 else aG A 1 v0
def oneS (w : Int) : Prop := w = 1 ∨ w = 7
theorem rgS_le {w k v0 v : Int} {A : aA} (hG : gB A.1) (h : rgS w k A v0 v) : 0 ≤ v ∧ v ≤ 100 := by
  have g2 := hG.2.2.1
  have g3 := hG.2.2.2.1
  unfold rgS mxS at h
  split at h
  · split at h <;> omega
  · split at h
    · omega
    · split at h
      · split at h
        · omega
        · split at h <;> omega
      · split at h
        · omega
        · split at h
          · split at h <;> omega
          · split at h
            · omega
            · split at h
              · omega
              · split at h
                · omega
                · split at h <;> omega
theorem lI.ap {w v0 v1 v2 : Int} {A : aA} (h : lI A) (w0 : 0 ≤ w) (w1 : w ≤ 7) (hc : capS w A) (h0 : rgS w 0 A 0 v0) (h12 : ¬ oneS w → rgS w 1 A v0 v1 ∧ rgS w 2 A v0 v2) : lI (apS w A v0 v1 v2) := by
  have g2 := h.1.1.1.2.2.1
  have g3 := h.1.1.1.2.2.2.1
  have num (j v : Int) (j0 : 156 ≤ j) (j1 : j < 252) (v0 : 0 ≤ v) (v1 : v ≤ 100) : lI (aG A j v) :=
    ⟨h.1.num j0 j1 (zc_of (by omega) (by omega)), by rw [aG_n (by omega)]; exact h.2.1, h.2.2.1, fun k k0 k1 => by rw [aG_n (by omega), aG_n (by omega)]; exact h.2.2.2 k k0 k1⟩
  unfold oneS at h12
  have : w = 0 ∨ w = 1 ∨ w = 2 ∨ w = 3 ∨ w = 4 ∨ w = 5 ∨ w = 6 ∨ w = 7 := by omega
  rcases this with rfl | rfl | rfl | rfl | rfl | rfl | rfl | rfl
  · obtain ⟨h1, h2⟩ := h12 (by omega)
    simp only [rgS, if_true] at h0 h1 h2
    rw [if_neg (by decide)] at h0 h2
    have hc0 := hc.1 rfl
    have z (j : Int) (h2 : j ≠ 2) (hj : j < 8 + 3 * A.1 2 ∨ 8 + 3 * A.1 2 + 3 ≤ j) : (aItem A v0 v1 v2).1 j = A.1 j := by unfold aItem; rw [aG_n (by omega), aG_n (by omega), aG_n (by omega), aG_n h2]
    show lI (aItem A v0 v1 v2)
    exact ⟨h.1.item hc0 h0.1 h0.2 h1.1 h1.2 h2.1 h2.2, by rw [z 0 (by omega) (by omega)]; exact h.2.1, h.2.2.1, fun j j0 j1 => by rw [z _ (by omega) (by omega), z _ (by omega) (by omega)]; exact h.2.2.2 j j0 j1⟩
  · have hc0 := hc.2 rfl
    have h0' : 1 ≤ v0 ∧ v0 ≤ 20 := h0
    show lI (aBase A v0)
    exact ⟨h.1.base hc0 h0'.1 h0'.2, by unfold aBase; rw [aG_n (by omega), aG_n (by omega)]; exact h.2.1, h.2.2.1, fun j j0 j1 => by unfold aBase; rw [aG_n (by omega), aG_n (by omega), aG_n (by omega), aG_n (by omega)]; exact h.2.2.2 j j0 j1⟩
  · obtain ⟨h1, h2⟩ := h12 (by omega)
    have h0' : 0 ≤ v0 ∧ v0 ≤ A.1 3 - 1 := h0
    have h1' : 0 ≤ v1 ∧ v1 ≤ A.1 2 - 1 := h1
    have h2' : 0 ≤ v2 ∧ v2 ≤ 20 := h2
    exact h.lv ⟨h0'.1, by omega⟩ ⟨h1'.1, by omega⟩ h2'.1 h2'.2
  · obtain ⟨h1, h2⟩ := h12 (by omega)
    have h0' : 1 ≤ v0 ∧ v0 ≤ A.1 3 - 1 := h0
    have h1' : (1 ≤ v1 ∧ v1 ≤ A.1 3 - 1) ∧ v1 ≠ v0 := h1
    have h2' : 1 ≤ v2 ∧ v2 ≤ 20 := h2
    show lI (aJoin A v0 v1 v2)
    exact ⟨h.1.join (by omega) (by omega) (by omega) (by omega) (by omega) (by omega) h2'.2, by unfold aJoin; rw [aG_n (by omega), aG_n (by omega)]; exact h.2.1, h.2.2.1, fun j j0 j1 => by unfold aJoin; rw [aG_n (by omega), aG_n (by omega), aG_n (by omega), aG_n (by omega)]; exact h.2.2.2 j j0 j1⟩
  · obtain ⟨h1, h2⟩ := h12 (by omega)
    have h0' : 1 ≤ v0 ∧ v0 ≤ A.1 3 - 1 := h0
    have h1' : 0 ≤ v1 ∧ v1 ≤ A.1 2 - 1 := h1
    have h2' : 0 ≤ v2 ∧ v2 ≤ 10 := h2
    exact num _ _ (by omega) (by omega) (by omega) (by omega)
  · obtain ⟨h1, h2⟩ := h12 (by omega)
    have h0' : 1 ≤ v0 ∧ v0 ≤ A.1 3 - 1 := h0
    have h1' : 0 ≤ v1 ∧ v1 ≤ A.1 2 - 1 := h1
    have h2' : 0 ≤ v2 ∧ v2 ≤ 20 := h2
    exact num _ _ (by omega) (by omega) (by omega) (by omega)
  · obtain ⟨h1, h2⟩ := h12 (by omega)
    have h0' : 1 ≤ v0 ∧ v0 ≤ A.1 3 - 1 := h0
    have h1' : 0 ≤ v1 ∧ v1 ≤ A.1 2 - 1 := h1
    have h2' : 0 ≤ v2 ∧ v2 ≤ 100 := h2
    exact num _ _ (by omega) (by omega) (by omega) (by omega)
  · have h0' : 0 ≤ v0 ∧ v0 ≤ 20 := h0
    show lI (aG A 1 v0)
    exact ⟨h.1.lim h0'.1 h0'.2, by rw [aG_n (by omega)]; exact h.2.1, h.2.2.1, fun j j0 j1 => by rw [aG_n (by omega), aG_n (by omega)]; exact h.2.2.2 j j0 j1⟩
