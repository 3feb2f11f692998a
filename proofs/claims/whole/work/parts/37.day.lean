/-! a day -/
theorem cnt4_le (l : List aR) : l.countP (isDp 0) + l.countP (isDp 1) + l.countP (isDp 2) + l.countP (isDp 3) ≤ l.length := by
  induction l with
  | nil => simp
  | cons x l ih =>
    simp only [List.countP_cons, List.length_cons]
    have : (if isDp 0 x = true then 1 else 0) + (if isDp 1 x = true then 1 else 0) + (if isDp 2 x = true then 1 else 0) + (if isDp 3 x = true then 1 else 0) ≤ 1 := by
      unfold isDp
      simp only [Bool.and_eq_true, decide_eq_true_eq]
      by_cases e : x 3 = 0
      · simp only [e, true_and]
        by_cases e0 : x 1 = 0
        · simp [e0]
        · by_cases e1 : x 1 = 1
          · simp [e1]
          · by_cases e2 : x 1 = 2
            · simp [e2]
            · simp [e0, e1, e2]; split <;> omega
      · simp [e]
    omega
theorem cnt4_eq (l : List aR) (h : ∀ u ∈ l, 0 ≤ u 0 ∧ u 0 < 4) : l.length = l.countP (isOd 0) + l.countP (isOd 1) + l.countP (isOd 2) + l.countP (isOd 3) := by
  induction l with
  | nil => simp
  | cons x l ih =>
    simp only [List.countP_cons, List.length_cons]
    have h1 := ih (fun u hu => h u (List.mem_cons_of_mem _ hu))
    have hx := h x List.mem_cons_self
    have : (if isOd 0 x = true then 1 else 0) + (if isOd 1 x = true then 1 else 0) + (if isOd 2 x = true then 1 else 0) + (if isOd 3 x = true then 1 else 0) = 1 := by
      unfold isOd
      simp only [decide_eq_true_eq]
      have : x 0 = 0 ∨ x 0 = 1 ∨ x 0 = 2 ∨ x 0 = 3 := by omega
      rcases this with e | e | e | e <;> simp [e]
    omega
theorem aD.szU {n i c lo : Int} {A : aA} (h : aD n i c A) (hc : 0 ≤ c) (hB : aB lo A) : A.2.1.length ≤ n + 80 := by
  have l0 := hB.1.2.2.2.2.2.2.2.1 92 (by omega) (by omega)
  have l1 := hB.1.2.2.2.2.2.2.2.1 93 (by omega) (by omega)
  have l2 := hB.1.2.2.2.2.2.2.2.1 94 (by omega) (by omega)
  have l3 := hB.1.2.2.2.2.2.2.2.1 95 (by omega) (by omega)
  have h0 := (h.1 0 (by omega) (by omega)).1
  have h1 := (h.1 1 (by omega) (by omega)).1
  have h2 := (h.1 2 (by omega) (by omega)).1
  have h3 := (h.1 3 (by omega) (by omega)).1
  have := h.2
  simp only [show (124 : Int) + 0 = 124 from rfl, show (124 : Int) + 1 = 125 from rfl, show (124 : Int) + 2 = 126 from rfl, show (124 : Int) + 3 = 127 from rfl] at h0 h1 h2 h3
  omega
theorem aD.szO {n i lo : Int} {A : aA} (h : aD n i 0 A) (hB : aB lo A) : A.2.2.2.length ≤ A.2.1.length := by
  have g2 := hB.1.2.2.1
  have e := cnt4_eq A.2.2.2 (fun u hu => by have := hB.2.2.2 u hu; unfold oB at this; omega)
  have f := cnt4_le A.2.1
  have l0 := hB.1.2.2.2.2.2.2.2.1 (92 + 0) (by omega) (by omega)
  have l1 := hB.1.2.2.2.2.2.2.2.1 (92 + 1) (by omega) (by omega)
  have l2 := hB.1.2.2.2.2.2.2.2.1 (92 + 2) (by omega) (by omega)
  have l3 := hB.1.2.2.2.2.2.2.2.1 (92 + 3) (by omega) (by omega)
  have h0 := (h.1 0 (by omega) (by omega))
  have h1 := (h.1 1 (by omega) (by omega))
  have h2 := (h.1 2 (by omega) (by omega))
  have h3 := (h.1 3 (by omega) (by omega))
  simp only [ite_self] at h0 h1 h2 h3
  omega
/-- the whole invariant; m bounds the figures -/
def aW (lo m : Int) (A : aA) : Prop := aB lo A ∧ aD 201 0 0 A ∧ A.2.2.1.length ≤ 100 ∧ (∀ j, 252 ≤ j → j < 284 → 0 ≤ A.1 (j + 32) ∧ A.1 (j + 32) ≤ A.1 j ∧ A.1 j ≤ m)
theorem aW.sz {lo m : Int} {A : aA} (h : aW lo m A) : A.2.1.length ≤ 281 ∧ A.2.2.1.length ≤ 100 ∧ A.2.2.2.length ≤ 281 := by
  have h1 := h.2.1.szU (by omega) h.1
  have h2 := h.2.1.szO h.1
  exact ⟨by omega, h.2.2.1, by omega⟩
theorem aW.fit {lo m : Int} {A : aA} (h : aW lo m A) : aFit A := by
  have := h.sz
  exact ⟨by omega, by omega, by omega⟩
def dC (A : aA) (k : Int) : Nat := A.2.1.countP (isDu k (A.1 0))
theorem aE_eK {lo : Int} {A : aA} {k : Nat} (h : aB lo A) (hl : lo ≤ A.1 0 + 1) (hk : k < A.2.1.length) (h4 : rg A.2.1 k 0 < 4) : eK lo (aCut A k) (aE A k) :=
  eK_eu (h.cut k) hl (h.2.1 _ (rg_mem hk)) h4
theorem aW.e {lo m : Int} {A : aA} {k : Nat} (h : aW lo m A) (hl : lo ≤ A.1 0 + 1) (hk : k < A.2.1.length) (h4 : rg A.2.1 k 0 < 4) : aW lo m (aE A k) ∧ (∀ j, (j < 124 ∨ (156 ≤ j ∧ j < 316)) → (aE A k).1 j = A.1 j) ∧ (∀ j, j < 4 → dC (aE A k) j + (if isDu j (A.1 0) (rg A.2.1 k) = true then 1 else 0) = dC A j) := by
  have e := aE_eK h.1 hl hk h4
  have s : ∀ j, (j < 124 ∨ (156 ≤ j ∧ j < 316)) → (aE A k).1 j = A.1 j := e.2.1
  refine ⟨⟨e.1, aD_e h.2.1 h.1 hl hk h4, Nat.le_trans e.2.2.1 h.2.2.1, fun j j0 j1 => ?_⟩, s, fun j hj => ?_⟩
  · rw [s j (by omega), s (j + 32) (by omega)]; exact h.2.2.2 j j0 j1
  · have e1 := e.2.2.2.2 j hj
    have e2 := cnt_er (f := isDu j (A.1 0)) hk
    unfold dC
    rw [s 0 (by omega)]
    rw [show (aCut A k).1 = A.1 from rfl] at e1
    rw [e1]
    exact e2
theorem dC_sp {A : aA} {k : Int} : fD A k = -1 ↔ dC A k = 0 := by
  unfold fD dC
  constructor
  · intro h
    rcases fstP_sp (fun j => rg A.2.1 j 0 = k ∧ rg A.2.1 j 4 = A.1 0) A.2.1.length with ⟨_, h'⟩ | ⟨m, h1, _⟩
    · rw [List.countP_eq_zero]
      intro u hu
      obtain ⟨j, hj, e⟩ := List.getElem_of_mem hu
      have := h' j hj
      have e' : rg A.2.1 j = u := by unfold rg; rw [List.getD_eq_getElem?_getD, List.getElem?_eq_getElem hj, e]; rfl
      rw [e'] at this
      unfold isDu
      simp only [Bool.and_eq_true, decide_eq_true_eq]
      exact this
    · rw [h] at h1; omega
  · intro h
    refine fstP_no (fun j hj hh => ?_)
    have := (List.countP_eq_zero.1 h) _ (rg_mem hj)
    unfold isDu at this
    simp only [Bool.and_eq_true, decide_eq_true_eq] at this
    exact this hh
theorem fD_sp {A : aA} {k : Int} (h : fD A k ≠ -1) : ∃ m : Nat, fD A k = m ∧ m < A.2.1.length ∧ rg A.2.1 m 0 = k ∧ rg A.2.1 m 4 = A.1 0 ∧ ∀ j, j < m → ¬ (rg A.2.1 j 0 = k ∧ rg A.2.1 j 4 = A.1 0) := by
  rcases fstP_sp (fun j => rg A.2.1 j 0 = k ∧ rg A.2.1 j 4 = A.1 0) A.2.1.length with ⟨h1, _⟩ | ⟨m, h1, h2, h3, h4⟩
  · exact absurd h1 h
  · exact ⟨m, h1, h2, h3.1, h3.2, h4⟩
noncomputable def aK (k : Int) : Nat → aA → aA
  | 0, A => A
  | n + 1, A => if fD A k = -1 then A else aK k n (aE A (fD A k).toNat)
theorem aK_z {k : Int} {n : Nat} {A : aA} (h : fD A k = -1) : aK k n A = A := by
  cases n with
  | zero => rfl
  | succ n => rw [aK, if_pos h]
theorem aK_s {k : Int} {n m : Nat} {A : aA} (h : fD A k = m) : aK k (n + 1) A = aK k n (aE A m) := by
  rw [aK, if_neg (by omega), h, Int.toNat_natCast]
theorem aK_ok {lo m k : Int} (k1 : k < 4) : ∀ (n : Nat) (A : aA), aW lo m A → lo ≤ A.1 0 + 1 → dC A k ≤ n → aW lo m (aK k n A) ∧ (∀ j, (j < 124 ∨ (156 ≤ j ∧ j < 316)) → (aK k n A).1 j = A.1 j) ∧ dC (aK k n A) k = 0 ∧ ∀ j, j < 4 → j ≠ k → dC (aK k n A) j = dC A j := by
  intro n
  induction n with
  | zero => intro A hW hl hn; exact ⟨hW, fun _ _ => rfl, by unfold aK; omega, fun _ _ _ => rfl⟩
  | succ n ih =>
    intro A hW hl hn
    by_cases hz : fD A k = -1
    · rw [aK_z hz]; exact ⟨hW, fun _ _ => rfl, dC_sp.1 hz, fun _ _ _ => rfl⟩
    · obtain ⟨i, h1, h2, h3, h4, _⟩ := fD_sp hz
      rw [aK_s h1]
      obtain ⟨w, s, c⟩ := hW.e hl h2 (by omega)
      have c1 := c k k1
      rw [if_pos (by simp [isDu, h3, h4])] at c1
      obtain ⟨w', s', c', d'⟩ := ih (aE A i) w (by rw [s 0 (by omega)]; exact hl) (by omega)
      refine ⟨w', fun j hj => by rw [s' j hj, s j hj], c', fun j j4 jk => ?_⟩
      rw [d' j j4 jk]
      have c2 := c j j4
      rw [if_neg (by simp [isDu, h3, Ne.symm jk])] at c2
      exact c2
def aBk (A : aA) : Nat → aA
  | 0 => A
  | n + 1 => aG (aBk A n) (348 + 4 * rg A.2.2.1 n 0 + rg A.2.2.1 n 1) (zw ((aBk A n).1 (348 + 4 * rg A.2.2.1 n 0 + rg A.2.2.1 n 1) + 1))
theorem aBk_l (A : aA) (n : Nat) : (aBk A n).2 = A.2 := by
  induction n with
  | zero => rfl
  | succ n ih => exact ih
theorem aBk_k {lo : Int} {A : aA} (h : aB lo A) (n : Nat) (hn : n ≤ A.2.2.1.length) : aB lo (aBk A n) ∧ ∀ j, (j < 348 ∨ 380 ≤ j) → (aBk A n).1 j = A.1 j := by
  induction n with
  | zero => exact ⟨h, fun _ _ => rfl⟩
  | succ n ih =>
    obtain ⟨i1, i2⟩ := ih (by omega)
    have hc := h.2.2.1 _ (rg_mem (l := A.2.2.1) (k := n) (by omega))
    unfold cB at hc
    have g2 := h.1.2.2.1
    have g3 := h.1.2.2.2.1
    unfold aBk
    exact ⟨i1.g (by omega) (by omega) (zc_zw _), fun j hj => by rw [aG_n (by omega)]; exact i2 j hj⟩
noncomputable def aKs (A : aA) : aA := aK 3 1000 (aK 2 1000 (aK 1 1000 (aK 0 1000 A)))
noncomputable def aBks (A : aA) : aA := aBk A A.2.2.1.length
noncomputable def aDay (A : aA) : aA := aBks (aKs (aG A 0 (A.1 0 + 1)))
theorem aW.day0 {m : Int} {A : aA} (h : aW (A.1 0 + 1) m A) (hd : A.1 0 < 9999) : aW (A.1 0 + 1) m (aG A 0 (A.1 0 + 1)) := by
  obtain ⟨⟨⟨a0, a1, a2, a3, a4, a5, a6, a7, a8⟩, b2, b3, b4⟩, hD, hC, hf⟩ := h
  have n (i : Int) (hi : i ≠ 0) : (aG A 0 (A.1 0 + 1)).1 i = A.1 i := aG_n hi
  have z : (aG A 0 (A.1 0 + 1)).1 0 = A.1 0 + 1 := aG_s
  refine ⟨⟨⟨?_, ?_, ?_, ?_, fun i i0 i1 => ?_, fun s s0 s1 => ?_, fun b o b0 b1 o0 o1 => ?_, fun k k0 k1 => ?_, fun k k0 k1 => ?_⟩, fun u hu => ?_, fun u hu => ?_, ?_⟩, hD.g (by omega) (by omega), hC, fun j j0 j1 => ?_⟩
  · rw [z]; omega
  · rw [n 1 (by omega)]; exact a1
  · rw [n 2 (by omega)]; exact a2
  · rw [n 3 (by omega)]; exact a3
  · rw [n 2 (by omega)] at i1
    rw [n _ (by omega), n _ (by omega), n _ (by omega)]; exact a4 i i0 i1
  · rw [n 3 (by omega)] at s1
    rw [n _ (by omega)]; exact a5 s s0 s1
  · rw [n _ (by omega)]; exact a6 b o b0 b1 o0 o1
  · rw [n _ (by omega)]; exact a7 k k0 k1
  · by_cases e : k = 0
    · rw [e, z]; exact zc_of (by omega) (by omega)
    · rw [n k e]; exact a8 k k0 k1
  · rw [n 2 (by omega), n 3 (by omega), z]
    have := b2 u hu
    unfold uB at this ⊢
    refine ⟨this.1, this.2.1, this.2.2.1, ⟨this.2.2.2.1.1, by omega⟩, this.2.2.2.2⟩
  · rw [n 2 (by omega), n 3 (by omega), z]
    have := b3 u hu
    unfold cB at this ⊢
    omega
  · rw [n 2 (by omega), n 3 (by omega)]; exact b4
  · rw [n _ (by omega), n _ (by omega)]; exact hf j j0 j1
theorem aW.lift {m : Int} {A : aA} (h : aW (A.1 0) m A) (hd : ∀ k, 0 ≤ k → k < 4 → dC A k = 0) : aW (A.1 0 + 1) m A := by
  refine ⟨⟨h.1.1, fun u hu => ?_, h.1.2.2⟩, h.2⟩
  have hu' := h.1.2.1 u hu
  have nd (k : Int) (k0 : 0 ≤ k) (k1 : k < 4) (e : u 0 = k) : u 4 ≠ A.1 0 := by
    have := (List.countP_eq_zero.1 (hd k k0 k1)) u hu
    unfold isDu at this
    simp only [Bool.and_eq_true, decide_eq_true_eq] at this
    exact fun hh => this ⟨e, hh⟩
  have n0 := nd 0 (by omega) (by omega)
  have n1 := nd 1 (by omega) (by omega)
  have n2 := nd 2 (by omega) (by omega)
  have n3 := nd 3 (by omega) (by omega)
  unfold uB at hu' ⊢
  refine ⟨hu'.1, hu'.2.1, hu'.2.2.1, hu'.2.2.2.1, ?_⟩
  rcases hu'.2.2.2.2 with h1 | h1 | h1 | h1 | h1
  · left; have := n0 h1.1; omega
  · right; left; have := n1 h1.1; omega
  · right; right; left; have := n1 h1.1; refine ⟨h1.1, h1.2.1, h1.2.2.1, h1.2.2.2.1, h1.2.2.2.2.1, h1.2.2.2.2.2.1, by omega⟩
  · right; right; right; left
    have : u 4 ≠ A.1 0 := h1.1.elim n2 n3
    refine ⟨h1.1, h1.2.1, h1.2.2.1, h1.2.2.2.1, by omega⟩
  · right; right; right; right; exact h1
theorem aKs_ok {m : Int} {A : aA} (h : aW (A.1 0) m A) : aW (A.1 0) m (aK 0 1000 A) ∧ aW (A.1 0) m (aK 1 1000 (aK 0 1000 A)) ∧ aW (A.1 0) m (aK 2 1000 (aK 1 1000 (aK 0 1000 A))) ∧ aW (A.1 0 + 1) m (aKs A) ∧ (∀ j, (j < 124 ∨ (156 ≤ j ∧ j < 316)) → (aKs A).1 j = A.1 j) ∧ (aK 0 1000 A).1 0 = A.1 0 ∧ (aK 1 1000 (aK 0 1000 A)).1 0 = A.1 0 ∧ (aK 2 1000 (aK 1 1000 (aK 0 1000 A))).1 0 = A.1 0 := by
  have le (B : aA) (k : Int) (hB : aW (A.1 0) m B) : dC B k ≤ 1000 := by
    have := hB.sz
    have : dC B k ≤ B.2.1.length := List.countP_le_length
    omega
  obtain ⟨w0, s0, z0, d0⟩ := aK_ok (k := 0) (by omega) 1000 A h (by omega) (le _ _ h)
  obtain ⟨w1, s1, z1, d1⟩ := aK_ok (k := 1) (by omega) 1000 _ w0 (by rw [s0 0 (by omega)]; omega) (le _ _ w0)
  have e1 : (aK 1 1000 (aK 0 1000 A)).1 0 = A.1 0 := by rw [s1 0 (by omega), s0 0 (by omega)]
  obtain ⟨w2, s2, z2, d2⟩ := aK_ok (k := 2) (by omega) 1000 _ w1 (by rw [e1]; omega) (le _ _ w1)
  have e2 : (aK 2 1000 (aK 1 1000 (aK 0 1000 A))).1 0 = A.1 0 := by rw [s2 0 (by omega), e1]
  obtain ⟨w3, s3, z3, d3⟩ := aK_ok (k := 3) (by omega) 1000 _ w2 (by rw [e2]; omega) (le _ _ w2)
  have e3 : (aKs A).1 0 = A.1 0 := by unfold aKs; rw [s3 0 (by omega), e2]
  refine ⟨w0, w1, w2, ?_, fun j hj => by unfold aKs; rw [s3 j hj, s2 j hj, s1 j hj, s0 j hj], s0 0 (by omega), e1, e2⟩
  rw [← e3]
  refine aW.lift (by rw [e3]; exact w3) (fun k k0 k1 => ?_)
  unfold aKs
  have : k = 0 ∨ k = 1 ∨ k = 2 ∨ k = 3 := by omega
  rcases this with e | e | e | e <;> subst e
  · rw [d3 0 (by omega) (by omega), d2 0 (by omega) (by omega), d1 0 (by omega) (by omega)]; exact z0
  · rw [d3 1 (by omega) (by omega), d2 1 (by omega) (by omega)]; exact z1
  · rw [d3 2 (by omega) (by omega)]; exact z2
  · exact z3
theorem aBks_ok {lo m : Int} {A : aA} (h : aW lo m A) : aW lo m (aBks A) ∧ (∀ j, (j < 348 ∨ 380 ≤ j) → (aBks A).1 j = A.1 j) ∧ (aBks A).2 = A.2 := by
  obtain ⟨h1, h2⟩ := aBk_k h.1 A.2.2.1.length (Nat.le_refl _)
  have h3 := aBk_l A A.2.2.1.length
  refine ⟨⟨h1, ?_, ?_, fun j j0 j1 => ?_⟩, h2, h3⟩
  · have hd := h.2.1
    unfold aBks
    refine ⟨fun j j0 j1 => ?_, ?_⟩
    · rw [h2 _ (by omega), h2 _ (by omega), h3]; exact hd.1 j j0 j1
    · rw [h2 _ (by omega), h2 _ (by omega), h2 _ (by omega), h2 _ (by omega), h2 _ (by omega), h2 _ (by omega), h2 _ (by omega), h2 _ (by omega), h3]; exact hd.2
  · unfold aBks; rw [h3]; exact h.2.2.1
  · unfold aBks; rw [h2 _ (by omega), h2 _ (by omega)]; exact h.2.2.2 j j0 j1
theorem aW.day {m : Int} {A : aA} (h : aW (A.1 0 + 1) m A) (hd : A.1 0 < 9999) : aW (A.1 0 + 1 + 1) m (aDay A) ∧ (aDay A).1 0 = A.1 0 + 1 ∧ ∀ j, 1 ≤ j → (j < 124 ∨ (156 ≤ j ∧ j < 316)) → (aDay A).1 j = A.1 j := by
  have h0 := h.day0 hd
  have e0 : (aG A 0 (A.1 0 + 1)).1 0 = A.1 0 + 1 := aG_s
  have k := aKs_ok (A := aG A 0 (A.1 0 + 1)) (m := m) (by rw [e0]; exact h0)
  rw [e0] at k
  obtain ⟨_, _, _, k4, k5, _⟩ := k
  obtain ⟨b1, b2, _⟩ := aBks_ok k4
  refine ⟨b1, ?_, fun j j0 j1 => ?_⟩
  · unfold aDay; rw [b2 0 (by omega), k5 0 (by omega)]; exact e0
  · unfold aDay; rw [b2 j (by omega), k5 j j1]; exact aG_n (by omega)
section DAY
variable {g : zG} {S : zSh} {im0 : zIm} {a : Nat}
theorem c_kind_loop (G : zOK g) (hS : zS_M S a) {lo m k : Int} {Q : zIm → Prop} (k0 : 0 ≤ k) (k1 : k < 4) :
    ∀ (n : Nat) (A : aA) (im : zIm), mS a im0 im A → aW lo m A → lo ≤ A.1 0 + 1 → dC A k ≤ n → (∀ im', mS a im0 im' (aK k n A) → zPV g M_X8_beginDay 12 [(0, .ref a), (1, .int (zi (k + 1)))] S im' Q) → zPV g M_X8_beginDay 23 [(0, .ref a), (1, .int (zi k)), (2, .int (zi (fD A k)))] S im Q := by
  intro n
  induction n with
  | zero =>
    intro A im hM hW hl hn hQ
    have hz : fD A k = -1 := dC_sp.2 (by omega)
    rw [hz]
    refine v_X8_beginDay_23 G hS (zc_of (by omega) (by omega)) (zc_of (by omega) (by omega)) ⟨fun _ => ?_, fun h => absurd rfl h⟩
    rw [zw_of (by omega) (by omega)]
    exact hQ im hM
  | succ n ih =>
    intro A im hM hW hl hn hQ
    by_cases hz : fD A k = -1
    · rw [hz]
      refine v_X8_beginDay_23 G hS (zc_of (by omega) (by omega)) (zc_of (by omega) (by omega)) ⟨fun _ => ?_, fun h => absurd rfl h⟩
      rw [zw_of (by omega) (by omega)]
      rw [aK_z hz] at hQ
      exact hQ im hM
    · obtain ⟨i, h1, h2, h3, h4, _⟩ := fD_sp hz
      have hs := hW.sz
      rw [aK_s h1] at hQ
      obtain ⟨w, s, c⟩ := hW.e hl h2 (by omega)
      have c1 := c k k1
      rw [if_pos (by simp [isDu, h3, h4])] at c1
      rw [h1]
      refine v_X8_beginDay_23 G hS (zc_of (by omega) (by omega)) (zc_of (by omega) (by omega)) ⟨fun h => absurd h (by omega), fun _ => ?_⟩
      refine c_end G hS hM hW.fit (by omega) hW.1 h2 (by omega) (fun im1 h1 => ?_)
      refine c_firstDue G hS h1 w.fit (zc_of (by omega) (by omega)) ?_
      exact ih _ im1 h1 w (by rw [s 0 (by omega)]; exact hl) (by omega) hQ
theorem c_bk_loop (G : zOK g) (hS : zS_M S a) {lo m : Int} {A : aA} (hW : aW lo m A) {Q : zIm → Prop} (hQ : ∀ im', mS a im0 im' (aBks A) → Q im') :
    ∀ (n k : Nat) (im : zIm), k + n = A.2.2.1.length → mS a im0 im (aBk A k) → zPV g M_X8_beginDay 50 [(0, .ref a), (1, .int (zi k))] S im Q := by
  have hs := hW.sz
  have g2 := hW.1.1.2.2.1
  have g3 := hW.1.1.2.2.2.1
  intro n
  induction n with
  | zero =>
    intro k im hk hM
    have e5 := hM.2.2.2.1
    rw [aBk_l] at e5
    refine v_X8_beginDay_50 G hS (zc_of (by omega) (by omega)) ⟨fun _ => hQ im ?_, fun h => absurd h (by omega)⟩
    unfold aBks
    rw [show k = A.2.2.1.length from by omega] at hM
    exact hM
  | succ n ih =>
    intro k im hk hM
    have e5 := hM.2.2.2.1
    have el := aBk_l A k
    rw [el] at e5
    have hc := hW.1.2.2.1 _ (rg_mem (l := A.2.2.1) (k := k) (by omega))
    unfold cB at hc
    have hF : aFit (aBk A k) := by have := hW.fit; unfold aFit; rw [el]; exact this
    refine v_X8_beginDay_50 G hS (zc_of (by omega) (by omega)) ⟨fun h => absurd h (by omega), fun _ => ?_⟩
    refine c_customer G hS hM.2 hF (by rw [el]; omega) (by omega) (by omega) ?_
    refine c_customer G hS hM.2 hF (by rw [el]; omega) (by omega) (by omega) ?_
    rw [el]
    refine c_at G (by omega) (by omega) (by omega) (by omega) (by omega) (by omega) ⟨⟨by omega, by omega⟩, fun im1 e1 => ?_⟩
    rw [hM.g (by omega) (by omega)] at e1
    rw [zwS (k := k) (by omega)]
    exact ih (k + 1) im1 (by omega) (hM.u e1 (by omega) (by omega))
theorem c_beginDay (G : zOK g) (hS : zS_M S a) {m : Int} {A : aA} {im : zIm} (hM : mS a im0 im A) (hW : aW (A.1 0 + 1) m A) (hd : A.1 0 < 9999) {Q : zIm → Prop} (hQ : ∀ im', mS a im0 im' (aDay A) → Q im') : zCV g yX8_beginDay M_X8_beginDay [.ref a] S im Q := by
  have d0 := hW.1.1.1
  refine v_X8_beginDay G hS (fun im1 e1 => ?_)
  rw [hM.h (by omega) (by omega), zw_of (by omega) (by omega)] at e1
  have h0 := hW.day0 hd
  have e0 : (aG A 0 (A.1 0 + 1)).1 0 = A.1 0 + 1 := aG_s
  obtain ⟨w0, w1, w2, w3, _, q0, q1, q2⟩ := aKs_ok (A := aG A 0 (A.1 0 + 1)) (m := m) (by rw [e0]; exact h0)
  have M0 := hM.v e1 (by omega) (by omega)
  have le (B : aA) (k : Int) (hB : aW ((aG A 0 (A.1 0 + 1)).1 0) m B) : dC B k ≤ 1000 := by
    have := hB.sz
    have : dC B k ≤ B.2.1.length := List.countP_le_length
    omega
  have step (k : Int) (k0 : 0 ≤ k) (k1 : k < 4) (B : aA) (im2 : zIm) (h2 : mS a im0 im2 B) (hB : aW ((aG A 0 (A.1 0 + 1)).1 0) m B) (hb : B.1 0 = (aG A 0 (A.1 0 + 1)).1 0) (hq : ∀ im', mS a im0 im' (aK k 1000 B) → zPV g M_X8_beginDay 12 [(0, .ref a), (1, .int (zi (k + 1)))] S im' Q) : zPV g M_X8_beginDay 12 [(0, .ref a), (1, .int (zi k))] S im2 Q := by
    refine v_X8_beginDay_12 G hS (zc_of (by omega) (by omega)) ⟨fun h => absurd h (by omega), fun _ => ?_⟩
    refine c_firstDue G hS h2 hB.fit (zc_of (by omega) (by omega)) ?_
    exact c_kind_loop G hS k0 k1 1000 B im2 h2 hB (by omega) (le _ _ hB) hq
  refine step 0 (by omega) (by omega) _ im1 M0 (by rw [e0]; exact h0) rfl (fun im2 h2 => ?_)
  refine step 1 (by omega) (by omega) _ im2 h2 w0 q0 (fun im3 h3 => ?_)
  refine step 2 (by omega) (by omega) _ im3 h3 w1 q1 (fun im4 h4 => ?_)
  refine step 3 (by omega) (by omega) _ im4 h4 w2 q2 (fun im5 h5 => ?_)
  refine v_X8_beginDay_12 G hS (zc_of (by omega) (by omega)) ⟨fun _ => ?_, fun h => absurd h (by omega)⟩
  exact c_bk_loop G hS w3 hQ _ 0 im5 (Nat.zero_add _) h5
end DAY
