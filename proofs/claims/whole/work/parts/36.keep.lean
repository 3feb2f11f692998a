/-- what an end of a unit keeps -/
def eK (lo : Int) (A A' : aA) : Prop := aB lo A' ∧ (∀ k, (k < 124 ∨ (156 ≤ k ∧ k < 316)) → A'.1 k = A.1 k) ∧ A'.2.2.1.length ≤ A.2.2.1.length ∧ A'.2.2.2.length ≤ A.2.2.2.length ∧ (∀ k, k < 4 → A'.2.1.countP (isDu k (A.1 0)) = A.2.1.countP (isDu k (A.1 0)))
theorem eK.refl {lo : Int} {A : aA} (h : aB lo A) : eK lo A A := ⟨h, fun _ _ => rfl, Nat.le_refl _, Nat.le_refl _, fun _ _ => rfl⟩
theorem eK.trans {lo : Int} {A B C : aA} (h : eK lo A B) (h' : eK lo B C) : eK lo A C := by
  refine ⟨h'.1, fun k hk => by rw [h'.2.1 k hk, h.2.1 k hk], Nat.le_trans h'.2.2.1 h.2.2.1, Nat.le_trans h'.2.2.2.1 h.2.2.2.1, fun k hk => ?_⟩
  have := h'.2.2.2.2 k hk
  rw [h.2.1 0 (by omega)] at this
  rw [this, h.2.2.2.2 k hk]
theorem eK.app {lo : Int} {A : aA} {u : aR} (h : aB lo A) (hu : uB (A.1 2) (A.1 3) lo (A.1 0) u) (hd : u 4 ≠ A.1 0 ∨ 4 ≤ u 0) : eK lo A (aApp A u) := by
  refine ⟨⟨h.1, fun v hv => ?_, h.2.2⟩, fun _ _ => rfl, Nat.le_refl _, Nat.le_refl _, fun k hk => ?_⟩
  · rcases List.mem_append.1 hv with h1 | h1
    · exact h.2.1 v h1
    · rw [List.mem_singleton.1 h1]; exact hu
  · show (A.2.1 ++ [u]).countP (isDu k (A.1 0)) = _
    have : isDu k (A.1 0) u = false := by
      unfold isDu
      rcases hd with h1 | h1
      · simp [h1]
      · have : u 0 ≠ k := by omega
        simp [this]
    simp [List.countP_append, this]
theorem aB.cut {lo : Int} {A : aA} (h : aB lo A) (k : Nat) : aB lo (aCut A k) := ⟨h.1, fun u hu => h.2.1 u (List.mem_of_mem_eraseIdx hu), h.2.2⟩
theorem eK.cutW {lo : Int} {A : aA} {k : Nat} (h : aB lo A) (hk : k < A.2.1.length) (h4 : 4 ≤ rg A.2.1 k 0) : eK lo A (aCut A k) := by
  refine ⟨h.cut k, fun _ _ => rfl, Nat.le_refl _, Nat.le_refl _, fun j hj => ?_⟩
  have := cnt_er (f := isDu j (A.1 0)) hk
  have e : rg A.2.1 k 0 ≠ j := by omega
  rw [if_neg (by simp [isDu, e])] at this
  exact this
theorem eK.ocut {lo : Int} {A : aA} (h : aB lo A) (k : Nat) : eK lo A (A.1, A.2.1, A.2.2.1, A.2.2.2.eraseIdx k) :=
  ⟨⟨h.1, h.2.1, h.2.2.1, fun u hu => h.2.2.2 u (List.mem_of_mem_eraseIdx hu)⟩, fun _ _ => rfl, Nat.le_refl _, by simp only [List.length_eraseIdx]; split <;> omega, fun _ _ => rfl⟩
theorem eK.ccut {lo : Int} {A : aA} (h : aB lo A) (k : Nat) : eK lo A (A.1, A.2.1, A.2.2.1.eraseIdx k, A.2.2.2) :=
  ⟨⟨h.1, h.2.1, fun u hu => h.2.2.1 u (List.mem_of_mem_eraseIdx hu), h.2.2.2⟩, fun _ _ => rfl, by simp only [List.length_eraseIdx]; split <;> omega, Nat.le_refl _, fun _ _ => rfl⟩
theorem aB.g {lo : Int} {A : aA} (h : aB lo A) {j v : Int} (h0 : 124 ≤ j) (h1 : j < 412) (cv : zc v) : aB lo (aG A j v) := by
  refine ⟨h.1.up h0 h1 cv, ?_, ?_, ?_⟩
  · rw [aG_n (by omega), aG_n (by omega), aG_n (by omega)]; exact h.2.1
  · rw [aG_n (by omega), aG_n (by omega), aG_n (by omega)]; exact h.2.2.1
  · rw [aG_n (by omega), aG_n (by omega)]; exact h.2.2.2
theorem eK.g {lo : Int} {A : aA} (h : aB lo A) {j v : Int} (h0 : 124 ≤ j) (h1 : j < 412) (hn : j < 156 ∨ 316 ≤ j) (cv : zc v) : eK lo A (aG A j v) :=
  ⟨h.g h0 h1 cv, fun k hk => aG_n (by omega), Nat.le_refl _, Nat.le_refl _, fun _ _ => rfl⟩
theorem eK_sup {lo : Int} {A : aA} {b i : Int} (h : aB lo A) (hl : lo ≤ A.1 0 + 1) (hb : kB A b) (hi : kI A i) : eK lo A (aSup A b i) := by
  unfold kB at hb
  unfold kI at hi
  have d := h.1.1
  have s := h.1.2.2.2.1
  have l := h.1.2.2.2.2.2.1 b hb.1 hb.2
  refine eK.app h ?_ ?_
  · unfold uB mkU
    simp only [if_true, if_false, Int.one_ne_zero, reduceIte]
    rw [zw_of (by omega) (by omega)]
    simp
    omega
  · left
    unfold mkU
    simp
    rw [zw_of (by omega) (by omega)]
    omega
theorem eK_rd {lo : Int} {A : aA} {i : Int} (h : aB lo A) (hl : lo ≤ A.1 0 + 1) (hi : kI A i) : eK lo A (aRD A i) := by
  unfold kI at hi
  have d := h.1.1
  have l := h.1.2.2.2.2.1 i hi.1 hi.2
  refine eK.app h ?_ ?_
  · unfold uB mkU
    simp only [reduceIte]
    rw [zw_of (by omega) (by omega)]
    simp
    simp at l
    omega
  · left
    unfold mkU
    simp only [reduceIte]
    rw [zw_of (by omega) (by omega)]
    simp at l ⊢
    omega
theorem eK_wait {lo : Int} {A : aA} {i : Int} (h : aB lo A) (hi : kI A i) : eK lo A (aApp A (mkU 4 i 0 0 0 0)) := by
  unfold kI at hi
  have d := h.1.1
  refine eK.app h ?_ (Or.inr (by unfold mkU; simp))
  unfold uB mkU
  simp
  omega
theorem eK_er {lo : Int} {A : aA} {i : Int} (h : aB lo A) (hl : lo ≤ A.1 0 + 1) (hi : kI A i) : eK lo A (aER A i) := by
  unfold aER
  split
  · exact eK_wait h hi
  · exact eK_rd h hl hi
theorem eK_fill {lo : Int} {A : aA} {i : Int} (h : aB lo A) (hl : lo ≤ A.1 0 + 1) (hi : kI A i) : eK lo A (aFill A i) := by
  have g2 := h.1.2.2.1
  have hi' := hi
  unfold kI at hi'
  unfold aFill
  split
  · exact eK.g h (by omega) (by omega) (by omega) (zc_zw _)
  · rename_i hn
    have hb := bO_bd A i
    have ho := h.2.2.2 _ (rg_mem (l := A.2.2.2) (k := (bO A i).toNat) (by omega))
    exact (eK.ocut h _).trans (eK_sup (eK.ocut h _).1 hl ⟨ho.2.2.1, ho.2.2.2.1⟩ hi)
theorem eK_come {lo : Int} {A : aA} {b i : Int} (h : aB lo A) (hb : kB A b) (hi : kI A i) : eK lo A (aCome A b i) := by
  have g2 := h.1.2.2.1
  have g3 := h.1.2.2.2.1
  unfold kI at hi
  unfold kB at hb
  unfold aCome
  split
  · exact eK.g h (by omega) (by omega) (by omega) (zc_zw _)
  · exact (eK.g (j := 316 + 4 * b + i) (v := zw (A.1 (316 + 4 * b + i) + (A.1 0 - rg A.2.2.1 (bC A b i).toNat 3))) h (by omega) (by omega) (by omega) (zc_zw _)).trans (eK.ccut (h.g (by omega) (by omega) (zc_zw _)) _)
theorem eK_free {lo : Int} {A : aA} {i : Int} (h : aB lo A) (hl : lo ≤ A.1 0 + 1) (hi : kI A i) : eK lo A (aFree A i) := by
  unfold aFree
  split
  · exact eK.refl h
  · rename_i hn
    rcases fstP_sp (fun k => rg A.2.1 k 0 = 4 ∧ rg A.2.1 k 1 = i) A.2.1.length with ⟨h1, _⟩ | ⟨m, h1, h2, h3, _⟩
    · exact absurd h1 hn
    · have e : (fW A i).toNat = m := by unfold fW; rw [h1]; exact Int.toNat_natCast m
      rw [e]
      have k1 := eK.cutW h h2 (by rw [h3.1]; omega)
      exact k1.trans (eK_rd k1.1 hl hi)
theorem eK_ed {lo : Int} {A : aA} {i : Int} (h : aB lo A) (hl : lo ≤ A.1 0 + 1) (hi : kI A i) : eK lo A (aED A i) := by
  have k1 := eK_free h hl hi
  refine k1.trans (eK_fill k1.1 ?_ ?_)
  · rw [k1.2.1 0 (by omega)]; exact hl
  · unfold kI; rw [k1.2.1 2 (by omega)]; exact hi
theorem eK_el {lo : Int} {A : aA} {i b o l : Int} (h : aB lo A) (hl : lo ≤ A.1 0 + 1) (hi : kI A i) (hb : kB A b) (ho : kB A o) (l1 : b ≠ o → 1 ≤ l) (l2 : l ≤ 20) : eK lo A (aEL A i b o l) := by
  unfold aEL
  split
  · exact eK_come h hb hi
  · rename_i hn
    unfold kI at hi
    unfold kB at hb ho
    have d := h.1.1
    have s := h.1.2.2.2.1
    have lk := h.1.2.2.2.2.2.2.1 b o (by omega) (by omega) (by omega) (by omega)
    have l3 := l1 (Ne.symm hn)
    have e : ∃ t, (if A.1 (28 + 8 * b + o) ≤ 0 then l else A.1 (28 + 8 * b + o)) = t ∧ 1 ≤ t ∧ t ≤ 20 := by
      refine ⟨_, rfl, ?_⟩
      split <;> omega
    obtain ⟨t, e1, e2, e3⟩ := e
    rw [e1]
    refine eK.app h ?_ ?_
    · unfold uB mkU
      simp only [reduceIte]
      rw [zw_of (by omega) (by omega)]
      simp
      omega
    · left
      unfold mkU
      simp
      rw [zw_of (by omega) (by omega)]
      omega
theorem eK_eu {lo : Int} {A : aA} {u : aR} (h : aB lo A) (hl : lo ≤ A.1 0 + 1) (hu : uB (A.1 2) (A.1 3) lo (A.1 0) u) (h4 : u 0 < 4) : eK lo A (aEu A u) := by
  unfold uB at hu
  unfold aEu
  split
  · exact eK_er h hl ⟨hu.1, hu.2.1⟩
  · split
    · exact eK_ed h hl ⟨hu.1, hu.2.1⟩
    · split
      · exact eK_el h hl ⟨hu.1, hu.2.1⟩ ⟨by omega, by omega⟩ ⟨by omega, by omega⟩ (by omega) (by omega)
      · exact eK_come h ⟨by omega, by omega⟩ ⟨hu.1, hu.2.1⟩
theorem aD_fill {n i c lo : Int} {A : aA} (h : aD n i c A) (hB : aB lo A) (i0 : 0 ≤ i) (i1 : i < 4) (hc : 1 ≤ c) : aD n i (c - 1) (aFill A i) := by
  have l := hB.1.2.2.2.2.2.2.2.1 (92 + i) (by omega) (by omega)
  have hd := h.1 i i0 i1
  rw [if_pos rfl] at hd
  unfold aFill
  split
  · rename_i hb
    have := bO_no hb
    have e9 : (124 : Int) + 4 * 0 + i = 124 + i := by omega
    refine h.oh (d := 1) i0 i1 ?_ ?_ (Or.inr this)
    · rw [e9, zw_of (by omega) (by omega)]
    · rw [e9, zw_of (by omega) (by omega)]; omega
  · rename_i hn
    have hb := bO_bd A i
    have ho := hB.2.2.2 _ (rg_mem (l := A.2.2.2) (k := (bO A i).toNat) (by omega))
    have hi : rg A.2.2.2 (bO A i).toNat 0 = i := bstO_it _ _ _ hn
    have h1 := (h.ocut (k := (bO A i).toNat) (by omega) hi).app_o (u := mkU 2 i (rg A.2.2.2 (bO A i).toNat 1) (rg A.2.2.2 (bO A i).toNat 1) (zw (A.1 0 + A.1 (20 + rg A.2.2.2 (bO A i).toNat 1))) 0) (by unfold oB at ho; unfold mkU; simp; omega)
    rw [Int.sub_add_cancel] at h1
    exact h1
theorem aD_come {n i c : Int} {A : aA} {b j : Int} (h : aD n i c A) (b0 : 1 ≤ b) (j0 : 0 ≤ j) : aD n i c (aCome A b j) := by
  unfold aCome
  split
  · exact h.g (by omega) (by omega)
  · exact aD.g h (j := 316 + 4 * b + j) (by omega) (by omega)
theorem aD_er {n i c : Int} {A : aA} (h : aD n i c A) : aD n i (c - 1) (aER A i) := by
  unfold aER aRD
  split
  · exact h.app_d (by unfold mkU; simp) (by unfold mkU; simp)
  · exact h.app_d (by unfold mkU; simp) (by unfold mkU; simp)
theorem aD_free {n i c lo : Int} {A : aA} (h : aD n i c A) (hB : aB lo A) : aD n i c (aFree A i) := by
  unfold aFree
  split
  · exact h
  · rename_i hn
    rcases fstP_sp (fun k => rg A.2.1 k 0 = 4 ∧ rg A.2.1 k 1 = i) A.2.1.length with ⟨h1, _⟩ | ⟨m, h1, h2, h3, _⟩
    · exact absurd h1 hn
    · have e : (fW A i).toNat = m := by unfold fW; rw [h1]; exact Int.toNat_natCast m
      rw [e]
      have hu := hB.2.1 _ (rg_mem h2)
      unfold uB at hu
      have := (h.cut_d h2 (by omega) h3.2).app_d (u := mkU 1 i 0 0 (zw (A.1 0 + A.1 (8 + 3 * i + 0))) 0) (by unfold mkU; simp) (by unfold mkU; simp)
      rw [Int.add_sub_cancel] at this
      exact this
theorem aD_e {n lo : Int} {A : aA} {k : Nat} (h : aD n 0 0 A) (hB : aB lo A) (hl : lo ≤ A.1 0 + 1) (hk : k < A.2.1.length) (h4 : rg A.2.1 k 0 < 4) : aD n 0 0 (aE A k) := by
  have hu := hB.2.1 _ (rg_mem hk)
  have g2 := hB.1.2.2.1
  unfold uB at hu
  unfold aE aEu
  have hd (h3 : rg A.2.1 k 3 = 0) : aD n (rg A.2.1 k 1) 1 (aCut A k) := (h.zero (j := rg A.2.1 k 1)).cut_d hk h3 rfl
  split
  · have := aD_er (hd (by omega))
    exact this.zero
  · split
    · have := aD_fill (aD_free (hd (by omega)) (hB.cut k)) (eK_free (hB.cut k) hl ⟨hu.1, hu.2.1⟩).1 hu.1 (by omega) (Int.le_refl 1)
      exact this.zero
    · have hc : aD (n - 1) 0 0 (aCut A k) := h.cut_o hk (by omega)
      split
      · unfold aEL
        split
        · exact (aD_come hc (by omega) hu.1).mono (by omega)
        · exact (hc.app_o (by unfold mkU; simp; omega)).mono (by omega)
      · exact (aD_come hc (by omega) hu.1).mono (by omega)
