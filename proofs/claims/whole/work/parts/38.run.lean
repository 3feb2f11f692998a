/-! demands, runs, levels -/
theorem aD.rest {n lo : Int} {A : aA} (h : aD n 0 0 A) (hB : aB lo A) : aD A.2.1.length 0 0 A := by
  have l0 := hB.1.2.2.2.2.2.2.2.1 92 (by omega) (by omega)
  have l1 := hB.1.2.2.2.2.2.2.2.1 93 (by omega) (by omega)
  have l2 := hB.1.2.2.2.2.2.2.2.1 94 (by omega) (by omega)
  have l3 := hB.1.2.2.2.2.2.2.2.1 95 (by omega) (by omega)
  have h0 := (h.1 0 (by omega) (by omega))
  have h1 := (h.1 1 (by omega) (by omega))
  have h2 := (h.1 2 (by omega) (by omega))
  have h3 := (h.1 3 (by omega) (by omega))
  simp only [ite_self, show (124 : Int) + 0 = 124 from rfl, show (124 : Int) + 1 = 125 from rfl, show (124 : Int) + 2 = 126 from rfl, show (124 : Int) + 3 = 127 from rfl, show (92 : Int) + 0 = 92 from rfl, show (92 : Int) + 1 = 93 from rfl, show (92 : Int) + 2 = 94 from rfl, show (92 : Int) + 3 = 95 from rfl] at h0 h1 h2 h3
  refine ⟨h.1, ?_⟩
  omega
theorem aW.mono {lo m m' : Int} {A : aA} (h : aW lo m A) (hm : m ≤ m') : aW lo m' A := ⟨h.1, h.2.1, h.2.2.1, fun j j0 j1 => by have := h.2.2.2 j j0 j1; omega⟩
/-- what a demand's steps keep -/
def oK (lo : Int) (A A' : aA) : Prop := aB lo A' ∧ (∀ k, (k < 124 ∨ (156 ≤ k ∧ k < 252)) → A'.1 k = A.1 k)
theorem oK.trans {lo : Int} {A B C : aA} (h : oK lo A B) (h' : oK lo B C) : oK lo A C := ⟨h'.1, fun k hk => by rw [h'.2 k hk, h.2 k hk]⟩
theorem eK.o {lo : Int} {A B : aA} (h : eK lo A B) : oK lo A B := ⟨h.1, fun k hk => h.2.1 k (by omega)⟩
theorem oK.g {lo : Int} {A : aA} (h : aB lo A) {j v : Int} (h0 : 124 ≤ j) (h1 : j < 412) (hn : j < 156 ∨ 252 ≤ j) (cv : zc v) : oK lo A (aG A j v) := ⟨h.g h0 h1 cv, fun k hk => aG_n (by omega)⟩
theorem oK_cust {lo : Int} {A : aA} {b i p : Int} (h : aB lo A) (hb : kB A b) (hi : kI A i) (p0 : 0 ≤ p) (p1 : p ≤ 9) : oK lo A (aCust A b i p) := by
  unfold kB at hb
  unfold kI at hi
  have d := h.1.1
  refine ⟨⟨h.1, h.2.1, fun v hv => ?_, h.2.2.2⟩, fun _ _ => rfl⟩
  rcases List.mem_append.1 hv with h1 | h1
  · exact h.2.2.1 v h1
  · rw [List.mem_singleton.1 h1]
    show cB (A.1 2) (A.1 3) (A.1 0) (mkC b i p (A.1 0))
    unfold cB mkC
    simp
    omega
theorem oK_buy {lo : Int} {A : aA} {b i : Int} (h : aB lo A) (hl : lo ≤ A.1 0 + 1) (hb : kB A b) (hi : kI A i) : oK lo A (aBuy A b i) := by
  unfold aBuy
  split
  · exact (eK.refl h).o
  · rename_i hn
    have hs := aH_sp hn
    have hd := aH_bd A b i
    unfold kB at hb
    unfold kI at hi
    have d := h.1.1
    have g1 := h.1.2.1
    have g2 := h.1.2.2.1
    have g3 := h.1.2.2.2.1
    have k1 : oK lo A (aG A (124 + 4 * aH A b i + i) (zw (A.1 (124 + 4 * aH A b i + i) - 1))) := oK.g h (by omega) (by omega) (by omega) (zc_zw _)
    have k2 := k1.trans (oK.g k1.1 (j := 380 + 4 * aH A b i + i) (v := zw (A.1 (380 + 4 * aH A b i + i) + 1)) (by omega) (by omega) (by omega) (zc_zw _))
    refine k2.trans (eK.app k2.1 ?_ ?_).o
    · rw [k2.2 0 (by omega), k2.2 2 (by omega), k2.2 3 (by omega)]
      unfold uB mkU
      simp only [reduceIte]
      rw [zw_of (by omega) (by omega)]
      simp
      omega
    · left
      rw [k2.2 0 (by omega)]
      unfold mkU
      simp
      rw [zw_of (by omega) (by omega)]
      omega
theorem oK_rep {lo : Int} {A : aA} {b i w : Int} (h : aB lo A) (hl : lo ≤ A.1 0 + 1) (hb : kB A b) (hi : kI A i) (hw : kB A w) (hk : b ≠ w → 1 ≤ A.1 (28 + 8 * b + w)) : oK lo A (aRep A b i w) := by
  unfold kB at hb hw
  unfold kI at hi
  have d := h.1.1
  have g3 := h.1.2.2.2.1
  have l := h.1.2.2.2.2.1 i hi.1 hi.2
  have lk := h.1.2.2.2.2.2.2.1 b w (by omega) (by omega) (by omega) (by omega)
  refine (eK.app h ?_ ?_).o
  · unfold uB mkU
    simp only [reduceIte]
    rw [zw_of (by omega) (by omega)]
    simp
    omega
  · left
    unfold mkU
    simp
    rw [zw_of (by omega) (by omega)]
    omega
theorem oK_ret {lo : Int} {A : aA} {b i w p : Int} (h : aB lo A) (hl : lo ≤ A.1 0 + 1) (hb : kB A b) (hi : kI A i) (hw : kB A w) (p0 : 0 ≤ p) (p1 : p ≤ 9) : oK lo A (aRet A b i w p) := by
  have hb' := hb
  have hi' := hi
  have hw' := hw
  unfold kB at hb hw
  unfold kI at hi
  have d := h.1.1
  have g2 := h.1.2.2.1
  have g3 := h.1.2.2.2.1
  have l := h.1.2.2.2.2.2.1 b hb.1 hb.2
  unfold aRet
  have k1 : oK lo A (aApp A (mkU 0 i 0 0 (zw (A.1 0 + A.1 (20 + b))) 0)) := by
    refine (eK.app h ?_ ?_).o
    · unfold uB mkU
      simp only [reduceIte]
      rw [zw_of (by omega) (by omega)]
      simp
      omega
    · left
      unfold mkU
      simp
      rw [zw_of (by omega) (by omega)]
      omega
  refine k1.trans ?_
  unfold aPlace
  split
  · refine ⟨⟨h.1, k1.1.2.1, h.2.2.1, fun v hv => ?_⟩, fun _ _ => rfl⟩
    rcases List.mem_append.1 hv with h1 | h1
    · exact h.2.2.2 v h1
    · rw [List.mem_singleton.1 h1]
      show oB (A.1 2) (A.1 3) (mkO i w p)
      unfold oB mkO
      simp
      omega
  · have k2 := oK.g k1.1 (j := 124 + 4 * 0 + i) (v := zw (A.1 (124 + 4 * 0 + i) - 1)) (by omega) (by omega) (by omega) (zc_zw _)
    refine k2.trans (eK_sup k2.1 ?_ ?_ ?_).o
    · rw [k2.2 0 (by omega)]; exact hl
    · unfold kB; rw [k2.2 3 (by omega)]; exact hw
    · unfold kI; rw [k2.2 2 (by omega)]; exact hi
theorem aD_buy {n i c : Int} {A : aA} {b j : Int} (h : aD n i c A) (b0 : 1 ≤ b) (j0 : 0 ≤ j) : aD (n + 1) i c (aBuy A b j) := by
  unfold aBuy
  split
  · exact h.mono (by omega)
  · rename_i hn
    have hs := aH_sp hn
    exact ((h.g (by omega) (by omega)).g (by omega) (by omega)).app_o (by unfold mkU; simp; omega)
theorem aD_rep {n i c : Int} {A : aA} {b j w : Int} (h : aD n i c A) (w0 : 1 ≤ w) : aD (n + 1) i c (aRep A b j w) := h.app_o (by unfold mkU; simp; omega)
theorem aD_ret {n i c lo : Int} {A : aA} {b w p : Int} (h : aD n i c A) (hB : aB lo A) (i0 : 0 ≤ i) (i1 : i < 4) (w0 : 1 ≤ w) : aD (n + 1) i c (aRet A b i w p) := by
  unfold aRet
  have e9 : (124 : Int) + 4 * 0 + i = 124 + i := by omega
  have h1 := h.app_d (u := mkU 0 i 0 0 (zw (A.1 0 + A.1 (20 + b))) 0) (by unfold mkU; simp) (by unfold mkU; simp)
  have h0 := h.1 i i0 i1
  have hz := zc_bd (hB.1.2.2.2.2.2.2.2.2 (124 + i) (by omega) (by omega))
  unfold aPlace
  split
  · rename_i hn
    have := h1.oapp (u := mkO i w p) (by unfold mkO; simp) (by rw [e9] at hn; have hn' : A.1 (124 + i) ≤ 0 := hn; show A.1 (124 + i) = 0; omega)
    rw [Int.sub_add_cancel] at this
    exact this
  · rename_i hn
    have hn' : ¬ A.1 (124 + 4 * 0 + i) ≤ 0 := hn
    rw [e9] at hn'
    have h2 := h1.oh (d := -1) (v := zw (A.1 (124 + 4 * 0 + i) - 1)) i0 i1 (by rw [e9, zw_of (by omega) (by omega)]; rfl) (by rw [e9, zw_of (by omega) (by omega)]; omega) (by right; show A.2.2.2.countP (isOd i) = 0; omega)
    have h3 := h2.app_o (u := mkU 2 i w w (zw ((aG (aApp A (mkU 0 i 0 0 (zw (A.1 0 + A.1 (20 + b))) 0)) (124 + 4 * 0 + i) (zw (A.1 (124 + 4 * 0 + i) - 1))).1 0 + (aG (aApp A (mkU 0 i 0 0 (zw (A.1 0 + A.1 (20 + b))) 0)) (124 + 4 * 0 + i) (zw (A.1 (124 + 4 * 0 + i) - 1))).1 (20 + w))) 0) (by unfold mkU; simp; omega)
    rw [show c - 1 - -1 = c from by omega] at h3
    exact h3
theorem oK_end {lo : Int} {A : aA} {n s b i w p : Int} (h : aB lo A) (hl : lo ≤ A.1 0 + 1) (hb : kB A b) (hi : kI A i) (hw : kB A w) (hk : b ≠ w → 1 ≤ A.1 (28 + 8 * b + w)) (p0 : 0 ≤ p) (p1 : p ≤ 9) : oK lo A (aEnd A n s b i w p) := by
  by_cases e : aLoc n s
  · rw [aEnd_y e]; exact oK_rep h hl hb hi hw hk
  · rw [aEnd_n e]; exact oK_ret h hl hb hi hw p0 p1
theorem aD_end {n0 i c lo : Int} {A : aA} {n s b w p : Int} (h : aD n0 i c A) (hB : aB lo A) (i0 : 0 ≤ i) (i1 : i < 4) (w0 : 1 ≤ w) : aD (n0 + 1) i c (aEnd A n s b i w p) := by
  by_cases e : aLoc n s
  · rw [aEnd_y e]; exact aD_rep h w0
  · rw [aEnd_n e]; exact aD_ret h hB i0 i1 w0
/-- the tail of a demand leaves the figures and the customers alone -/
theorem aEnd_f {A : aA} {n s b i w p : Int} (i0 : 0 ≤ i) (i1 : i < 4) : (∀ k, (k < 124 ∨ 128 ≤ k) → (aEnd A n s b i w p).1 k = A.1 k) ∧ (aEnd A n s b i w p).2.2.1 = A.2.2.1 := by
  by_cases e : aLoc n s
  · rw [aEnd_y e]; exact ⟨fun _ _ => rfl, rfl⟩
  · rw [aEnd_n e]
    unfold aRet aPlace
    split
    · exact ⟨fun _ _ => rfl, rfl⟩
    · exact ⟨fun k hk => zup_n (by omega), rfl⟩
theorem aBuy_f {A : aA} {b i : Int} (i0 : 0 ≤ i) (i1 : i < 4) (g3 : A.1 3 ≤ 8) : (∀ k, (k < 124 ∨ (156 ≤ k ∧ k < 380)) → (aBuy A b i).1 k = A.1 k) ∧ (aBuy A b i).2.2.1 = A.2.2.1 := by
  unfold aBuy
  split
  · exact ⟨fun _ _ => rfl, rfl⟩
  · rename_i hn
    have hs := aH_sp hn
    have hd := aH_bd A b i
    exact ⟨fun k hk => by show zup _ _ _ k = _; rw [zup_n (by omega)]; exact zup_n (by omega), rfl⟩
theorem aW.occ {lo m : Int} {A : aA} {b i p : Int} (h : aW lo m A) (hl : lo ≤ A.1 0 + 1) (hb : kB A b) (hi : kI A i) (p0 : 0 ≤ p) (p1 : p ≤ 9) (hU : A.2.1.length < 200) (hC : A.2.2.1.length < 100) (hm : m ≤ 1000000000) : aW lo (m + 1) (aOcc A b i p) ∧ ∀ k, (k < 124 ∨ (156 ≤ k ∧ k < 252)) → (aOcc A b i p).1 k = A.1 k := by
  have hb' := hb
  have hi' := hi
  unfold kB at hb'
  unfold kI at hi'
  have g2 := h.1.1.2.2.1
  have g3 := h.1.1.2.2.2.1
  have hf := h.2.2.2
  have hfb := hf (252 + 4 * b + i) (by omega) (by omega)
  have e32 : (252 : Int) + 4 * b + i + 32 = 284 + 4 * b + i := by omega
  rw [e32] at hfb
  have hD := (h.2.1.rest h.1).zero (j := i)
  have k1 : oK lo A (aDem A b i) := oK.g h.1 (by omega) (by omega) (by omega) (zc_zw _)
  have D1 : aD A.2.1.length i 0 (aDem A b i) := hD.g (by omega) (by omega)
  have z1 : zw (A.1 (252 + 4 * b + i) + 1) = A.1 (252 + 4 * b + i) + 1 := zw_of (by omega) (by omega)
  have z2 : zw (A.1 (284 + 4 * b + i) + 1) = A.1 (284 + 4 * b + i) + 1 := zw_of (by omega) (by omega)
  have kBt (B : aA) (hB : oK lo A B) (c : Int) (hc : kB A c) : kB B c := by unfold kB; rw [hB.2 3 (by omega)]; exact hc
  have kIt (B : aA) (hB : oK lo A B) : kI B i := by unfold kI; rw [hB.2 2 (by omega)]; exact hi
  have lt (B : aA) (hB : oK lo A B) : lo ≤ B.1 0 + 1 := by rw [hB.2 0 (by omega)]; exact hl
  unfold aOcc
  split
  · have k2 : oK lo A (aHit (aDem A b i) b i) := by
      have k3 := k1.trans (oK.g k1.1 (j := 124 + 4 * b + i) (v := zw ((aDem A b i).1 (124 + 4 * b + i) - 1)) (by omega) (by omega) (by omega) (zc_zw _))
      exact k3.trans (oK.g k3.1 (by omega) (by omega) (by omega) (zc_zw _))
    have D2 : aD A.2.1.length i 0 (aHit (aDem A b i) b i) := (D1.g (by omega) (by omega)).g (by omega) (by omega)
    have k4 := oK_end (n := zw (A.1 (252 + 4 * b + i) + 1)) (s := A.1 (188 + 4 * b + i)) k2.1 (lt _ k2) (kBt _ k2 b hb) (kIt _ k2) (kBt _ k2 b hb) (fun hh => absurd rfl hh) p0 p1
    have D4 := aD_end (n := zw (A.1 (252 + 4 * b + i) + 1)) (s := A.1 (188 + 4 * b + i)) (b := b) (p := p) D2 k2.1 hi'.1 (by omega) hb'.1
    have f4 := aEnd_f (A := aHit (aDem A b i) b i) (n := zw (A.1 (252 + 4 * b + i) + 1)) (s := A.1 (188 + 4 * b + i)) (b := b) (w := b) (p := p) hi'.1 (by omega)
    refine ⟨⟨k4.1, (D4.mono (by omega)).zero, ?_, fun j j0 j1 => ?_⟩, (k2.trans k4).2⟩
    · rw [f4.2]; exact h.2.2.1
    · rw [f4.1 j (by omega), f4.1 (j + 32) (by omega)]
      have hfj := hf j j0 j1
      unfold aHit
      rw [aG_n (j := j) (by omega), aG_n (j := j) (by omega)]
      by_cases e : j = 252 + 4 * b + i
      · subst e
        rw [e32, aG_s]
        unfold aDem
        rw [aG_s, aG_n (by omega), z1, z2]
        omega
      · rw [aG_n (j := j + 32) (by omega), aG_n (j := j + 32) (by omega)]
        unfold aDem
        rw [aG_n e, aG_n (by omega)]
        omega
  · have k2 := k1.trans (oK_cust k1.1 (kBt _ k1 b hb) (kIt _ k1) p0 p1)
    have k3 := k2.trans (oK_buy k2.1 (lt _ k2) (kBt _ k2 b hb) (kIt _ k2))
    have D2 : aD A.2.1.length i 0 (aCust (aDem A b i) b i p) := D1
    have D3 := aD_buy (b := b) (j := i) D2 hb'.1 hi'.1
    have f3 := aBuy_f (A := aCust (aDem A b i) b i p) (b := b) (i := i) hi'.1 (by omega) (by rw [k2.2 3 (by omega)]; omega)
    have hw : kB A (aBr (aCust (aDem A b i) b i p) b i) ∧ (b ≠ aBr (aCust (aDem A b i) b i p) b i → 1 ≤ A.1 (28 + 8 * b + aBr (aCust (aDem A b i) b i p) b i)) := by
      unfold aBr
      split
      · exact ⟨hb, fun hh => absurd rfl hh⟩
      · rename_i hn
        have hs := aH_sp hn
        have hd := aH_bd (aCust (aDem A b i) b i p) b i
        rw [k2.2 3 (by omega)] at hd
        rw [k2.2 (28 + 8 * b + aH (aCust (aDem A b i) b i p) b i) (by omega)] at hs
        exact ⟨⟨hs.1, by omega⟩, fun _ => hs.2.2.1⟩
    have hw1 := hw.1
    unfold kB at hw1
    have k4 := oK_end (n := zw (A.1 (252 + 4 * b + i) + 1)) (s := A.1 (188 + 4 * b + i)) k3.1 (lt _ k3) (kBt _ k3 b hb) (kIt _ k3) (kBt _ k3 _ hw.1) (by rw [k3.2 _ (by omega)]; exact hw.2) p0 p1
    have D4 := aD_end (n := zw (A.1 (252 + 4 * b + i) + 1)) (s := A.1 (188 + 4 * b + i)) (b := b) (p := p) D3 k3.1 hi'.1 (by omega) hw1.1
    have f4 := aEnd_f (A := aBuy (aCust (aDem A b i) b i p) b i) (n := zw (A.1 (252 + 4 * b + i) + 1)) (s := A.1 (188 + 4 * b + i)) (b := b) (w := aBr (aCust (aDem A b i) b i p) b i) (p := p) hi'.1 (by omega)
    refine ⟨⟨k4.1, (D4.mono (by omega)).zero, ?_, fun j j0 j1 => ?_⟩, (k3.trans k4).2⟩
    · rw [f4.2, f3.2]; show (A.2.2.1 ++ [_]).length ≤ 100; simp; omega
    · rw [f4.1 j (by omega), f4.1 (j + 32) (by omega), f3.1 j (by omega), f3.1 (j + 32) (by omega)]
      have hfj := hf j j0 j1
      show 0 ≤ (aDem A b i).1 (j + 32) ∧ (aDem A b i).1 (j + 32) ≤ (aDem A b i).1 j ∧ (aDem A b i).1 j ≤ m + 1
      unfold aDem
      by_cases e : j = 252 + 4 * b + i
      · subst e
        rw [aG_s, aG_n (by omega), z1]
        omega
      · rw [aG_n e, aG_n (by omega)]
        omega
