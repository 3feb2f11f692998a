/-! a level -/
def aLvS (s i : Int) (A : aA) : aA := if s = 0 then aFill A i else aCome A s i
def aLvN (s i : Int) : Nat → aA → aA
  | 0, A => A
  | n + 1, A => aLvS s i (aLvN s i n A)
def aLv (A : aA) (s i v : Int) : aA := if v < A.1 (92 + 4 * s + i) then aG (aG A (92 + 4 * s + i) v) (124 + 4 * s + i) (zw (A.1 (124 + 4 * s + i) + (v - A.1 (92 + 4 * s + i)))) else aLvN s i (v - A.1 (92 + 4 * s + i)).toNat (aG A (92 + 4 * s + i) v)
theorem aG_id {A : aA} {j : Int} : aG A j (A.1 j) = A := by
  have : zup A.1 j (A.1 j) = A.1 := by
    funext k
    unfold zup
    split
    · rename_i e; rw [e]
    · rfl
  unfold aG
  rw [this]
theorem aB.lvl {lo : Int} {A : aA} (h : aB lo A) {j v : Int} (h0 : 92 ≤ j) (h1 : j < 124) (v0 : 0 ≤ v) (v1 : v ≤ 20) : aB lo (aG A j v) := by
  obtain ⟨⟨a0, a1, a2, a3, a4, a5, a6, a7, a8⟩, b2, b3, b4⟩ := h
  have n (i : Int) (hi : i ≠ j) : (aG A j v).1 i = A.1 i := aG_n hi
  refine ⟨⟨?_, ?_, ?_, ?_, fun i i0 i1 => ?_, fun s s0 s1 => ?_, fun b o b0 b1 o0 o1 => ?_, fun k k0 k1 => ?_, fun k k0 k1 => ?_⟩, ?_, ?_, ?_⟩
  · rw [n 0 (by omega)]; exact a0
  · rw [n 1 (by omega)]; exact a1
  · rw [n 2 (by omega)]; exact a2
  · rw [n 3 (by omega)]; exact a3
  · rw [n 2 (by omega)] at i1
    rw [n _ (by omega), n _ (by omega), n _ (by omega)]; exact a4 i i0 i1
  · rw [n 3 (by omega)] at s1
    rw [n _ (by omega)]; exact a5 s s0 s1
  · rw [n _ (by omega)]; exact a6 b o b0 b1 o0 o1
  · by_cases e : k = j
    · rw [e, aG_s]; exact ⟨v0, v1⟩
    · rw [n k e]; exact a7 k k0 k1
  · by_cases e : k = j
    · rw [e, aG_s]; exact zc_of (by omega) (by omega)
    · rw [n k e]; exact a8 k k0 k1
  · rw [n 0 (by omega), n 2 (by omega), n 3 (by omega)]; exact b2
  · rw [n 0 (by omega), n 2 (by omega), n 3 (by omega)]; exact b3
  · rw [n 2 (by omega), n 3 (by omega)]; exact b4
def kS (A : aA) (s : Int) : Prop := 0 ≤ s ∧ s < A.1 3
/-- in the middle of a level's change: c units are still to come -/
def vI (lo s i c : Int) (A B : aA) : Prop := eK lo A B ∧ aD 201 (if s = 0 then i else 0) (if s = 0 then c else 0) B
theorem vI.go {lo s i c : Int} {A B : aA} (h : vI lo s i c A B) (hl : lo ≤ A.1 0 + 1) (hs : kS A s) (hi : kI A i) (hc : 1 ≤ c) : vI lo s i (c - 1) A (aLvS s i B) := by
  obtain ⟨h1, h2⟩ := h
  have g2 := h1.1.1.2.2.1
  have e0 := h1.2.1 0 (by omega)
  have e2 := h1.2.1 2 (by omega)
  have e3 := h1.2.1 3 (by omega)
  have hi' : kI B i := by unfold kI; rw [e2]; exact hi
  have hi2 := hi'
  unfold kI at hi2
  unfold aLvS vI
  by_cases e : s = 0
  · rw [if_pos e, if_pos e, if_pos e]
    rw [if_pos e, if_pos e] at h2
    exact ⟨h1.trans (eK_fill h1.1 (by rw [e0]; exact hl) hi'), aD_fill h2 h1.1 hi2.1 (by omega) hc⟩
  · rw [if_neg e, if_neg e, if_neg e]
    rw [if_neg e, if_neg e] at h2
    unfold kS at hs
    exact ⟨h1.trans (eK_come h1.1 ⟨by omega, by omega⟩ hi'), aD_come h2 (by omega) hi2.1⟩
theorem vI.n {lo s i c : Int} {A B : aA} (h : vI lo s i c A B) (hl : lo ≤ A.1 0 + 1) (hs : kS A s) (hi : kI A i) (n : Nat) (hc : n ≤ c) : vI lo s i (c - n) A (aLvN s i n B) := by
  induction n with
  | zero => rw [show c - ((0 : Nat) : Int) = c from by omega]; exact h
  | succ n ih =>
    have := (ih (by omega)).go hl hs hi (by omega)
    rw [show c - ((n + 1 : Nat) : Int) = c - n - 1 from by omega]
    exact this
theorem vI.b {lo m s i v : Int} {A : aA} (h : aW lo m A) (hs : kS A s) (hi : kI A i) (v0 : 0 ≤ v) (v1 : v ≤ 20) : aB lo (aG A (92 + 4 * s + i) v) ∧ aD 201 (if s = 0 then i else 0) (if s = 0 then v - A.1 (92 + 4 * s + i) else 0) (aG A (92 + 4 * s + i) v) := by
  have g2 := h.1.1.2.2.1
  have g3 := h.1.1.2.2.2.1
  unfold kS at hs
  unfold kI at hi
  refine ⟨h.1.lvl (by omega) (by omega) v0 v1, ?_⟩
  by_cases e : s = 0
  · subst e
    rw [if_pos rfl, if_pos rfl]
    have := (h.2.1.zero (j := i)).lv (v := v) hi.1 (by omega)
    rw [Int.zero_add] at this
    exact this
  · rw [if_neg e, if_neg e]
    exact h.2.1.g (by omega) (by omega)
theorem aW.lv {lo m s i v : Int} {A : aA} (h : aW lo m A) (hl : lo ≤ A.1 0 + 1) (hs : kS A s) (hi : kI A i) (v0 : 0 ≤ v) (v1 : v ≤ 20) (hv : A.1 (92 + 4 * s + i) - v ≤ A.1 (124 + 4 * s + i)) : aW lo m (aLv A s i v) ∧ ∀ j, (j < 92 ∨ (156 ≤ j ∧ j < 316)) → (aLv A s i v).1 j = A.1 j := by
  obtain ⟨b1, b2⟩ := vI.b h hs hi v0 v1
  have hs' := hs
  have hi' := hi
  unfold kS at hs'
  unfold kI at hi'
  have g2 := h.1.1.2.2.1
  have g3 := h.1.1.2.2.2.1
  have lvb := h.1.1.2.2.2.2.2.2.2.1 (92 + 4 * s + i) (by omega) (by omega)
  have zb := zc_bd (h.1.1.2.2.2.2.2.2.2.2 (124 + 4 * s + i) (by omega) (by omega))
  unfold aLv
  split
  · rename_i hn
    refine ⟨⟨b1.g (by omega) (by omega) (zc_zw _), ?_, h.2.2.1, fun j j0 j1 => ?_⟩, fun j hj => ?_⟩
    · by_cases e : s = 0
      · subst e
        rw [if_pos rfl, if_pos rfl] at b2
        have hd := h.2.1.1 i hi'.1 (by omega)
        have e9 : (124 : Int) + 4 * 0 + i = 124 + i := by omega
        rw [e9] at hv zb
        have := b2.oh (d := v - A.1 (92 + 4 * 0 + i)) (v := zw (A.1 (124 + 4 * 0 + i) + (v - A.1 (92 + 4 * 0 + i)))) hi'.1 (by omega) (by rw [aG_n (by omega), e9, zw_of (by omega) (by omega)]) (by rw [e9, zw_of (by omega) (by omega)]; omega) (by right; show A.2.2.2.countP (isOd i) = 0; omega)
        rw [Int.sub_self] at this
        exact this.zero
      · rw [if_neg e, if_neg e] at b2
        exact b2.g (by omega) (by omega)
    · rw [aG_n (by omega), aG_n (by omega), aG_n (by omega), aG_n (by omega)]; exact h.2.2.2 j j0 j1
    · rw [aG_n (by omega), aG_n (by omega)]
  · rename_i hn
    have hl1 : lo ≤ (aG A (92 + 4 * s + i) v).1 0 + 1 := by rw [aG_n (by omega)]; exact hl
    have hs1 : kS (aG A (92 + 4 * s + i) v) s := by unfold kS; rw [aG_n (by omega)]; exact hs
    have hi1 : kI (aG A (92 + 4 * s + i) v) i := by unfold kI; rw [aG_n (by omega)]; exact hi
    have := vI.n ⟨eK.refl b1, b2⟩ hl1 hs1 hi1 (v - A.1 (92 + 4 * s + i)).toNat (by omega)
    obtain ⟨k, d⟩ := this
    rw [show v - A.1 (92 + 4 * s + i) - ((v - A.1 (92 + 4 * s + i)).toNat : Nat) = 0 from by omega, ite_self] at d
    refine ⟨⟨k.1, d.zero, Nat.le_trans k.2.2.1 h.2.2.1, fun j j0 j1 => ?_⟩, fun j hj => ?_⟩
    · rw [k.2.1 j (by omega), k.2.1 (j + 32) (by omega), aG_n (by omega), aG_n (by omega)]; exact h.2.2.2 j j0 j1
    · rw [k.2.1 j (by omega), aG_n (by omega)]
section LVL
variable {g : zG} {S : zSh} {im0 : zIm} {a : Nat}
theorem c_lv_loop (G : zOK g) (hS : zS_M S a) {lo m s i c : Int} {A : aA} (hV : vI lo s i c A A) (hz : A.2.2.1.length ≤ 100 ∧ A.2.2.2.length ≤ 281) (hl : lo ≤ A.1 0 + 1) (hs : kS A s) (hi : kI A i) (c0 : 0 ≤ c) (c1 : c ≤ 20) {Q : zIm → Prop} (hQ : ∀ im', mS a im0 im' (aLvN s i c.toNat A) → Q im') :
    ∀ (n k : Nat) (im : zIm), (k : Int) + n = c → mS a im0 im (aLvN s i k A) → zPV g M_X8_putLevel 32 [(0, .ref a), (1, .int (zi s)), (2, .int (zi i)), (4, .int (zi c)), (5, .int (zi k))] S im Q := by
  have hs' := hs
  have hi' := hi
  unfold kS at hs'
  unfold kI at hi'
  have g2 := hV.1.1.1.2.2.1
  have g3 := hV.1.1.1.2.2.2.1
  intro n
  induction n with
  | zero =>
    intro k im hk hM
    refine v_X8_putLevel_32 G hS (zc_of (by omega) (by omega)) (zc_of (by omega) (by omega)) (zc_of (by omega) (by omega)) (zc_of (by omega) (by omega)) ⟨fun _ => ?_, fun h => absurd h (by omega)⟩
    refine c_at G (by omega) (by omega) (by omega) (by omega) (by omega) (by omega) ⟨⟨by omega, by omega⟩, fun im1 e1 => ?_⟩
    have hk' := hV.n hl hs hi k (by omega)
    have zb : zc ((aLvN s i k A).1 (124 + 4 * s + i)) := hk'.1.1.1.2.2.2.2.2.2.2.2 _ (by omega) (by omega)
    rw [hM.g (by omega) (by omega), show min c 0 = 0 from by omega, Int.add_zero, zb] at e1
    have h1 := hM.u e1 (by omega) (by omega)
    rw [aG_id] at h1
    rw [show c.toNat = k from by omega] at hQ
    exact hQ im1 h1
  | succ n ih =>
    intro k im hk hM
    have hk' := hV.n hl hs hi k (by omega)
    have e2 := hk'.1.2.1 2 (by omega)
    have sz : (aLvN s i k A).2.1.length ≤ 201 + 80 := by
      have := hk'.2.szU (by split <;> omega) hk'.1.1
      omega
    have szC := hk'.1.2.2.1
    have szO := hk'.1.2.2.2.1
    have hF : aFit (aLvN s i k A) := ⟨by omega, by omega, by omega⟩
    refine v_X8_putLevel_32 G hS (zc_of (by omega) (by omega)) (zc_of (by omega) (by omega)) (zc_of (by omega) (by omega)) (zc_of (by omega) (by omega)) ⟨fun h => absurd h (by omega), fun _ => ?_⟩
    rw [zwS (k := k) (by omega)]
    refine ⟨fun e => ?_, fun e => ?_⟩
    · refine c_comeToBase G hS hM hF (by omega) (by omega) (by omega) (by omega) (fun im1 h1 => ih (k + 1) im1 (by omega) ?_)
      show mS a im0 im1 (aLvS s i (aLvN s i k A))
      unfold aLvS
      rw [if_neg e]
      exact h1
    · refine c_fillOrder G hS hM hF (by omega) hk'.1.1.2.2.2 hk'.1.1.1 (by omega) (by omega) (fun im1 h1 => ih (k + 1) im1 (by omega) ?_)
      show mS a im0 im1 (aLvS s i (aLvN s i k A))
      unfold aLvS
      rw [if_pos e]
      exact h1
theorem c_putLevel (G : zOK g) (hS : zS_M S a) {lo m s i v : Int} {A : aA} {im : zIm} (hM : mS a im0 im A) (hW : aW lo m A) (hl : lo ≤ A.1 0 + 1) (hs : kS A s) (hi : kI A i) (v0 : 0 ≤ v) (v1 : v ≤ 20) {Q : zIm → Prop} (hQ : ∀ im', mS a im0 im' (aLv A s i v) → Q im') : zCV g yX8_putLevel M_X8_putLevel [.ref a, .int (zi s), .int (zi i), .int (zi v)] S im Q := by
  obtain ⟨b1, b2⟩ := vI.b hW hs hi v0 v1
  have hs' := hs
  have hi' := hi
  unfold kS at hs'
  unfold kI at hi'
  have sz := hW.sz
  have g2 := hW.1.1.2.2.1
  have g3 := hW.1.1.2.2.2.1
  have lvb := hW.1.1.2.2.2.2.2.2.2.1 (92 + 4 * s + i) (by omega) (by omega)
  refine v_X8_putLevel G hS (zc_of (by omega) (by omega)) (zc_of (by omega) (by omega)) (zc_of (by omega) (by omega)) ?_
  refine c_at G (by omega) (by omega) (by omega) (by omega) (by omega) (by omega) ⟨⟨by omega, by omega⟩, ?_⟩
  refine c_at G (by omega) (by omega) (by omega) (by omega) (by omega) (by omega) ⟨⟨by omega, by omega⟩, fun im1 e1 => ?_⟩
  have h1 := hM.u e1 (by omega) (by omega)
  rw [hM.g (by omega) (by omega), zw_of (by omega) (by omega)]
  unfold aLv at hQ
  by_cases hn : v < A.1 (92 + 4 * s + i)
  · rw [if_pos hn] at hQ
    refine v_X8_putLevel_32 G hS (zc_of (by omega) (by omega)) (zc_of (by omega) (by omega)) (zc_of (by omega) (by omega)) zc_0 ⟨fun _ => ?_, fun h => absurd h (by omega)⟩
    refine c_at G (by omega) (by omega) (by omega) (by omega) (by omega) (by omega) ⟨⟨by omega, by omega⟩, fun im2 e2 => ?_⟩
    rw [h1.g (by omega) (by omega), aG_n (by omega), show min (v - A.1 (92 + 4 * s + i)) 0 = v - A.1 (92 + 4 * s + i) from by omega] at e2
    exact hQ im2 (h1.u e2 (by omega) (by omega))
  · rw [if_neg hn] at hQ
    have hl1 : lo ≤ (aG A (92 + 4 * s + i) v).1 0 + 1 := by rw [aG_n (by omega)]; exact hl
    have hs1 : kS (aG A (92 + 4 * s + i) v) s := by unfold kS; rw [aG_n (by omega)]; exact hs
    have hi1 : kI (aG A (92 + 4 * s + i) v) i := by unfold kI; rw [aG_n (by omega)]; exact hi
    exact c_lv_loop (m := m) G hS (c := v - A.1 (92 + 4 * s + i)) ⟨eK.refl b1, b2⟩ ⟨sz.2.1, sz.2.2⟩ hl1 hs1 hi1 (by omega) (by omega) hQ (v - A.1 (92 + 4 * s + i)).toNat 0 im1 (by omega) h1
end LVL
