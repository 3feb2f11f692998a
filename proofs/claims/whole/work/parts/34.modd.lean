theorem gB.up {G : aR} (h : gB G) {j v : Int} (h0 : 124 ≤ j) (h1 : j < 412) (cv : zc v) : gB (zup G j v) := by
  unfold gB at h ⊢
  obtain ⟨a0, a1, a2, a3, a4, a5, a6, a7, a8⟩ := h
  have n (i : Int) (hi : i < 124) : zup G j v i = G i := zup_n (by omega)
  rw [n 0 (by omega), n 1 (by omega), n 2 (by omega), n 3 (by omega)]
  refine ⟨a0, a1, a2, a3, fun i i0 i1 => ?_, fun s s0 s1 => ?_, fun b o b0 b1 o0 o1 => ?_, fun k k0 k1 => ?_, fun k k0 k1 => ?_⟩
  · rw [n _ (by omega), n _ (by omega), n _ (by omega)]; exact a4 i i0 i1
  · rw [n _ (by omega)]; exact a5 s s0 s1
  · rw [n _ (by omega)]; exact a6 b o b0 b1 o0 o1
  · rw [n _ (by omega)]; exact a7 k k0 k1
  · unfold zup
    split
    · exact cv
    · exact a8 k k0 k1
theorem aEnd_y {A : aA} {n s b i w p : Int} (h : aLoc n s) : aEnd A n s b i w p = aRep A b i w := if_pos h
theorem aEnd_n {A : aA} {n s b i w p : Int} (h : ¬ aLoc n s) : aEnd A n s b i w p = aRet A b i w p := if_neg h
theorem ln_app (A : aA) (u : aR) : (aApp A u).2.1.length = A.2.1.length + 1 := by simp [aApp]
theorem ln_buy (A : aA) (b i : Int) : (aBuy A b i).2.1.length ≤ A.2.1.length + 1 ∧ (aBuy A b i).2.2 = A.2.2 := by
  unfold aBuy
  split
  · exact ⟨by omega, rfl⟩
  · rw [ln_app]; exact ⟨Nat.le_refl _, rfl⟩
theorem cnt_take {l : List aR} {f : aR → Bool} {k : Nat} (h : k < l.length) : (l.take (k + 1)).countP f = (l.take k).countP f + (if f (rg l k) = true then 1 else 0) := by
  have e : l.take (k + 1) = l.take k ++ [rg l k] := by
    rw [List.take_add_one]
    unfold rg
    rw [List.getD_eq_getElem?_getD, List.getElem?_eq_getElem h]
    rfl
  rw [e, List.countP_append, List.countP_singleton]
theorem cnt_le {l : List aR} {f : aR → Bool} {k : Nat} : (l.take k).countP f ≤ l.length := Nat.le_trans List.countP_le_length (by simp; omega)
theorem zwN {k : Nat} (h : k < 1000000) : zw ((k : Int) + 0) = ((k + 0 : Nat) : Int) := by rw [zw_of (by omega) (by omega)]; omega
/-- the first below n -/
noncomputable def fstP (p : Nat → Prop) : Nat → Int
  | 0 => -1
  | n + 1 => @ite _ (fstP p n = -1 ∧ p n) (Classical.propDecidable _) (n : Int) (fstP p n)
theorem fstP_y {p : Nat → Prop} {n : Nat} (h : fstP p n = -1) (h' : p n) : fstP p (n + 1) = n := by rw [fstP]; exact if_pos ⟨h, h'⟩
theorem fstP_n {p : Nat → Prop} {n : Nat} (h : ¬ p n) : fstP p (n + 1) = fstP p n := by rw [fstP]; exact if_neg (fun hh => h hh.2)
theorem fstP_k {p : Nat → Prop} {n : Nat} (h : ¬ fstP p n = -1) : fstP p (n + 1) = fstP p n := by rw [fstP]; exact if_neg (fun hh => h hh.1)
theorem fstP_bd (p : Nat → Prop) (n : Nat) : -1 ≤ fstP p n ∧ fstP p n < n := by
  induction n with
  | zero => rw [fstP]; omega
  | succ n ih => rw [fstP]; split <;> omega
theorem fstP_sp (p : Nat → Prop) (n : Nat) : (fstP p n = -1 ∧ ∀ j, j < n → ¬ p j) ∨ (∃ m : Nat, fstP p n = m ∧ m < n ∧ p m ∧ ∀ j, j < m → ¬ p j) := by
  induction n with
  | zero => exact Or.inl ⟨by rw [fstP], fun j hj => absurd hj (by omega)⟩
  | succ n ih =>
    rcases ih with ⟨h, h'⟩ | ⟨m, h1, h2, h3, h4⟩
    · by_cases hp : p n
      · exact Or.inr ⟨n, fstP_y h hp, by omega, hp, h'⟩
      · refine Or.inl ⟨by rw [fstP_n hp]; exact h, fun j hj => ?_⟩
        by_cases e : j = n
        · rw [e]; exact hp
        · exact h' j (by omega)
    · exact Or.inr ⟨m, by rw [fstP_k (by omega)]; exact h1, by omega, h3, h4⟩
theorem fstP_of {p : Nat → Prop} {m n : Nat} (h : ∀ j, j < m → ¬ p j) (hp : p m) (hn : m < n) : fstP p n = m := by
  rcases fstP_sp p n with ⟨_, h'⟩ | ⟨k, h1, h2, h3, h4⟩
  · exact absurd hp (h' m hn)
  · have : k = m := by
      rcases Nat.lt_trichotomy k m with x | x | x
      · exact absurd h3 (h k x)
      · exact x
      · exact absurd hp (h4 m x)
    rw [h1, this]
theorem fstP_no {p : Nat → Prop} {n : Nat} (h : ∀ j, j < n → ¬ p j) : fstP p n = -1 := by
  rcases fstP_sp p n with ⟨h', _⟩ | ⟨k, h1, h2, h3, h4⟩
  · exact h'
  · exact absurd h3 (h k h2)
def isDR (i : Int) (u : aR) : Bool := decide (u 0 = 1) && decide (u 1 = i) && decide (u 2 = 0)
def aRD (A : aA) (i : Int) : aA := aApp A (mkU 1 i 0 0 (zw (A.1 0 + A.1 (8 + 3 * i + 0))) 0)
def aER (A : aA) (i : Int) : aA := if A.1 (8 + 3 * i + 1) ≤ A.2.1.countP (isDR i) then aApp A (mkU 4 i 0 0 0 0) else aRD A i
noncomputable def fW (A : aA) (i : Int) : Int := fstP (fun k => rg A.2.1 k 0 = 4 ∧ rg A.2.1 k 1 = i) A.2.1.length
def aCut (A : aA) (k : Nat) : aA := (A.1, A.2.1.eraseIdx k, A.2.2)
noncomputable def aFree (A : aA) (i : Int) : aA := if fW A i = -1 then A else aRD (aCut A (fW A i).toNat) i
noncomputable def aED (A : aA) (i : Int) : aA := aFill (aFree A i) i
def aEL (A : aA) (i b o l : Int) : aA := if o = b then aCome A b i else aApp A (mkU 3 i o o (zw (A.1 0 + (if A.1 (28 + 8 * b + o) ≤ 0 then l else A.1 (28 + 8 * b + o)))) 0)
noncomputable def fD (A : aA) (k : Int) : Int := fstP (fun j => rg A.2.1 j 0 = k ∧ rg A.2.1 j 4 = A.1 0) A.2.1.length
noncomputable def aEu (A : aA) (u : aR) : aA := if u 0 = 0 then aER A (u 1) else if u 0 = 1 ∧ u 2 = 0 then aED A (u 1) else if u 0 = 1 then aEL A (u 1) (u 2) (u 3) (u 5) else aCome A (u 3) (u 1)
noncomputable def aE (A : aA) (k : Nat) : aA := aEu (aCut A k) (rg A.2.1 k)
section MD2
variable {g : zG} {S : zSh} {im im0 : zIm} {a : Nat} {A : aA}
theorem c_tloc (G : zOK g) (hS : zS_M S a) (hM : mS a im0 im A) (hG : gB A.1) (hU : A.2.1.length ≤ 758) {b i w : Int} {Q : zIm → Prop} (b0 : 0 ≤ b) (b1 : b < 8) (i0 : 0 ≤ i) (i1 : i < 4) (w0 : 0 ≤ w) (w1 : w < 8) (hQ : ∀ im', mS a im0 im' (aRep A b i w) → Q im') :
    zCI g yX8_item M_X8_item [.ref a, .int (zi i), .int (zi 2)] S im (fun r29 im30 => zCI g yX8_link M_X8_link [.ref a, .int (zi b), .int (zi w)] S im30 (fun r32 im33 => zCV g yX8_appendUnit M_X8_appendUnit [.ref a, .int (zi 1), .int (zi i), .int (zi b), .int (zi w), .int (zi (zw ((im (a + 1) 0) + r29))), .int (zi r32)] S im33 (fun im35 => Q im35))) := by
  have l1 := hG.2.2.2.2.2.2.1 b w b0 b1 w0 w1
  refine c_item G hS i0 i1 (by omega) (by omega) ?_
  refine c_link G hS b0 b1 w0 w1 ?_
  rw [hM.h (i := 0) (by omega) (by omega), hM.g (i := 8 + 3 * i + 2) (by omega) (by omega), hM.g (i := 28 + 8 * b + w) (by omega) (by omega)]
  exact c_appendUnit G hS hM.2 hU (zc_of (by omega) (by omega)) (zc_of (by omega) (by omega)) (zc_of (by omega) (by omega)) (zc_of (by omega) (by omega)) (zc_zw _) (zc_of (by omega) (by omega)) (fun r hr => hQ _ (hM.to hr))
theorem c_tret (G : zOK g) (hS : zS_M S a) (hM : mS a im0 im A) (hU : A.2.1.length ≤ 757) (hC : A.2.2.1.length ≤ 109) (hO : A.2.2.2.length ≤ 758) {b i w p : Int} {Q : zIm → Prop} (b0 : 0 ≤ b) (b1 : b < 8) (i0 : 0 ≤ i) (i1 : i < 4) (w0 : 0 ≤ w) (w1 : w < 8) (cp : zc p) (hQ : ∀ im', mS a im0 im' (aRet A b i w p) → Q im') :
    ((0 ≤ (zw (20 + b)) ∧ (zw (20 + b)) < 7692) ∧ zCV g yX8_appendUnit M_X8_appendUnit [.ref a, .int (zi 0), .int (zi i), .int (zi 0), .int (zi 0), .int (zi (zw ((im (a + 1) 0) + (im (a + 1) (zw (20 + b)))))), .int (zi 0)] S im (fun im31 => zCV g yX8_placeOrder M_X8_placeOrder [.ref a, .int (zi w), .int (zi i), .int (zi p)] S im31 (fun im33 => Q im33))) := by
  rw [zw_of (n := 20 + b) (by omega) (by omega), hM.h (i := 0) (by omega) (by omega), hM.g (i := 20 + b) (by omega) (by omega)]
  refine ⟨⟨by omega, by omega⟩, c_appendUnit G hS hM.2 (by omega) zc_0 (zc_of (by omega) (by omega)) zc_0 zc_0 (zc_zw _) zc_0 (fun r hr => ?_)⟩
  exact c_placeOrder G hS (hM.to hr) (by simp only [List.length_append, List.length_singleton]; omega) hC hO w0 w1 i0 i1 cp hQ
theorem c_occur (G : zOK g) (hS : zS_M S a) (hM : mS a im0 im A) (hG : gB A.1) (hU : A.2.1.length ≤ 700) (hC : A.2.2.1.length ≤ 100) (hO : A.2.2.2.length ≤ 700) {b i p : Int} {Q : Int → zIm → Prop} (b0 : 0 ≤ b) (b1 : b < 8) (i0 : 0 ≤ i) (i1 : i < 4) (cp : zc p) (hQ : ∀ im', mS a im0 im' (aOcc A b i p) → Q (if 0 < A.1 (124 + 4 * b + i) then 1 else 0) im') : zCI g yX8_occur M_X8_occur [.ref a, .int (zi b), .int (zi i), .int (zi p)] S im Q := by
  have h3 := hG.2.2.2.1
  refine v_X8_occur G hS (zc_of (by omega) (by omega)) (zc_of (by omega) (by omega)) cp ?_
  refine c_at G (by omega) (by omega) b0 b1 i0 i1 ⟨⟨by omega, by omega⟩, fun im1 e1 => ?_⟩
  rw [hM.g (by omega) (by omega)] at e1
  have h1 : mS a im0 im1 (aDem A b i) := hM.u e1 (by omega) (by omega)
  have q0 : (aDem A b i).1 (124 + 4 * b + i) = A.1 (124 + 4 * b + i) := aG_n (by omega)
  refine c_at G (by omega) (by omega) b0 b1 i0 i1 ⟨⟨by omega, by omega⟩, ?_⟩
  refine c_at G (by omega) (by omega) b0 b1 i0 i1 ⟨⟨by omega, by omega⟩, ?_⟩
  have q1 : im1 (a + 1) (252 + 4 * b + i) = zw (A.1 (252 + 4 * b + i) + 1) := by rw [h1.g (by omega) (by omega)]; exact aG_s
  have q2 : im1 (a + 1) (188 + 4 * b + i) = A.1 (188 + 4 * b + i) := by rw [h1.g (by omega) (by omega)]; exact aG_n (by omega)
  have q3 : im1 (a + 1) (124 + 4 * b + i) = A.1 (124 + 4 * b + i) := by rw [h1.g (by omega) (by omega)]; exact q0
  rw [q1, q2]
  have miss (hm : A.1 (124 + 4 * b + i) ≤ 0) (Q' : Int → zIm → Prop) (hq : ∀ im', mS a im0 im' (aBuy (aCust (aDem A b i) b i p) b i) → Q' (aBr (aCust (aDem A b i) b i p) b i) im') : zCV g yX8_appendCustomer M_X8_appendCustomer [.ref a, .int (zi b), .int (zi i), .int (zi p)] S im1 (fun im23 => zCI g yX8_findBuyer M_X8_findBuyer [.ref a, .int (zi b), .int (zi i)] S im23 Q') := by
    refine c_appendCustomer G hS h1 (by show A.2.2.1.length ≤ 108; omega) (by show A.2.1.length ≤ 759; omega) (zc_of (by omega) (by omega)) (zc_of (by omega) (by omega)) cp (fun im2 h2 => ?_)
    exact c_findBuyer G hS h2 (hG.up (by omega) (by omega) (zc_zw _)) (by show A.2.1.length ≤ 758; omega) b0 b1 i0 i1 hq
  have hlb := ln_buy (aCust (aDem A b i) b i p) b i
  have hl1 : (aCust (aDem A b i) b i p).2.1.length = A.2.1.length := rfl
  have hl2 : (aBuy (aCust (aDem A b i) b i p) b i).2.2.1.length = A.2.2.1.length + 1 := by rw [hlb.2]; simp [aCust, aDem, aG]
  have hl3 : (aBuy (aCust (aDem A b i) b i p) b i).2.2.2.length = A.2.2.2.length := by rw [hlb.2]; rfl
  have hGc : gB (aCust (aDem A b i) b i p).1 := hG.up (by omega) (by omega) (zc_zw _)
  have hGb : gB (aBuy (aCust (aDem A b i) b i p) b i).1 := by
    unfold aBuy
    split
    · exact hGc
    · rename_i hn
      have hs := aH_sp hn
      have hb := aH_bd (aCust (aDem A b i) b i p) b i
      have h3' := hGc.2.2.2.1
      exact (hGc.up (by omega) (by omega) (zc_zw _)).up (by omega) (by omega) (zc_zw _)
  have hw : 0 ≤ aBr (aCust (aDem A b i) b i p) b i ∧ aBr (aCust (aDem A b i) b i p) b i < 8 := by
    have hb := aH_bd (aCust (aDem A b i) b i p) b i
    have h3' := hGc.2.2.2.1
    unfold aBr
    split <;> omega
  have hit (hm : 0 < A.1 (124 + 4 * b + i)) (Q' : zIm → Prop) (hq : ∀ im', mS a im0 im' (aHit (aDem A b i) b i) → Q' im') : zCI g yX8_at M_X8_at [.int (zi 124), .int (zi b), .int (zi i)] S im1 (fun r23 im24 => ((0 ≤ r23 ∧ r23 < 7692) ∧ ∀ im28, im28 = zst im24 (a + 1) r23 (zw ((im24 (a + 1) r23) - 1)) → zCI g yX8_at M_X8_at [.int (zi 284), .int (zi b), .int (zi i)] S im28 (fun r30 im31 => ((0 ≤ r30 ∧ r30 < 7692) ∧ ∀ im35, im35 = zst im31 (a + 1) r30 (zw ((im31 (a + 1) r30) + 1)) → Q' im35)))) := by
    refine c_at G (by omega) (by omega) b0 b1 i0 i1 ⟨⟨by omega, by omega⟩, fun im2 e2 => ?_⟩
    rw [h1.g (by omega) (by omega)] at e2
    have h2 := h1.u e2 (by omega) (by omega)
    refine c_at G (by omega) (by omega) b0 b1 i0 i1 ⟨⟨by omega, by omega⟩, fun im3 e3 => ?_⟩
    rw [h2.g (by omega) (by omega), aG_n (by omega)] at e3
    exact hq im3 (h2.u e3 (by omega) (by omega))
  have hGh : gB (aHit (aDem A b i) b i).1 := ((hG.up (by omega) (by omega) (zc_zw _)).up (by omega) (by omega) (zc_zw _)).up (by omega) (by omega) (zc_zw _)
  refine ⟨fun hl => ?_, fun hl => ?_⟩
  · have hl' : ¬ aLoc (zw (A.1 (252 + 4 * b + i) + 1)) (A.1 (188 + 4 * b + i)) := by unfold aLoc; omega
    refine c_at G (by omega) (by omega) b0 b1 i0 i1 ⟨⟨by omega, by omega⟩, ?_⟩
    rw [q3]
    refine ⟨fun hm => ?_, fun hm => ?_⟩
    · refine miss hm _ (fun im2 h2 => ?_)
      refine c_tret G hS h2 (by omega) (by omega) (by omega) b0 b1 i0 i1 hw.1 hw.2 cp (fun im' h' => ?_)
      have := hQ im' (by unfold aOcc; rw [if_neg (by omega), aEnd_n hl']; exact h')
      rw [if_neg (by omega)] at this
      exact this
    · refine hit hm _ (fun im2 h2 => ?_)
      refine c_tret G hS h2 (by show A.2.1.length ≤ 757; omega) (by show A.2.2.1.length ≤ 109; omega) (by show A.2.2.2.length ≤ 758; omega) b0 b1 i0 i1 b0 b1 cp (fun im' h' => ?_)
      have := hQ im' (by unfold aOcc; rw [if_pos hm, aEnd_n hl']; exact h')
      rw [if_pos hm] at this
      exact this
  · refine c_at G (by omega) (by omega) b0 b1 i0 i1 ⟨⟨by omega, by omega⟩, ?_⟩
    rw [q3]
    refine ⟨fun hm => ?_, fun hm => ?_⟩
    · refine miss hm _ (fun im2 h2 => ?_)
      refine c_tloc G hS h2 hGb (by omega) b0 b1 i0 i1 hw.1 hw.2 (fun im' h' => ?_)
      have := hQ im' (by unfold aOcc; rw [if_neg (by omega), aEnd_y hl]; exact h')
      rw [if_neg (by omega)] at this
      exact this
    · refine hit hm _ (fun im2 h2 => ?_)
      refine c_tloc G hS h2 hGh (by show A.2.1.length ≤ 758; omega) b0 b1 i0 i1 b0 b1 (fun im' h' => ?_)
      have := hQ im' (by unfold aOcc; rw [if_pos hm, aEnd_y hl]; exact h')
      rw [if_pos hm] at this
      exact this
theorem c_unitsAt_loop (G : zOK g) (hS : zS_M S a) (hM : mS a im0 im A) (hF : aFit A) {i : Int} {Q : Int → zIm → Prop} (ci : zc i) (hQ : Q (A.2.1.countP (isDR i)) im) :
    ∀ (n k : Nat), k + n = A.2.1.length → zPI g M_X8_unitsAt 6 [(0, .ref a), (1, .int (zi 1)), (2, .int (zi i)), (3, .int (zi 0)), (4, .int (zi ((A.2.1.take k).countP (isDR i) : Nat))), (5, .int (zi k))] S im Q := by
  have h4 := hF.1
  have e4 := hM.2.2.1
  intro n
  induction n with
  | zero =>
    intro k hk
    have hb := cnt_le (l := A.2.1) (f := isDR i) (k := k)
    refine v_X8_unitsAt_6 G hS (zc_of (by omega) (by omega)) ci zc_0 (zc_of (by omega) (by omega)) (zc_of (by omega) (by omega)) ⟨fun _ => ?_, fun h => absurd h (by omega)⟩
    rw [List.take_of_length_le (by omega)]
    exact hQ
  | succ n ih =>
    intro k hk
    have hb := cnt_le (l := A.2.1) (f := isDR i) (k := k)
    have st := ih (k + 1) (by omega)
    rw [cnt_take (by omega)] at st
    refine v_X8_unitsAt_6 G hS (zc_of (by omega) (by omega)) ci zc_0 (zc_of (by omega) (by omega)) (zc_of (by omega) (by omega)) ⟨fun h => absurd h (by omega), fun _ => ?_⟩
    rw [zwS (k := k) (by omega), zwS (by omega), zwN (by omega)]
    unfold isDR at st ⊢
    refine c_unit G hS hM.2 hF (by omega) (by omega) (by omega) ⟨fun h1 => ?_, fun h1 => ?_⟩
    · rw [if_neg (by simp [h1])] at st; exact st
    · refine c_unit G hS hM.2 hF (by omega) (by omega) (by omega) ⟨fun h2 => ?_, fun h2 => ?_⟩
      · rw [if_neg (by simp [h2])] at st; exact st
      · refine c_unit G hS hM.2 hF (by omega) (by omega) (by omega) ⟨fun h3 => ?_, fun h3 => ?_⟩
        · rw [if_neg (by simp [h3])] at st; exact st
        · rw [if_pos (by simp [h1, h2, h3])] at st; exact st
theorem c_unitsAt (G : zOK g) (hS : zS_M S a) (hM : mS a im0 im A) (hF : aFit A) {i : Int} {Q : Int → zIm → Prop} (ci : zc i) (hQ : Q (A.2.1.countP (isDR i)) im) : zCI g yX8_unitsAt M_X8_unitsAt [.ref a, .int (zi 1), .int (zi i), .int (zi 0)] S im Q :=
  v_X8_unitsAt G hS (zc_of (by omega) (by omega)) ci zc_0 (c_unitsAt_loop G hS hM hF ci hQ _ 0 (Nat.zero_add _))
theorem c_repairAtDepot (G : zOK g) (hS : zS_M S a) (hM : mS a im0 im A) (hU : A.2.1.length ≤ 758) {i : Int} {Q : zIm → Prop} (i0 : 0 ≤ i) (i1 : i < 4) (hQ : ∀ im', mS a im0 im' (aRD A i) → Q im') : zCV g yX8_repairAtDepot M_X8_repairAtDepot [.ref a, .int (zi i)] S im Q := by
  refine v_X8_repairAtDepot G hS (zc_of (by omega) (by omega)) ?_
  refine c_item G hS i0 i1 (by omega) (by omega) ?_
  rw [hM.h (i := 0) (by omega) (by omega), hM.g (i := 8 + 3 * i + 0) (by omega) (by omega)]
  exact c_appendUnit G hS hM.2 hU (zc_of (by omega) (by omega)) (zc_of (by omega) (by omega)) zc_0 zc_0 (zc_zw _) zc_0 (fun r hr => hQ _ (hM.to hr))
theorem c_endReturn (G : zOK g) (hS : zS_M S a) (hM : mS a im0 im A) (hF : aFit A) (hU : A.2.1.length ≤ 758) {i : Int} {Q : zIm → Prop} (i0 : 0 ≤ i) (i1 : i < 4) (hQ : ∀ im', mS a im0 im' (aER A i) → Q im') : zCV g yX8_endReturn M_X8_endReturn [.ref a, .int (zi i)] S im Q := by
  refine v_X8_endReturn G hS (zc_of (by omega) (by omega)) ?_
  refine c_unitsAt G hS hM hF (zc_of (by omega) (by omega)) ?_
  refine c_item G hS i0 i1 (by omega) (by omega) ?_
  rw [hM.g (by omega) (by omega)]
  unfold aER at hQ
  refine ⟨fun h => ?_, fun h => ?_⟩
  · rw [if_pos h] at hQ
    exact c_appendUnit G hS hM.2 hU (zc_of (by omega) (by omega)) (zc_of (by omega) (by omega)) zc_0 zc_0 zc_0 zc_0 (fun r hr => hQ _ (hM.to hr))
  · rw [if_neg (by omega)] at hQ
    exact c_repairAtDepot G hS hM hU i0 i1 hQ
theorem c_edr_loop (G : zOK g) (hS : zS_M S a) (hM : mS a im0 im A) (hF : aFit A) (hU : A.2.1.length ≤ 757) (hB : ∀ u ∈ A.2.2.2, oB (A.1 2) (A.1 3) u) (hG : gB A.1) {i : Int} {Q : zIm → Prop} (i0 : 0 ≤ i) (i1 : i < 4) (hQ : ∀ im', mS a im0 im' (aED A i) → Q im') :
    ∀ (n k : Nat), k + n = A.2.1.length → zPV g M_X8_endDepotRepair 4 [(0, .ref a), (1, .int (zi i)), (2, .int (zi (fstP (fun k => rg A.2.1 k 0 = 4 ∧ rg A.2.1 k 1 = i) k))), (3, .int (zi k))] S im Q := by
  have h4 := hF.1
  have e4 := hM.2.2.1
  intro n
  induction n with
  | zero =>
    intro k hk
    have hb := fstP_bd (fun k => rg A.2.1 k 0 = 4 ∧ rg A.2.1 k 1 = i) k
    refine v_X8_endDepotRepair_4 G hS (zc_of (by omega) (by omega)) (zc_of (by omega) (by omega)) (zc_of (by omega) (by omega)) ⟨fun _ => ?_, fun h => absurd h (by omega)⟩
    have hk' : k = A.2.1.length := by omega
    subst hk'
    unfold aED aFree fW at hQ
    refine ⟨fun h => ?_, fun h => ?_⟩
    · rw [if_pos h] at hQ
      exact c_fillOrder G hS hM hF (by omega) hB hG i0 i1 hQ
    · obtain ⟨m, hm⟩ : ∃ m : Nat, fstP (fun k => rg A.2.1 k 0 = 4 ∧ rg A.2.1 k 1 = i) A.2.1.length = m := ⟨(fstP (fun k => rg A.2.1 k 0 = 4 ∧ rg A.2.1 k 1 = i) A.2.1.length).toNat, by omega⟩
      rw [if_neg h, hm] at hQ
      rw [hm]
      have hl : (A.2.1.eraseIdx m).length = A.2.1.length - 1 := ln_er (by omega)
      refine c_removeU G hS hM.2 hF (by omega) (fun r hr => ?_)
      refine c_repairAtDepot G hS (hM.to hr) (by simp only [hl]; omega) i0 i1 (fun im2 h2 => ?_)
      refine c_fillOrder G hS h2 ⟨?_, hF.2⟩ ?_ hB hG i0 i1 hQ
      · unfold aRD; rw [ln_app, hl]; omega
      · unfold aRD; rw [ln_app, hl]; omega
  | succ n ih =>
    intro k hk
    have hb := fstP_bd (fun k => rg A.2.1 k 0 = 4 ∧ rg A.2.1 k 1 = i) k
    have st := ih (k + 1) (by omega)
    refine v_X8_endDepotRepair_4 G hS (zc_of (by omega) (by omega)) (zc_of (by omega) (by omega)) (zc_of (by omega) (by omega)) ⟨fun h => absurd h (by omega), fun _ => ?_⟩
    rw [zwS (k := k) (by omega)]
    refine ⟨fun h1 => ?_, fun h1 => ?_⟩
    · rw [fstP_k h1] at st; exact st
    · refine c_unit G hS hM.2 hF (by omega) (by omega) (by omega) ⟨fun h2 => ?_, fun h2 => ?_⟩
      · rw [fstP_n (fun hh => h2 hh.1)] at st; exact st
      · refine c_unit G hS hM.2 hF (by omega) (by omega) (by omega) ⟨fun h3 => ?_, fun h3 => ?_⟩
        · rw [fstP_n (fun hh => h3 hh.2)] at st; exact st
        · rw [fstP_y h1 ⟨h2, h3⟩] at st; exact st
theorem c_endDepotRepair (G : zOK g) (hS : zS_M S a) (hM : mS a im0 im A) (hF : aFit A) (hU : A.2.1.length ≤ 757) (hB : ∀ u ∈ A.2.2.2, oB (A.1 2) (A.1 3) u) (hG : gB A.1) {i : Int} {Q : zIm → Prop} (i0 : 0 ≤ i) (i1 : i < 4) (hQ : ∀ im', mS a im0 im' (aED A i) → Q im') : zCV g yX8_endDepotRepair M_X8_endDepotRepair [.ref a, .int (zi i)] S im Q :=
  v_X8_endDepotRepair G hS (zc_of (by omega) (by omega)) (c_edr_loop G hS hM hF hU hB hG i0 i1 hQ _ 0 (Nat.zero_add _))
theorem c_endLocalRepair (G : zOK g) (hS : zS_M S a) (hM : mS a im0 im A) (hF : aFit A) (hU : A.2.1.length ≤ 758) {i b o l : Int} {Q : zIm → Prop} (i0 : 0 ≤ i) (i1 : i < 4) (b0 : 0 ≤ b) (b1 : b < 8) (o0 : 0 ≤ o) (o1 : o < 8) (cl : zc l) (hQ : ∀ im', mS a im0 im' (aEL A i b o l) → Q im') : zCV g yX8_endLocalRepair M_X8_endLocalRepair [.ref a, .int (zi i), .int (zi b), .int (zi o), .int (zi l)] S im Q := by
  refine v_X8_endLocalRepair G hS (zc_of (by omega) (by omega)) (zc_of (by omega) (by omega)) (zc_of (by omega) (by omega)) cl ⟨fun h => ?_, fun h => ?_⟩
  · unfold aEL at hQ
    rw [if_neg h] at hQ
    refine c_link G hS b0 b1 o0 o1 ?_
    rw [hM.g (by omega) (by omega), hM.h (i := 0) (by omega) (by omega)]
    refine ⟨fun h1 => ?_, fun h1 => ?_⟩
    · rw [if_pos h1] at hQ
      exact c_appendUnit G hS hM.2 hU (zc_of (by omega) (by omega)) (zc_of (by omega) (by omega)) (zc_of (by omega) (by omega)) (zc_of (by omega) (by omega)) (zc_zw _) zc_0 (fun r hr => hQ _ (hM.to hr))
    · rw [if_neg (by omega)] at hQ
      refine c_link G hS b0 b1 o0 o1 ?_
      rw [hM.g (i := 28 + 8 * b + o) (by omega) (by omega), hM.h (i := 0) (by omega) (by omega)]
      exact c_appendUnit G hS hM.2 hU (zc_of (by omega) (by omega)) (zc_of (by omega) (by omega)) (zc_of (by omega) (by omega)) (zc_of (by omega) (by omega)) (zc_zw _) zc_0 (fun r hr => hQ _ (hM.to hr))
  · unfold aEL at hQ
    rw [if_pos h] at hQ
    exact c_comeToBase G hS hM hF b0 b1 i0 i1 hQ
theorem c_due_loop (G : zOK g) (hS : zS_M S a) (hM : mS a im0 im A) (hF : aFit A) {k : Int} {Q : Int → zIm → Prop} (ck : zc k) (hQ : Q (fD A k) im) :
    ∀ (n j : Nat), j + n = A.2.1.length → (∀ t, t < j → ¬ (rg A.2.1 t 0 = k ∧ rg A.2.1 t 4 = A.1 0)) → zPI g M_X8_firstDue 2 [(0, .ref a), (1, .int (zi k)), (2, .int (zi j))] S im Q := by
  have h4 := hF.1
  have e4 := hM.2.2.1
  intro n
  induction n with
  | zero =>
    intro j hj hn
    refine v_X8_firstDue_2 G hS ck (zc_of (by omega) (by omega)) ⟨fun _ => ?_, fun h => absurd h (by omega)⟩
    have hj' : j = A.2.1.length := by omega
    subst hj'
    unfold fD at hQ
    rw [fstP_no hn] at hQ
    exact hQ
  | succ n ih =>
    intro j hj hn
    have st (hx : ¬ (rg A.2.1 j 0 = k ∧ rg A.2.1 j 4 = A.1 0)) := ih (j + 1) (by omega) (fun t ht => by by_cases e : t = j; (rw [e]; exact hx); exact hn t (by omega))
    refine v_X8_firstDue_2 G hS ck (zc_of (by omega) (by omega)) ⟨fun h => absurd h (by omega), fun _ => ?_⟩
    rw [zwS (k := j) (by omega)]
    refine c_unit G hS hM.2 hF (by omega) (by omega) (by omega) ⟨fun h1 => st (fun hh => h1 hh.1), fun h1 => ?_⟩
    refine c_unit G hS hM.2 hF (by omega) (by omega) (by omega) ?_
    rw [hM.h (i := 0) (by omega) (by omega)]
    refine ⟨fun h2 => st (fun hh => h2 hh.2), fun h2 => ?_⟩
    unfold fD at hQ
    rw [fstP_of (m := j) hn ⟨h1, h2⟩ (by omega)] at hQ
    exact hQ
theorem c_firstDue (G : zOK g) (hS : zS_M S a) (hM : mS a im0 im A) (hF : aFit A) {k : Int} {Q : Int → zIm → Prop} (ck : zc k) (hQ : Q (fD A k) im) : zCI g yX8_firstDue M_X8_firstDue [.ref a, .int (zi k)] S im Q :=
  v_X8_firstDue G hS ck (c_due_loop G hS hM hF ck hQ _ 0 (Nat.zero_add _) (fun t ht => absurd ht (by omega)))
theorem c_end (G : zOK g) (hS : zS_M S a) (hM : mS a im0 im A) (hF : aFit A) (hU : A.2.1.length ≤ 757) {lo : Int} (hB : aB lo A) {k : Nat} {Q : zIm → Prop} (hk : k < A.2.1.length) (h9 : rg A.2.1 k 0 < 4) (hQ : ∀ im', mS a im0 im' (aE A k) → Q im') : zCV g yX8_end M_X8_end [.ref a, .int (zi k)] S im Q := by
  have hu := hB.2.1 _ (rg_mem hk)
  unfold uB at hu
  have hg2 := hB.1.2.2.1
  have hg3 := hB.1.2.2.2.1
  have hl : (A.2.1.eraseIdx k).length = A.2.1.length - 1 := ln_er hk
  refine v_X8_end G hS (zc_of (by omega) (by omega)) ?_
  refine c_unit G hS hM.2 hF hk (by omega) (by omega) ?_
  refine c_unit G hS hM.2 hF hk (by omega) (by omega) ?_
  refine c_unit G hS hM.2 hF hk (by omega) (by omega) ?_
  refine c_unit G hS hM.2 hF hk (by omega) (by omega) ?_
  refine c_unit G hS hM.2 hF hk (by omega) (by omega) ?_
  refine c_removeU G hS hM.2 hF hk (fun r hr => ?_)
  have h1 : mS a im0 (zsr im (a + 1) r) (aCut A k) := hM.to hr
  unfold aE aEu at hQ
  have hF' : aFit (aCut A k) := ⟨by show (A.2.1.eraseIdx k).length ≤ 759; omega, hF.2⟩
  have hU' : (aCut A k).2.1.length ≤ 757 := by show (A.2.1.eraseIdx k).length ≤ 757; omega
  refine ⟨fun n0 => ?_, fun n0 => ?_⟩
  · rw [if_neg n0] at hQ
    refine ⟨fun n1 => ⟨fun _ => ?_, fun h => absurd h n1⟩, fun n1 => ⟨fun n2 => ⟨fun h => absurd n1 h, fun _ => ?_⟩, fun n2 => ?_⟩⟩
    · rw [if_neg (fun hh => n1 hh.1), if_neg n1] at hQ
      exact c_comeToBase G hS h1 hF' (by omega) (by omega) (by omega) (by omega) hQ
    · rw [if_neg (fun hh => n2 hh.2), if_pos n1] at hQ
      exact c_endLocalRepair G hS h1 hF' (by omega) (by omega) (by omega) (by omega) (by omega) (by omega) (by omega) (zc_of (by omega) (by omega)) hQ
    · rw [if_pos ⟨n1, n2⟩] at hQ
      exact c_endDepotRepair G hS h1 hF' hU' hB.2.2.2 hB.1 (by omega) (by omega) hQ
  · rw [if_pos n0] at hQ
    exact c_endReturn G hS h1 hF' (by omega) (by omega) (by omega) hQ
end MD2
