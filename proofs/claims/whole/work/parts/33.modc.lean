/-! a demand -/
def hlpB (G : aR) (b i h n : Int) : Prop := (1 ≤ n ∧ n ≠ b ∧ 1 ≤ G (28 + 8 * b + n) ∧ G (28 + 8 * b + n) ≤ G 1 ∧ G (156 + 4 * n + i) < G (124 + 4 * n + i)) ∧ (h = -1 ∨ G (28 + 8 * b + n) < G (28 + 8 * b + h) ∨ (G (28 + 8 * b + n) = G (28 + 8 * b + h) ∧ G (124 + 4 * h + i) < G (124 + 4 * n + i)))

noncomputable def hlp (G : aR) (b i : Int) : Nat → Int
  | 0 => -1
  | n + 1 => @ite _ (hlpB G b i (hlp G b i n) n) (Classical.propDecidable _) (n : Int) (hlp G b i n)
theorem hlp_y {G : aR} {b i : Int} {n : Nat} (h : hlpB G b i (hlp G b i n) n) : hlp G b i (n + 1) = n := by unfold hlp; exact if_pos h
theorem hlp_n {G : aR} {b i : Int} {n : Nat} (h : ¬ hlpB G b i (hlp G b i n) n) : hlp G b i (n + 1) = hlp G b i n := by rw [hlp]; exact if_neg h
theorem hlp_bd (G : aR) (b i : Int) (n : Nat) : -1 ≤ hlp G b i n ∧ hlp G b i n < n := by
  induction n with
  | zero => unfold hlp; omega
  | succ n ih =>
    by_cases h : hlpB G b i (hlp G b i n) n
    · rw [hlp_y h]; omega
    · rw [hlp_n h]; omega
theorem hlp_sp (G : aR) (b i : Int) (n : Nat) (hn : hlp G b i n ≠ -1) : 1 ≤ hlp G b i n ∧ hlp G b i n ≠ b ∧ 1 ≤ G (28 + 8 * b + hlp G b i n) ∧ G (28 + 8 * b + hlp G b i n) ≤ G 1 ∧ G (156 + 4 * hlp G b i n + i) < G (124 + 4 * hlp G b i n + i) := by
  induction n with
  | zero => unfold hlp at hn; exact absurd rfl hn
  | succ n ih =>
    by_cases h : hlpB G b i (hlp G b i n) n
    · rw [hlp_y h]; exact h.1
    · rw [hlp_n h] at hn ⊢; exact ih hn
noncomputable def aH (A : aA) (b i : Int) : Int := hlp A.1 b i (A.1 3).toNat
noncomputable def aBr (A : aA) (b i : Int) : Int := if aH A b i = -1 then b else aH A b i
noncomputable def aBuy (A : aA) (b i : Int) : aA := if aH A b i = -1 then A else aApp (aG (aG A (124 + 4 * aH A b i + i) (zw (A.1 (124 + 4 * aH A b i + i) - 1))) (380 + 4 * aH A b i + i) (zw (A.1 (380 + 4 * aH A b i + i) + 1))) (mkU 3 i b b (zw (A.1 0 + A.1 (28 + 8 * b + aH A b i))) 0)
def aCust (A : aA) (b i p : Int) : aA := (A.1, A.2.1, A.2.2.1 ++ [mkC b i p (A.1 0)], A.2.2.2)
def aPlace (A : aA) (b i p : Int) : aA := if A.1 (124 + 4 * 0 + i) ≤ 0 then (A.1, A.2.1, A.2.2.1, A.2.2.2 ++ [mkO i b p]) else aSup (aG A (124 + 4 * 0 + i) (zw (A.1 (124 + 4 * 0 + i) - 1))) b i
def aDem (A : aA) (b i : Int) : aA := aG A (252 + 4 * b + i) (zw (A.1 (252 + 4 * b + i) + 1))
/-- whether the demand of this number is repaired where it occurs -/
def aLoc (n s : Int) : Prop := zw (Int.tdiv (zw ((n - 1) * s)) 10) < zw (Int.tdiv (zw (n * s)) 10)
def aHit (A : aA) (b i : Int) : aA := aG (aG A (124 + 4 * b + i) (zw (A.1 (124 + 4 * b + i) - 1))) (284 + 4 * b + i) (zw (A.1 (284 + 4 * b + i) + 1))
def aRep (A : aA) (b i w : Int) : aA := aApp A (mkU 1 i b w (zw (A.1 0 + A.1 (8 + 3 * i + 2))) (A.1 (28 + 8 * b + w)))
def aRet (A : aA) (b i w p : Int) : aA := aPlace (aApp A (mkU 0 i 0 0 (zw (A.1 0 + A.1 (20 + b))) 0)) w i p
noncomputable def aEnd (A : aA) (n s b i w p : Int) : aA := @ite _ (aLoc n s) (Classical.propDecidable _) (aRep A b i w) (aRet A b i w p)
noncomputable def aOcc (A : aA) (b i p : Int) : aA :=
  if 0 < A.1 (124 + 4 * b + i) then aEnd (aHit (aDem A b i) b i) (zw (A.1 (252 + 4 * b + i) + 1)) (A.1 (188 + 4 * b + i)) b i b p
  else aEnd (aBuy (aCust (aDem A b i) b i p) b i) (zw (A.1 (252 + 4 * b + i) + 1)) (A.1 (188 + 4 * b + i)) b i (aBr (aCust (aDem A b i) b i p) b i) p
theorem aG_n {A : aA} {i j v : Int} (h : j ≠ i) : (aG A i v).1 j = A.1 j := zup_n h
theorem aG_s {A : aA} {i v : Int} : (aG A i v).1 i = v := zup_s
theorem aH_bd (A : aA) (b i : Int) : -1 ≤ aH A b i ∧ (aH A b i < A.1 3 ∨ aH A b i = -1) := by
  have := hlp_bd A.1 b i (A.1 3).toNat
  unfold aH; omega
theorem aH_sp {A : aA} {b i : Int} (h : aH A b i ≠ -1) : 1 ≤ aH A b i ∧ aH A b i ≠ b ∧ 1 ≤ A.1 (28 + 8 * b + aH A b i) ∧ A.1 (28 + 8 * b + aH A b i) ≤ A.1 1 ∧ A.1 (156 + 4 * aH A b i + i) < A.1 (124 + 4 * aH A b i + i) := hlp_sp _ _ _ _ h
section MC
variable {g : zG} {S : zSh} {im im0 : zIm} {a : Nat} {A : aA}
theorem c_help_loop (G : zOK g) (hS : zS_M S a) (hM : mS a im0 im A) (hG : gB A.1) {b i : Int} {Q : Int → zIm → Prop} (b0 : 0 ≤ b) (b1 : b < 8) (i0 : 0 ≤ i) (i1 : i < 4) (hQ : Q (aH A b i) im) :
    ∀ (n k : Nat), (k : Int) + n = A.1 3 → 1 ≤ k → zPI g M_X8_findHelper 5 [(0, .ref a), (1, .int (zi b)), (2, .int (zi i)), (3, .int (zi (hlp A.1 b i k))), (4, .int (zi k))] S im Q := by
  have h3 := hG.2.2.2.1
  have e3 := hM.h (i := 3) (by omega) (by omega)
  intro n
  induction n with
  | zero =>
    intro k hk k1
    have hb := hlp_bd A.1 b i k
    refine v_X8_findHelper_5 G hS (zc_of (by omega) (by omega)) (zc_of (by omega) (by omega)) (zc_of (by omega) (by omega)) (zc_of (by omega) (by omega)) ⟨fun _ => ?_, fun h => absurd h (by omega)⟩
    have hk' : k = (A.1 3).toNat := by omega
    rw [hk']
    exact hQ
  | succ n ih =>
    intro k hk k1
    have hb := hlp_bd A.1 b i k
    have st := ih (k + 1) (by omega) (by omega)
    have sn (hn : ¬ hlpB A.1 b i (hlp A.1 b i k) k) := hlp_n hn ▸ st
    have sy (hn : hlpB A.1 b i (hlp A.1 b i k) k) := hlp_y hn ▸ st
    have l1 := hG.2.2.2.2.2.2.1 b k b0 b1 (by omega) (by omega)
    have hg1 := hG.2.1
    refine v_X8_findHelper_5 G hS (zc_of (by omega) (by omega)) (zc_of (by omega) (by omega)) (zc_of (by omega) (by omega)) (zc_of (by omega) (by omega)) ⟨fun h => absurd h (by omega), fun _ => ?_⟩
    rw [zwS (k := k) (by omega)]
    refine c_link G hS b0 b1 (by omega) (by omega) ?_
    refine c_at G (by omega) (by omega) (by omega) (by omega) i0 i1 ⟨⟨by omega, by omega⟩, ?_⟩
    rw [hM.g (i := 28 + 8 * b + k) (by omega) (by omega), hM.g (i := 124 + 4 * k + i) (by omega) (by omega), hM.h (i := 1) (by omega) (by omega)]
    refine ⟨fun h1 => sn (fun hh => hh.1.2.1 h1), fun h1 => ?_⟩
    refine c_between G (zc_of (by omega) (by omega)) (zc_of (by omega) (by omega)) (zc_of (by omega) (by omega)) (fun h2 h2' => ⟨fun h => absurd h (by decide), fun _ => ?_⟩) (fun h2 => ⟨fun _ => sn (fun hh => by have := hh.1; omega), fun h => absurd rfl h⟩)
    refine c_at G (by omega) (by omega) (by omega) (by omega) i0 i1 ⟨⟨by omega, by omega⟩, ?_⟩
    rw [hM.g (by omega) (by omega)]
    refine ⟨fun h3 => sn (fun hh => by have := hh.1; omega), fun h3 => ⟨fun h4 => sy ⟨⟨by omega, h1, h2, h2', h3⟩, Or.inl h4⟩, fun h4 => ?_⟩⟩
    refine c_link G hS b0 b1 (by omega) (by omega) ?_
    rw [hM.g (by omega) (by omega)]
    refine ⟨fun h5 => sy ⟨⟨by omega, h1, h2, h2', h3⟩, Or.inr (Or.inl h5)⟩, fun h5 => ?_⟩
    refine c_link G hS b0 b1 (by omega) (by omega) ?_
    rw [hM.g (by omega) (by omega)]
    refine ⟨fun h6 => sn (fun hh => by have := hh.2; omega), fun h6 => ?_⟩
    refine c_at G (by omega) (by omega) (by omega) (by omega) i0 i1 ⟨⟨by omega, by omega⟩, ?_⟩
    rw [hM.g (by omega) (by omega)]
    exact ⟨fun h7 => sn (fun hh => by have := hh.2; omega), fun h7 => sy ⟨⟨by omega, h1, h2, h2', h3⟩, Or.inr (Or.inr ⟨h6, h7⟩)⟩⟩
theorem c_findHelper (G : zOK g) (hS : zS_M S a) (hM : mS a im0 im A) (hG : gB A.1) {b i : Int} {Q : Int → zIm → Prop} (b0 : 0 ≤ b) (b1 : b < 8) (i0 : 0 ≤ i) (i1 : i < 4) (hQ : Q (aH A b i) im) : zCI g yX8_findHelper M_X8_findHelper [.ref a, .int (zi b), .int (zi i)] S im Q := by
  have h3 := hG.2.2.2.1
  have e1 : hlp A.1 b i 1 = -1 := hlp_n (n := 0) (fun hh => by have := hh.1; omega)
  have := c_help_loop G hS hM hG b0 b1 i0 i1 hQ ((A.1 3).toNat - 1) 1 (by omega) (by omega)
  rw [e1] at this
  exact v_X8_findHelper G hS (zc_of (by omega) (by omega)) (zc_of (by omega) (by omega)) this
theorem c_appendCustomer (G : zOK g) (hS : zS_M S a) (hM : mS a im0 im A) (hF : A.2.2.1.length ≤ 108) (hU : A.2.1.length ≤ 759) {b i p : Int} {Q : zIm → Prop} (cb : zc b) (ci : zc i) (cp : zc p) (hQ : ∀ im', mS a im0 im' (aCust A b i p) → Q im') : zCV g yX8_appendCustomer M_X8_appendCustomer [.ref a, .int (zi b), .int (zi i), .int (zi p)] S im Q := by
  have h4 := hM.2.2.2.1
  have h0 := hM.h (i := 0) (by omega) (by omega)
  refine v_X8_appendCustomer G hS cb ci cp ?_
  refine c_append G hS (by omega) (by omega) (zc_of (by omega) (by omega)) (zc_of (by omega) (by omega)) (by omega) (by omega) ?_
  rw [h4]
  have z (j : Int) (j0 : 0 ≤ j) (j1 : j < 6) : zw (4972 + 4 * (A.2.2.1.length : Int) + j) = 4972 + 4 * (A.2.2.1.length : Int) + j := zw_of (by omega) (by omega)
  rw [z 0 (by omega) (by omega), z 1 (by omega) (by omega), z 2 (by omega) (by omega), z 3 (by omega) (by omega)]
  refine ⟨⟨by omega, by omega⟩, fun i1 e1 => ⟨⟨by omega, by omega⟩, fun i2 e2 => ⟨⟨by omega, by omega⟩, fun i3 e3 => ⟨⟨by omega, by omega⟩, fun i4 e4 => ?_⟩⟩⟩⟩
  have hd : i3 (a + 1) 0 = A.1 0 := by
    rw [e3, e2, e1]
    simp only [zst_sr, zsr_s]
    rw [zup_n (by omega), zup_n (by omega), zup_n (by omega), zup_n (by omega), h0]
  rw [hd] at e4
  subst e1; subst e2; subst e3; subst e4
  simp only [zst_sr]
  refine hQ _ (hM.to (hM.2.appC hF hU ?_ ?_ ?_))
  · rw [zup_n (by omega), zup_n (by omega), zup_n (by omega), zup_n (by omega), zup_s, h4]
  · intro f f0 f1
    unfold zup mkC
    have : f = 0 ∨ f = 1 ∨ f = 2 ∨ f = 3 := by omega
    rcases this with rfl | rfl | rfl | rfl <;> simp <;> omega
  · intro j j4 hj
    rw [zup_n (by omega), zup_n (by omega), zup_n (by omega), zup_n (by omega), zup_n j4]
theorem c_placeOrder (G : zOK g) (hS : zS_M S a) (hM : mS a im0 im A) (hU : A.2.1.length ≤ 758) (hC : A.2.2.1.length ≤ 109) (hO : A.2.2.2.length ≤ 758) {b i p : Int} {Q : zIm → Prop} (b0 : 0 ≤ b) (b1 : b < 8) (i0 : 0 ≤ i) (i1 : i < 4) (cp : zc p) (hQ : ∀ im', mS a im0 im' (aPlace A b i p) → Q im') : zCV g yX8_placeOrder M_X8_placeOrder [.ref a, .int (zi b), .int (zi i), .int (zi p)] S im Q := by
  have h4 := hM.2.2.2.2.1
  refine v_X8_placeOrder G hS (zc_of (by omega) (by omega)) (zc_of (by omega) (by omega)) cp ?_
  refine c_at G (by omega) (by omega) (by omega) (by omega) i0 i1 ⟨⟨by omega, by omega⟩, ?_⟩
  rw [hM.g (by omega) (by omega)]
  refine ⟨fun h1 => ?_, fun h1 => ?_⟩
  · refine c_append G hS (by omega) (by omega) (zc_of (by omega) (by omega)) (zc_of (by omega) (by omega)) (by omega) (by omega) ?_
    rw [h4]
    have z (j : Int) (j0 : 0 ≤ j) (j1 : j < 6) : zw (5412 + 3 * (A.2.2.2.length : Int) + j) = 5412 + 3 * (A.2.2.2.length : Int) + j := zw_of (by omega) (by omega)
    rw [z 0 (by omega) (by omega), z 1 (by omega) (by omega), z 2 (by omega) (by omega)]
    refine ⟨⟨by omega, by omega⟩, fun i1 e1 => ⟨⟨by omega, by omega⟩, fun i2 e2 => ⟨⟨by omega, by omega⟩, fun i3 e3 => ?_⟩⟩⟩
    subst e1; subst e2; subst e3
    simp only [zst_sr]
    refine hQ _ (hM.to ?_)
    unfold aPlace
    rw [if_pos h1]
    refine hM.2.appO hO (by omega) hC ?_ ?_ ?_
    · rw [zup_n (by omega), zup_n (by omega), zup_n (by omega), zup_s, h4]
    · intro f f0 f1
      unfold zup mkO
      have : f = 0 ∨ f = 1 ∨ f = 2 := by omega
      rcases this with rfl | rfl | rfl <;> simp <;> omega
    · intro j j4 hj
      rw [zup_n (by omega), zup_n (by omega), zup_n (by omega), zup_n j4]
  · refine c_at G (by omega) (by omega) (by omega) (by omega) i0 i1 ⟨⟨by omega, by omega⟩, fun im1 e1 => ?_⟩
    rw [hM.g (by omega) (by omega)] at e1
    refine c_supply G hS (hM.u e1 (by omega) (by omega)) hU b0 b1 (zc_of (by omega) (by omega)) (fun im' h' => hQ im' ?_)
    unfold aPlace
    rw [if_neg (by omega)]
    exact h'
theorem c_isRefused (G : zOK g) (hS : zS_M S a) (hM : mS a im0 im A) {Q : Int → zIm → Prop} (ht : (200 ≤ A.2.1.length ∨ 100 ≤ A.2.2.1.length) → Q 1 im) (hf : A.2.1.length < 200 → A.2.2.1.length < 100 → Q 0 im) : zCI g yX8_isRefused M_X8_isRefused [.ref a] S im Q := by
  have h4 := hM.2.2.1
  have h5 := hM.2.2.2.1
  exact v_X8_isRefused G hS ⟨fun h => ht (by omega), fun h => ⟨fun h' => hf (by omega) (by omega), fun h' => ht (by omega)⟩⟩
theorem c_findBuyer (G : zOK g) (hS : zS_M S a) (hM : mS a im0 im A) (hG : gB A.1) (hU : A.2.1.length ≤ 758) {b i : Int} {Q : Int → zIm → Prop} (b0 : 0 ≤ b) (b1 : b < 8) (i0 : 0 ≤ i) (i1 : i < 4) (hQ : ∀ im', mS a im0 im' (aBuy A b i) → Q (aBr A b i) im') : zCI g yX8_findBuyer M_X8_findBuyer [.ref a, .int (zi b), .int (zi i)] S im Q := by
  have h3 := hG.2.2.2.1
  have hb := aH_bd A b i
  refine v_X8_findBuyer G hS (zc_of (by omega) (by omega)) (zc_of (by omega) (by omega)) ?_
  refine c_findHelper G hS hM hG b0 b1 i0 i1 ⟨fun h => ?_, fun h => ?_⟩
  · have hs := aH_sp h
    refine c_at G (by omega) (by omega) (by omega) (by omega) i0 i1 ⟨⟨by omega, by omega⟩, fun im1 e1 => ?_⟩
    rw [hM.g (by omega) (by omega)] at e1
    have h1 := hM.u e1 (by omega) (by omega)
    refine c_at G (by omega) (by omega) (by omega) (by omega) i0 i1 ⟨⟨by omega, by omega⟩, fun im2 e2 => ?_⟩
    rw [h1.g (by omega) (by omega), aG_n (by omega)] at e2
    have h2 := h1.u e2 (by omega) (by omega)
    refine c_link G hS b0 b1 (by omega) (by omega) ?_
    rw [h2.g (i := 28 + 8 * b + aH A b i) (by omega) (by omega), h2.h (i := 0) (by omega) (by omega), aG_n (by omega), aG_n (by omega), aG_n (by omega), aG_n (by omega)]
    refine c_appendUnit G hS h2.2 hU (zc_of (by omega) (by omega)) (zc_of (by omega) (by omega)) (zc_of (by omega) (by omega)) (zc_of (by omega) (by omega)) (zc_zw _) zc_0 (fun r hr => ?_)
    have hq := hQ _ (h2.to (r := r) (by unfold aBuy; rw [if_neg h]; exact hr))
    unfold aBr at hq
    rw [if_neg h] at hq
    exact hq
  · have hq := hQ im (by unfold aBuy; rw [if_pos h]; exact hM)
    unfold aBr at hq
    rw [if_pos h] at hq
    exact hq
end MC
