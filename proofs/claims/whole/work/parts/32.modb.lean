/-! the abstract network's steps, and the reference's methods held to them -/
def aG (A : aA) (i v : Int) : aA := (zup A.1 i v, A.2)
def aApp (A : aA) (u : aR) : aA := (A.1, A.2.1 ++ [u], A.2.2)
def mS (a : Nat) (im0 im : zIm) (A : aA) : Prop := (∀ b, b ≠ a + 1 → im b = im0 b) ∧ mRep (im (a + 1)) A
theorem mS.to {a : Nat} {im0 im : zIm} {A A' : aA} {r : aR} (h : mS a im0 im A) (h' : mRep r A') : mS a im0 (zsr im (a + 1) r) A' :=
  ⟨fun b hb => by rw [zsr_n hb]; exact h.1 b hb, by rw [zsr_s]; exact h'⟩
theorem mS.u {a : Nat} {im0 im im' : zIm} {A : aA} {i v : Int} (h : mS a im0 im A) (e : im' = zst im (a + 1) i v) (h0 : 7 ≤ i) (h1 : i < 412) : mS a im0 im' (aG A i v) := by
  rw [e]; exact h.to (h.2.up (by omega) h1 (by omega) (by omega) (by omega))
theorem mS.v {a : Nat} {im0 im im' : zIm} {A : aA} {i v : Int} (h : mS a im0 im A) (e : im' = zst im (a + 1) i v) (h0 : 0 ≤ i) (h1 : i < 4) : mS a im0 im' (aG A i v) := by
  rw [e]; exact h.to (h.2.up (by omega) (by omega) (by omega) (by omega) (by omega))
theorem mS.g {a : Nat} {im0 im : zIm} {A : aA} {i : Int} (h : mS a im0 im A) (h0 : 7 ≤ i) (h1 : i < 412) : im (a + 1) i = A.1 i := h.2.g (by omega) h1 (by omega) (by omega) (by omega)
theorem mS.h {a : Nat} {im0 im : zIm} {A : aA} {i : Int} (h : mS a im0 im A) (h0 : 0 ≤ i) (h1 : i < 4) : im (a + 1) i = A.1 i := h.2.g (by omega) (by omega) (by omega) (by omega) (by omega)
def gB (G : aR) : Prop := (0 ≤ G 0 ∧ G 0 ≤ 9999) ∧ (0 ≤ G 1 ∧ G 1 ≤ 20) ∧ (0 ≤ G 2 ∧ G 2 ≤ 4) ∧ (1 ≤ G 3 ∧ G 3 ≤ 8) ∧
  (∀ i, 0 ≤ i → i < G 2 → (1 ≤ G (8 + 3 * i + 0) ∧ G (8 + 3 * i + 0) ≤ 30) ∧ (1 ≤ G (8 + 3 * i + 1) ∧ G (8 + 3 * i + 1) ≤ 5) ∧ (1 ≤ G (8 + 3 * i + 2) ∧ G (8 + 3 * i + 2) ≤ 30)) ∧
  (∀ s, 1 ≤ s → s < G 3 → 1 ≤ G (20 + s) ∧ G (20 + s) ≤ 20) ∧
  (∀ b o, 0 ≤ b → b < 8 → 0 ≤ o → o < 8 → 0 ≤ G (28 + 8 * b + o) ∧ G (28 + 8 * b + o) ≤ 20 ∧ (b = o → G (28 + 8 * b + o) = 0)) ∧
  (∀ j, 92 ≤ j → j < 124 → 0 ≤ G j ∧ G j ≤ 20) ∧ (∀ j, 0 ≤ j → j < 412 → zc (G j))
def uB (it st lo dy : Int) (u : aR) : Prop := 0 ≤ u 1 ∧ u 1 < it ∧ (0 ≤ u 5 ∧ u 5 ≤ 20) ∧ (0 ≤ u 4 ∧ u 4 ≤ dy + 30) ∧
  ((u 0 = 0 ∧ u 2 = 0 ∧ u 3 = 0 ∧ lo ≤ u 4) ∨ (u 0 = 1 ∧ u 2 = 0 ∧ u 3 = 0 ∧ lo ≤ u 4) ∨
   (u 0 = 1 ∧ 1 ≤ u 2 ∧ u 2 < st ∧ 1 ≤ u 3 ∧ u 3 < st ∧ (u 2 ≠ u 3 → 1 ≤ u 5) ∧ lo ≤ u 4) ∨
   ((u 0 = 2 ∨ u 0 = 3) ∧ u 2 = u 3 ∧ 1 ≤ u 2 ∧ u 2 < st ∧ lo ≤ u 4) ∨ (u 0 = 4 ∧ u 2 = 0 ∧ u 3 = 0))
def cB (it st dy : Int) (u : aR) : Prop := 1 ≤ u 0 ∧ u 0 < st ∧ 0 ≤ u 1 ∧ u 1 < it ∧ 0 ≤ u 2 ∧ u 2 ≤ 9 ∧ 0 ≤ u 3 ∧ u 3 ≤ dy
def oB (it st : Int) (u : aR) : Prop := 0 ≤ u 0 ∧ u 0 < it ∧ 1 ≤ u 1 ∧ u 1 < st ∧ 0 ≤ u 2 ∧ u 2 ≤ 9
def aB (lo : Int) (A : aA) : Prop := gB A.1 ∧ (∀ u ∈ A.2.1, uB (A.1 2) (A.1 3) lo (A.1 0) u) ∧ (∀ u ∈ A.2.2.1, cB (A.1 2) (A.1 3) (A.1 0) u) ∧ (∀ u ∈ A.2.2.2, oB (A.1 2) (A.1 3) u)
theorem rg_mem {l : List aR} {k : Nat} (h : k < l.length) : rg l k ∈ l := by
  unfold rg
  rw [List.getD_eq_getElem?_getD, List.getElem?_eq_getElem h]
  exact List.getElem_mem h
theorem zwS {k : Nat} (h : k < 1000000) : zw ((k : Int) + 1) = ((k + 1 : Nat) : Int) := by rw [zw_of (by omega) (by omega)]; omega
/-- a base, an item -/
def kB (A : aA) (b : Int) : Prop := 1 ≤ b ∧ b < A.1 3
def kI (A : aA) (i : Int) : Prop := 0 ≤ i ∧ i < A.1 2
def aSup (A : aA) (b i : Int) : aA := aApp A (mkU 2 i b b (zw (A.1 0 + A.1 (20 + b))) 0)
def bO (A : aA) (i : Int) : Int := bstO A.2.2.2 i A.2.2.2.length
def bC (A : aA) (b i : Int) : Int := bstC A.2.2.1 b i A.2.2.1.length
def aFill (A : aA) (i : Int) : aA := if bO A i = -1 then aG A (124 + 4 * 0 + i) (zw (A.1 (124 + 4 * 0 + i) + 1)) else aSup (A.1, A.2.1, A.2.2.1, A.2.2.2.eraseIdx (bO A i).toNat) (rg A.2.2.2 (bO A i).toNat 1) i
def aCome (A : aA) (b i : Int) : aA := if bC A b i = -1 then aG A (124 + 4 * b + i) (zw (A.1 (124 + 4 * b + i) + 1)) else
  (zup A.1 (316 + 4 * b + i) (zw (A.1 (316 + 4 * b + i) + (A.1 0 - rg A.2.2.1 (bC A b i).toNat 3))), A.2.1, A.2.2.1.eraseIdx (bC A b i).toNat, A.2.2.2)
theorem bO_bd (A : aA) (i : Int) : -1 ≤ bO A i ∧ bO A i < A.2.2.2.length := bstO_bd _ _ _
theorem bC_bd (A : aA) (b i : Int) : -1 ≤ bC A b i ∧ bC A b i < A.2.2.1.length := bstC_bd _ _ _ _
section MB
variable {g : zG} {S : zSh} {im im0 : zIm} {a : Nat} {A : aA}
theorem c_supply (G : zOK g) (hS : zS_M S a) (hM : mS a im0 im A) (hF : A.2.1.length ≤ 758) {b i : Int} {Q : zIm → Prop} (b0 : 0 ≤ b) (b1 : b < 8) (ci : zc i) (hQ : ∀ im', mS a im0 im' (aSup A b i) → Q im') : zCV g yX8_supply M_X8_supply [.ref a, .int (zi b), .int (zi i)] S im Q := by
  refine v_X8_supply G hS (zc_of (by omega) (by omega)) ci ?_
  rw [zw_of (n := 20 + b) (by omega) (by omega), hM.h (i := 0) (by omega) (by omega), hM.g (i := 20 + b) (by omega) (by omega)]
  exact ⟨⟨by omega, by omega⟩, c_appendUnit G hS hM.2 hF (zc_of (by omega) (by omega)) ci (zc_of (by omega) (by omega)) (zc_of (by omega) (by omega)) (zc_zw _) zc_0 (fun r hr => hQ _ (hM.to hr))⟩
theorem c_fill_loop (G : zOK g) (hS : zS_M S a) (hM : mS a im0 im A) (hF : aFit A) (hU : A.2.1.length ≤ 758) (hB : ∀ u ∈ A.2.2.2, oB (A.1 2) (A.1 3) u) (hG : gB A.1) {i : Int} {Q : zIm → Prop} (i0 : 0 ≤ i) (i1 : i < 4) (hQ : ∀ im', mS a im0 im' (aFill A i) → Q im') :
    ∀ (n k : Nat), k + n = A.2.2.2.length → zPV g M_X8_fillOrder 4 [(0, .ref a), (1, .int (zi i)), (2, .int (zi (bstO A.2.2.2 i k))), (3, .int (zi k))] S im Q := by
  have h6 := hF.2.2
  have e6 := hM.2.2.2.2.1
  intro n
  induction n with
  | zero =>
    intro k hk
    have hb := bstO_bd A.2.2.2 i k
    refine v_X8_fillOrder_4 G hS (zc_of (by omega) (by omega)) (zc_of (by omega) (by omega)) (zc_of (by omega) (by omega)) ⟨fun _ => ⟨fun h => ?_, fun h => ?_⟩, fun h => absurd h (by omega)⟩
    · have hk' : k = A.2.2.2.length := by omega
      subst hk'
      obtain ⟨m, hm⟩ : ∃ m : Nat, bstO A.2.2.2 i A.2.2.2.length = m := ⟨(bstO A.2.2.2 i A.2.2.2.length).toNat, by omega⟩
      have ho := hB _ (rg_mem (l := A.2.2.2) (k := m) (by omega))
      unfold oB at ho
      have hs := hG.2.2.2.1
      rw [hm]
      refine c_order G hS hM.2 hF (by omega) (by omega) (by omega) ?_
      refine c_removeO G hS hM.2 hF (by omega) (fun r hr => ?_)
      refine c_supply G hS (hM.to hr) hU (by omega) (by omega) (zc_of (by omega) (by omega)) (fun im' h' => hQ im' ?_)
      unfold aFill bO
      rw [hm, if_neg (by omega)]
      exact h'
    · have hk' : k = A.2.2.2.length := by omega
      subst hk'
      refine c_at G (by omega) (by omega) (by omega) (by omega) i0 i1 ⟨⟨by omega, by omega⟩, fun im' e => hQ im' ?_⟩
      unfold aFill bO
      rw [if_pos h, ← hM.g (by omega) (by omega)]
      exact hM.u e (by omega) (by omega)
  | succ n ih =>
    intro k hk
    have hb := bstO_bd A.2.2.2 i k
    have ho := hB _ (rg_mem (l := A.2.2.2) (k := k) (by omega))
    unfold oB at ho
    have st := ih (k + 1) (by omega)
    refine v_X8_fillOrder_4 G hS (zc_of (by omega) (by omega)) (zc_of (by omega) (by omega)) (zc_of (by omega) (by omega)) ⟨fun h => absurd h (by omega), fun _ => ?_⟩
    rw [zwS (k := k) (by omega)]
    unfold bstO at st
    refine c_order G hS hM.2 hF (by omega) (by omega) (by omega) ⟨fun h1 => ?_, fun h1 => ⟨fun h2 => ?_, fun h2 => ?_⟩⟩
    · rw [if_neg (by simp [h1])] at st; exact st
    · rw [if_pos ⟨h1, Or.inl h2⟩] at st; exact st
    · obtain ⟨m, hm⟩ : ∃ m : Nat, bstO A.2.2.2 i k = m := ⟨(bstO A.2.2.2 i k).toNat, by omega⟩
      rw [hm] at st ⊢
      refine c_order G hS hM.2 hF (by omega) (by omega) (by omega) ?_
      refine c_order G hS hM.2 hF (by omega) (by omega) (by omega) ⟨fun h3 => ?_, fun h3 => ?_⟩
      · rw [if_neg (fun hh => hh.2.elim (fun h => by omega) (fun h => by simp only [Int.toNat_natCast] at h; omega))] at st; exact st
      · rw [if_pos ⟨h1, Or.inr (by simp only [Int.toNat_natCast]; exact h3)⟩] at st; exact st
theorem c_fillOrder (G : zOK g) (hS : zS_M S a) (hM : mS a im0 im A) (hF : aFit A) (hU : A.2.1.length ≤ 758) (hB : ∀ u ∈ A.2.2.2, oB (A.1 2) (A.1 3) u) (hG : gB A.1) {i : Int} {Q : zIm → Prop} (i0 : 0 ≤ i) (i1 : i < 4) (hQ : ∀ im', mS a im0 im' (aFill A i) → Q im') : zCV g yX8_fillOrder M_X8_fillOrder [.ref a, .int (zi i)] S im Q :=
  v_X8_fillOrder G hS (zc_of (by omega) (by omega)) (c_fill_loop G hS hM hF hU hB hG i0 i1 hQ _ 0 (Nat.zero_add _))
theorem c_isCustomer (G : zOK g) (hS : zS_M S a) (hM : mS a im0 im A) (hF : aFit A) {k : Nat} {b i : Int} {Q : Int → zIm → Prop} (hk : k < A.2.2.1.length) (cb : zc b) (ci : zc i) (ht : rg A.2.2.1 k 0 = b → rg A.2.2.1 k 1 = i → Q 1 im) (hf : ¬ (rg A.2.2.1 k 0 = b ∧ rg A.2.2.1 k 1 = i) → Q 0 im) : zCI g yX8_isCustomer M_X8_isCustomer [.ref a, .int (zi k), .int (zi b), .int (zi i)] S im Q := by
  have h5 := hF.2.1
  refine v_X8_isCustomer G hS (zc_of (by omega) (by omega)) cb ci ?_
  refine c_customer G hS hM.2 hF hk (by omega) (by omega) ⟨fun h => hf (fun hh => h hh.1), fun h => ?_⟩
  exact c_customer G hS hM.2 hF hk (by omega) (by omega) ⟨fun h' => hf (fun hh => h' hh.2), fun h' => ht h h'⟩
theorem c_best_loop (G : zOK g) (hS : zS_M S a) (hM : mS a im0 im A) (hF : aFit A) {b i : Int} {Q : Int → zIm → Prop} (cb : zc b) (ci : zc i) (hQ : Q (bC A b i) im) :
    ∀ (n k : Nat), k + n = A.2.2.1.length → zPI g M_X8_bestCustomer 5 [(0, .ref a), (1, .int (zi b)), (2, .int (zi i)), (3, .int (zi (bstC A.2.2.1 b i k))), (4, .int (zi k))] S im Q := by
  have h5 := hF.2.1
  have e5 := hM.2.2.2.1
  intro n
  induction n with
  | zero =>
    intro k hk
    have hb := bstC_bd A.2.2.1 b i k
    refine v_X8_bestCustomer_5 G hS cb ci (zc_of (by omega) (by omega)) (zc_of (by omega) (by omega)) ⟨fun _ => ?_, fun h => absurd h (by omega)⟩
    have hk' : k = A.2.2.1.length := by omega
    subst hk'
    exact hQ
  | succ n ih =>
    intro k hk
    have hb := bstC_bd A.2.2.1 b i k
    have st := ih (k + 1) (by omega)
    refine v_X8_bestCustomer_5 G hS cb ci (zc_of (by omega) (by omega)) (zc_of (by omega) (by omega)) ⟨fun h => absurd h (by omega), fun _ => ?_⟩
    rw [zwS (k := k) (by omega)]
    unfold bstC at st
    refine c_isCustomer G hS hM hF (by omega) cb ci (fun h1 h1' => ⟨fun h => absurd h (by decide), fun _ => ⟨fun h2 => ?_, fun h2 => ?_⟩⟩) (fun h1 => ⟨fun _ => ?_, fun h => absurd rfl h⟩)
    · rw [if_pos ⟨h1, h1', Or.inl h2⟩] at st; exact st
    · obtain ⟨m, hm⟩ : ∃ m : Nat, bstC A.2.2.1 b i k = m := ⟨(bstC A.2.2.1 b i k).toNat, by omega⟩
      rw [hm] at st ⊢
      refine c_customer G hS hM.2 hF (by omega) (by omega) (by omega) ?_
      refine c_customer G hS hM.2 hF (by omega) (by omega) (by omega) ⟨fun h3 => ?_, fun h3 => ?_⟩
      · rw [if_neg (fun hh => hh.2.2.elim (fun h => by omega) (fun h => by simp only [Int.toNat_natCast] at h; omega))] at st; exact st
      · rw [if_pos ⟨h1, h1', Or.inr (by simp only [Int.toNat_natCast]; exact h3)⟩] at st; exact st
    · rw [if_neg (fun hh => h1 ⟨hh.1, hh.2.1⟩)] at st; exact st
theorem c_bestCustomer (G : zOK g) (hS : zS_M S a) (hM : mS a im0 im A) (hF : aFit A) {b i : Int} {Q : Int → zIm → Prop} (cb : zc b) (ci : zc i) (hQ : Q (bC A b i) im) : zCI g yX8_bestCustomer M_X8_bestCustomer [.ref a, .int (zi b), .int (zi i)] S im Q :=
  v_X8_bestCustomer G hS cb ci (c_best_loop G hS hM hF cb ci hQ _ 0 (Nat.zero_add _))
theorem c_comeToBase (G : zOK g) (hS : zS_M S a) (hM : mS a im0 im A) (hF : aFit A) {b i : Int} {Q : zIm → Prop} (b0 : 0 ≤ b) (b1 : b < 8) (i0 : 0 ≤ i) (i1 : i < 4) (hQ : ∀ im', mS a im0 im' (aCome A b i) → Q im') : zCV g yX8_comeToBase M_X8_comeToBase [.ref a, .int (zi b), .int (zi i)] S im Q := by
  have hb := bC_bd A b i
  have h5 := hF.2.1
  refine v_X8_comeToBase G hS (zc_of (by omega) (by omega)) (zc_of (by omega) (by omega)) ?_
  refine c_bestCustomer G hS hM hF (zc_of (by omega) (by omega)) (zc_of (by omega) (by omega)) ⟨fun h => ?_, fun h => ?_⟩
  · obtain ⟨m, hm⟩ : ∃ m : Nat, bC A b i = m := ⟨(bC A b i).toNat, by omega⟩
    rw [hm]
    refine c_at G (by omega) (by omega) (by omega) (by omega) i0 i1 ⟨⟨by omega, by omega⟩, ?_⟩
    refine c_customer G hS hM.2 hF (by omega) (by omega) (by omega) (fun im' e => ?_)
    rw [hM.g (by omega) (by omega), hM.h (i := 0) (by omega) (by omega)] at e
    have h1 := hM.u e (by omega) (by omega)
    refine c_removeC G hS h1.2 hF (by show m < A.2.2.1.length; omega) (fun r hr => hQ _ (h1.to ?_))
    unfold aCome
    rw [hm, if_neg (by omega)]
    exact hr
  · refine c_at G (by omega) (by omega) (by omega) (by omega) i0 i1 ⟨⟨by omega, by omega⟩, fun im' e => hQ im' ?_⟩
    unfold aCome
    rw [if_pos h, ← hM.g (by omega) (by omega)]
    exact hM.u e (by omega) (by omega)
end MB
