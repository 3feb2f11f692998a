/-! counting, in the reference -/
def isCu (b i : Int) (u : aR) : Bool := decide (u 0 = b) && decide (u 1 = i)
section CR
variable {g : zG} {S : zSh} {im im0 : zIm} {a : Nat} {A : aA}
theorem c_wo_loop (G : zOK g) (hS : zS_M S a) (hM : mS a im0 im A) (hF : aFit A) {b i : Int} (cb : zc b) (ci : zc i) {Q : Int → zIm → Prop} (hQ : Q (A.2.2.1.countP (isCu b i)) im) :
    ∀ (f k : Nat), k + f = A.2.2.1.length → zPI g M_X8_waitingOf 5 [(0, .ref a), (1, .int (zi b)), (2, .int (zi i)), (3, .int (zi ((A.2.2.1.take k).countP (isCu b i) : Nat))), (4, .int (zi k))] S im Q := by
  have h5 := hF.2.1
  have e5 := hM.2.2.2.1
  intro f
  induction f with
  | zero =>
    intro k hk
    have hb := cnt_le (l := A.2.2.1) (f := isCu b i) (k := k)
    refine v_X8_waitingOf_5 G hS cb ci (zc_of (by omega) (by omega)) (zc_of (by omega) (by omega)) ⟨fun _ => ?_, fun h => absurd h (by omega)⟩
    rw [List.take_of_length_le (by omega)]
    exact hQ
  | succ f ih =>
    intro k hk
    have hb := cnt_le (l := A.2.2.1) (f := isCu b i) (k := k)
    have st := ih (k + 1) (by omega)
    rw [cnt_take (by omega)] at st
    refine v_X8_waitingOf_5 G hS cb ci (zc_of (by omega) (by omega)) (zc_of (by omega) (by omega)) ⟨fun h => absurd h (by omega), fun _ => ?_⟩
    rw [zwS (k := k) (by omega), zwS (by omega), zwN (by omega)]
    refine c_isCustomer G hS hM hF (by omega) cb ci (fun h1 h2 => ⟨fun h => absurd h (by decide), fun _ => ?_⟩) (fun h1 => ⟨fun _ => ?_, fun h => absurd rfl h⟩)
    · rw [if_pos (by simp [isCu, h1, h2])] at st; exact st
    · rw [if_neg (by simp only [isCu, Bool.and_eq_true, decide_eq_true_eq]; exact h1)] at st; exact st
theorem c_waitingOf (G : zOK g) (hS : zS_M S a) (hM : mS a im0 im A) (hF : aFit A) {b i : Int} (cb : zc b) (ci : zc i) {Q : Int → zIm → Prop} (hQ : Q (A.2.2.1.countP (isCu b i)) im) : zCI g yX8_waitingOf M_X8_waitingOf [.ref a, .int (zi b), .int (zi i)] S im Q :=
  v_X8_waitingOf G hS cb ci (c_wo_loop G hS hM hF cb ci hQ _ 0 (Nat.zero_add _))
theorem c_ko_loop (G : zOK g) (hS : zS_M S a) (hM : mS a im0 im A) (hF : aFit A) {i : Int} (ci : zc i) {Q : Int → zIm → Prop} (hQ : Q (A.2.2.2.countP (isOd i)) im) :
    ∀ (f k : Nat), k + f = A.2.2.2.length → zPI g M_X8_keptOrders 23 [(0, .ref a), (1, .int (zi i)), (2, .int (zi ((A.2.2.2.take k).countP (isOd i) : Nat))), (3, .int (zi k))] S im Q := by
  have h5 := hF.2.2
  have e5 := hM.2.2.2.2.1
  intro f
  induction f with
  | zero =>
    intro k hk
    have hb := cnt_le (l := A.2.2.2) (f := isOd i) (k := k)
    refine v_X8_keptOrders_23 G hS ci (zc_of (by omega) (by omega)) (zc_of (by omega) (by omega)) ⟨fun _ => ?_, fun h => absurd h (by omega)⟩
    rw [List.take_of_length_le (by omega)]
    exact hQ
  | succ f ih =>
    intro k hk
    have hb := cnt_le (l := A.2.2.2) (f := isOd i) (k := k)
    have st := ih (k + 1) (by omega)
    rw [cnt_take (by omega)] at st
    refine v_X8_keptOrders_23 G hS ci (zc_of (by omega) (by omega)) (zc_of (by omega) (by omega)) ⟨fun h => absurd h (by omega), fun _ => ?_⟩
    rw [zwS (k := k) (by omega), zwS (by omega), zwN (by omega)]
    refine c_order G hS hM.2 hF (by omega) (by omega) (by omega) ⟨fun h1 => ?_, fun h1 => ?_⟩
    · rw [if_neg (by simp [isOd, h1])] at st; exact st
    · rw [if_pos (by simp [isOd, h1])] at st; exact st
end CR
