/-! queries of a base and an item, or of an item: both sides -/
def oBI (A : aA) (b i v : Int) : aO := if (1 ≤ b ∧ b < A.1 3) ∧ (0 ≤ i ∧ i < A.1 2) then (0, v, A) else (1, 0, A)
def oIt (A : aA) (i v : Int) : aO := if 0 ≤ i ∧ i < A.1 2 then (0, v, A) else (1, 0, A)
def isOb (b i : Int) (u : aR) : Bool := decide (u 0 = i) && decide (u 1 = b)
def isIt (i : Int) (u : aR) : Bool := decide (u 1 = i)
theorem isQ_C {b i : Int} (hb : b ≠ -1) : isQ b i = isCu b i := by
  funext u
  unfold isQ isCu
  simp [hb, Bool.and_comm]
theorem ol_Q {l : List aR} {b i : Int} (hb : b ≠ -1) : (ol l).countP (isQ b i) = l.countP (isOb b i) := by
  unfold ol
  rw [List.countP_map]
  congr 1
  funext u
  simp [isQ, isOb, mkC, hb]
theorem ol_N {l : List aR} {i : Int} : (ol l).countP (isQ (-1) i) = l.countP (isOd i) := by
  unfold ol
  rw [List.countP_map]
  congr 1
  funext u
  simp [isQ, isOd, mkC]
theorem wl_Q {l : List aR} {i : Int} : (wl l).countP (isQ 0 i) = l.countP (isKn i 4) := by
  unfold wl
  rw [List.countP_map, List.countP_filter]
  congr 1
  funext u
  simp [isQ, isKn, isWt, mkC]
theorem sr_Ow {lo : Int} {A : aA} (hB : aB lo A) {b i : Int} (hb : 1 ≤ b) : (sr A.2.1).countP (isOw b i) = A.2.1.countP (isOw b i) := by
  rw [sr_cnt]
  refine List.countP_congr (fun u hu => ?_)
  have := (hB.2.1 u hu).2.2.2.2
  simp only [isOw, isWt, Bool.and_eq_true, decide_eq_true_eq, Bool.not_eq_true', decide_eq_false_iff_not]
  omega
theorem sr_Kn {l : List aR} {i k : Int} (hk : k ≠ 4) : (sr l).countP (isKn i k) = l.countP (isKn i k) := by
  rw [sr_cnt]
  refine List.countP_congr (fun u _ => ?_)
  simp only [isKn, isWt, Bool.and_eq_true, decide_eq_true_eq, Bool.not_eq_true', decide_eq_false_iff_not]
  omega
def vWt (A : aA) (b i : Int) : Int := ((A.2.2.1.countP (isCu b i) : Nat) : Int)
def vTop (A : aA) (b i : Int) : Int := if bC A b i = -1 then -1 else rg A.2.2.1 (bC A b i).toNat 2
def vKept (A : aA) (i : Int) : Int := ((A.2.2.2.countP (isOd i) : Nat) : Int)
def vDue (A : aA) (b i : Int) : Int := ((A.2.1.countP (isOw b i) + A.2.2.2.countP (isOb b i) : Nat) : Int)
def vPos (A : aA) (b i : Int) : Int := zw (A.1 (124 + 4 * b + i) + vDue A b i - vWt A b i)
def vUnd (A : aA) (i k : Int) : Int := ((A.2.1.countP (isKn i k) : Nat) : Int)
def oUnd (A : aA) (i k : Int) : aO := if 0 ≤ i ∧ i < A.1 2 then (if 0 ≤ k ∧ k ≤ 4 then (0, vUnd A i k, A) else (2, 0, A)) else (1, 0, A)
section QA
variable {g : zG} {S : zSh} {im im0 : zIm} {a an as av at_ : Nat} {A : aA} {y : Int}
theorem r_bi (G : zOK g) (hS : zS_M S a) (hM : mRep (im (a + 1)) A) (hG : gB A.1) {b i v : Int} (cp : zc b) (cq : zc i) {Q : Int → zIm → Prop} (hQ : ∀ im', mP a im im' (oBI A b i v).2.2 (oBI A b i v).1 → Q (oBI A b i v).2.1 im') {B : zIm → Prop} (hB : ∀ im1, mS a (zst im a 4 0) im1 A → kB A b → kI A i → Q v im1 → B im1) :
    ∀ im1, im1 = zst im a 4 0 → zCI g yX8_isBase M_X8_isBase [.ref a, .int (zi b)] S im1 (fun r3 im4 => ((r3 = 0 → zCI g yX8_fail M_X8_fail [.ref a, .int (zi 1)] S im4 (fun r6 im7 => Q r6 im7)) ∧ (¬ r3 = 0 → zCI g yX8_isItem M_X8_isItem [.ref a, .int (zi i)] S im4 (fun r6 im7 => ((r6 = 0 → zCI g yX8_fail M_X8_fail [.ref a, .int (zi 1)] S im7 (fun r9 im10 => Q r9 im10)) ∧ (¬ r6 = 0 → B im7)))))) := by
  intro im1 e1
  have h1 := mS.i hM e1
  have bad (hb : ¬ ((1 ≤ b ∧ b < A.1 3) ∧ (0 ≤ i ∧ i < A.1 2))) : zCI g yX8_fail M_X8_fail [.ref a, .int (zi 1)] S im1 (fun r im' => Q r im') := by
    have e : oBI A b i v = (1, 0, A) := by unfold oBI; rw [if_neg hb]
    rw [e] at hQ
    exact r_fail G hS h1 (zc_of (by omega) (by omega)) hQ
  refine r_isBase G hS h1 hG cp (fun a1 a2 => ⟨fun h => absurd h (by decide), fun _ => ?_⟩) (fun a1 => ⟨fun _ => bad (by omega), fun h => absurd rfl h⟩)
  refine r_isItem G hS h1 hG cq (fun b1 b2 => ⟨fun h => absurd h (by decide), fun _ => ?_⟩) (fun b1 => ⟨fun _ => bad (by omega), fun h => absurd rfl h⟩)
  have e : oBI A b i v = (0, v, A) := by unfold oBI; rw [if_pos ⟨⟨a1, a2⟩, b1, b2⟩]
  rw [e] at hQ
  exact hB im1 h1 ⟨a1, a2⟩ ⟨b1, b2⟩ (hQ im1 h1.p)
theorem r_bi2 (G : zOK g) (hS : zS_M S a) (hM : mRep (im (a + 1)) A) (hG : gB A.1) {b i v : Int} (cp : zc b) (cq : zc i) {Q : Int → zIm → Prop} (hQ : ∀ im', mP a im im' (oBI A b i v).2.2 (oBI A b i v).1 → Q (oBI A b i v).2.1 im') {B : zIm → Prop} (hB : ∀ im1, mS a (zst im a 4 0) im1 A → kB A b → kI A i → Q v im1 → B im1) :
    ∀ im1, im1 = zst im a 4 0 → zCI g yX8_isBase M_X8_isBase [.ref a, .int (zi b)] S im1 (fun r3 im4 => ((r3 = 0 → zCI g yX8_fail M_X8_fail [.ref a, .int (zi 1)] S im4 (fun r6 im7 => Q r6 im7)) ∧ (¬ r3 = 0 → zCI g yX8_isItem M_X8_isItem [.ref a, .int (zi i)] S im4 (fun r6 im7 => ((¬ r6 = 0 → B im7) ∧ (r6 = 0 → zCI g yX8_fail M_X8_fail [.ref a, .int (zi 1)] S im7 (fun r9 im10 => Q r9 im10))))))) := by
  intro im1 e1
  have h1 := mS.i hM e1
  have bad (hb : ¬ ((1 ≤ b ∧ b < A.1 3) ∧ (0 ≤ i ∧ i < A.1 2))) : zCI g yX8_fail M_X8_fail [.ref a, .int (zi 1)] S im1 (fun r im' => Q r im') := by
    have e : oBI A b i v = (1, 0, A) := by unfold oBI; rw [if_neg hb]
    rw [e] at hQ
    exact r_fail G hS h1 (zc_of (by omega) (by omega)) hQ
  refine r_isBase G hS h1 hG cp (fun a1 a2 => ⟨fun h => absurd h (by decide), fun _ => ?_⟩) (fun a1 => ⟨fun _ => bad (by omega), fun h => absurd rfl h⟩)
  refine r_isItem G hS h1 hG cq (fun b1 b2 => ⟨fun _ => ?_, fun h => absurd h (by decide)⟩) (fun b1 => ⟨fun h => absurd rfl h, fun _ => bad (by omega)⟩)
  have e : oBI A b i v = (0, v, A) := by unfold oBI; rw [if_pos ⟨⟨a1, a2⟩, b1, b2⟩]
  rw [e] at hQ
  exact hB im1 h1 ⟨a1, a2⟩ ⟨b1, b2⟩ (hQ im1 h1.p)
theorem r_it (G : zOK g) (hS : zS_M S a) (hM : mRep (im (a + 1)) A) (hG : gB A.1) {i v : Int} (cq : zc i) {Q : Int → zIm → Prop} (hQ : ∀ im', mP a im im' (oIt A i v).2.2 (oIt A i v).1 → Q (oIt A i v).2.1 im') {B : zIm → Prop} (hB : ∀ im1, mS a (zst im a 4 0) im1 A → kI A i → Q v im1 → B im1) :
    ∀ im1, im1 = zst im a 4 0 → zCI g yX8_isItem M_X8_isItem [.ref a, .int (zi i)] S im1 (fun r3 im4 => ((¬ r3 = 0 → B im4) ∧ (r3 = 0 → zCI g yX8_fail M_X8_fail [.ref a, .int (zi 1)] S im4 (fun r6 im7 => Q r6 im7)))) := by
  intro im1 e1
  have h1 := mS.i hM e1
  refine r_isItem G hS h1 hG cq (fun b1 b2 => ⟨fun _ => ?_, fun h => absurd h (by decide)⟩) (fun b1 => ⟨fun h => absurd rfl h, fun _ => ?_⟩)
  · have e : oIt A i v = (0, v, A) := by unfold oIt; rw [if_pos ⟨b1, b2⟩]
    rw [e] at hQ
    exact hB im1 h1 ⟨b1, b2⟩ (hQ im1 h1.p)
  · have e : oIt A i v = (1, 0, A) := by unfold oIt; rw [if_neg b1]
    rw [e] at hQ
    exact r_fail G hS h1 (zc_of (by omega) (by omega)) hQ
theorem k_bi (G : zOK g) (hS : zDep S a an as av at_) (hM : nS an y im im A) {b i v : Int} (cp : zc b) (cq : zc i) {Q : Int → zIm → Prop} {X : String → zSh → zIm → Prop} (h0 : (oBI A b i v).1 = 0 → Q (oBI A b i v).2.1 im) (h1 : (oBI A b i v).1 = 1 → X "java/lang/IndexOutOfBoundsException" (zpush S 14 0) im) {B : zIm → Prop} (hB : kB A b → kI A i → Q v im → B im) :
    zCVx g yX7_checkBase M_X7_checkBase [.ref a, .int (zi b)] S im (fun im1 => zCVx g yX7_checkItem M_X7_checkItem [.ref a, .int (zi i)] S im1 (fun im3 => B im3) X) X := by
  have bad (hb : ¬ ((1 ≤ b ∧ b < A.1 3) ∧ (0 ≤ i ∧ i < A.1 2))) : X "java/lang/IndexOutOfBoundsException" (zpush S 14 0) im := h1 (by unfold oBI; rw [if_neg hb])
  refine k_base G hS hM cp (fun a1 a2 => ?_) (fun hn => bad (by omega))
  refine k_item G hS hM cq (fun b1 b2 => ?_) (fun hn => bad (by omega))
  have e : oBI A b i v = (0, v, A) := by unfold oBI; rw [if_pos ⟨⟨a1, a2⟩, b1, b2⟩]
  rw [e] at h0
  exact hB ⟨a1, a2⟩ ⟨b1, b2⟩ (h0 rfl)
theorem k_it (G : zOK g) (hS : zDep S a an as av at_) (hM : nS an y im im A) {i v : Int} (cq : zc i) {Q : Int → zIm → Prop} {X : String → zSh → zIm → Prop} (h0 : (oIt A i v).1 = 0 → Q (oIt A i v).2.1 im) (h1 : (oIt A i v).1 = 1 → X "java/lang/IndexOutOfBoundsException" (zpush S 14 0) im) {B : zIm → Prop} (hB : kI A i → Q v im → B im) :
    zCVx g yX7_checkItem M_X7_checkItem [.ref a, .int (zi i)] S im (fun im1 => B im1) X := by
  refine k_item G hS hM cq (fun b1 b2 => ?_) (fun hn => h1 (by unfold oIt; rw [if_neg hn]))
  have e : oIt A i v = (0, v, A) := by unfold oIt; rw [if_pos ⟨b1, b2⟩]
  rw [e] at h0
  exact hB ⟨b1, b2⟩ (h0 rfl)
/-! waiting, topPriority, keptOrders -/
theorem r_waiting (G : zOK g) (hS : zS_M S a) (hM : mRep (im (a + 1)) A) (hG : gB A.1) (hF : aFit A) {b i : Int} (cp : zc b) (cq : zc i) {Q : Int → zIm → Prop} (hQ : ∀ im', mP a im im' (oBI A b i (vWt A b i)).2.2 (oBI A b i (vWt A b i)).1 → Q (oBI A b i (vWt A b i)).2.1 im') : zCI g yX8_waiting M_X8_waiting [.ref a, .int (zi b), .int (zi i)] S im Q :=
  v_X8_waiting G hS cp cq (r_bi G hS hM hG cp cq hQ (fun _ h1 _ _ hq => c_waitingOf G hS h1 hF cp cq hq))
theorem k_waiting (G : zOK g) (hS : zDep S a an as av at_) (hM : nS an y im im A) (hC : A.2.2.1.length < 300) {b i : Int} (cp : zc b) (cq : zc i) {Q : Int → zIm → Prop} {X : String → zSh → zIm → Prop} (h0 : (oBI A b i (vWt A b i)).1 = 0 → Q (oBI A b i (vWt A b i)).2.1 im) (h1 : (oBI A b i (vWt A b i)).1 = 1 → X "java/lang/IndexOutOfBoundsException" (zpush S 14 0) im) : zCIx g yX7_waiting M_X7_waiting [.ref a, .int (zi b), .int (zi i)] S im Q X := by
  refine v_X7_waiting G hS cp cq (k_bi G hS hM cp cq h0 h1 (fun hb hi hq => ?_))
  refine k_countOf G (zN_C hS.2.2.2.2.2.1) hM.2.2.2.2.2.2 hC cp cq ?_
  rw [isQ_C (by have := hb.1; omega)]
  exact hq
theorem r_topPriority (G : zOK g) (hS : zS_M S a) (hM : mRep (im (a + 1)) A) (hG : gB A.1) (hF : aFit A) {b i : Int} (cp : zc b) (cq : zc i) {Q : Int → zIm → Prop} (hQ : ∀ im', mP a im im' (oBI A b i (vTop A b i)).2.2 (oBI A b i (vTop A b i)).1 → Q (oBI A b i (vTop A b i)).2.1 im') : zCI g yX8_topPriority M_X8_topPriority [.ref a, .int (zi b), .int (zi i)] S im Q := by
  refine v_X8_topPriority G hS cp cq (r_bi2 G hS hM hG cp cq hQ (fun im1 h1 _ _ hq => ?_))
  have hb := bC_bd A b i
  unfold vTop at hq
  refine c_bestCustomer G hS h1 hF cp cq ⟨fun h => ?_, fun h => by rw [if_pos h] at hq; exact hq⟩
  rw [if_neg h] at hq
  obtain ⟨m, hm⟩ : ∃ m : Nat, bC A b i = m := ⟨(bC A b i).toNat, by omega⟩
  rw [hm, Int.toNat_natCast] at hq
  rw [hm]
  exact c_customer G hS h1.2 hF (by omega) (by omega) (by omega) hq
theorem k_topPriority (G : zOK g) (hS : zDep S a an as av at_) (hM : nS an y im im A) (hC : A.2.2.1.length < 300) {b i : Int} (cp : zc b) (cq : zc i) {Q : Int → zIm → Prop} {X : String → zSh → zIm → Prop} (h0 : (oBI A b i (vTop A b i)).1 = 0 → Q (oBI A b i (vTop A b i)).2.1 im) (h1 : (oBI A b i (vTop A b i)).1 = 1 → X "java/lang/IndexOutOfBoundsException" (zpush S 14 0) im) : zCIx g yX7_topPriority M_X7_topPriority [.ref a, .int (zi b), .int (zi i)] S im Q X := by
  refine v_X7_topPriority G hS cp cq (k_bi G hS hM cp cq h0 h1 (fun hb hi hq => ?_))
  have hbd := bC_bd A b i
  refine c_firstOf G (zN_C hS.2.2.2.2.2.1) hM.2.2.2.2.2.2 hC cp cq ?_
  rw [bstQ_C _ _ _ (by have := hb.1; omega), show bstC A.2.2.1 b i A.2.2.1.length = bC A b i from rfl]
  unfold vTop at hq
  refine ⟨fun h => ?_, fun h => by rw [if_pos h] at hq; exact hq⟩
  rw [if_neg h] at hq
  obtain ⟨m, hm⟩ : ∃ m : Nat, bC A b i = m := ⟨(bC A b i).toNat, by omega⟩
  have e := (hM.2.2.2.2.2.2.2 m (by omega)).2.2.1
  rw [hm, Int.toNat_natCast] at hq
  show (0 ≤ bC A b i ∧ bC A b i < 300) ∧ Q (im (an + 38) (bC A b i)) im
  rw [hm]
  refine ⟨⟨by omega, by omega⟩, ?_⟩
  rw [show im (an + 38) (m : Int) = rg A.2.2.1 m 2 from e]
  exact hq
theorem r_keptOrders (G : zOK g) (hS : zS_M S a) (hM : mRep (im (a + 1)) A) (hG : gB A.1) (hF : aFit A) {i : Int} (cq : zc i) {Q : Int → zIm → Prop} (hQ : ∀ im', mP a im im' (oIt A i (vKept A i)).2.2 (oIt A i (vKept A i)).1 → Q (oIt A i (vKept A i)).2.1 im') : zCI g yX8_keptOrders M_X8_keptOrders [.ref a, .int (zi i)] S im Q :=
  v_X8_keptOrders G hS cq (r_it G hS hM hG cq hQ (fun _ h1 _ hq => c_ko_loop G hS h1 hF cq hq _ 0 (Nat.zero_add _)))
theorem k_keptOrders (G : zOK g) (hS : zDep S a an as av at_) (hM : nS an y im im A) (hO : A.2.2.2.length < 300) {i : Int} (cq : zc i) {Q : Int → zIm → Prop} {X : String → zSh → zIm → Prop} (h0 : (oIt A i (vKept A i)).1 = 0 → Q (oIt A i (vKept A i)).2.1 im) (h1 : (oIt A i (vKept A i)).1 = 1 → X "java/lang/IndexOutOfBoundsException" (zpush S 14 0) im) : zCIx g yX7_keptOrders M_X7_keptOrders [.ref a, .int (zi i)] S im Q X := by
  refine v_X7_keptOrders G hS cq (k_it G hS hM cq h0 h1 (fun hi hq => ?_))
  refine k_countOf G (zN_O hS.2.2.2.2.2.1) hM.2.2.2.2.2.1 (by unfold ol; simpa using hO) (zc_of (by omega) (by omega)) cq ?_
  rw [ol_N]
  exact hq
/-! dueIn, position -/
theorem c_di_loop2 (G : zOK g) (hS : zS_M S a) (hM : mS a im0 im A) (hF : aFit A) {b i : Int} (cb : zc b) (ci : zc i) {c : Nat} (hc : c < 1000) {Q : Int → zIm → Prop} (hQ : Q ((c + A.2.2.2.countP (isOb b i) : Nat) : Int) im) :
    ∀ (f k : Nat), k + f = A.2.2.2.length → zPI g M_X8_dueInOf 55 [(0, .ref a), (1, .int (zi b)), (2, .int (zi i)), (3, .int (zi ((c + (A.2.2.2.take k).countP (isOb b i) : Nat) : Int))), (4, .int (zi k))] S im Q := by
  have h5 := hF.2.2
  have e5 := hM.2.2.2.2.1
  intro f
  induction f with
  | zero =>
    intro k hk
    have hb := cnt_le (l := A.2.2.2) (f := isOb b i) (k := k)
    refine v_X8_dueInOf_55 G hS cb ci (zc_of (by omega) (by omega)) (zc_of (by omega) (by omega)) ⟨fun _ => ?_, fun h => absurd h (by omega)⟩
    rw [List.take_of_length_le (by omega)]
    exact hQ
  | succ f ih =>
    intro k hk
    have hb := cnt_le (l := A.2.2.2) (f := isOb b i) (k := k)
    have st := ih (k + 1) (by omega)
    rw [cnt_take (by omega), ← Nat.add_assoc] at st
    refine v_X8_dueInOf_55 G hS cb ci (zc_of (by omega) (by omega)) (zc_of (by omega) (by omega)) ⟨fun h => absurd h (by omega), fun _ => ?_⟩
    rw [zwS (k := k) (by omega), zwS (by omega), zwN (by omega)]
    refine c_order G hS hM.2 hF (by omega) (by omega) (by omega) ⟨fun h1 => ?_, fun h1 => ?_⟩
    · rw [if_neg (by simp [isOb, h1])] at st; exact st
    · refine c_order G hS hM.2 hF (by omega) (by omega) (by omega) ⟨fun h2 => ?_, fun h2 => ?_⟩
      · rw [if_neg (by simp [isOb, h2])] at st; exact st
      · rw [if_pos (by simp [isOb, h1, h2])] at st; exact st
theorem c_di_loop1 (G : zOK g) (hS : zS_M S a) (hM : mS a im0 im A) (hF : aFit A) {b i : Int} (cb : zc b) (ci : zc i) {Q : Int → zIm → Prop} (hQ : Q (vDue A b i) im) :
    ∀ (f k : Nat), k + f = A.2.1.length → zPI g M_X8_dueInOf 5 [(0, .ref a), (1, .int (zi b)), (2, .int (zi i)), (3, .int (zi ((A.2.1.take k).countP (isOw b i) : Nat))), (4, .int (zi k))] S im Q := by
  have h5 := hF.1
  have e5 := hM.2.2.1
  intro f
  induction f with
  | zero =>
    intro k hk
    have hb := cnt_le (l := A.2.1) (f := isOw b i) (k := k)
    refine v_X8_dueInOf_5 G hS cb ci (zc_of (by omega) (by omega)) (zc_of (by omega) (by omega)) ⟨fun _ => ?_, fun h => absurd h (by omega)⟩
    rw [List.take_of_length_le (by omega)] at hb ⊢
    exact c_di_loop2 G hS hM hF cb ci (by omega) hQ _ 0 (Nat.zero_add _)
  | succ f ih =>
    intro k hk
    have hb := cnt_le (l := A.2.1) (f := isOw b i) (k := k)
    have st := ih (k + 1) (by omega)
    rw [cnt_take (by omega)] at st
    refine v_X8_dueInOf_5 G hS cb ci (zc_of (by omega) (by omega)) (zc_of (by omega) (by omega)) ⟨fun h => absurd h (by omega), fun _ => ?_⟩
    rw [zwS (k := k) (by omega), zwS (by omega), zwN (by omega)]
    refine c_unit G hS hM.2 hF (by omega) (by omega) (by omega) ⟨fun h1 => ?_, fun h1 => ?_⟩
    · rw [if_neg (by simp [isOw, h1])] at st; exact st
    · refine c_unit G hS hM.2 hF (by omega) (by omega) (by omega) ⟨fun h2 => ?_, fun h2 => ?_⟩
      · rw [if_neg (by simp [isOw, h2])] at st; exact st
      · rw [if_pos (by simp [isOw, h1, h2])] at st; exact st
theorem c_dueInOf (G : zOK g) (hS : zS_M S a) (hM : mS a im0 im A) (hF : aFit A) {b i : Int} (cb : zc b) (ci : zc i) {Q : Int → zIm → Prop} (hQ : Q (vDue A b i) im) : zCI g yX8_dueInOf M_X8_dueInOf [.ref a, .int (zi b), .int (zi i)] S im Q :=
  v_X8_dueInOf G hS cb ci (c_di_loop1 G hS hM hF cb ci hQ _ 0 (Nat.zero_add _))
theorem r_dueIn (G : zOK g) (hS : zS_M S a) (hM : mRep (im (a + 1)) A) (hG : gB A.1) (hF : aFit A) {b i : Int} (cp : zc b) (cq : zc i) {Q : Int → zIm → Prop} (hQ : ∀ im', mP a im im' (oBI A b i (vDue A b i)).2.2 (oBI A b i (vDue A b i)).1 → Q (oBI A b i (vDue A b i)).2.1 im') : zCI g yX8_dueIn M_X8_dueIn [.ref a, .int (zi b), .int (zi i)] S im Q :=
  v_X8_dueIn G hS cp cq (r_bi G hS hM hG cp cq hQ (fun _ h1 _ _ hq => c_dueInOf G hS h1 hF cp cq hq))
theorem r_position (G : zOK g) (hS : zS_M S a) (hM : mRep (im (a + 1)) A) (hG : gB A.1) (hF : aFit A) {b i : Int} (cp : zc b) (cq : zc i) {Q : Int → zIm → Prop} (hQ : ∀ im', mP a im im' (oBI A b i (vPos A b i)).2.2 (oBI A b i (vPos A b i)).1 → Q (oBI A b i (vPos A b i)).2.1 im') : zCI g yX8_position M_X8_position [.ref a, .int (zi b), .int (zi i)] S im Q := by
  have g2 := hG.2.2.1
  have g3 := hG.2.2.2.1
  refine v_X8_position G hS cp cq (r_bi G hS hM hG cp cq hQ (fun im1 h1 hb hi hq => ?_))
  have hb0 := hb.1
  have hb1 := hb.2
  have hi0 := hi.1
  have hi1 := hi.2
  refine c_at G (by omega) (by omega) (by omega) (by omega) (by omega) (by omega) ⟨⟨by omega, by omega⟩, ?_⟩
  refine c_dueInOf G hS h1 hF cp cq ?_
  refine c_waitingOf G hS h1 hF cp cq ?_
  rw [h1.g (by omega) (by omega)]
  exact hq
theorem k_expected (G : zOK g) {n : Nat} (hS : zS_N S n) (hM : nS n y im0 im A) {lo : Int} (hB : aB lo A) (hU : A.2.1.length < 300) (hO : A.2.2.2.length < 300) {b i : Int} (cp : zc b) (cq : zc i) (hb : 1 ≤ b) {Q : Int → zIm → Prop} (hQ : Q (vDue A b i) im) : zCI g yX2_expected M_X2_expected [.ref n, .int (zi b), .int (zi i)] S im Q := by
  have hl := sr_wl_len A.2.1
  refine v_X2_expected G hS cp cq ?_
  refine k_countOwned G (zN_U hS) hM.2.2.2.1 (by omega) cp cq ?_
  refine k_countOf G (zN_O hS) hM.2.2.2.2.2.1 (by unfold ol; simpa using hO) cp cq ?_
  rw [sr_Ow hB hb, ol_Q (by omega)]
  have c1 := List.countP_le_length (p := isOw b i) (l := A.2.1)
  have c2 := List.countP_le_length (p := isOb b i) (l := A.2.2.2)
  rw [zw_of (by omega) (by omega), ← Int.natCast_add]
  exact hQ
theorem k_dueIn (G : zOK g) (hS : zDep S a an as av at_) (hM : nS an y im im A) {lo : Int} (hB : aB lo A) (hU : A.2.1.length < 300) (hO : A.2.2.2.length < 300) {b i : Int} (cp : zc b) (cq : zc i) {Q : Int → zIm → Prop} {X : String → zSh → zIm → Prop} (h0 : (oBI A b i (vDue A b i)).1 = 0 → Q (oBI A b i (vDue A b i)).2.1 im) (h1 : (oBI A b i (vDue A b i)).1 = 1 → X "java/lang/IndexOutOfBoundsException" (zpush S 14 0) im) : zCIx g yX7_dueIn M_X7_dueIn [.ref a, .int (zi b), .int (zi i)] S im Q X :=
  v_X7_dueIn G hS cp cq (k_bi G hS hM cp cq h0 h1 (fun hb _ hq => k_expected G hS.2.2.2.2.2.1 hM hB hU hO cp cq hb.1 hq))
theorem k_position (G : zOK g) (hS : zDep S a an as av at_) (hM : nS an y im im A) {lo : Int} (hB : aB lo A) (hU : A.2.1.length < 300) (hO : A.2.2.2.length < 300) (hC : A.2.2.1.length < 300) {b i : Int} (cp : zc b) (cq : zc i) {Q : Int → zIm → Prop} {X : String → zSh → zIm → Prop} (h0 : (oBI A b i (vPos A b i)).1 = 0 → Q (oBI A b i (vPos A b i)).2.1 im) (h1 : (oBI A b i (vPos A b i)).1 = 1 → X "java/lang/IndexOutOfBoundsException" (zpush S 14 0) im) : zCIx g yX7_position M_X7_position [.ref a, .int (zi b), .int (zi i)] S im Q X := by
  have g2 := hB.1.2.2.1
  have g3 := hB.1.2.2.2.1
  refine v_X7_position G hS cp cq (k_bi G hS hM cp cq h0 h1 (fun hb hi hq => ?_))
  have hb0 := hb.1
  have hb1 := hb.2
  have hi0 := hi.1
  have hi1 := hi.2
  refine c_cell G (by omega) (by omega) hi0 (by omega) ⟨⟨by omega, by omega⟩, ?_⟩
  refine k_expected G hS.2.2.2.2.2.1 hM hB hU hO cp cq hb0 ?_
  refine k_countOf G (zN_C hS.2.2.2.2.2.1) hM.2.2.2.2.2.2 hC cp cq ?_
  rw [isQ_C (by omega), hM.t (c := 2) (t := 124) (by unfold tP; omega) (by omega) (by omega) hi0 (by omega)]
  exact hq
/-! underWay -/
theorem c_uw_loop (G : zOK g) (hS : zS_M S a) (hM : mS a im0 im A) (hF : aFit A) {i k : Int} (ci : zc i) (ck : zc k) {Q : Int → zIm → Prop} (hQ : Q (vUnd A i k) im) :
    ∀ (f j : Nat), j + f = A.2.1.length → zPI g M_X8_underWay 39 [(0, .ref a), (1, .int (zi i)), (2, .int (zi k)), (3, .int (zi ((A.2.1.take j).countP (isKn i k) : Nat))), (4, .int (zi j))] S im Q := by
  have h5 := hF.1
  have e5 := hM.2.2.1
  intro f
  induction f with
  | zero =>
    intro j hj
    have hb := cnt_le (l := A.2.1) (f := isKn i k) (k := j)
    refine v_X8_underWay_39 G hS ci ck (zc_of (by omega) (by omega)) (zc_of (by omega) (by omega)) ⟨fun _ => ?_, fun h => absurd h (by omega)⟩
    rw [List.take_of_length_le (by omega)]
    exact hQ
  | succ f ih =>
    intro j hj
    have hb := cnt_le (l := A.2.1) (f := isKn i k) (k := j)
    have st := ih (j + 1) (by omega)
    rw [cnt_take (by omega)] at st
    refine v_X8_underWay_39 G hS ci ck (zc_of (by omega) (by omega)) (zc_of (by omega) (by omega)) ⟨fun h => absurd h (by omega), fun _ => ?_⟩
    rw [zwS (k := j) (by omega), zwS (by omega), zwN (by omega)]
    refine c_unit G hS hM.2 hF (by omega) (by omega) (by omega) ⟨fun h1 => ?_, fun h1 => ?_⟩
    · rw [if_neg (by simp [isKn, h1])] at st; exact st
    · refine c_unit G hS hM.2 hF (by omega) (by omega) (by omega) ⟨fun h2 => ?_, fun h2 => ?_⟩
      · rw [if_neg (by simp [isKn, h2])] at st; exact st
      · rw [if_pos (by simp [isKn, h1, h2])] at st; exact st
theorem r_underWay (G : zOK g) (hS : zS_M S a) (hM : mRep (im (a + 1)) A) (hG : gB A.1) (hF : aFit A) {i k : Int} (cp : zc i) (cq : zc k) {Q : Int → zIm → Prop} (hQ : ∀ im', mP a im im' (oUnd A i k).2.2 (oUnd A i k).1 → Q (oUnd A i k).2.1 im') : zCI g yX8_underWay M_X8_underWay [.ref a, .int (zi i), .int (zi k)] S im Q := by
  refine v_X8_underWay G hS cp cq (fun im1 e1 => ?_)
  have h1 := mS.i hM e1
  refine r_isItem G hS h1 hG cp (fun b1 b2 => ⟨fun _ => ?_, fun h => absurd h (by decide)⟩) (fun b1 => ⟨fun h => absurd rfl h, fun _ => ?_⟩)
  · refine c_between G cq zc_0 (zc_of (by omega) (by omega)) (fun d1 d2 => ⟨fun _ => ?_, fun h => absurd h (by decide)⟩) (fun d1 => ⟨fun h => absurd rfl h, fun _ => ?_⟩)
    · have e : oUnd A i k = (0, vUnd A i k, A) := by unfold oUnd; rw [if_pos ⟨b1, b2⟩, if_pos ⟨d1, d2⟩]
      rw [e] at hQ
      exact c_uw_loop G hS h1 hF cp cq (hQ im1 h1.p) _ 0 (Nat.zero_add _)
    · have e : oUnd A i k = (2, 0, A) := by unfold oUnd; rw [if_pos ⟨b1, b2⟩, if_neg (by omega)]
      rw [e] at hQ
      exact r_fail G hS h1 (zc_of (by omega) (by omega)) hQ
  · have e : oUnd A i k = (1, 0, A) := by unfold oUnd; rw [if_neg b1]
    rw [e] at hQ
    exact r_fail G hS h1 (zc_of (by omega) (by omega)) hQ
theorem k_countKind (G : zOK g) {n : Nat} (hS : zS_N S n) (hM : nS n y im0 im A) (hU : A.2.1.length < 300) {i k : Int} (cp : zc i) (cq : zc k) {Q : Int → zIm → Prop} (hQ : Q (vUnd A i k) im) : zCI g yX2_countKind M_X2_countKind [.ref n, .int (zi i), .int (zi k)] S im Q := by
  have hl := sr_wl_len A.2.1
  refine v_X2_countKind G hS cp cq ⟨fun h => ?_, fun h => ?_⟩
  · refine k_countKindU G (zN_U hS) hM.2.2.2.1 (by omega) cp cq ?_
    rw [sr_Kn h]
    exact hQ
  · refine k_countOf G (zN_W hS) hM.2.2.2.2.1 (by omega) zc_0 cp ?_
    rw [wl_Q]
    rw [h] at hQ
    exact hQ
theorem k_underWay (G : zOK g) (hS : zDep S a an as av at_) (hM : nS an y im im A) (hU : A.2.1.length < 300) {i k : Int} (cp : zc i) (cq : zc k) {Q : Int → zIm → Prop} {X : String → zSh → zIm → Prop} (h0 : (oUnd A i k).1 = 0 → Q (oUnd A i k).2.1 im) (h1 : (oUnd A i k).1 = 1 → X "java/lang/IndexOutOfBoundsException" (zpush S 14 0) im) (h2 : (oUnd A i k).1 = 2 → X "java/lang/IllegalArgumentException" (zpush S 14 0) im) : zCIx g yX7_underWay M_X7_underWay [.ref a, .int (zi i), .int (zi k)] S im Q X := by
  refine v_X7_underWay G hS cp cq ?_
  refine k_item G hS hM cp (fun b1 b2 => ?_) (fun hn => h1 (by unfold oUnd; rw [if_neg hn]))
  refine k_range G cq zc_0 (zc_of (by omega) (by omega)) (fun d1 d2 => ?_) (fun hn => h2 (by unfold oUnd; rw [if_pos ⟨b1, b2⟩, if_neg hn]))
  have e : oUnd A i k = (0, vUnd A i k, A) := by unfold oUnd; rw [if_pos ⟨b1, b2⟩, if_pos ⟨d1, d2⟩]
  rw [e] at h0
  exact k_countKind G hS.2.2.2.2.2.1 hM hU cp cq (h0 rfl)
end QA
