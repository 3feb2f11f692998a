/-! counting, in the class -/
def isQ (s i : Int) (u : aR) : Bool := decide (u 1 = i) && (decide (s = -1) || decide (u 0 = s))
def isKn (i k : Int) (u : aR) : Bool := decide (u 1 = i) && decide (u 0 = k)
def isOw (b i : Int) (u : aR) : Bool := decide (u 3 = b) && decide (u 1 = i)
section CT
variable {g : zG} {S : zSh} {im : zIm} {u : Nat}
theorem k_cof_loop (G : zOK g) (hS : zS_Q S u) {sn : Prop} {R : List aR} (hR : qRp sn im u R) (hl : R.length < 300) {s i : Int} (cs : zc s) (ci : zc i) {Q : Int → zIm → Prop} (hQ : Q (R.countP (isQ s i)) im) :
    ∀ (f k : Nat), k + f = R.length → zPI g M_X3_countOf 5 [(0, .ref u), (1, .int (zi s)), (2, .int (zi i)), (3, .int (zi ((R.take k).countP (isQ s i) : Nat))), (4, .int (zi k))] S im Q := by
  have e0 := hR.1
  intro f
  induction f with
  | zero =>
    intro k hk
    have hb := cnt_le (l := R) (f := isQ s i) (k := k)
    refine v_X3_countOf_5 G hS cs ci (zc_of (by omega) (by omega)) (zc_of (by omega) (by omega)) ⟨fun _ => ?_, fun h => absurd h (by omega)⟩
    rw [List.take_of_length_le (by omega)]
    exact hQ
  | succ f ih =>
    intro k hk
    have hb := cnt_le (l := R) (f := isQ s i) (k := k)
    have hw := hR.2 k (by omega)
    have b : 0 ≤ (k : Int) ∧ (k : Int) < 300 := by omega
    have st := ih (k + 1) (by omega)
    rw [cnt_take (by omega)] at st
    refine v_X3_countOf_5 G hS cs ci (zc_of (by omega) (by omega)) (zc_of (by omega) (by omega)) ⟨fun h => absurd h (by omega), fun _ => ?_⟩
    rw [zwS (k := k) (by omega), zwS (by omega), hw.1, hw.2.1]
    have sy (h : isQ s i (rg R k) = true) := (if_pos h : (if isQ s i (rg R k) = true then 1 else 0) = 1) ▸ st
    have sn (h : ¬ isQ s i (rg R k) = true) : zPI g M_X3_countOf 5 [(0, .ref u), (1, .int (zi s)), (2, .int (zi i)), (3, .int (zi ((R.take k).countP (isQ s i) : Nat))), (4, .int (zi ((k + 1 : Nat) : Int)))] S im Q := by
      rw [if_neg h] at st; exact st
    refine ⟨b, fun h1 => sn (by simp [isQ, h1]), fun h1 => ⟨fun h2 => sy (by simp [isQ, h1, h2]), fun h2 => ⟨b, fun h3 => sn (by simp [isQ, h2, h3]), fun h3 => sy (by simp [isQ, h1, h3])⟩⟩⟩
theorem k_countOf (G : zOK g) (hS : zS_Q S u) {sn : Prop} {R : List aR} (hR : qRp sn im u R) (hl : R.length < 300) {s i : Int} (cs : zc s) (ci : zc i) {Q : Int → zIm → Prop} (hQ : Q (R.countP (isQ s i)) im) : zCI g yX3_countOf M_X3_countOf [.ref u, .int (zi s), .int (zi i)] S im Q :=
  v_X3_countOf G hS cs ci (k_cof_loop G hS hR hl cs ci hQ _ 0 (Nat.zero_add _))
theorem k_ck_loop (G : zOK g) (hS : zS_U S u) {R : List aR} (hR : uRp im u R) (hl : R.length < 300) {i k : Int} (ci : zc i) (ck : zc k) {Q : Int → zIm → Prop} (hQ : Q (R.countP (isKn i k)) im) :
    ∀ (f j : Nat), j + f = R.length → zPI g M_X6_countKind 5 [(0, .ref u), (1, .int (zi i)), (2, .int (zi k)), (3, .int (zi ((R.take j).countP (isKn i k) : Nat))), (4, .int (zi j))] S im Q := by
  have e0 := hR.1
  intro f
  induction f with
  | zero =>
    intro j hj
    have hb := cnt_le (l := R) (f := isKn i k) (k := j)
    refine v_X6_countKind_5 G hS ci ck (zc_of (by omega) (by omega)) (zc_of (by omega) (by omega)) ⟨fun _ => ?_, fun h => absurd h (by omega)⟩
    rw [List.take_of_length_le (by omega)]
    exact hQ
  | succ f ih =>
    intro j hj
    have hb := cnt_le (l := R) (f := isKn i k) (k := j)
    have hw := hR.2 j (by omega)
    have b : 0 ≤ (j : Int) ∧ (j : Int) < 300 := by omega
    have st := ih (j + 1) (by omega)
    rw [cnt_take (by omega)] at st
    refine v_X6_countKind_5 G hS ci ck (zc_of (by omega) (by omega)) (zc_of (by omega) (by omega)) ⟨fun h => absurd h (by omega), fun _ => ?_⟩
    rw [zwS (k := j) (by omega), zwS (by omega), hw.2.1, hw.2.2.1]
    refine ⟨b, fun h1 => ?_, fun h1 => ⟨b, fun h2 => ?_, fun h2 => ?_⟩⟩
    · rw [if_neg (by simp [isKn, h1])] at st; exact st
    · rw [if_neg (by simp [isKn, h2])] at st; exact st
    · rw [if_pos (by simp [isKn, h1, h2])] at st; exact st
theorem k_countKindU (G : zOK g) (hS : zS_U S u) {R : List aR} (hR : uRp im u R) (hl : R.length < 300) {i k : Int} (ci : zc i) (ck : zc k) {Q : Int → zIm → Prop} (hQ : Q (R.countP (isKn i k)) im) : zCI g yX6_countKind M_X6_countKind [.ref u, .int (zi i), .int (zi k)] S im Q :=
  v_X6_countKind G hS ci ck (k_ck_loop G hS hR hl ci ck hQ _ 0 (Nat.zero_add _))
theorem k_co_loop (G : zOK g) (hS : zS_U S u) {R : List aR} (hR : uRp im u R) (hl : R.length < 300) {o i : Int} (co : zc o) (ci : zc i) {Q : Int → zIm → Prop} (hQ : Q (R.countP (isOw o i)) im) :
    ∀ (f j : Nat), j + f = R.length → zPI g M_X6_countOwned 5 [(0, .ref u), (1, .int (zi o)), (2, .int (zi i)), (3, .int (zi ((R.take j).countP (isOw o i) : Nat))), (4, .int (zi j))] S im Q := by
  have e0 := hR.1
  intro f
  induction f with
  | zero =>
    intro j hj
    have hb := cnt_le (l := R) (f := isOw o i) (k := j)
    refine v_X6_countOwned_5 G hS co ci (zc_of (by omega) (by omega)) (zc_of (by omega) (by omega)) ⟨fun _ => ?_, fun h => absurd h (by omega)⟩
    rw [List.take_of_length_le (by omega)]
    exact hQ
  | succ f ih =>
    intro j hj
    have hb := cnt_le (l := R) (f := isOw o i) (k := j)
    have hw := hR.2 j (by omega)
    have b : 0 ≤ (j : Int) ∧ (j : Int) < 300 := by omega
    have st := ih (j + 1) (by omega)
    rw [cnt_take (by omega)] at st
    refine v_X6_countOwned_5 G hS co ci (zc_of (by omega) (by omega)) (zc_of (by omega) (by omega)) ⟨fun h => absurd h (by omega), fun _ => ?_⟩
    rw [zwS (k := j) (by omega), zwS (by omega), hw.2.2.2.2.1, hw.2.2.1]
    refine ⟨b, fun h1 => ?_, fun h1 => ⟨b, fun h2 => ?_, fun h2 => ?_⟩⟩
    · rw [if_neg (by simp [isOw, h1])] at st; exact st
    · rw [if_neg (by simp [isOw, h2])] at st; exact st
    · rw [if_pos (by simp [isOw, h1, h2])] at st; exact st
theorem k_countOwned (G : zOK g) (hS : zS_U S u) {R : List aR} (hR : uRp im u R) (hl : R.length < 300) {o i : Int} (co : zc o) (ci : zc i) {Q : Int → zIm → Prop} (hQ : Q (R.countP (isOw o i)) im) : zCI g yX6_countOwned M_X6_countOwned [.ref u, .int (zi o), .int (zi i)] S im Q :=
  v_X6_countOwned G hS co ci (k_co_loop G hS hR hl co ci hQ _ 0 (Nat.zero_add _))
end CT
