/-! fleet -/
theorem zwa {a b : Int} : zw (zw a + b) = zw (a + b) := by
  show (zi (zw a + b)).toInt = (zi (a + b)).toInt
  rw [← zi_add, zi_zw, zi_add]
theorem zwb {a b : Int} : zw (zw a - b) = zw (a - b) := by
  show (zi (zw a - b)).toInt = (zi (a - b)).toInt
  rw [← zi_sub, zi_zw, zi_sub]
def sN (f : Nat → Int) : Nat → Int
  | 0 => 0
  | n + 1 => sN f n + f n
theorem sN_add {f h : Nat → Int} (n : Nat) : sN (fun k => f k + h k) n = sN f n + sN h n := by
  induction n with
  | zero => simp [sN]
  | succ n ih => simp only [sN, ih]; omega
theorem sN_sub {f h : Nat → Int} (n : Nat) : sN (fun k => f k - h k) n = sN f n - sN h n := by
  induction n with
  | zero => simp [sN]
  | succ n ih => simp only [sN, ih]; omega
theorem sN_cong {f h : Nat → Int} {n : Nat} (e : ∀ k, k < n → f k = h k) : sN f n = sN h n := by
  induction n with
  | zero => rfl
  | succ n ih => simp only [sN, ih (fun k hk => e k (by omega)), e n (by omega)]
theorem sN_ext {f : Nat → Int} {p q : Nat} (hpq : p ≤ q) (h : ∀ k, p ≤ k → k < q → f k = 0) : sN f q = sN f p := by
  induction q with
  | zero => have : p = 0 := by omega
            rw [this]
  | succ q ih =>
    by_cases e : p = q + 1
    · rw [e]
    · simp only [sN, ih (by omega) (fun k k0 k1 => h k k0 (by omega)), h q (by omega) (by omega)]; omega
theorem sN_z (n : Nat) : sN (fun _ => (0 : Int)) n = 0 := by
  induction n with
  | zero => rfl
  | succ n ih => simp only [sN, ih]; rfl
theorem sN_ind {c : Int} (n : Nat) : sN (fun k => if c = (k : Int) then 1 else 0) n = if 0 ≤ c ∧ c < n then 1 else 0 := by
  induction n with
  | zero => simp only [sN]; rw [if_neg (by omega)]
  | succ n ih =>
    simp only [sN, ih]
    by_cases e : c = (n : Int)
    · rw [if_pos e, if_neg (by omega), if_pos (by omega)]; rfl
    · rw [if_neg e]
      by_cases e2 : 0 ≤ c ∧ c < n
      · rw [if_pos e2, if_pos (by omega)]; rfl
      · rw [if_neg e2, if_neg (by omega)]; rfl
theorem sN_cnt {f : aR → Bool} {key : aR → Int} {n : Nat} (l : List aR) (h : ∀ u ∈ l, 0 ≤ key u ∧ key u < n) : sN (fun k => ((l.countP (fun u => f u && decide (key u = (k : Int))) : Nat) : Int)) n = ((l.countP f : Nat) : Int) := by
  induction l with
  | nil => exact sN_z n
  | cons u l ih =>
    have hu := h u List.mem_cons_self
    have i := ih (fun x hx => h x (List.mem_cons_of_mem _ hx))
    rw [List.countP_cons]
    have e : (fun k : Nat => (((u :: l).countP (fun u => f u && decide (key u = (k : Int))) : Nat) : Int)) = fun k : Nat => ((l.countP (fun u => f u && decide (key u = (k : Int))) : Nat) : Int) + (if f u = true then (if key u = (k : Int) then 1 else 0) else 0) := by
      funext k
      rw [List.countP_cons]
      by_cases h1 : f u = true
      · by_cases h2 : key u = (k : Int)
        · simp [h1, h2]
        · simp [h1, h2]
      · simp [h1]
    rw [e, sN_add, i]
    by_cases h1 : f u = true
    · simp only [h1, if_true]
      rw [sN_ind, if_pos (by omega)]
      omega
    · have z : (fun k : Nat => if f u = true then (if key u = (k : Int) then 1 else 0) else 0) = fun _ => (0 : Int) := by
        funext k
        rw [if_neg h1]
      rw [z, sN_z, if_neg h1]
      omega
def vOH (A : aA) (i : Int) (n : Nat) : Int := sN (fun s => A.1 (124 + 4 * s + i)) n
def vFl (A : aA) (i : Int) : Int := zw (((A.2.1.countP (isIt i) : Nat) : Int) + sN (fun s => A.1 (124 + 4 * s + i) - vWt A s i) (A.1 3).toNat)
theorem vFl_eq {lo : Int} {A : aA} (hB : aB lo A) {i : Int} : vFl A i = zw (vOH A i (A.1 3).toNat + sN (fun k => vUnd A i k) 5 - ((A.2.2.1.countP (isQ (-1) i) : Nat) : Int)) := by
  unfold vFl vOH
  rw [sN_sub]
  have e1 := sN_cnt (f := isIt i) (key := fun u => u 0) (n := 5) A.2.1 (fun u hu => by have := (hB.2.1 u hu).2.2.2.2; show 0 ≤ u 0 ∧ u 0 < (5 : Nat); omega)
  have e2 := sN_cnt (f := isQ (-1) i) (key := fun u => u 0) (n := (A.1 3).toNat) A.2.2.1 (fun u hu => by have := hB.2.2.1 u hu; unfold cB at this; show 0 ≤ u 0 ∧ u 0 < ((A.1 3).toNat : Int); omega)
  have e3 : (fun k : Nat => ((A.2.1.countP (fun u => isIt i u && decide (u 0 = (k : Int))) : Nat) : Int)) = fun k : Nat => vUnd A i k := rfl
  have e4 : (fun k : Nat => ((A.2.2.1.countP (fun u => isQ (-1) i u && decide (u 0 = (k : Int))) : Nat) : Int)) = fun k : Nat => vWt A k i := by
    funext k
    unfold vWt
    congr 2
    funext u
    simp [isQ, isCu, Bool.and_comm]
  rw [e3] at e1
  rw [e4] at e2
  rw [← e1, ← e2]
  congr 1
  omega
section QB
variable {g : zG} {S : zSh} {im im0 : zIm} {a an as av at_ : Nat} {A : aA} {y : Int}
theorem c_fl_loop2 (G : zOK g) (hS : zS_M S a) (hM : mS a im0 im A) (hG : gB A.1) (hF : aFit A) {i c : Int} (i0 : 0 ≤ i) (i1 : i < 4) {Q : Int → zIm → Prop} (hQ : Q (zw (c + sN (fun s => A.1 (124 + 4 * s + i) - vWt A s i) (A.1 3).toNat)) im) :
    ∀ (f k : Nat), (k : Int) + f = A.1 3 → zPI g M_X8_fleet 59 [(0, .ref a), (1, .int (zi i)), (2, .int (zi (zw (c + sN (fun s => A.1 (124 + 4 * s + i) - vWt A s i) k)))), (3, .int (zi k))] S im Q := by
  have g3 := hG.2.2.2.1
  have e3 := hM.h (i := 3) (by omega) (by omega)
  intro f
  induction f with
  | zero =>
    intro k hk
    refine v_X8_fleet_59 G hS (zc_of (by omega) (by omega)) (zc_zw _) (zc_of (by omega) (by omega)) ⟨fun _ => ?_, fun h => absurd h (by omega)⟩
    rw [show k = (A.1 3).toNat from by omega]
    exact hQ
  | succ f ih =>
    intro k hk
    have st := ih (k + 1) (by omega)
    refine v_X8_fleet_59 G hS (zc_of (by omega) (by omega)) (zc_zw _) (zc_of (by omega) (by omega)) ⟨fun h => absurd h (by omega), fun _ => ?_⟩
    rw [zwS (k := k) (by omega)]
    refine c_at G (by omega) (by omega) (by omega) (by omega) i0 i1 ⟨⟨by omega, by omega⟩, ?_⟩
    refine c_waitingOf G hS hM hF (zc_of (by omega) (by omega)) (zc_of (by omega) (by omega)) ?_
    rw [hM.g (by omega) (by omega), zwa]
    simp only [sN, ← Int.add_assoc] at st
    exact st
theorem c_fl_loop1 (G : zOK g) (hS : zS_M S a) (hM : mS a im0 im A) (hG : gB A.1) (hF : aFit A) {i : Int} (i0 : 0 ≤ i) (i1 : i < 4) {Q : Int → zIm → Prop} (hQ : Q (vFl A i) im) :
    ∀ (f k : Nat), k + f = A.2.1.length → zPI g M_X8_fleet 23 [(0, .ref a), (1, .int (zi i)), (2, .int (zi ((A.2.1.take k).countP (isIt i) : Nat))), (3, .int (zi k))] S im Q := by
  have h5 := hF.1
  have e5 := hM.2.2.1
  have g3 := hG.2.2.2.1
  intro f
  induction f with
  | zero =>
    intro k hk
    have hb := cnt_le (l := A.2.1) (f := isIt i) (k := k)
    refine v_X8_fleet_23 G hS (zc_of (by omega) (by omega)) (zc_of (by omega) (by omega)) (zc_of (by omega) (by omega)) ⟨fun _ => ?_, fun h => absurd h (by omega)⟩
    rw [List.take_of_length_le (by omega)] at hb ⊢
    have := c_fl_loop2 G hS hM hG hF (c := ((A.2.1.countP (isIt i) : Nat) : Int)) i0 i1 hQ (A.1 3).toNat 0 (by omega)
    simp only [sN] at this
    rw [Int.add_zero, zw_of (by omega) (by omega)] at this
    exact this
  | succ f ih =>
    intro k hk
    have hb := cnt_le (l := A.2.1) (f := isIt i) (k := k)
    have st := ih (k + 1) (by omega)
    rw [cnt_take (by omega)] at st
    refine v_X8_fleet_23 G hS (zc_of (by omega) (by omega)) (zc_of (by omega) (by omega)) (zc_of (by omega) (by omega)) ⟨fun h => absurd h (by omega), fun _ => ?_⟩
    rw [zwS (k := k) (by omega), zwS (by omega), zwN (by omega)]
    refine c_unit G hS hM.2 hF (by omega) (by omega) (by omega) ⟨fun h1 => ?_, fun h1 => ?_⟩
    · rw [if_neg (by simp [isIt, h1])] at st; exact st
    · rw [if_pos (by simp [isIt, h1])] at st; exact st
theorem r_fleet (G : zOK g) (hS : zS_M S a) (hM : mRep (im (a + 1)) A) (hG : gB A.1) (hF : aFit A) {i : Int} (cq : zc i) {Q : Int → zIm → Prop} (hQ : ∀ im', mP a im im' (oIt A i (vFl A i)).2.2 (oIt A i (vFl A i)).1 → Q (oIt A i (vFl A i)).2.1 im') : zCI g yX8_fleet M_X8_fleet [.ref a, .int (zi i)] S im Q := by
  have g2 := hG.2.2.1
  exact v_X8_fleet G hS cq (r_it G hS hM hG cq hQ (fun _ h1 hi hq => c_fl_loop1 G hS h1 hG hF hi.1 (by have := hi.2; omega) hq _ 0 (Nat.zero_add _)))
theorem k_fl_loop2 (G : zOK g) (hS : zDep S a an as av at_) (hM : nS an y im im A) (hU : A.2.1.length < 300) (hC : A.2.2.1.length < 300) {i c : Int} (ci : zc i) {Q : Int → zIm → Prop} {X : String → zSh → zIm → Prop} (hQ : Q (zw (c + sN (fun k => vUnd A i k) 5 - ((A.2.2.1.countP (isQ (-1) i) : Nat) : Int))) im) :
    ∀ (f k : Nat), k + f = 5 → zPIx g M_X7_fleet 1 6 47 [(0, .ref a), (1, .int (zi i)), (2, .int (zi (zw (c + sN (fun k => vUnd A i k) k)))), (3, .int (zi k))] S im Q X := by
  intro f
  induction f with
  | zero =>
    intro k hk
    have hk' : k = 5 := by omega
    subst hk'
    refine v_X7_fleet_47 G hS ci (zc_zw _) (zc_of (by omega) (by omega)) ⟨fun _ => ?_, fun h => absurd h (by omega)⟩
    refine k_countOf G (zN_C hS.2.2.2.2.2.1) hM.2.2.2.2.2.2 hC (zc_of (by omega) (by omega)) ci ?_
    rw [zwb]
    exact hQ
  | succ f ih =>
    intro k hk
    have st := ih (k + 1) (by omega)
    refine v_X7_fleet_47 G hS ci (zc_zw _) (zc_of (by omega) (by omega)) ⟨fun h => absurd h (by omega), fun _ => ?_⟩
    refine k_countKind G hS.2.2.2.2.2.1 hM hU ci (zc_of (by omega) (by omega)) ?_
    rw [zwS (k := k) (by omega), zwa]
    simp only [sN, ← Int.add_assoc] at st
    exact st
theorem k_fl_loop1 (G : zOK g) (hS : zDep S a an as av at_) (hM : nS an y im im A) {lo : Int} (hB : aB lo A) (hU : A.2.1.length < 300) (hC : A.2.2.1.length < 300) {i : Int} (i0 : 0 ≤ i) (i1 : i < 4) {Q : Int → zIm → Prop} {X : String → zSh → zIm → Prop} (hQ : Q (vFl A i) im) :
    ∀ (f k : Nat), (k : Int) + f = A.1 3 → zPIx g M_X7_fleet 1 6 9 [(0, .ref a), (1, .int (zi i)), (2, .int (zi (zw (vOH A i k)))), (3, .int (zi k))] S im Q X := by
  have g3 := hB.1.2.2.2.1
  have e3 := hM.st
  intro f
  induction f with
  | zero =>
    intro k hk
    refine v_X7_fleet_9 G hS (zc_of (by omega) (by omega)) (zc_zw _) (zc_of (by omega) (by omega)) ⟨fun _ => ?_, fun h => absurd h (by omega)⟩
    rw [show k = (A.1 3).toNat from by omega]
    rw [vFl_eq hB] at hQ
    have := k_fl_loop2 (X := X) G hS hM hU hC (zc_of (n := i) (by omega) (by omega)) hQ 5 0 rfl
    simp only [sN, Int.add_zero] at this
    exact this
  | succ f ih =>
    intro k hk
    have st := ih (k + 1) (by omega)
    refine v_X7_fleet_9 G hS (zc_of (by omega) (by omega)) (zc_zw _) (zc_of (by omega) (by omega)) ⟨fun h => absurd h (by omega), fun _ => ?_⟩
    refine c_cell G (by omega) (by omega) i0 i1 ⟨⟨by omega, by omega⟩, ?_⟩
    rw [hM.t (c := 2) (t := 124) (by unfold tP; omega) (by omega) (by omega) i0 i1, zwS (k := k) (by omega), zwa]
    exact st
theorem k_fleet (G : zOK g) (hS : zDep S a an as av at_) (hM : nS an y im im A) {lo : Int} (hB : aB lo A) (hU : A.2.1.length < 300) (hC : A.2.2.1.length < 300) {i : Int} (cq : zc i) {Q : Int → zIm → Prop} {X : String → zSh → zIm → Prop} (h0 : (oIt A i (vFl A i)).1 = 0 → Q (oIt A i (vFl A i)).2.1 im) (h1 : (oIt A i (vFl A i)).1 = 1 → X "java/lang/IndexOutOfBoundsException" (zpush S 14 0) im) : zCIx g yX7_fleet M_X7_fleet [.ref a, .int (zi i)] S im Q X := by
  have g2 := hB.1.2.2.1
  have g3 := hB.1.2.2.2.1
  exact v_X7_fleet G hS cq (k_it G hS hM cq h0 h1 (fun hi hq => k_fl_loop1 G hS hM hB hU hC hi.1 (by have := hi.2; omega) hq (A.1 3).toNat 0 (by omega)))
/-! nextArrival -/
def isAr (b i : Int) (u : aR) : Prop := u 1 = i ∧ u 3 = b ∧ u 2 = b
noncomputable def nxA (l : List aR) (d b i : Int) : Nat → Int
  | 0 => -1
  | k + 1 => @ite _ (isAr b i (rg l k) ∧ (nxA l d b i k = -1 ∨ rg l k 4 - d < nxA l d b i k)) (Classical.propDecidable _) (rg l k 4 - d) (nxA l d b i k)
theorem nxA_y {l : List aR} {d b i : Int} {k : Nat} (h : isAr b i (rg l k) ∧ (nxA l d b i k = -1 ∨ rg l k 4 - d < nxA l d b i k)) : nxA l d b i (k + 1) = rg l k 4 - d := by rw [nxA]; exact if_pos h
theorem nxA_n {l : List aR} {d b i : Int} {k : Nat} (h : ¬ (isAr b i (rg l k) ∧ (nxA l d b i k = -1 ∨ rg l k 4 - d < nxA l d b i k))) : nxA l d b i (k + 1) = nxA l d b i k := by rw [nxA]; exact if_neg h
theorem nxA_sp {l : List aR} {d b i : Int} (hd : ∀ u ∈ l, isAr b i u → d + 1 ≤ u 4) : ∀ k, k ≤ l.length → (nxA l d b i k = -1 ∧ ∀ j, j < k → ¬ isAr b i (rg l j)) ∨ (∃ j, j < k ∧ isAr b i (rg l j) ∧ nxA l d b i k = rg l j 4 - d ∧ ∀ q, q < k → isAr b i (rg l q) → rg l j 4 ≤ rg l q 4) := by
  intro k
  induction k with
  | zero => intro _; exact Or.inl ⟨by rw [nxA], fun j hj => absurd hj (by omega)⟩
  | succ k ih =>
    intro hk
    by_cases h : isAr b i (rg l k) ∧ (nxA l d b i k = -1 ∨ rg l k 4 - d < nxA l d b i k)
    · rw [nxA_y h]
      refine Or.inr ⟨k, by omega, h.1, rfl, fun q hq ha => ?_⟩
      by_cases e : q = k
      · rw [e]; omega
      · rcases ih (by omega) with ⟨e1, e2⟩ | ⟨j, j1, j2, j3, j4⟩
        · exact absurd ha (e2 q (by omega))
        · have := j4 q (by omega) ha
          have := hd _ (rg_mem (l := l) (k := j) (by omega)) j2
          rw [j3] at h
          omega
    · rw [nxA_n h]
      rcases ih (by omega) with ⟨e1, e2⟩ | ⟨j, j1, j2, j3, j4⟩
      · refine Or.inl ⟨e1, fun j hj => ?_⟩
        by_cases e : j = k
        · rw [e]; exact fun ha => h ⟨ha, Or.inl e1⟩
        · exact e2 j (by omega)
      · refine Or.inr ⟨j, by omega, j2, j3, fun q hq ha => ?_⟩
        by_cases e : q = k
        · rw [e] at ha ⊢
          by_cases e2 : rg l k 4 - d < nxA l d b i k
          · exact absurd ⟨ha, Or.inr e2⟩ h
          · omega
        · exact j4 q (by omega) ha
noncomputable def vNx (A : aA) (b i : Int) : Int := nxA A.2.1 (A.1 0) b i A.2.1.length
theorem arr_d {A : aA} (hB : aB (A.1 0 + 1) A) {b i : Int} (hb : 1 ≤ b) : ∀ u ∈ A.2.1, isAr b i u → A.1 0 + 1 ≤ u 4 ∧ u 4 ≤ A.1 0 + 30 ∧ u 0 ≠ 4 := by
  intro u hu ha
  have h := hB.2.1 u hu
  unfold uB at h
  unfold isAr at ha
  omega
theorem rg_of {l : List aR} {u : aR} (h : u ∈ l) : ∃ j, j < l.length ∧ rg l j = u := by
  obtain ⟨j, hj, ej⟩ := List.getElem_of_mem h
  exact ⟨j, hj, by unfold rg; rw [List.getD_eq_getElem?_getD, List.getElem?_eq_getElem hj, ej]; rfl⟩
theorem vNx_sr {A : aA} (hB : aB (A.1 0 + 1) A) {b i : Int} (hb : 1 ≤ b) : (fstP (fun j => isAr b i (rg (sr A.2.1) j)) (sr A.2.1).length = -1 ∧ vNx A b i = -1) ∨ (∃ m : Nat, fstP (fun j => isAr b i (rg (sr A.2.1) j)) (sr A.2.1).length = m ∧ m < (sr A.2.1).length ∧ vNx A b i = rg (sr A.2.1) m 4 - A.1 0 ∧ isAr b i (rg (sr A.2.1) m) ∧ rg (sr A.2.1) m ∈ A.2.1) := by
  have ad := arr_d hB (i := i) hb
  have sp := nxA_sp (l := A.2.1) (d := A.1 0) (b := b) (i := i) (fun u hu ha => (ad u hu ha).1) _ (Nat.le_refl _)
  rcases fstP_sp (fun j => isAr b i (rg (sr A.2.1) j)) (sr A.2.1).length with ⟨f1, f2⟩ | ⟨m, f1, f2, f3, f4⟩
  · refine Or.inl ⟨f1, ?_⟩
    rcases sp with ⟨s1, _⟩ | ⟨j, j1, j2, _, _⟩
    · exact s1
    · have hm := rg_mem (l := A.2.1) j1
      obtain ⟨q, q1, q2⟩ := rg_of (sr_mem.2 ⟨hm, (ad _ hm j2).2.2⟩)
      exact absurd (show isAr b i (rg (sr A.2.1) q) by rw [q2]; exact j2) (f2 q q1)
  · have hm := sr_mem.1 (rg_mem (l := sr A.2.1) f2)
    refine Or.inr ⟨m, f1, f2, ?_, f3, hm.1⟩
    obtain ⟨t, t1, t2⟩ := rg_of hm.1
    rcases sp with ⟨_, s2⟩ | ⟨j, j1, j2, j3, j4⟩
    · exact absurd (show isAr b i (rg A.2.1 t) by rw [t2]; exact f3) (s2 t t1)
    · have hj := rg_mem (l := A.2.1) j1
      obtain ⟨q, q1, q2⟩ := rg_of (sr_mem.2 ⟨hj, (ad _ hj j2).2.2⟩)
      have k1 := j4 t t1 (by rw [t2]; exact f3)
      rw [t2] at k1
      have k2 : rg (sr A.2.1) m 4 ≤ rg A.2.1 j 4 := by
        rw [← q2]
        by_cases e : q < m
        · exact absurd (show isAr b i (rg (sr A.2.1) q) by rw [q2]; exact j2) (f4 q e)
        · by_cases e2 : q = m
          · rw [e2]; omega
          · have := sr_srt A.2.1 m q (by omega) q1
            unfold uLt at this
            omega
      show nxA A.2.1 (A.1 0) b i A.2.1.length = _
      rw [j3]; omega
theorem c_nx_loop (G : zOK g) (hS : zS_M S a) (hM : mS a im0 im A) (hB : aB (A.1 0 + 1) A) (hF : aFit A) {b i : Int} (cb : zc b) (ci : zc i) (hb : 1 ≤ b) {Q : Int → zIm → Prop} (hQ : Q (vNx A b i) im) :
    ∀ (f k : Nat), k + f = A.2.1.length → zPI g M_X8_nextArrival 32 [(0, .ref a), (1, .int (zi b)), (2, .int (zi i)), (3, .int (zi (nxA A.2.1 (A.1 0) b i k))), (4, .int (zi k))] S im Q := by
  have h5 := hF.1
  have e5 := hM.2.2.1
  have g0 := hB.1.1
  have ad := arr_d hB (i := i) hb
  have e0 := hM.h (i := 0) (by omega) (by omega)
  have bd (k : Nat) (hk : k ≤ A.2.1.length) : -1 ≤ nxA A.2.1 (A.1 0) b i k ∧ nxA A.2.1 (A.1 0) b i k ≤ 30 := by
    rcases nxA_sp (l := A.2.1) (d := A.1 0) (b := b) (i := i) (fun u hu ha => (ad u hu ha).1) k hk with ⟨s1, _⟩ | ⟨j, j1, j2, j3, _⟩
    · omega
    · have := ad _ (rg_mem (l := A.2.1) (k := j) (by omega)) j2
      omega
  intro f
  induction f with
  | zero =>
    intro k hk
    have hb := bd k (by omega)
    refine v_X8_nextArrival_32 G hS cb ci (zc_of (by omega) (by omega)) (zc_of (by omega) (by omega)) ⟨fun _ => ?_, fun h => absurd h (by omega)⟩
    rw [show k = A.2.1.length from by omega]
    exact hQ
  | succ f ih =>
    intro k hk
    have hb := bd k (by omega)
    have hu := rg_mem (l := A.2.1) (k := k) (by omega)
    have st := ih (k + 1) (by omega)
    have sn (hn : ¬ (isAr b i (rg A.2.1 k) ∧ (nxA A.2.1 (A.1 0) b i k = -1 ∨ rg A.2.1 k 4 - A.1 0 < nxA A.2.1 (A.1 0) b i k))) := nxA_n hn ▸ st
    have sy (hn : isAr b i (rg A.2.1 k) ∧ (nxA A.2.1 (A.1 0) b i k = -1 ∨ rg A.2.1 k 4 - A.1 0 < nxA A.2.1 (A.1 0) b i k)) := nxA_y hn ▸ st
    refine v_X8_nextArrival_32 G hS cb ci (zc_of (by omega) (by omega)) (zc_of (by omega) (by omega)) ⟨fun h => absurd h (by omega), fun _ => ?_⟩
    rw [zwS (k := k) (by omega)]
    refine c_unit G hS hM.2 hF (by omega) (by omega) (by omega) ⟨fun h1 => sn (fun hh => h1 hh.1.1), fun h1 => ?_⟩
    refine c_unit G hS hM.2 hF (by omega) (by omega) (by omega) ⟨fun h2 => sn (fun hh => h2 hh.1.2.1), fun h2 => ?_⟩
    refine c_unit G hS hM.2 hF (by omega) (by omega) (by omega) ⟨fun h3 => sn (fun hh => h3 hh.1.2.2), fun h3 => ?_⟩
    have da := ad _ hu ⟨h1, h2, h3⟩
    refine ⟨fun h4 => ?_, fun h4 => ?_⟩
    · refine c_unit G hS hM.2 hF (by omega) (by omega) (by omega) ?_
      rw [e0, zw_of (by omega) (by omega)]
      exact sy ⟨⟨h1, h2, h3⟩, Or.inl h4⟩
    · refine c_unit G hS hM.2 hF (by omega) (by omega) (by omega) ?_
      rw [e0, zw_of (n := rg A.2.1 k 4 - A.1 0) (by omega) (by omega)]
      refine ⟨fun h6 => sn (fun hh => by have := hh.2; omega), fun h6 => ?_⟩
      refine c_unit G hS hM.2 hF (by omega) (by omega) (by omega) ?_
      rw [e0, zw_of (n := rg A.2.1 k 4 - A.1 0) (by omega) (by omega)]
      exact sy ⟨⟨h1, h2, h3⟩, Or.inr h6⟩
theorem r_nextArrival (G : zOK g) (hS : zS_M S a) (hM : mRep (im (a + 1)) A) (hB : aB (A.1 0 + 1) A) (hF : aFit A) {b i : Int} (cp : zc b) (cq : zc i) {Q : Int → zIm → Prop} (hQ : ∀ im', mP a im im' (oBI A b i (vNx A b i)).2.2 (oBI A b i (vNx A b i)).1 → Q (oBI A b i (vNx A b i)).2.1 im') : zCI g yX8_nextArrival M_X8_nextArrival [.ref a, .int (zi b), .int (zi i)] S im Q := by
  refine v_X8_nextArrival G hS cp cq (r_bi2 G hS hM hB.1 cp cq hQ (fun im1 h1 hb _ hq => ?_))
  have := c_nx_loop G hS h1 hB hF cp cq hb.1 hq _ 0 (Nat.zero_add _)
  rw [nxA] at this
  exact this
theorem k_fa_loop (G : zOK g) {u : Nat} (hS : zS_U S u) {R : List aR} (hR : uRp im u R) (hl : R.length < 300) {b i : Int} (cb : zc b) (ci : zc i) {Q : Int → zIm → Prop} (hQ : Q (fstP (fun j => isAr b i (rg R j)) R.length) im) :
    ∀ (f k : Nat), k + f = R.length → fstP (fun j => isAr b i (rg R j)) k = -1 → zPI g M_X6_firstArrival 2 [(0, .ref u), (1, .int (zi b)), (2, .int (zi i)), (3, .int (zi k))] S im Q := by
  have e0 := hR.1
  intro f
  induction f with
  | zero =>
    intro k hk hn
    refine v_X6_firstArrival_2 G hS cb ci (zc_of (by omega) (by omega)) ⟨fun _ => ?_, fun h => absurd h (by omega)⟩
    rw [show k = R.length from by omega] at hn
    rw [hn] at hQ
    exact hQ
  | succ f ih =>
    intro k hk hn
    have hw := hR.2 k (by omega)
    have b' : 0 ≤ (k : Int) ∧ (k : Int) < 300 := by omega
    have go (h : ¬ isAr b i (rg R k)) := ih (k + 1) (by omega) (by rw [fstP_n (p := fun j => isAr b i (rg R j)) h]; exact hn)
    refine v_X6_firstArrival_2 G hS cb ci (zc_of (by omega) (by omega)) ⟨fun h => absurd h (by omega), fun _ => ?_⟩
    rw [zwS (k := k) (by omega), hw.2.2.2.2.1, hw.2.2.2.1, hw.2.2.1]
    refine ⟨b', fun h1 => go (fun hh => h1 hh.2.1), fun h1 => ⟨b', fun h2 => go (fun hh => h2 hh.2.2), fun h2 => ⟨b', fun h3 => go (fun hh => h3 hh.1), fun h3 => ?_⟩⟩⟩
    have e1 : fstP (fun j => isAr b i (rg R j)) (k + 1) = k := fstP_y (p := fun j => isAr b i (rg R j)) hn ⟨h3, h1, h2⟩
    have e2 : fstP (fun j => isAr b i (rg R j)) R.length = k := by
      rcases fstP_sp (fun j => isAr b i (rg R j)) R.length with ⟨f1, f2⟩ | ⟨m, f1, f2, f3, f4⟩
      · exact absurd ⟨h3, h1, h2⟩ (f2 k (by omega))
      · rw [f1]
        by_cases e : m < k
        · rcases fstP_sp (fun j => isAr b i (rg R j)) k with ⟨_, p2⟩ | ⟨m', p1, _⟩
          · exact absurd f3 (p2 m e)
          · omega
        · by_cases e9 : k < m
          · exact absurd ⟨h3, h1, h2⟩ (f4 k e9)
          · omega
    rw [e2] at hQ
    exact hQ
theorem k_nextArrival (G : zOK g) (hS : zDep S a an as av at_) (hM : nS an y im im A) (hB : aB (A.1 0 + 1) A) (hU : A.2.1.length < 300) {b i : Int} (cp : zc b) (cq : zc i) {Q : Int → zIm → Prop} {X : String → zSh → zIm → Prop} (h0 : (oBI A b i (vNx A b i)).1 = 0 → Q (oBI A b i (vNx A b i)).2.1 im) (h1 : (oBI A b i (vNx A b i)).1 = 1 → X "java/lang/IndexOutOfBoundsException" (zpush S 14 0) im) : zCIx g yX7_nextArrival M_X7_nextArrival [.ref a, .int (zi b), .int (zi i)] S im Q X := by
  refine v_X7_nextArrival G hS cp cq (k_bi G hS hM cp cq h0 h1 (fun hb hi hq => ?_))
  have hl := sr_wl_len A.2.1
  have g0 := hB.1.1
  have hR := hM.2.2.2.1
  refine v_X6_firstArrival G (zN_U hS.2.2.2.2.2.1) cp cq (k_fa_loop G (zN_U hS.2.2.2.2.2.1) hR (by omega) cp cq ?_ _ 0 (Nat.zero_add _) (by rw [fstP]))
  rcases vNx_sr hB (i := i) hb.1 with ⟨e1, e2⟩ | ⟨m, e1, e2, e3, e4, e5⟩
  · rw [e1]
    rw [e2] at hq
    exact ⟨fun h => absurd rfl h, fun _ => hq⟩
  · have da := arr_d hB hb.1 _ e5 e4
    rw [e1]
    rw [e3] at hq
    refine ⟨fun _ => ⟨⟨by omega, by omega⟩, ?_⟩, fun h => absurd h (by omega)⟩
    rw [hM.d, show im (an + 19) (m : Int) = rg (sr A.2.1) m 4 from (hR.2 m e2).1, zw_of (by omega) (by omega)]
    exact hq
/-! the units with a due day -/
def vDC (A : aA) : Int := ((A.2.1.length - A.2.1.countP isWt : Nat) : Int)
theorem vDC_sr {A : aA} : vDC A = ((sr A.2.1).length : Int) := by
  have := sr_len A.2.1
  unfold vDC
  omega
def isNW (u : aR) : Bool := !isWt u
theorem vDC_nw {A : aA} : ((A.2.1.countP isNW : Nat) : Int) = vDC A := by
  have h := sr_len A.2.1
  have h2 := List.length_eq_countP_add_countP isWt (l := A.2.1)
  have h3 : A.2.1.countP isNW = A.2.1.countP (fun a => decide ¬ isWt a = true) := by
    congr 1
    funext u
    cases e : isWt u <;> simp [isNW, e]
  unfold vDC
  omega
theorem c_cd_loop (G : zOK g) (hS : zS_M S a) (hM : mS a im0 im A) (hF : aFit A) {Q : Int → zIm → Prop} (hQ : Q (vDC A) im) :
    ∀ (f k : Nat), k + f = A.2.1.length → zPI g M_X8_countDue 4 [(0, .ref a), (1, .int (zi ((A.2.1.take k).countP isNW : Nat))), (2, .int (zi k))] S im Q := by
  have h5 := hF.1
  have e5 := hM.2.2.1
  intro f
  induction f with
  | zero =>
    intro k hk
    have hb := cnt_le (l := A.2.1) (f := isNW) (k := k)
    refine v_X8_countDue_4 G hS (zc_of (by omega) (by omega)) (zc_of (by omega) (by omega)) ⟨fun _ => ?_, fun h => absurd h (by omega)⟩
    rw [List.take_of_length_le (by omega), vDC_nw]
    exact hQ
  | succ f ih =>
    intro k hk
    have hb := cnt_le (l := A.2.1) (f := isNW) (k := k)
    have st := ih (k + 1) (by omega)
    rw [cnt_take (by omega)] at st
    refine v_X8_countDue_4 G hS (zc_of (by omega) (by omega)) (zc_of (by omega) (by omega)) ⟨fun h => absurd h (by omega), fun _ => ?_⟩
    rw [zwS (k := k) (by omega), zwS (by omega), zwN (by omega)]
    refine c_unit G hS hM.2 hF (by omega) (by omega) (by omega) ⟨fun h1 => ?_, fun h1 => ?_⟩
    · rw [if_pos (by simp [isNW, isWt, h1])] at st; exact st
    · rw [if_neg (by simp [isNW, isWt, h1])] at st; exact st
theorem c_countDue (G : zOK g) (hS : zS_M S a) (hM : mS a im0 im A) (hF : aFit A) {Q : Int → zIm → Prop} (hQ : Q (vDC A) im) : zCI g yX8_countDue M_X8_countDue [.ref a] S im Q :=
  v_X8_countDue G hS (c_cd_loop G hS hM hF hQ _ 0 (Nat.zero_add _))
theorem r_dueCount (G : zOK g) (hS : zS_M S a) (hM : mRep (im (a + 1)) A) (hF : aFit A) {Q : Int → zIm → Prop} (hQ : ∀ im', mP a im im' A 0 → Q (vDC A) im') : zCI g yX8_dueCount M_X8_dueCount [.ref a] S im Q :=
  v_X8_dueCount G hS (fun im1 e1 => c_countDue G hS (mS.i hM e1) hF (hQ im1 (mS.i hM e1).p))
theorem k_dueCount (G : zOK g) (hS : zDep S a an as av at_) (hM : nS an y im im A) {Q : Int → zIm → Prop} (hQ : Q (vDC A) im) : zCI g yX7_dueCount M_X7_dueCount [.ref a] S im Q := by
  refine v_X7_dueCount G hS ?_
  rw [hM.2.2.2.1.1, ← vDC_sr]
  exact hQ
theorem c_isAhead (G : zOK g) (hS : zS_M S a) (hM : mS a im0 im A) (hF : aFit A) {j k : Nat} (hj : j < A.2.1.length) (hk : k < A.2.1.length) (h4 : rg A.2.1 j 0 ≠ 4) {Q : Int → zIm → Prop} (ht : ahd A.2.1 j k → Q 1 im) (hf : ¬ ahd A.2.1 j k → Q 0 im) : zCI g yX8_isAhead M_X8_isAhead [.ref a, .int (zi j), .int (zi k)] S im Q := by
  have h5 := hF.1
  unfold ahd uLt at ht hf
  refine v_X8_isAhead G hS (zc_of (by omega) (by omega)) (zc_of (by omega) (by omega)) ?_
  refine c_unit G hS hM.2 hF hj (by omega) (by omega) ?_
  refine c_unit G hS hM.2 hF hk (by omega) (by omega) ⟨fun e => ?_, fun e => ?_⟩
  · refine c_unit G hS hM.2 hF hj (by omega) (by omega) ?_
    refine c_unit G hS hM.2 hF hk (by omega) (by omega) ⟨fun e2 => ⟨fun e3 => hf (by omega), fun e3 => ht ⟨h4, by omega⟩⟩, fun e2 => ?_⟩
    refine c_unit G hS hM.2 hF hj (by omega) (by omega) ?_
    exact c_unit G hS hM.2 hF hk (by omega) (by omega) ⟨fun e3 => hf (by omega), fun e3 => ht ⟨h4, by omega⟩⟩
  · refine c_unit G hS hM.2 hF hj (by omega) (by omega) ?_
    exact c_unit G hS hM.2 hF hk (by omega) (by omega) ⟨fun e3 => hf (by omega), fun e3 => ht ⟨h4, by omega⟩⟩
theorem nBl_le (p : Nat → Prop) (n : Nat) : nBl p n ≤ n := by
  induction n with
  | zero => rw [nBl]; omega
  | succ n ih =>
    by_cases h : p n
    · rw [nBl_y h]; omega
    · rw [nBl_n h]; omega
theorem c_ca_loop (G : zOK g) (hS : zS_M S a) (hM : mS a im0 im A) (hF : aFit A) {k : Nat} (hk : k < A.2.1.length) {Q : Int → zIm → Prop} (hQ : Q (rk A.2.1 k : Int) im) :
    ∀ (f j : Nat), j + f = A.2.1.length → zPI g M_X8_countAhead 4 [(0, .ref a), (1, .int (zi k)), (2, .int (zi (nBl (fun j => ahd A.2.1 j k) j : Nat))), (3, .int (zi j))] S im Q := by
  have h5 := hF.1
  have e5 := hM.2.2.1
  intro f
  induction f with
  | zero =>
    intro j hj
    have hb := nBl_le (fun j => ahd A.2.1 j k) j
    refine v_X8_countAhead_4 G hS (zc_of (by omega) (by omega)) (zc_of (by omega) (by omega)) (zc_of (by omega) (by omega)) ⟨fun _ => ?_, fun h => absurd h (by omega)⟩
    rw [show j = A.2.1.length from by omega]
    exact hQ
  | succ f ih =>
    intro j hj
    have hb := nBl_le (fun j => ahd A.2.1 j k) j
    have st := ih (j + 1) (by omega)
    have sy (h : ahd A.2.1 j k) := nBl_y (p := fun j => ahd A.2.1 j k) h ▸ st
    have sn (h : ¬ ahd A.2.1 j k) := nBl_n (p := fun j => ahd A.2.1 j k) h ▸ st
    refine v_X8_countAhead_4 G hS (zc_of (by omega) (by omega)) (zc_of (by omega) (by omega)) (zc_of (by omega) (by omega)) ⟨fun h => absurd h (by omega), fun _ => ?_⟩
    rw [zwS (k := j) (by omega), zwS (by omega), zwN (by omega)]
    refine c_unit G hS hM.2 hF (by omega) (by omega) (by omega) ⟨fun h1 => sn (fun hh => hh.1 h1), fun h1 => ?_⟩
    exact c_isAhead G hS hM hF (by omega) hk h1 (fun h2 => ⟨fun h => absurd h (by decide), fun _ => sy h2⟩) (fun h2 => ⟨fun _ => sn h2, fun h => absurd rfl h⟩)
theorem c_countAhead (G : zOK g) (hS : zS_M S a) (hM : mS a im0 im A) (hF : aFit A) {k : Nat} (hk : k < A.2.1.length) {Q : Int → zIm → Prop} (hQ : Q (rk A.2.1 k : Int) im) : zCI g yX8_countAhead M_X8_countAhead [.ref a, .int (zi k)] S im Q := by
  have h5 := hF.1
  have := c_ca_loop G hS hM hF hk hQ _ 0 (Nat.zero_add _)
  rw [nBl] at this
  exact v_X8_countAhead G hS (zc_of (by omega) (by omega)) this
theorem c_ua_loop (G : zOK g) (hS : zS_M S a) (hM : mS a im0 im A) (hF : aFit A) {p : Nat} (hp : p < (sr A.2.1).length) {Q : Int → zIm → Prop} (hQ : ∀ k : Nat, k < A.2.1.length → rg A.2.1 k = rg (sr A.2.1) p → Q k im) :
    ∀ (f k : Nat), k + f = A.2.1.length → (∀ j, j < k → rg A.2.1 j 0 ≠ 4 → rk A.2.1 j ≠ p) → zPI g M_X8_unitAt 2 [(0, .ref a), (1, .int (zi p)), (2, .int (zi k))] S im Q := by
  have h5 := hF.1
  have e5 := hM.2.2.1
  have hl := sr_wl_len A.2.1
  intro f
  induction f with
  | zero =>
    intro k hk hn
    obtain ⟨j, j1, j2, j3⟩ := (sr_rank A.2.1).2 p hp
    exact absurd j3 (hn j (by omega) j2)
  | succ f ih =>
    intro k hk hn
    have go (h : rg A.2.1 k 0 ≠ 4 → rk A.2.1 k ≠ p) := ih (k + 1) (by omega) (fun j hj h4 => by
      by_cases e : j = k
      · subst e; exact h h4
      · exact hn j (by omega) h4)
    refine v_X8_unitAt_2 G hS (zc_of (by omega) (by omega)) (zc_of (by omega) (by omega)) ⟨fun h => absurd h (by omega), fun _ => ?_⟩
    rw [zwS (k := k) (by omega)]
    refine c_unit G hS hM.2 hF (by omega) (by omega) (by omega) ⟨fun h1 => go (fun h => absurd h1 h), fun h1 => ?_⟩
    refine c_countAhead G hS hM hF (by omega) ⟨fun h2 => go (fun _ h => h2 (by rw [h])), fun h2 => hQ k (by omega) ?_⟩
    have := ((sr_rank A.2.1).1 k (by omega) h1).2
    rw [show rk A.2.1 k = p from by omega] at this
    exact this.symm
noncomputable def oDue (A : aA) (p f : Int) : aO := if 0 ≤ p ∧ p < vDC A then (0, rg (sr A.2.1) p.toNat f, A) else (1, 0, A)
theorem mS.i0 {t : Int} (h : mRep (im (a + 1)) A) : mS a im im A := ⟨fun _ _ => rfl, h⟩
theorem r_dueField (G : zOK g) (hS : zS_M S a) (hM : mRep (im (a + 1)) A) (hF : aFit A) {p f : Int} (cp : zc p) (f0 : 0 ≤ f) (f1 : f < 6) {Q : Int → zIm → Prop} (hQ : ∀ im', mP a im im' (oDue A p f).2.2 (oDue A p f).1 → Q (oDue A p f).2.1 im') : zCI g yX8_dueField M_X8_dueField [.ref a, .int (zi p), .int (zi f)] S im Q := by
  have hz := hF.1
  have hl := sr_wl_len A.2.1
  have hd := vDC_sr (A := A)
  refine v_X8_dueField G hS cp (zc_of (by omega) (by omega)) ?_
  refine c_countDue G hS (mS.i0 (t := 0) hM) hF ?_
  rw [zw_of (by omega) (by omega)]
  refine c_between G cp zc_0 (zc_of (by omega) (by omega)) (fun d1 d2 => ⟨fun h => absurd h (by decide), fun _ im7 e7 => ⟨fun h => ?_, fun h => ?_⟩⟩) (fun d1 => ⟨fun _ im7 e7 => ⟨fun h => ?_, fun h => ?_⟩, fun h => absurd rfl h⟩)
  · rw [e7, zst_at, if_pos ⟨rfl, rfl⟩] at h; exact absurd rfl h
  · have h1 := mS.i hM e7
    have e : oDue A p f = (0, rg (sr A.2.1) p.toNat f, A) := by unfold oDue; rw [if_pos ⟨d1, by omega⟩]
    rw [e] at hQ
    have := c_ua_loop G hS h1 hF (p := p.toNat) (by omega) (Q := fun r10 im11 => zCI g yX8_unit M_X8_unit [.ref a, .int (zi r10), .int (zi f)] S im11 (fun r13 im14 => Q r13 im14)) (fun k hk ek => c_unit G hS h1.2 hF hk f0 f1 (by rw [ek]; exact hQ im7 h1.p)) _ 0 (Nat.zero_add _) (fun j hj => absurd hj (by omega))
    rw [show ((p.toNat : Nat) : Int) = p from by omega] at this
    exact v_X8_unitAt G hS cp this
  · have h1 := mS.i hM e7
    have e : oDue A p f = (1, 0, A) := by unfold oDue; rw [if_neg (by omega)]
    rw [e] at hQ
    exact hQ im7 h1.p
  · rw [e7, zst_at, if_pos ⟨rfl, rfl⟩] at h; exact absurd h (by decide)
theorem k_unit (G : zOK g) (hS : zDep S a an as av at_) (hM : nS an y im im A) (hU : A.2.1.length < 300) {p f : Int} (cp : zc p) {c : Nat} (hc : ∀ k : Nat, k < (sr A.2.1).length → im (an + c) k = rg (sr A.2.1) k f) {Q : Int → zIm → Prop} {X : String → zSh → zIm → Prop} (h0 : (oDue A p f).1 = 0 → Q (oDue A p f).2.1 im) (h1 : (oDue A p f).1 = 1 → X "java/lang/IndexOutOfBoundsException" (zpush S 14 0) im) : zCVx g yX7_checkUnit M_X7_checkUnit [.ref a, .int (zi p)] S im (fun im1 => ((0 ≤ p ∧ p < 300) ∧ Q (im1 (an + c) p) im1)) X := by
  have hl := sr_wl_len A.2.1
  have hd := vDC_sr (A := A)
  have e0 := hM.2.2.2.1.1
  refine v_X7_checkUnit G hS cp ⟨fun h => h1 (by unfold oDue; rw [if_neg (by omega)]), fun h => ⟨fun h2 => ⟨⟨by omega, by omega⟩, ?_⟩, fun h2 => h1 (by unfold oDue; rw [if_neg (by omega)])⟩⟩
  have e : oDue A p f = (0, rg (sr A.2.1) p.toNat f, A) := by unfold oDue; rw [if_pos ⟨h, by omega⟩]
  rw [e] at h0
  have := hc p.toNat (by omega)
  rw [show ((p.toNat : Nat) : Int) = p from by omega] at this
  rw [this]
  exact h0 rfl
end QB
