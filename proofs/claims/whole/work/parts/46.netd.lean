/-! the class's day -/
theorem dr_cnt (l : List aR) (i : Int) : (sr l).countP (isDR i) = l.countP (isDR i) := by
  rw [sr_cnt]
  refine List.countP_congr (fun u _ => ?_)
  unfold isDR isWt
  simp only [Bool.and_eq_true, decide_eq_true_eq, Bool.not_eq_true', decide_eq_false_iff_not]
  constructor
  · exact fun h => h.1
  · exact fun h => ⟨h, by omega⟩
section NE
variable {g : zG} {S : zSh} {n : Nat} {x : Int} {im0 : zIm}
theorem n_cdr_loop (G : zOK g) {u : Nat} {im : zIm} (hS : zS_U S u) {R : List aR} (hR : uRp im u R) (hl : R.length < 300) {i : Int} (ci : zc i) {Q : Int → zIm → Prop} (hQ : Q (R.countP (isDR i)) im) :
    ∀ (f k : Nat), k + f = R.length → zPI g M_X6_countDepotRepairs 4 [(0, .ref u), (1, .int (zi i)), (2, .int (zi ((R.take k).countP (isDR i) : Nat))), (3, .int (zi k))] S im Q := by
  have e0 := hR.1
  intro f
  induction f with
  | zero =>
    intro k hk
    have hb := cnt_le (l := R) (f := isDR i) (k := k)
    refine v_X6_countDepotRepairs_4 G hS ci (zc_of (by omega) (by omega)) (zc_of (by omega) (by omega)) ⟨fun _ => ?_, fun h => absurd h (by omega)⟩
    rw [List.take_of_length_le (by omega)]
    exact hQ
  | succ f ih =>
    intro k hk
    have hb := cnt_le (l := R) (f := isDR i) (k := k)
    have hw := hR.2 k (by omega)
    have b : 0 ≤ (k : Int) ∧ (k : Int) < 300 := by omega
    have st := ih (k + 1) (by omega)
    rw [cnt_take (by omega)] at st
    refine v_X6_countDepotRepairs_4 G hS ci (zc_of (by omega) (by omega)) (zc_of (by omega) (by omega)) ⟨fun h => absurd h (by omega), fun _ => ?_⟩
    rw [zwS (k := k) (by omega), zwS (by omega), hw.2.1, hw.2.2.1, hw.2.2.2.1]
    unfold isDR at st ⊢
    refine ⟨b, fun h1 => ?_, fun h1 => ⟨b, fun h2 => ?_, fun h2 => ⟨b, fun h3 => ?_, fun h3 => ?_⟩⟩⟩
    · rw [if_neg (by simp [h1])] at st; exact st
    · rw [if_neg (by simp [h2])] at st; exact st
    · rw [if_neg (by simp [h3])] at st; exact st
    · rw [if_pos (by simp [h1, h2, h3])] at st; exact st
theorem n_er (G : zOK g) {im : zIm} {A : aA} (hS : zS_N S n) (hM : nS n x im0 im A) (hG : gB A.1) (hU : A.2.1.length < 300) {i : Int} {Q : zIm → Prop} (hi : kI A i) (hQ : ∀ im', nS n x im0 im' (aER A i) → Q im') : zCV g yX2_endReturn M_X2_endReturn [.ref n, .int (zi i)] S im Q := by
  have g2 := hG.2.2.1
  have d0 := hG.1
  have hi' := hi
  unfold kI at hi'
  have hl := sr_wl_len A.2.1
  refine v_X2_endReturn G hS (zc_of (by omega) (by omega)) ?_
  refine v_X6_countDepotRepairs G (zN_U hS) (zc_of (by omega) (by omega)) ?_
  refine n_cdr_loop G (zN_U hS) hM.2.2.2.1 (by omega) (zc_of (by omega) (by omega)) ?_ _ 0 (Nat.zero_add _)
  rw [dr_cnt, hM.d, (hM.pl hi).1, (hM.pl hi).2.1]
  unfold aER at hQ
  refine ⟨by omega, fun h => ?_, fun h => ⟨by omega, ?_⟩⟩
  · rw [if_pos h] at hQ
    exact n_wait G hS hM hU (zc_of (by omega) (by omega)) (zc_of (by omega) (by omega)) hQ
  · rw [if_neg (by omega)] at hQ
    exact n_app G hS hM hU (zc_of (by omega) (by omega)) (zc_of (by omega) (by omega)) zc_0 zc_0 (zc_zw _) zc_0 (by omega) hQ
theorem n_free (G : zOK g) {im : zIm} {A : aA} (hS : zS_N S n) (hM : nS n x im0 im A) (hG : gB A.1) (hU : A.2.1.length < 300) {i : Int} {Q : zIm → Prop} (hi : kI A i) (hQ : ∀ im', nS n x im0 im' (aFree A i) → Q im') : zCV g yX2_freePlace M_X2_freePlace [.ref n, .int (zi i)] S im Q := by
  have g2 := hG.2.2.1
  have hi' := hi
  unfold kI at hi'
  have hl := sr_wl_len A.2.1
  refine v_X2_freePlace G hS (zc_of (by omega) (by omega)) ?_
  refine c_firstOf G (zN_W hS) hM.2.2.2.2.1 (by omega) zc_0 (zc_of (by omega) (by omega)) ?_
  unfold aFree fW at hQ
  rcases wl_fst i A.2.1 with ⟨h1, h2⟩ | ⟨f, b, h1, h2, h3, h4, h5⟩
  · rw [h2]
    rw [if_pos h1] at hQ
    exact ⟨fun _ => hQ im hM, fun h => absurd rfl h⟩
  · rw [h2]
    rw [if_neg (by omega), h1, Int.toNat_natCast] at hQ
    refine ⟨fun h => absurd h (by omega), fun _ => ?_⟩
    refine c_removeQ G (zN_W hS) (by omega) h4 hM.2.2.2.2.1 (fun im1 f1 r1 => ⟨by omega, ?_⟩)
    have h6 : nS n x im0 im1 (aCut A f) := by
      refine hM.W f1 (by rw [h5]; exact r1) (sr_erW _ _ h3 ?_)
      rcases fstP_sp (fun k => rg A.2.1 k 0 = 4 ∧ rg A.2.1 k 1 = i) A.2.1.length with ⟨hh, _⟩ | ⟨m, m1, _, m3, _⟩
      · omega
      · have : m = f := by omega
        subst this
        exact m3.1
    have hlf : (aCut A f).2.1.length = A.2.1.length - 1 := ln_er h3
    rw [h6.d, (h6.pl hi).1]
    exact n_app G hS h6 (by omega) (zc_of (by omega) (by omega)) (zc_of (by omega) (by omega)) zc_0 zc_0 (zc_zw _) zc_0 (by omega) hQ
theorem n_treat (G : zOK g) {im : zIm} {A : aA} (hS : zS_N S n) (hM : nS n x im0 im A) {lo m : Int} (hW : aW lo m A) (hl : lo ≤ A.1 0 + 1) {k : Nat} (hk : k < A.2.1.length) (h4 : rg A.2.1 k 0 < 4) (hh : sr A.2.1 = rg A.2.1 k :: sr (A.2.1.eraseIdx k)) {Q : zIm → Prop} (hQ : ∀ im', nS n x im0 im' (aE A k) → Q im') : zCV g yX2_treatFirst M_X2_treatFirst [.ref n] S im Q := by
  have hu := hW.1.2.1 _ (rg_mem hk)
  have hu' := hu
  unfold uB at hu'
  have sz := hW.sz
  have g2 := hW.1.1.2.2.1
  have g3 := hW.1.1.2.2.2.1
  have hlk : (A.2.1.eraseIdx k).length = A.2.1.length - 1 := ln_er hk
  have hsl := sr_wl_len (A.2.1.eraseIdx k)
  have hR := hM.2.2.2.1
  rw [hh] at hR
  have w := hR.2 0 (by simp)
  have w0 : rg (rg A.2.1 k :: sr (A.2.1.eraseIdx k)) 0 = rg A.2.1 k := rfl
  rw [w0] at w
  have e1 : im (n + 20) 0 = rg A.2.1 k 0 := w.2.1
  have e2 : im (n + 21) 0 = rg A.2.1 k 1 := w.2.2.1
  have e3 : im (n + 22) 0 = rg A.2.1 k 2 := w.2.2.2.1
  have e4 : im (n + 23) 0 = rg A.2.1 k 3 := w.2.2.2.2.1
  have e5 : im (n + 24) 0 = rg A.2.1 k 5 := w.2.2.2.2.2
  refine v_X2_treatFirst G hS ?_
  rw [e1, e2, e3, e4, e5]
  refine c_removeFirst G (zN_U hS) (by omega) hR (fun im1 f1 r1 => ?_)
  have h1 : nS n x im0 im1 (aCut A k) := hM.U f1 r1 (wl_erU _ _ hk (by omega))
  have hB1 := hW.1.cut k
  have hU1 : (aCut A k).2.1.length < 300 := by show (A.2.1.eraseIdx k).length < 300; omega
  have hi : kI (aCut A k) (rg A.2.1 k 1) := ⟨hu'.1, hu'.2.1⟩
  unfold aE aEu at hQ
  refine ⟨fun n0 => ⟨fun n2 => ⟨fun n3 => ?_, fun n3 => ?_⟩, fun n2 => ?_⟩, fun n0 => ?_⟩
  · have ho : kB (aCut A k) (rg A.2.1 k 3) := by show 1 ≤ rg A.2.1 k 3 ∧ rg A.2.1 k 3 < A.1 3; omega
    rw [if_neg n0, if_neg (fun h => n2 h.2)] at hQ
    by_cases e : rg A.2.1 k 0 = 1
    · rw [if_pos e] at hQ
      unfold aEL at hQ
      rw [if_pos n3.symm, n3] at hQ
      exact n_come G hS h1 hB1 (by show A.2.2.1.length < 300; omega) ho hi hQ
    · rw [if_neg e] at hQ
      exact n_come G hS h1 hB1 (by show A.2.2.1.length < 300; omega) ho hi hQ
  · have k1 : rg A.2.1 k 0 = 1 := by omega
    rw [if_neg n0, if_neg (fun h => n2 h.2), if_pos k1] at hQ
    unfold aEL at hQ
    rw [if_neg (fun h => n3 h.symm)] at hQ
    refine c_linkTime G hS h1 (by omega) (by omega) (by omega) (by omega) ?_
    rw [h1.d]
    refine ⟨fun hle => ?_, fun hlt => ?_⟩
    · rw [if_pos hle] at hQ
      exact n_app G hS h1 hU1 (zc_of (by omega) (by omega)) (zc_of (by omega) (by omega)) (zc_of (by omega) (by omega)) (zc_of (by omega) (by omega)) (zc_zw _) zc_0 (by omega) hQ
    · rw [if_neg (by omega)] at hQ
      exact n_app G hS h1 hU1 (zc_of (by omega) (by omega)) (zc_of (by omega) (by omega)) (zc_of (by omega) (by omega)) (zc_of (by omega) (by omega)) (zc_zw _) zc_0 (by omega) hQ
  · have k1 : rg A.2.1 k 0 = 1 := by omega
    rw [if_neg n0, if_pos ⟨k1, n2⟩] at hQ
    refine n_free G hS h1 hB1.1 hU1 hi (fun im2 h2 => ?_)
    have kf := eK_free hB1 hl hi
    have lf : (aFree (aCut A k) (rg A.2.1 k 1)).2.1.length < 300 := by
      unfold aFree aRD
      split
      · exact hU1
      · rw [ln_app]
        have : (aCut (aCut A k) (fW (aCut A k) (rg A.2.1 k 1)).toNat).2.1.length ≤ (aCut A k).2.1.length := by
          show ((aCut A k).2.1.eraseIdx _).length ≤ _
          rw [List.length_eraseIdx]; split <;> omega
        have : (aCut A k).2.1.length ≤ 281 := by show (A.2.1.eraseIdx k).length ≤ 281; omega
        omega
    exact n_fill G hS h2 kf.1 lf (by have := kf.2.2.2.1; have e : (aCut A k).2.2.2.length = A.2.2.2.length := rfl; omega) (by unfold kI; rw [kf.2.1 2 (by omega)]; exact hi) hQ
  · rw [if_pos n0] at hQ
    exact n_er G hS h1 hB1.1 hU1 hi hQ
theorem aK_fuel {lo m k : Int} (k1 : k < 4) : ∀ (p q : Nat) (A : aA), aW lo m A → lo ≤ A.1 0 + 1 → dC A k ≤ p → dC A k ≤ q → aK k p A = aK k q A := by
  intro p
  induction p with
  | zero => intro q A hW hl hp hq; rw [aK_z (dC_sp.2 (by omega)), aK_z (dC_sp.2 (by omega))]
  | succ p ih =>
    intro q A hW hl hp hq
    by_cases hz : fD A k = -1
    · rw [aK_z hz, aK_z hz]
    · obtain ⟨i, h1, h2, h3, h4, _⟩ := fD_sp hz
      obtain ⟨w, s, c⟩ := hW.e hl h2 (by omega)
      have c1 := c k k1
      rw [if_pos (by simp [isDu, h3, h4])] at c1
      cases q with
      | zero => omega
      | succ q => rw [aK_s h1, aK_s h1]; exact ih q _ w (by rw [s 0 (by omega)]; exact hl) (by omega) (by omega)
def dT (A : aA) : Nat := dC A 0 + dC A 1 + dC A 2 + dC A 3
theorem aKs_z {A : aA} (h : dT A = 0) : aKs A = A := by
  unfold dT at h
  unfold aKs
  rw [aK_z (k := 0) (A := A) (dC_sp.2 (by omega)), aK_z (k := 1) (A := A) (dC_sp.2 (by omega)), aK_z (k := 2) (A := A) (dC_sp.2 (by omega)), aK_z (k := 3) (A := A) (dC_sp.2 (by omega))]
/-- a turn of the class is a turn of the reference -/
theorem aKs_step {m : Int} {A : aA} (hW : aW (A.1 0) m A) (h : dT A ≠ 0) : ∃ i : Nat, i < A.2.1.length ∧ rg A.2.1 i 0 < 4 ∧ rg A.2.1 i 4 = A.1 0 ∧ sr A.2.1 = rg A.2.1 i :: sr (A.2.1.eraseIdx i) ∧ aKs A = aKs (aE A i) ∧ dT (aE A i) + 1 = dT A ∧ aW (A.1 0) m (aE A i) ∧ (aE A i).1 0 = A.1 0 := by
  have key (k : Int) (k0 : 0 ≤ k) (k1 : k < 4) (hk : dC A k ≠ 0) (hb : ∀ j, 0 ≤ j → j < k → dC A j = 0) : ∃ i : Nat, i < A.2.1.length ∧ rg A.2.1 i 0 = k ∧ rg A.2.1 i 4 = A.1 0 ∧ sr A.2.1 = rg A.2.1 i :: sr (A.2.1.eraseIdx i) ∧ aK k 1000 A = aK k 1000 (aE A i) ∧ (∀ j, j < 4 → dC (aE A i) j + (if j = k then 1 else 0) = dC A j) ∧ aW (A.1 0) m (aE A i) ∧ (aE A i).1 0 = A.1 0 := by
    have hz : fD A k ≠ -1 := fun hh => hk (dC_sp.1 hh)
    obtain ⟨i, h1, h2, h3, h4, h5⟩ := fD_sp hz
    obtain ⟨w, s, c⟩ := hW.e (by omega) h2 (by omega)
    have e0 := s 0 (by omega)
    have le (B : aA) (hB : aW (A.1 0) m B) : dC B k ≤ 999 := by
      have := hB.sz
      have : dC B k ≤ B.2.1.length := List.countP_le_length
      omega
    have ge (j : Nat) (hj : j < A.2.1.length) (hn : rg A.2.1 j 0 ≠ 4) : A.1 0 ≤ rg A.2.1 j 4 ∧ (rg A.2.1 j 4 = A.1 0 → k ≤ rg A.2.1 j 0) := by
      have hu := hW.1.2.1 _ (rg_mem hj)
      unfold uB at hu
      refine ⟨by omega, fun hd => ?_⟩
      by_cases hlt : rg A.2.1 j 0 < k
      · have := hb (rg A.2.1 j 0) (by omega) hlt
        have := (List.countP_eq_zero.1 this) _ (rg_mem hj)
        exact absurd (by simp [isDu, hd]) this
      · omega
    refine ⟨i, h2, h3, h4, ?_, ?_, fun j hj => ?_, w, e0⟩
    · refine sr_head _ i h2 (by omega) (fun j hj hn => ?_) (fun j hj hn => ?_)
      · have := ge j (by omega) hn
        have := h5 j hj
        unfold uLt
        omega
      · have := ge j hj hn
        unfold uLt
        omega
    · rw [aK_s (n := 999) h1]
      exact aK_fuel k1 999 1000 _ w (by rw [e0]; omega) (le _ w) (by have := le _ w; omega)
    · have := c j hj
      have e : (isDu j (A.1 0) (rg A.2.1 i) = true) ↔ j = k := by
        unfold isDu
        simp only [Bool.and_eq_true, decide_eq_true_eq, h3, h4, and_true]
        exact ⟨fun h => h.symm, fun h => h.symm⟩
      by_cases ej : j = k
      · rw [if_pos (e.2 ej)] at this; rw [if_pos ej]; exact this
      · rw [if_neg (fun hh => ej (e.1 hh))] at this; rw [if_neg ej]; exact this
  unfold dT at h
  by_cases h0 : dC A 0 = 0
  · by_cases h1 : dC A 1 = 0
    · by_cases h2 : dC A 2 = 0
      · have h3 : dC A 3 ≠ 0 := by omega
        have lt3 : ∀ j, 0 ≤ j → j < 3 → dC A j = 0 := by
          intro j j0 j1
          have : j = 0 ∨ j = 1 ∨ j = 2 := by omega
          rcases this with e | e | e <;> subst e <;> assumption
        obtain ⟨i, a1, a2, a3, a4, a5, a6, a7, a8⟩ := key 3 (by omega) (by omega) h3 lt3
        have c0 := a6 0 (by omega)
        have c1 := a6 1 (by omega)
        have c2 := a6 2 (by omega)
        have c3 := a6 3 (by omega)
        simp at c0 c1 c2 c3
        refine ⟨i, a1, by omega, a3, a4, ?_, by unfold dT; omega, a7, a8⟩
        unfold aKs
        rw [aK_z (dC_sp.2 h0), aK_z (dC_sp.2 h1), aK_z (dC_sp.2 h2), a5, aK_z (k := 0) (A := aE A i) (dC_sp.2 (by omega)), aK_z (k := 1) (A := aE A i) (dC_sp.2 (by omega)), aK_z (k := 2) (A := aE A i) (dC_sp.2 (by omega))]
      · have lt2 : ∀ j, 0 ≤ j → j < 2 → dC A j = 0 := by
          intro j j0 j1
          have : j = 0 ∨ j = 1 := by omega
          rcases this with e | e <;> subst e <;> assumption
        obtain ⟨i, a1, a2, a3, a4, a5, a6, a7, a8⟩ := key 2 (by omega) (by omega) h2 lt2
        have c0 := a6 0 (by omega)
        have c1 := a6 1 (by omega)
        have c2 := a6 2 (by omega)
        have c3 := a6 3 (by omega)
        simp at c0 c1 c2 c3
        refine ⟨i, a1, by omega, a3, a4, ?_, by unfold dT; omega, a7, a8⟩
        unfold aKs
        rw [aK_z (dC_sp.2 h0), aK_z (dC_sp.2 h1), a5, aK_z (k := 0) (A := aE A i) (dC_sp.2 (by omega)), aK_z (k := 1) (A := aE A i) (dC_sp.2 (by omega))]
    · have lt1 : ∀ j, 0 ≤ j → j < 1 → dC A j = 0 := by
        intro j j0 j1
        have : j = 0 := by omega
        subst this
        assumption
      obtain ⟨i, a1, a2, a3, a4, a5, a6, a7, a8⟩ := key 1 (by omega) (by omega) h1 lt1
      have c0 := a6 0 (by omega)
      have c1 := a6 1 (by omega)
      have c2 := a6 2 (by omega)
      have c3 := a6 3 (by omega)
      simp at c0 c1 c2 c3
      refine ⟨i, a1, by omega, a3, a4, ?_, by unfold dT; omega, a7, a8⟩
      unfold aKs
      rw [aK_z (dC_sp.2 h0), a5, aK_z (k := 0) (A := aE A i) (dC_sp.2 (by omega))]
  · obtain ⟨i, a1, a2, a3, a4, a5, a6, a7, a8⟩ := key 0 (by omega) (by omega) h0 (fun j j0 j1 => by omega)
    have c0 := a6 0 (by omega)
    have c1 := a6 1 (by omega)
    have c2 := a6 2 (by omega)
    have c3 := a6 3 (by omega)
    simp at c0 c1 c2 c3
    refine ⟨i, a1, by omega, a3, a4, ?_, by unfold dT; omega, a7, a8⟩
    unfold aKs
    rw [a5]
theorem dT_le (A : aA) : dT A ≤ (sr A.2.1).length := by
  have e (k : Int) (hk : k < 4) : dC A k = (sr A.2.1).countP (isDu k (A.1 0)) := by
    unfold dC
    rw [sr_cnt]
    refine List.countP_congr (fun u _ => ?_)
    unfold isDu isWt
    simp only [Bool.and_eq_true, decide_eq_true_eq, Bool.not_eq_true', decide_eq_false_iff_not]
    constructor
    · exact fun h => ⟨h, by omega⟩
    · exact fun h => h.1
  unfold dT
  rw [e 0 (by omega), e 1 (by omega), e 2 (by omega), e 3 (by omega)]
  generalize sr A.2.1 = l
  induction l with
  | nil => simp
  | cons y l ih =>
    simp only [List.countP_cons, List.length_cons]
    have : (if isDu 0 (A.1 0) y = true then 1 else 0) + (if isDu 1 (A.1 0) y = true then 1 else 0) + (if isDu 2 (A.1 0) y = true then 1 else 0) + (if isDu 3 (A.1 0) y = true then 1 else 0) ≤ 1 := by
      unfold isDu
      simp only [Bool.and_eq_true, decide_eq_true_eq]
      by_cases e0 : y 0 = 0
      · simp [e0]; split <;> omega
      · by_cases e1 : y 0 = 1
        · simp [e1]; split <;> omega
        · by_cases e2 : y 0 = 2
          · simp [e2]; split <;> omega
          · simp [e0, e1, e2]; split <;> omega
    omega
theorem n_day_loop (G : zOK g) (hS : zS_N S n) {m d : Int} {Q : zIm → Prop} {most : Nat} (hm : most ≤ 300) (T : aA) (hQ : ∀ im', nS n x im0 im' T → zPV g M_X2_beginDay 63 [(0, .ref n), (2, .int (zi 0))] S im' Q) :
    ∀ (f : Nat) (A : aA) (im : zIm) (t : Nat), dT A = f → t + f ≤ most → nS n x im0 im A → aW d m A → A.1 0 = d → aKs A = T → zPV g M_X2_beginDay 20 [(0, .ref n), (1, .int (zi most)), (2, .int (zi t))] S im Q := by
  intro f
  induction f with
  | zero =>
    intro A im t hf ht hM hW hd hT
    rw [aKs_z hf] at hT
    subst hT
    refine v_X2_beginDay_20 G hS (zc_of (by omega) (by omega)) (zc_of (by omega) (by omega)) ⟨fun _ => hQ im hM, fun _ => ⟨fun _ => hQ im hM, fun hc => ⟨fun _ => hQ im hM, fun hle => ?_⟩⟩⟩
    exfalso
    have h0 := hM.2.2.2.1.1
    have h1 : 0 < (sr A.2.1).length := by omega
    have h2 : im (n + 19) 0 = rg (sr A.2.1) 0 4 := (hM.2.2.2.1.2 0 h1).1
    have h3 := sr_mem.1 (rg_mem h1)
    have hu := hW.1.2.1 _ h3.1
    unfold uB at hu
    rw [h2, hM.d] at hle
    have hk (k : Int) (hk : rg (sr A.2.1) 0 0 = k) (h4 : dC A k = 0) : rg (sr A.2.1) 0 4 ≠ A.1 0 := by
      have := (List.countP_eq_zero.1 h4) _ h3.1
      exact fun e => this (by simp [isDu, hk, e])
    unfold dT at hf
    have k0 := fun e => hk 0 e (by omega)
    have k1 := fun e => hk 1 e (by omega)
    have k2 := fun e => hk 2 e (by omega)
    have k3 := fun e => hk 3 e (by omega)
    have h5 := h3.2
    rcases hu.2.2.2.2 with c | c | c | c | c
    · have := k0 c.1; omega
    · have := k1 c.1; omega
    · have := k1 c.1; omega
    · have := c.1.elim k2 k3; omega
    · exact h5 c.1
  | succ f ih =>
    intro A im t hf ht hM hW hd hT
    subst hd
    obtain ⟨i, a1, a2, a3, a4, a5, a6, a7, a8⟩ := aKs_step hW (by omega)
    have h0 := hM.2.2.2.1.1
    have h1 : 0 < (sr A.2.1).length := by rw [a4]; simp
    have h2 : im (n + 19) 0 = A.1 0 := by
      have := (hM.2.2.2.1.2 0 h1).1
      rw [a4] at this
      exact this.trans a3
    refine v_X2_beginDay_20 G hS (zc_of (by omega) (by omega)) (zc_of (by omega) (by omega)) ⟨fun h => absurd h (by omega), fun _ => ⟨fun h => absurd h (by omega), fun _ => ⟨fun h => ?_, fun _ => ?_⟩⟩⟩
    · rw [h2, hM.d] at h; omega
    · refine n_treat G hS hM hW (by omega) a1 a2 a4 (fun im1 h1 => ?_)
      rw [zwS (k := t) (by omega)]
      exact ih _ im1 (t + 1) (by omega) (by omega) h1 a7 a8 (by rw [← a5]; exact hT)
theorem n_bk_loop (G : zOK g) (hS : zS_N S n) {lo m : Int} {A : aA} (hW : aW lo m A) {Q : zIm → Prop} (hQ : ∀ im', nS n x im0 im' (aBks A) → Q im') :
    ∀ (f k : Nat) (im : zIm), k + f = A.2.2.1.length → nS n x im0 im (aBk A k) → zPV g M_X2_beginDay 63 [(0, .ref n), (2, .int (zi k))] S im Q := by
  have hs := hW.sz
  have g2 := hW.1.1.2.2.1
  have g3 := hW.1.1.2.2.2.1
  intro f
  induction f with
  | zero =>
    intro k im hk hM
    have e5 := hM.2.2.2.2.2.2.1
    rw [aBk_l] at e5
    refine v_X2_beginDay_63 G hS (zc_of (by omega) (by omega)) ⟨fun _ => hQ im ?_, fun h => absurd h (by omega)⟩
    unfold aBks
    rw [show k = A.2.2.1.length from by omega] at hM
    exact hM
  | succ f ih =>
    intro k im hk hM
    have hr := hM.2.2.2.2.2.2
    rw [aBk_l] at hr
    have e5 := hr.1
    have hc := hW.1.2.2.1 _ (rg_mem (l := A.2.2.1) (k := k) (by omega))
    unfold cB at hc
    have hw := hr.2 k (by omega)
    have b : 0 ≤ (k : Int) ∧ (k : Int) < 300 := by omega
    refine v_X2_beginDay_63 G hS (zc_of (by omega) (by omega)) ⟨fun h => absurd h (by omega), fun _ => ⟨b, b, ?_⟩⟩
    rw [show im (n + 36) k = rg A.2.2.1 k 0 from hw.1, show im (n + 37) k = rg A.2.2.1 k 1 from hw.2.1]
    refine c_cell G (by omega) (by omega) (by omega) (by omega) ⟨⟨by omega, by omega⟩, fun im1 e1 => ?_⟩
    rw [hM.t (c := 16) (t := 348) (by unfold tP; omega) (by omega) (by omega) (by omega) (by omega)] at e1
    rw [zwS (k := k) (by omega)]
    exact ih (k + 1) im1 (by omega) (hM.ut (aBk_k hW.1 k (by omega)).1.1 (c := 16) (t := 348) (by unfold tP; omega) (by omega) (by omega) (by omega) (by omega) e1)
theorem nS.dy {im im' : zIm} {A : aA} (h : nS n x im0 im A) (hg : gB A.1) {v : Int} (e : im' = zst im n 0 v) : nS n x im0 im' (aG A 0 v) := by
  obtain ⟨hf, hx, ⟨a0, a1, a2, a3, a4, a5, a6, a7, a8⟩, hu, hw, ho, hcu⟩ := h
  have g2 := hg.2.2.1
  have g3 := hg.2.2.2.1
  have n1 (b : Nat) (hb : b ≠ n) : im' b = im b := by rw [e, zst_n hb]
  have z (j : Int) (hj : j ≠ 0) : (aG A 0 v).1 j = A.1 j := aG_n hj
  refine ⟨fun b hb => by rw [n1 b (by omega)]; exact hf b hb, by rw [n1 _ (by omega)]; exact hx, ⟨?_, ?_, ?_, ?_, ?_, fun k k0 k1 => ?_, fun k k0 k1 => ?_, fun j j0 j1 => ?_, fun c' t' hc2 j j0 j1 => ?_⟩, hu.cong (fun b b0 b1 => n1 b (by omega)), hw.cong (fun b b0 b1 => n1 b (by omega)), ho.cong (fun b b0 b1 => n1 b (by omega)), hcu.cong (fun b b0 b1 => n1 b (by omega))⟩
  · rw [e, zst_at, if_pos ⟨rfl, rfl⟩]; exact aG_s.symm
  · rw [n1 _ (by omega), z _ (by omega)]; exact a1
  · rw [n1 _ (by omega), z _ (by omega)]; exact a2
  · rw [n1 _ (by omega), z _ (by omega)]; exact a3
  · rw [n1 _ (by omega), z _ (by omega)]; exact a4
  · rw [z 2 (by omega)] at k1
    rw [n1 _ (by omega), n1 _ (by omega), n1 _ (by omega), z _ (by omega), z _ (by omega), z _ (by omega)]; exact a5 k k0 k1
  · rw [z 3 (by omega)] at k1
    rw [n1 _ (by omega), z _ (by omega)]; exact a6 k k0 k1
  · rw [n1 _ (by omega), z _ (by omega)]; exact a7 j j0 j1
  · have h2 := a8 c' t' hc2 j j0 j1
    unfold tP at hc2
    rw [n1 _ (by omega), z _ (by omega)]; exact h2
theorem n_beginDay (G : zOK g) (hS : zS_N S n) {m : Int} {A : aA} {im : zIm} (hM : nS n x im0 im A) (hW : aW (A.1 0 + 1) m A) (hd : A.1 0 < 9999) {Q : zIm → Prop} (hQ : ∀ im', nS n x im0 im' (aDay A) → Q im') : zCV g yX2_beginDay M_X2_beginDay [.ref n] S im Q := by
  have d0 := hW.1.1.1
  have sz := hW.sz
  have hl := sr_wl_len A.2.1
  refine v_X2_beginDay G hS (fun im1 e1 => ?_)
  rw [hM.d, zw_of (by omega) (by omega)] at e1
  have h1 := hM.dy hW.1.1 e1
  have h0 := hW.day0 hd
  have e0 : (aG A 0 (A.1 0 + 1)).1 0 = A.1 0 + 1 := aG_s
  obtain ⟨_, _, _, w3, _⟩ := aKs_ok (A := aG A 0 (A.1 0 + 1)) (m := m) (by rw [e0]; exact h0)
  rw [show im1 (n + 18) 0 = ((sr A.2.1).length : Int) from h1.2.2.2.1.1]
  refine n_day_loop G hS (by omega) (aKs (aG A 0 (A.1 0 + 1))) (fun im2 h2 => ?_) (dT (aG A 0 (A.1 0 + 1))) _ im1 0 rfl (by have := dT_le (aG A 0 (A.1 0 + 1)); have e : (aG A 0 (A.1 0 + 1)).2.1 = A.2.1 := rfl; rw [e] at this; omega) h1 h0 e0 rfl
  exact n_bk_loop G hS w3 hQ _ 0 im2 (Nat.zero_add _) h2
end NE
