/-! what each call keeps -/
def kP (j : Nat) (A : aA) (oc : aO) : Prop := (oc.1 ≠ 0 → oc.2.2 = A) ∧ aW (oc.2.2.1 0 + 1) (840 * ((j + 1 : Nat) : Int)) oc.2.2
section KP
variable {j : Nat} {A : aA}
theorem kP_A {oc : aO} (hW : aW (A.1 0 + 1) (840 * (j : Int)) A) (h : oc.2.2 = A) : kP j A oc := ⟨fun _ => h, by rw [h]; exact hW.mono (by omega)⟩
theorem kP_0 {oc : aO} (h0 : oc.1 = 0) (h : aW (oc.2.2.1 0 + 1) (840 * ((j + 1 : Nat) : Int)) oc.2.2) : kP j A oc := ⟨fun hn => absurd h0 hn, h⟩
theorem kp_item (hW : aW (A.1 0 + 1) (840 * (j : Int)) A) (p q r : Int) : kP j A (oItem A p q r) := by
  have g2 := hW.1.1.2.2.1
  by_cases h1 : (1 ≤ p ∧ p ≤ 30) ∧ (1 ≤ q ∧ q ≤ 5) ∧ (1 ≤ r ∧ r ≤ 30)
  · by_cases h2 : A.1 2 = 4
    · exact kP_A hW (by unfold oItem; rw [if_pos h1, if_pos h2])
    · have e : oItem A p q r = (0, A.1 2, aItem A p q r) := by unfold oItem; rw [if_pos h1, if_neg h2]
      rw [e]
      refine kP_0 rfl ?_
      show aW ((aItem A p q r).1 0 + 1) _ (aItem A p q r)
      rw [show (aItem A p q r).1 0 = A.1 0 from by unfold aItem; rw [aG_n (by omega), aG_n (by omega), aG_n (by omega), aG_n (by omega)]]
      exact (hW.item (by omega) (by omega) (by omega) (by omega) (by omega) (by omega) (by omega)).mono (by omega)
  · exact kP_A hW (by unfold oItem; rw [if_neg h1])
theorem kp_base (hW : aW (A.1 0 + 1) (840 * (j : Int)) A) (p : Int) : kP j A (oBase A p) := by
  have g3 := hW.1.1.2.2.2.1
  by_cases h1 : 1 ≤ p ∧ p ≤ 20
  · by_cases h2 : A.1 3 = 8
    · exact kP_A hW (by unfold oBase; rw [if_pos h1, if_pos h2])
    · have e : oBase A p = (0, A.1 3, aBase A p) := by unfold oBase; rw [if_pos h1, if_neg h2]
      rw [e]
      refine kP_0 rfl ?_
      show aW ((aBase A p).1 0 + 1) _ (aBase A p)
      rw [show (aBase A p).1 0 = A.1 0 from by unfold aBase; rw [aG_n (by omega), aG_n (by omega)]]
      exact (hW.base (by omega) (by omega) (by omega)).mono (by omega)
  · exact kP_A hW (by unfold oBase; rw [if_neg h1])
theorem kp_link (hW : aW (A.1 0 + 1) (840 * (j : Int)) A) (p q r : Int) : kP j A (oLink A p q r) := by
  have g3 := hW.1.1.2.2.2.1
  by_cases h1 : (1 ≤ p ∧ p < A.1 3) ∧ (1 ≤ q ∧ q < A.1 3)
  · by_cases h2 : p ≠ q ∧ 0 ≤ r ∧ r ≤ 20
    · have e : oLink A p q r = (0, A.1 (28 + 8 * p + q), aJoin A p q r) := by unfold oLink; rw [if_pos h1, if_pos h2]
      rw [e]
      refine kP_0 rfl ?_
      show aW ((aJoin A p q r).1 0 + 1) _ (aJoin A p q r)
      rw [show (aJoin A p q r).1 0 = A.1 0 from by unfold aJoin; rw [aG_n (by omega), aG_n (by omega)]]
      exact (hW.join (by omega) (by omega) (by omega) (by omega) h2.1 h2.2.1 h2.2.2).mono (by omega)
    · exact kP_A hW (by unfold oLink; rw [if_pos h1, if_neg h2])
  · exact kP_A hW (by unfold oLink; rw [if_neg h1])
theorem kp_level (hW : aW (A.1 0 + 1) (840 * (j : Int)) A) (s i v : Int) : kP j A (oLevel A s i v) := by
  by_cases h1 : (0 ≤ s ∧ s < A.1 3) ∧ (0 ≤ i ∧ i < A.1 2)
  · by_cases h2 : 0 ≤ v ∧ v ≤ 20
    · by_cases h3 : A.1 (92 + 4 * s + i) - v ≤ A.1 (124 + 4 * s + i)
      · have e : oLevel A s i v = (0, A.1 (92 + 4 * s + i), aLv A s i v) := by unfold oLevel; rw [if_pos h1, if_pos h2, if_pos h3]
        rw [e]
        have w := hW.lv (by omega) h1.1 h1.2 h2.1 h2.2 h3
        refine kP_0 rfl ?_
        show aW ((aLv A s i v).1 0 + 1) _ (aLv A s i v)
        rw [w.2 0 (by omega)]
        exact w.1.mono (by omega)
      · exact kP_A hW (by unfold oLevel; rw [if_pos h1, if_pos h2, if_neg h3])
    · exact kP_A hW (by unfold oLevel; rw [if_pos h1, if_neg h2])
  · exact kP_A hW (by unfold oLevel; rw [if_neg h1])
theorem kp_num (hW : aW (A.1 0 + 1) (840 * (j : Int)) A) {t mx : Int} (t0 : 156 ≤ t) (t1 : t ≤ 220) (m1 : mx ≤ 100) (b i v : Int) : kP j A (oNum t mx A b i v) := by
  have g2 := hW.1.1.2.2.1
  have g3 := hW.1.1.2.2.2.1
  by_cases h1 : (1 ≤ b ∧ b < A.1 3) ∧ (0 ≤ i ∧ i < A.1 2)
  · by_cases h2 : 0 ≤ v ∧ v ≤ mx
    · have e : oNum t mx A b i v = (0, A.1 (t + 4 * b + i), aG A (t + 4 * b + i) v) := by unfold oNum; rw [if_pos h1, if_pos h2]
      rw [e]
      refine kP_0 rfl ?_
      show aW ((aG A (t + 4 * b + i) v).1 0 + 1) _ (aG A (t + 4 * b + i) v)
      rw [aG_n (by omega)]
      exact (hW.num (by omega) (by omega) (zc_of (by omega) (by omega))).mono (by omega)
    · exact kP_A hW (by unfold oNum; rw [if_pos h1, if_neg h2])
  · exact kP_A hW (by unfold oNum; rw [if_neg h1])
theorem kp_lim (hW : aW (A.1 0 + 1) (840 * (j : Int)) A) (v : Int) : kP j A (oLim A v) := by
  by_cases h1 : 0 ≤ v ∧ v ≤ 20
  · have e : oLim A v = (0, A.1 1, aG A 1 v) := by unfold oLim; rw [if_pos h1]
    rw [e]
    refine kP_0 rfl ?_
    show aW ((aG A 1 v).1 0 + 1) _ (aG A 1 v)
    rw [aG_n (by omega)]
    exact (hW.lim h1.1 h1.2).mono (by omega)
  · exact kP_A hW (by unfold oLim; rw [if_neg h1])
theorem kp_dem (hW : aW (A.1 0 + 1) (840 * (j : Int)) A) (hj : j ≤ 600) (b i p : Int) : kP j A (oDem A b i p) := by
  by_cases h1 : (1 ≤ b ∧ b < A.1 3) ∧ (0 ≤ i ∧ i < A.1 2)
  · by_cases h2 : 0 ≤ p ∧ p ≤ 9
    · by_cases h3 : 200 ≤ A.2.1.length ∨ 100 ≤ A.2.2.1.length
      · exact kP_A hW (by unfold oDem; rw [if_pos h1, if_pos h2, if_pos h3])
      · have e : oDem A b i p = (0, (if 0 < A.1 (124 + 4 * b + i) then 1 else 0), aOcc A b i p) := by unfold oDem; rw [if_pos h1, if_pos h2, if_neg h3]
        rw [e]
        have w := hW.occ (by omega) h1.1 h1.2 h2.1 h2.2 (by omega) (by omega) (by omega)
        refine kP_0 rfl ?_
        show aW ((aOcc A b i p).1 0 + 1) _ (aOcc A b i p)
        rw [w.2 0 (by omega)]
        exact w.1.mono (by omega)
    · exact kP_A hW (by unfold oDem; rw [if_pos h1, if_neg h2])
  · exact kP_A hW (by unfold oDem; rw [if_neg h1])
theorem kp_adv (hW : aW (A.1 0 + 1) (840 * (j : Int)) A) (d : Int) : kP j A (oAdv A d) := by
  by_cases h1 : 1 ≤ d ∧ d ≤ 60
  · by_cases h2 : A.1 0 + d ≤ 9999
    · have e : oAdv A d = (0, A.1 0 + d, aDn d.toNat A) := by unfold oAdv; rw [if_pos h1, if_pos h2]
      rw [e]
      have w := aDn_ok hW d.toNat (by omega)
      refine kP_0 rfl ?_
      show aW ((aDn d.toNat A).1 0 + 1) _ (aDn d.toNat A)
      rw [w.2]
      exact w.1.mono (by omega)
    · exact kP_A hW (by unfold oAdv; rw [if_pos h1, if_neg h2])
  · exact kP_A hW (by unfold oAdv; rw [if_neg h1])
theorem kp_run (hW : aW (A.1 0 + 1) (840 * (j : Int)) A) (hj : j ≤ 600) {x : Int} (cx : zc x) (d : Int) : kP j A (oRun A x d) := by
  have bx := zc_bd cx
  by_cases h1 : 0 ≤ x ∧ 1 ≤ d ∧ d ≤ 30
  · by_cases h2 : A.1 0 + d ≤ 9999
    · have e : oRun A x d = (0, (aRun A x d.toNat).2.2, (aRun A x d.toNat).1) := by unfold oRun; rw [if_pos h1, if_pos h2]
      rw [e]
      have w := aRun_ok (n := d.toNat) hW h1.1 (by omega) (by omega) (by omega)
      refine kP_0 rfl ?_
      show aW ((aRun A x d.toNat).1.1 0 + 1) _ (aRun A x d.toNat).1
      rw [w.1]
      exact w.2.2.2.1.mono (by omega)
    · exact kP_A hW (by unfold oRun; rw [if_pos h1, if_neg h2])
  · exact kP_A hW (by unfold oRun; rw [if_neg h1])
theorem oBI_A {b i v : Int} : (oBI A b i v).2.2 = A := by unfold oBI; split <;> rfl
theorem oIt_A {i v : Int} : (oIt A i v).2.2 = A := by unfold oIt; split <;> rfl
theorem oAt_A {t s i : Int} : (oAt t A s i).2.2 = A := by unfold oAt; split <;> rfl
theorem oUnd_A {i k : Int} : (oUnd A i k).2.2 = A := by
  unfold oUnd
  split
  · split <;> rfl
  · rfl
theorem oDue_A {p f : Int} : (oDue A p f).2.2 = A := by unfold oDue; split <;> rfl
theorem oFig_A {b i v : Int} : (oFig A b i v).2.2 = A := by
  by_cases h : mB A b ∧ mI A i
  · rw [oFig_y h.1 h.2]
  · rw [oFig_n h]
theorem oBest_A {i x d : Int} : (oBest A i x d).2.2 = A := by
  unfold oBest
  split
  · split
    · split <;> rfl
    · rfl
  · rfl
end KP
