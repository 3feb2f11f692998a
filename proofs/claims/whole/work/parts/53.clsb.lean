def nP (n : Nat) (im im' : zIm) (A : aA) : Prop := ∃ y, nS n y im im' A
section CL
variable {g : zG} {S : zSh} {im : zIm} {a an as av at_ : Nat} {A : aA} {y : Int}
theorem k_range (G : zOK g) {im1 : zIm} {p l h : Int} (cp : zc p) (cl : zc l) (ch : zc h) {Q : zIm → Prop} {X : String → zSh → zIm → Prop} (hq : l ≤ p → p ≤ h → Q im1) (hx : ¬ (l ≤ p ∧ p ≤ h) → X "java/lang/IllegalArgumentException" (zpush S 14 0) im1) : zCVx g yX7_checkRange M_X7_checkRange [.int (zi p), .int (zi l), .int (zi h)] S im1 Q X := by
  refine v_X7_checkRange G cp cl ch ?_
  exact v_X7_within G cp cl ch ⟨fun e => ⟨fun h => absurd rfl h, fun _ => hx (by omega)⟩, fun e => ⟨fun e2 => ⟨fun h => absurd rfl h, fun _ => hx (by omega)⟩, fun e2 => ⟨fun _ => hq e e2, fun h => absurd h (by decide)⟩⟩⟩
theorem k_base (G : zOK g) (hS : zDep S a an as av at_) (hM : nS an y im im A) {p : Int} (cp : zc p) {Q : zIm → Prop} {X : String → zSh → zIm → Prop} (hq : 1 ≤ p → p < A.1 3 → Q im) (hx : ¬ (1 ≤ p ∧ p < A.1 3) → X "java/lang/IndexOutOfBoundsException" (zpush S 14 0) im) : zCVx g yX7_checkBase M_X7_checkBase [.ref a, .int (zi p)] S im Q X := by
  have e := hM.st
  refine v_X7_checkBase G hS cp ?_
  exact v_X4_isBase G (zN_S hS.2.2.2.2.2.1) cp ⟨fun e1 => ⟨fun h => absurd rfl h, fun _ => hx (by omega)⟩, fun e1 => ⟨fun e2 => ⟨fun h => absurd rfl h, fun _ => hx (by omega)⟩, fun e2 => ⟨fun _ => hq (by omega) (by omega), fun h => absurd h (by decide)⟩⟩⟩
theorem k_site (G : zOK g) (hS : zDep S a an as av at_) (hM : nS an y im im A) {p : Int} (cp : zc p) {Q : zIm → Prop} {X : String → zSh → zIm → Prop} (hq : 0 ≤ p → p < A.1 3 → Q im) (hx : ¬ (0 ≤ p ∧ p < A.1 3) → X "java/lang/IndexOutOfBoundsException" (zpush S 14 0) im) : zCVx g yX7_checkSite M_X7_checkSite [.ref a, .int (zi p)] S im Q X := by
  have e := hM.st
  refine v_X7_checkSite G hS cp ?_
  exact v_X4_isSite G (zN_S hS.2.2.2.2.2.1) cp ⟨fun e1 => ⟨fun h => absurd rfl h, fun _ => hx (by omega)⟩, fun e1 => ⟨fun e2 => ⟨fun h => absurd rfl h, fun _ => hx (by omega)⟩, fun e2 => ⟨fun _ => hq (by omega) (by omega), fun h => absurd h (by decide)⟩⟩⟩
theorem k_item (G : zOK g) (hS : zDep S a an as av at_) (hM : nS an y im im A) {p : Int} (cp : zc p) {Q : zIm → Prop} {X : String → zSh → zIm → Prop} (hq : 0 ≤ p → p < A.1 2 → Q im) (hx : ¬ (0 ≤ p ∧ p < A.1 2) → X "java/lang/IndexOutOfBoundsException" (zpush S 14 0) im) : zCVx g yX7_checkItem M_X7_checkItem [.ref a, .int (zi p)] S im Q X := by
  have e := hM.it
  refine v_X7_checkItem G hS cp ?_
  exact v_X4_isItem G (zN_S hS.2.2.2.2.2.1) cp ⟨fun e1 => ⟨fun h => absurd rfl h, fun _ => hx (by omega)⟩, fun e1 => ⟨fun e2 => ⟨fun h => absurd rfl h, fun _ => hx (by omega)⟩, fun e2 => ⟨fun _ => hq (by omega) (by omega), fun h => absurd h (by decide)⟩⟩⟩
theorem k_addItem (G : zOK g) (hS : zDep S a an as av at_) (hM : nS an y im im A) (hG : gB A.1) {p q r : Int} (cp : zc p) (cq : zc q) (cr : zc r) {Q : Int → zIm → Prop} {X : String → zSh → zIm → Prop} (h0 : (oItem A p q r).1 = 0 → ∀ im', nP an im im' (oItem A p q r).2.2 → Q (oItem A p q r).2.1 im') (h1 : (oItem A p q r).1 = 1 → X "java/lang/IllegalArgumentException" (zpush S 14 0) im) (h2 : (oItem A p q r).1 = 2 → X "java/lang/IllegalStateException" (zpush S 14 0) im) : zCIx g yX7_addItem M_X7_addItem [.ref a, .int (zi p), .int (zi q), .int (zi r)] S im Q X := by
  have g2 := hG.2.2.1
  have bad (hb : ¬ ((1 ≤ p ∧ p ≤ 30) ∧ (1 ≤ q ∧ q ≤ 5) ∧ (1 ≤ r ∧ r ≤ 30))) : X "java/lang/IllegalArgumentException" (zpush S 14 0) im := h1 (by unfold oItem; rw [if_neg hb])
  refine v_X7_addItem G hS cp cq cr ?_
  refine k_range G cp (zc_of (by omega) (by omega)) (zc_of (by omega) (by omega)) (fun a1 a2 => ?_) (fun hn => bad (by omega))
  refine k_range G cq (zc_of (by omega) (by omega)) (zc_of (by omega) (by omega)) (fun b1 b2 => ?_) (fun hn => bad (by omega))
  refine k_range G cr (zc_of (by omega) (by omega)) (zc_of (by omega) (by omega)) (fun d1 d2 => ?_) (fun hn => bad (by omega))
  rw [hM.it]
  refine ⟨fun hn => ?_, fun hn => h2 (by unfold oItem; rw [if_pos ⟨⟨a1, a2⟩, ⟨b1, b2⟩, d1, d2⟩, if_pos (by omega)])⟩
  have e : oItem A p q r = (0, A.1 2, aItem A p q r) := by unfold oItem; rw [if_pos ⟨⟨a1, a2⟩, ⟨b1, b2⟩, d1, d2⟩, if_neg (by omega)]
  rw [e] at h0
  refine v_X4_newItem G (zN_S hS.2.2.2.2.2.1) cp cq cr ?_
  rw [hM.it]
  have b : 0 ≤ A.1 2 ∧ A.1 2 < 4 := by omega
  refine ⟨fun _ => ⟨b, fun i1 e1 => ?_⟩, fun h => absurd h (by omega)⟩
  have c1 : i1 (an + 3) 0 = A.1 2 := by rw [e1, zst_n (by omega)]; exact hM.it
  rw [c1]
  refine ⟨b, fun i2 e2 => ?_⟩
  have c2 : i2 (an + 3) 0 = A.1 2 := by rw [e2, zst_n (by omega)]; exact c1
  rw [c2]
  refine ⟨b, fun i3 e3 i4 e4 => ?_⟩
  have c3 : i3 (an + 3) 0 = A.1 2 := by rw [e3, zst_n (by omega)]; exact c2
  rw [c3, zw_of (by omega) (by omega)] at e4
  have c4 : i4 (an + 3) 0 = A.1 2 + 1 := by rw [e4, zst_at, if_pos ⟨rfl, rfl⟩]
  rw [c4, zw_of (by omega) (by omega), Int.add_sub_cancel]
  exact h0 rfl i4 ⟨y, hM.mkItem hG hn (by rw [e4, e3, e2, e1])⟩
theorem k_addBase (G : zOK g) (hS : zDep S a an as av at_) (hM : nS an y im im A) (hG : gB A.1) {p : Int} (cp : zc p) {Q : Int → zIm → Prop} {X : String → zSh → zIm → Prop} (h0 : (oBase A p).1 = 0 → ∀ im', nP an im im' (oBase A p).2.2 → Q (oBase A p).2.1 im') (h1 : (oBase A p).1 = 1 → X "java/lang/IllegalArgumentException" (zpush S 14 0) im) (h2 : (oBase A p).1 = 2 → X "java/lang/IllegalStateException" (zpush S 14 0) im) : zCIx g yX7_addBase M_X7_addBase [.ref a, .int (zi p)] S im Q X := by
  have g3 := hG.2.2.2.1
  refine v_X7_addBase G hS cp ?_
  refine k_range G cp (zc_of (by omega) (by omega)) (zc_of (by omega) (by omega)) (fun a1 a2 => ?_) (fun hn => h1 (by unfold oBase; rw [if_neg hn]))
  rw [hM.st]
  refine ⟨fun hn => ?_, fun hn => h2 (by unfold oBase; rw [if_pos ⟨a1, a2⟩, if_pos (by omega)])⟩
  have e : oBase A p = (0, A.1 3, aBase A p) := by unfold oBase; rw [if_pos ⟨a1, a2⟩, if_neg (by omega)]
  rw [e] at h0
  refine v_X4_newBase G (zN_S hS.2.2.2.2.2.1) cp ?_
  rw [hM.st]
  have b : 0 ≤ A.1 3 ∧ A.1 3 < 8 := by omega
  refine ⟨fun _ => ⟨b, fun i1 e1 i2 e2 => ?_⟩, fun h => absurd h (by omega)⟩
  have c1 : i1 (an + 3) 1 = A.1 3 := by rw [e1, zst_n (by omega)]; exact hM.st
  rw [c1, zw_of (by omega) (by omega)] at e2
  have c2 : i2 (an + 3) 1 = A.1 3 + 1 := by rw [e2, zst_at, if_pos ⟨rfl, rfl⟩]
  rw [c2, zw_of (by omega) (by omega), Int.add_sub_cancel]
  exact h0 rfl i2 ⟨y, hM.mkBase hG hn (by rw [e2, e1])⟩
theorem k_setLink (G : zOK g) (hS : zDep S a an as av at_) (hM : nS an y im im A) (hG : gB A.1) {p q r : Int} (cp : zc p) (cq : zc q) (cr : zc r) {Q : Int → zIm → Prop} {X : String → zSh → zIm → Prop} (h0 : (oLink A p q r).1 = 0 → ∀ im', nP an im im' (oLink A p q r).2.2 → Q (oLink A p q r).2.1 im') (h1 : (oLink A p q r).1 = 1 → X "java/lang/IndexOutOfBoundsException" (zpush S 14 0) im) (h2 : (oLink A p q r).1 = 2 → X "java/lang/IllegalArgumentException" (zpush S 14 0) im) : zCIx g yX7_setLink M_X7_setLink [.ref a, .int (zi p), .int (zi q), .int (zi r)] S im Q X := by
  have g3 := hG.2.2.2.1
  have bad (hb : ¬ ((1 ≤ p ∧ p < A.1 3) ∧ (1 ≤ q ∧ q < A.1 3))) : X "java/lang/IndexOutOfBoundsException" (zpush S 14 0) im := h1 (by unfold oLink; rw [if_neg hb])
  refine v_X7_setLink G hS cp cq cr ?_
  refine k_base G hS hM cp (fun a1 a2 => ?_) (fun hn => bad (by omega))
  refine k_base G hS hM cq (fun b1 b2 => ?_) (fun hn => bad (by omega))
  have bad2 (hb : ¬ (p ≠ q ∧ 0 ≤ r ∧ r ≤ 20)) : X "java/lang/IllegalArgumentException" (zpush S 14 0) im := h2 (by unfold oLink; rw [if_pos ⟨⟨a1, a2⟩, b1, b2⟩, if_neg hb])
  refine ⟨fun hne => ?_, fun heq => bad2 (fun hh => hh.1 heq)⟩
  refine k_range G cr zc_0 (zc_of (by omega) (by omega)) (fun d1 d2 => ?_) (fun hn => bad2 (by omega))
  have e : oLink A p q r = (0, A.1 (28 + 8 * p + q), aJoin A p q r) := by unfold oLink; rw [if_pos ⟨⟨a1, a2⟩, b1, b2⟩, if_pos ⟨hne, d1, d2⟩]
  rw [e] at h0
  refine c_linkTime G hS.2.2.2.2.2.1 hM (by omega) (by omega) (by omega) (by omega) ?_
  refine v_X4_join G (zN_S hS.2.2.2.2.2.1) cp cq cr ?_
  rw [zw_of (n := p * 8 + q) (by omega) (by omega), zw_of (n := q * 8 + p) (by omega) (by omega), Int.mul_comm p 8, Int.mul_comm q 8, show an + 3 + 5 = an + 8 from rfl]
  refine ⟨⟨by omega, by omega⟩, fun i1 e1 => ⟨⟨by omega, by omega⟩, fun i2 e2 => ?_⟩⟩
  have n1 := hM.mkLink hG (by omega) (by omega) (by omega) (by omega) e1
  refine h0 rfl i2 ⟨y, n1.mkLink ?_ (by omega) (by omega) (by omega) (by omega) e2⟩
  refine ⟨?_, ?_, ?_, ?_, ?_, ?_, ?_, ?_, ?_⟩
  · rw [aG_n (by omega)]; exact hG.1
  · rw [aG_n (by omega)]; exact hG.2.1
  · rw [aG_n (by omega)]; exact hG.2.2.1
  · rw [aG_n (by omega)]; exact hG.2.2.2.1
  · have g2 := hG.2.2.1
    intro i i0 i1
    rw [aG_n (by omega)] at i1
    rw [aG_n (by omega), aG_n (by omega), aG_n (by omega)]; exact hG.2.2.2.2.1 i i0 i1
  · intro s s0 s1
    rw [aG_n (by omega)] at s1
    rw [aG_n (by omega)]; exact hG.2.2.2.2.2.1 s s0 s1
  · intro b o b0 b1 o0 o1
    have l := hG.2.2.2.2.2.2.1 b o b0 b1 o0 o1
    by_cases ej : 28 + 8 * b + o = 28 + 8 * p + q
    · rw [ej, aG_s]; exact ⟨d1, d2, fun hh => by omega⟩
    · rw [aG_n ej]; exact l
  · intro k k0 k1
    rw [aG_n (by omega)]; exact hG.2.2.2.2.2.2.2.1 k k0 k1
  · intro k k0 k1
    by_cases ej : k = 28 + 8 * p + q
    · rw [ej, aG_s]; exact cr
    · rw [aG_n ej]; exact hG.2.2.2.2.2.2.2.2 k k0 k1
end CL
