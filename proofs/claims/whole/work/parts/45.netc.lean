section ND
variable {g : zG} {S : zSh} {n : Nat} {x : Int} {im0 im : zIm} {A : aA}
theorem n_canHelp (G : zOK g) (hS : zS_N S n) (hM : nS n x im0 im A) {b i o : Int} {Q : Int → zIm → Prop} (b0 : 0 ≤ b) (b1 : b < 8) (i0 : 0 ≤ i) (i1 : i < 4) (o0 : 0 ≤ o) (o1 : o < 8) (ht : 1 ≤ A.1 (28 + 8 * b + o) → A.1 (28 + 8 * b + o) ≤ A.1 1 → A.1 (156 + 4 * o + i) < A.1 (124 + 4 * o + i) → Q 1 im) (hf : ¬ (1 ≤ A.1 (28 + 8 * b + o) ∧ A.1 (28 + 8 * b + o) ≤ A.1 1 ∧ A.1 (156 + 4 * o + i) < A.1 (124 + 4 * o + i)) → Q 0 im) : zCI g yX2_canHelp M_X2_canHelp [.ref n, .int (zi o), .int (zi b), .int (zi i)] S im Q := by
  refine v_X2_canHelp G hS (zc_of (by omega) (by omega)) (zc_of (by omega) (by omega)) (zc_of (by omega) (by omega)) ?_
  refine c_linkTime G hS hM b0 b1 o0 o1 ?_
  refine c_cell G o0 o1 i0 i1 ?_
  rw [hM.lm, hM.t (c := 2) (t := 124) (by unfold tP; omega) o0 o1 i0 i1, hM.t (c := 9) (t := 156) (by unfold tP; omega) o0 o1 i0 i1]
  exact ⟨fun h => hf (by omega), fun h => ⟨fun h2 => hf (by omega), fun h2 => ⟨⟨by omega, by omega⟩, ⟨by omega, by omega⟩, fun h3 => hf (by omega), fun h3 => ht (by omega) h2 h3⟩⟩⟩
theorem n_better (G : zOK g) (hS : zS_N S n) (hM : nS n x im0 im A) {b i o h : Int} {Q : Int → zIm → Prop} (b0 : 0 ≤ b) (b1 : b < 8) (i0 : 0 ≤ i) (i1 : i < 4) (o0 : 0 ≤ o) (o1 : o < 8) (h0 : 0 ≤ h) (h1 : h < 8) (ht : (A.1 (28 + 8 * b + o) < A.1 (28 + 8 * b + h) ∨ (A.1 (28 + 8 * b + o) = A.1 (28 + 8 * b + h) ∧ A.1 (124 + 4 * h + i) < A.1 (124 + 4 * o + i))) → Q 1 im) (hf : ¬ (A.1 (28 + 8 * b + o) < A.1 (28 + 8 * b + h) ∨ (A.1 (28 + 8 * b + o) = A.1 (28 + 8 * b + h) ∧ A.1 (124 + 4 * h + i) < A.1 (124 + 4 * o + i))) → Q 0 im) : zCI g yX2_helpsBetter M_X2_helpsBetter [.ref n, .int (zi o), .int (zi h), .int (zi b), .int (zi i)] S im Q := by
  refine v_X2_helpsBetter G hS (zc_of (by omega) (by omega)) (zc_of (by omega) (by omega)) (zc_of (by omega) (by omega)) (zc_of (by omega) (by omega)) ?_
  refine c_linkTime G hS hM b0 b1 o0 o1 ?_
  refine c_linkTime G hS hM b0 b1 h0 h1 ⟨fun e => ?_, fun e => ⟨fun h => hf (by omega), fun h => ht (by omega)⟩⟩
  refine c_cell G o0 o1 i0 i1 ⟨⟨by omega, by omega⟩, ?_⟩
  refine c_cell G h0 h1 i0 i1 ⟨⟨by omega, by omega⟩, ?_⟩
  rw [hM.t (c := 2) (t := 124) (by unfold tP; omega) o0 o1 i0 i1, hM.t (c := 2) (t := 124) (by unfold tP; omega) h0 h1 i0 i1]
  exact ⟨fun h => hf (by omega), fun h => ht (by omega)⟩
theorem n_help_loop (G : zOK g) (hS : zS_N S n) (hM : nS n x im0 im A) (hG : gB A.1) {b i : Int} {Q : Int → zIm → Prop} (b0 : 0 ≤ b) (b1 : b < 8) (i0 : 0 ≤ i) (i1 : i < 4) (hQ : Q (aH A b i) im) :
    ∀ (f k : Nat), (k : Int) + f = A.1 3 → 1 ≤ k → zPI g M_X2_findHelper 5 [(0, .ref n), (1, .int (zi b)), (2, .int (zi i)), (3, .int (zi (hlp A.1 b i k))), (4, .int (zi k))] S im Q := by
  have h3 := hG.2.2.2.1
  have e3 := hM.st
  intro f
  induction f with
  | zero =>
    intro k hk k1
    have hb := hlp_bd A.1 b i k
    refine v_X2_findHelper_5 G hS (zc_of (by omega) (by omega)) (zc_of (by omega) (by omega)) (zc_of (by omega) (by omega)) (zc_of (by omega) (by omega)) ⟨fun _ => ?_, fun h => absurd h (by omega)⟩
    have hk' : k = (A.1 3).toNat := by omega
    rw [hk']
    exact hQ
  | succ f ih =>
    intro k hk k1
    have hb := hlp_bd A.1 b i k
    have st := ih (k + 1) (by omega) (by omega)
    have sn (hn : ¬ hlpB A.1 b i (hlp A.1 b i k) k) := hlp_n hn ▸ st
    have sy (hn : hlpB A.1 b i (hlp A.1 b i k) k) := hlp_y hn ▸ st
    have l1 := hG.2.2.2.2.2.2.1 b k b0 b1 (by omega) (by omega)
    refine v_X2_findHelper_5 G hS (zc_of (by omega) (by omega)) (zc_of (by omega) (by omega)) (zc_of (by omega) (by omega)) (zc_of (by omega) (by omega)) ⟨fun h => absurd h (by omega), fun _ => ?_⟩
    rw [zwS (k := k) (by omega)]
    refine n_canHelp G hS hM b0 b1 i0 i1 (by omega) (by omega) (fun c1 c2 c3 => ⟨fun h => absurd h (by decide), fun _ => ?_⟩) (fun c => ⟨fun _ => sn (fun hh => c ⟨hh.1.2.2.1, hh.1.2.2.2.1, hh.1.2.2.2.2⟩), fun h => absurd rfl h⟩)
    have ne : (k : Int) ≠ b := fun e => by have := l1.2.2 e.symm; omega
    refine ⟨fun h4 => sy ⟨⟨by omega, ne, c1, c2, c3⟩, Or.inl h4⟩, fun h4 => ?_⟩
    refine n_better G hS hM b0 b1 i0 i1 (by omega) (by omega) (by omega) (by omega) (fun c => ⟨fun h => absurd h (by decide), fun _ => sy ⟨⟨by omega, ne, c1, c2, c3⟩, Or.inr c⟩⟩) (fun c => ⟨fun _ => sn (fun hh => hh.2.elim h4 c), fun h => absurd rfl h⟩)
theorem n_findHelper (G : zOK g) (hS : zS_N S n) (hM : nS n x im0 im A) (hG : gB A.1) {b i : Int} {Q : Int → zIm → Prop} (b0 : 0 ≤ b) (b1 : b < 8) (i0 : 0 ≤ i) (i1 : i < 4) (hQ : Q (aH A b i) im) : zCI g yX2_findHelper M_X2_findHelper [.ref n, .int (zi b), .int (zi i)] S im Q := by
  have h3 := hG.2.2.2.1
  have e1 : hlp A.1 b i 1 = -1 := hlp_n (n := 0) (fun hh => by have := hh.1; omega)
  have := n_help_loop G hS hM hG b0 b1 i0 i1 hQ ((A.1 3).toNat - 1) 1 (by omega) (by omega)
  rw [e1] at this
  exact v_X2_findHelper G hS (zc_of (by omega) (by omega)) (zc_of (by omega) (by omega)) this
theorem n_sendHelp (G : zOK g) (hS : zS_N S n) (hM : nS n x im0 im A) (hG : gB A.1) (hU : A.2.1.length < 300) {b i : Int} {Q : zIm → Prop} (b0 : 0 ≤ b) (b1 : b < 8) (i0 : 0 ≤ i) (i1 : i < 4) (hh : ¬ aH A b i = -1) (hQ : ∀ im', nS n x im0 im' (aBuy A b i) → Q im') : zCV g yX2_sendHelp M_X2_sendHelp [.ref n, .int (zi (aH A b i)), .int (zi b), .int (zi i)] S im Q := by
  have h3 := hG.2.2.2.1
  have hb := aH_bd A b i
  have hs := aH_sp hh
  unfold aBuy at hQ
  rw [if_neg hh] at hQ
  refine v_X2_sendHelp G hS (zc_of (by omega) (by omega)) (zc_of (by omega) (by omega)) (zc_of (by omega) (by omega)) ?_
  refine c_cell G (by omega) (by omega) i0 i1 ⟨⟨by omega, by omega⟩, fun im1 e1 => ?_⟩
  rw [hM.t (c := 2) (t := 124) (by unfold tP; omega) (by omega) (by omega) i0 i1] at e1
  have h1 := hM.ut hG (c := 2) (t := 124) (by unfold tP; omega) (by omega) (by omega) i0 i1 e1
  have G1 := hG.up (j := 124 + 4 * aH A b i + i) (v := zw (A.1 (124 + 4 * aH A b i + i) - 1)) (by omega) (by omega) (zc_zw _)
  refine c_cell G (by omega) (by omega) i0 i1 ⟨⟨by omega, by omega⟩, fun im2 e2 => ?_⟩
  rw [h1.t (c := 17) (t := 380) (by unfold tP; omega) (by omega) (by omega) i0 i1, aG_n (by omega)] at e2
  have h2 := h1.ut G1 (c := 17) (t := 380) (by unfold tP; omega) (by omega) (by omega) i0 i1 e2
  refine c_linkTime G hS h2 b0 b1 (by omega) (by omega) ?_
  rw [h2.d, aG_n (by omega), aG_n (by omega), aG_n (by omega), aG_n (by omega)]
  exact n_app G hS h2 hU (zc_of (by omega) (by omega)) (zc_of (by omega) (by omega)) (zc_of (by omega) (by omega)) (zc_of (by omega) (by omega)) (zc_zw _) zc_0 (by omega) hQ
theorem n_place (G : zOK g) (hS : zS_N S n) (hM : nS n x im0 im A) (hG : gB A.1) (hU : A.2.1.length < 300) (hO : A.2.2.2.length < 300) {b i p : Int} {Q : zIm → Prop} (hb : kB A b) (hi : kI A i) (cp : zc p) (hQ : ∀ im', nS n x im0 im' (aPlace A b i p) → Q im') : zCV g yX2_order M_X2_order [.ref n, .int (zi b), .int (zi i), .int (zi p)] S im Q := by
  have g2 := hG.2.2.1
  have g3 := hG.2.2.2.1
  have d0 := hG.1
  have hi' := hi
  have hb' := hb
  unfold kI at hi'
  unfold kB at hb'
  refine v_X2_order G hS (zc_of (by omega) (by omega)) (zc_of (by omega) (by omega)) cp ?_
  refine c_cell G (by omega) (by omega) hi'.1 (by omega) ⟨⟨by omega, by omega⟩, ?_⟩
  rw [hM.t (c := 2) (t := 124) (by unfold tP; omega) (by omega) (by omega) hi'.1 (by omega), hM.d]
  unfold aPlace at hQ
  refine ⟨fun h => ?_, fun h => ?_⟩
  · rw [if_pos h] at hQ
    refine c_addQ G (zN_O hS) (zc_of (by omega) (by omega)) (zc_of (by omega) (by omega)) cp (zc_of (by omega) (by omega)) (by rw [ol_len]; exact hO) hM.2.2.2.2.2.1 (fun im1 f1 r1 => hQ im1 (hM.O f1 ?_))
    have e : ol (A.2.2.2 ++ [mkO i b p]) = ol A.2.2.2 ++ [mkC b i p 0] := by unfold ol; simp [mkO, mkC]
    rw [e]
    refine r1.eqv (by simp) (fun j hj => ?_)
    rw [List.length_append, List.length_singleton] at hj
    by_cases e : j = (ol A.2.2.2).length
    · rw [e, rg_app_r, rg_app_r]; exact ⟨rfl, rfl, rfl⟩
    · rw [rg_app_l (by omega), rg_app_l (by omega)]; exact ⟨rfl, rfl, rfl⟩
  · rw [if_neg (by omega)] at hQ
    intro im1 e1
    have h1 := hM.ut hG (c := 2) (t := 124) (by unfold tP; omega) (by omega) (by omega) hi'.1 (by omega) e1
    exact n_sup G hS h1 (hG.up (by omega) (by omega) (zc_zw _)) hU (by unfold kB; rw [aG_n (by omega)]; exact hb) (zc_of (by omega) (by omega)) hQ
theorem n_tret (G : zOK g) (hS : zS_N S n) (hM : nS n x im0 im A) (hG : gB A.1) (hU : A.2.1.length < 299) (hO : A.2.2.2.length < 300) {b i w p : Int} {Q : zIm → Prop} (hb : kB A b) (hi : kI A i) (hw : kB A w) (cp : zc p) (hQ : ∀ im', nS n x im0 im' (aRet A b i w p) → Q im') : ((0 ≤ b ∧ b < 8) ∧ zCV g yX6_add M_X6_add [.ref (n + 18), .int (zi (zw ((im n 0) + (im (n + 7) b)))), .int (zi 0), .int (zi i), .int (zi 0), .int (zi 0), .int (zi 0)] S im (fun im25 => zCV g yX2_order M_X2_order [.ref n, .int (zi w), .int (zi i), .int (zi p)] S im25 Q)) := by
  have g2 := hG.2.2.1
  have g3 := hG.2.2.2.1
  have hi' := hi
  have hb' := hb
  unfold kI at hi'
  unfold kB at hb'
  rw [hM.d, hM.ld hb]
  refine ⟨by omega, n_app G hS hM (by omega) zc_0 (zc_of (by omega) (by omega)) zc_0 zc_0 (zc_zw _) zc_0 (by omega) (fun im1 h1 => ?_)⟩
  exact n_place G hS h1 hG (by rw [ln_app]; omega) hO hw hi cp hQ
theorem n_tloc (G : zOK g) (hS : zS_N S n) (hM : nS n x im0 im A) (hG : gB A.1) (hU : A.2.1.length < 300) {b i w : Int} {Q : zIm → Prop} (hb : kB A b) (hi : kI A i) (hw : kB A w) (hQ : ∀ im', nS n x im0 im' (aRep A b i w) → Q im') : ((0 ≤ i ∧ i < 4) ∧ zCI g yX4_linkTime M_X4_linkTime [.ref (n + 3), .int (zi b), .int (zi w)] S im (fun r25 im26 => zCV g yX6_add M_X6_add [.ref (n + 18), .int (zi (zw ((im n 0) + (im (n + 6) i)))), .int (zi 1), .int (zi i), .int (zi b), .int (zi w), .int (zi r25)] S im26 Q)) := by
  have g2 := hG.2.2.1
  have g3 := hG.2.2.2.1
  have hi' := hi
  have hb' := hb
  have hw' := hw
  unfold kI at hi'
  unfold kB at hb' hw'
  have l1 := hG.2.2.2.2.2.2.1 b w (by omega) (by omega) (by omega) (by omega)
  rw [hM.d, (hM.pl hi).2.2]
  refine ⟨by omega, c_linkTime G hS hM (by omega) (by omega) (by omega) (by omega) ?_⟩
  exact n_app G hS hM hU (zc_of (by omega) (by omega)) (zc_of (by omega) (by omega)) (zc_of (by omega) (by omega)) (zc_of (by omega) (by omega)) (zc_zw _) (zc_of (by omega) (by omega)) (by omega) hQ
theorem n_occ (G : zOK g) (hS : zS_N S n) (hM : nS n x im0 im A) {lo : Int} (hB : aB lo A) (hl : lo ≤ A.1 0 + 1) (hU : A.2.1.length < 290) (hC : A.2.2.1.length < 290) (hO : A.2.2.2.length < 290) {b i p : Int} {Q : Int → zIm → Prop} (hb : kB A b) (hi : kI A i) (p0 : 0 ≤ p) (p1 : p ≤ 9) (hQ : ∀ im', nS n x im0 im' (aOcc A b i p) → Q (if 0 < A.1 (124 + 4 * b + i) then 1 else 0) im') : zCI g yX2_occur M_X2_occur [.ref n, .int (zi b), .int (zi i), .int (zi p)] S im Q := by
  have hG := hB.1
  have g2 := hG.2.2.1
  have g3 := hG.2.2.2.1
  have d0 := hG.1
  have hi' := hi
  have hb' := hb
  unfold kI at hi'
  unfold kB at hb'
  have cp : zc p := zc_of (by omega) (by omega)
  refine v_X2_occur G hS (zc_of (by omega) (by omega)) (zc_of (by omega) (by omega)) cp ?_
  have bb : 0 ≤ 4 * b + i ∧ 4 * b + i < 32 := by omega
  refine c_cell G (by omega) (by omega) hi'.1 (by omega) ⟨bb, fun im1 e1 => ⟨bb, ?_⟩⟩
  rw [hM.t (c := 13) (t := 252) (by unfold tP; omega) (by omega) (by omega) hi'.1 (by omega)] at e1
  have h1 : nS n x im0 im1 (aDem A b i) := hM.ut hG (c := 13) (t := 252) (by unfold tP; omega) (by omega) (by omega) hi'.1 (by omega) e1
  have k1 : oK lo A (aDem A b i) := oK.g hB (by omega) (by omega) (by omega) (zc_zw _)
  have q1 : im1 (n + 13) (4 * b + i) = zw (A.1 (252 + 4 * b + i) + 1) := by rw [h1.t (c := 13) (t := 252) (by unfold tP; omega) (by omega) (by omega) hi'.1 (by omega)]; exact aG_s
  have q2 : im1 (n + 10) (4 * b + i) = A.1 (188 + 4 * b + i) := by rw [h1.t (c := 10) (t := 188) (by unfold tP; omega) (by omega) (by omega) hi'.1 (by omega)]; exact aG_n (by omega)
  have q3 : im1 (n + 2) (4 * b + i) = A.1 (124 + 4 * b + i) := by rw [h1.t (c := 2) (t := 124) (by unfold tP; omega) (by omega) (by omega) hi'.1 (by omega)]; exact aG_n (by omega)
  rw [q1, q2]
  have kBt (B : aA) (hB : oK lo A B) (c : Int) (hc : kB A c) : kB B c := by unfold kB; rw [hB.2 3 (by omega)]; exact hc
  have kIt (B : aA) (hB : oK lo A B) : kI B i := by unfold kI; rw [hB.2 2 (by omega)]; exact hi
  have k2 := k1.trans (oK_cust k1.1 (kBt _ k1 b hb) (kIt _ k1) p0 p1)
  have k3 := k2.trans (oK_buy k2.1 (by rw [k2.2 0 (by omega)]; exact hl) (kBt _ k2 b hb) (kIt _ k2))
  have hlb := ln_buy (aCust (aDem A b i) b i p) b i
  have hl1 : (aCust (aDem A b i) b i p).2.1.length = A.2.1.length := rfl
  have hl3 : (aBuy (aCust (aDem A b i) b i p) b i).2.2.2.length = A.2.2.2.length := by rw [hlb.2]; rfl
  have k4 : oK lo A (aHit (aDem A b i) b i) := by
    have k3 := k1.trans (oK.g k1.1 (j := 124 + 4 * b + i) (v := zw ((aDem A b i).1 (124 + 4 * b + i) - 1)) (by omega) (by omega) (by omega) (zc_zw _))
    exact k3.trans (oK.g k3.1 (by omega) (by omega) (by omega) (zc_zw _))
  have hw : kB A (aBr (aCust (aDem A b i) b i p) b i) := by
    unfold aBr
    split
    · exact hb
    · rename_i hn
      have hs := aH_sp hn
      have hd := aH_bd (aCust (aDem A b i) b i p) b i
      rw [k2.2 3 (by omega)] at hd
      exact ⟨hs.1, by omega⟩
  -- whether it is repaired here
  have fin (r : Int) (hr : (r = 0 ∧ ¬ aLoc (zw (A.1 (252 + 4 * b + i) + 1)) (A.1 (188 + 4 * b + i))) ∨ (r = 1 ∧ aLoc (zw (A.1 (252 + 4 * b + i) + 1)) (A.1 (188 + 4 * b + i)))) (B : aA) (w : Int) (im2 : zIm) (h2 : nS n x im0 im2 B) (kB2 : oK lo A B) (hw2 : kB A w) (lU : B.2.1.length < 299) (lO : B.2.2.2.length < 300) (Q' : zIm → Prop) (hq : ∀ im', nS n x im0 im' (aEnd B (zw (A.1 (252 + 4 * b + i) + 1)) (A.1 (188 + 4 * b + i)) b i w p) → Q' im') :
      (r = 0 → ((0 ≤ b ∧ b < 8) ∧ zCV g yX6_add M_X6_add [.ref (n + 18), .int (zi (zw ((im2 n 0) + (im2 (n + 7) b)))), .int (zi 0), .int (zi i), .int (zi 0), .int (zi 0), .int (zi 0)] S im2 (fun im25 => zCV g yX2_order M_X2_order [.ref n, .int (zi w), .int (zi i), .int (zi p)] S im25 (fun im27 => Q' im27)))) ∧ (¬ r = 0 → ((0 ≤ i ∧ i < 4) ∧ zCI g yX4_linkTime M_X4_linkTime [.ref (n + 3), .int (zi b), .int (zi w)] S im2 (fun r25 im26 => zCV g yX6_add M_X6_add [.ref (n + 18), .int (zi (zw ((im2 n 0) + (im2 (n + 6) i)))), .int (zi 1), .int (zi i), .int (zi b), .int (zi w), .int (zi r25)] S im26 (fun im28 => Q' im28)))) := by
    refine ⟨fun e => ?_, fun e => ?_⟩
    · rcases hr with ⟨_, hn⟩ | ⟨e', _⟩
      · rw [aEnd_n hn] at hq
        exact n_tret G hS h2 kB2.1.1 lU lO (kBt _ kB2 b hb) (kIt _ kB2) (kBt _ kB2 w hw2) cp hq
      · omega
    · rcases hr with ⟨e', _⟩ | ⟨_, hn⟩
      · omega
      · rw [aEnd_y hn] at hq
        exact n_tloc G hS h2 kB2.1.1 (by omega) (kBt _ kB2 b hb) (kIt _ kB2) (kBt _ kB2 w hw2) hq
  have cz : zc (zw (A.1 (252 + 4 * b + i) + 1)) := zc_zw _
  have cs : zc (A.1 (188 + 4 * b + i)) := hG.2.2.2.2.2.2.2.2 _ (by omega) (by omega)
  refine v_X2_isRepairedLocally G cz cs ⟨fun hloc => ?_, fun hloc => ?_⟩
  all_goals
    refine ⟨bb, ?_⟩
    rw [q3]
    refine ⟨fun hm => ?_, fun hm im2 e2 => ⟨bb, fun im3 e3 => ?_⟩⟩
  case refine_1.refine_1 =>
    rw [h1.d]
    rw [if_neg (by omega)] at hQ
    unfold aOcc at hQ
    rw [if_neg (by omega)] at hQ
    refine c_addQ G (zN_C hS) (R := A.2.2.1) (zc_of (by omega) (by omega)) (zc_of (by omega) (by omega)) cp (by show zc ((aDem A b i).1 0); rw [k1.2 0 (by omega)]; exact zc_of (by omega) (by omega)) (by omega) h1.2.2.2.2.2.2 (fun im2 f2 r2 => ?_)
    have h2 : nS n x im0 im2 (aCust (aDem A b i) b i p) := h1.C f2 r2
    refine n_findHelper G hS h2 k2.1.1 (by omega) (by omega) hi'.1 (by omega) ⟨fun hn => ?_, fun hn => ?_⟩
    · have e5 : aBuy (aCust (aDem A b i) b i p) b i = aCust (aDem A b i) b i p := by unfold aBuy; rw [if_pos hn]
      have e6 : aBr (aCust (aDem A b i) b i p) b i = b := by unfold aBr; rw [if_pos hn]
      rw [e5, e6] at hQ
      exact fin 0 (Or.inl ⟨rfl, by unfold aLoc; omega⟩) _ b im2 h2 k2 hb (by omega) (by show A.2.2.2.length < 300; omega) (fun im' => Q 0 im') hQ
    · have e6 : aBr (aCust (aDem A b i) b i p) b i = aH (aCust (aDem A b i) b i p) b i := by unfold aBr; rw [if_neg hn]
      rw [e6] at hQ hw
      refine n_sendHelp G hS h2 k2.1.1 (by show A.2.1.length < 300; omega) (by omega) (by omega) hi'.1 (by omega) hn (fun im3 h3 => ?_)
      exact fin 0 (Or.inl ⟨rfl, by unfold aLoc; omega⟩) _ _ im3 h3 k3 hw (by omega) (by omega) (fun im' => Q 0 im') hQ
  case refine_1.refine_2 =>
    rw [if_pos hm] at hQ
    unfold aOcc at hQ
    rw [if_pos hm] at hQ
    have e2' : im2 = zst im1 (n + 2) (4 * b + i) (zw ((aDem A b i).1 (124 + 4 * b + i) - 1)) := by rw [show (aDem A b i).1 (124 + 4 * b + i) = A.1 (124 + 4 * b + i) from aG_n (by omega)]; exact e2
    have h2 := h1.ut k1.1.1 (c := 2) (t := 124) (by unfold tP; omega) (by omega) (by omega) hi'.1 (by omega) e2'
    rw [h2.t (c := 14) (t := 284) (by unfold tP; omega) (by omega) (by omega) hi'.1 (by omega), aG_n (by omega)] at e3
    have h3 : nS n x im0 im3 (aHit (aDem A b i) b i) := h2.ut (k1.1.1.up (by omega) (by omega) (zc_zw _)) (c := 14) (t := 284) (by unfold tP; omega) (by omega) (by omega) hi'.1 (by omega) e3
    exact fin 0 (Or.inl ⟨rfl, by unfold aLoc; omega⟩) _ b im3 h3 k4 hb (by show A.2.1.length < 299; omega) (by show A.2.2.2.length < 300; omega) (fun im' => Q 1 im') hQ
  case refine_2.refine_1 =>
    rw [h1.d]
    rw [if_neg (by omega)] at hQ
    unfold aOcc at hQ
    rw [if_neg (by omega)] at hQ
    refine c_addQ G (zN_C hS) (R := A.2.2.1) (zc_of (by omega) (by omega)) (zc_of (by omega) (by omega)) cp (by show zc ((aDem A b i).1 0); rw [k1.2 0 (by omega)]; exact zc_of (by omega) (by omega)) (by omega) h1.2.2.2.2.2.2 (fun im2 f2 r2 => ?_)
    have h2 : nS n x im0 im2 (aCust (aDem A b i) b i p) := h1.C f2 r2
    refine n_findHelper G hS h2 k2.1.1 (by omega) (by omega) hi'.1 (by omega) ⟨fun hn => ?_, fun hn => ?_⟩
    · have e5 : aBuy (aCust (aDem A b i) b i p) b i = aCust (aDem A b i) b i p := by unfold aBuy; rw [if_pos hn]
      have e6 : aBr (aCust (aDem A b i) b i p) b i = b := by unfold aBr; rw [if_pos hn]
      rw [e5, e6] at hQ
      exact fin 1 (Or.inr ⟨rfl, hloc⟩) _ b im2 h2 k2 hb (by omega) (by show A.2.2.2.length < 300; omega) (fun im' => Q 0 im') hQ
    · have e6 : aBr (aCust (aDem A b i) b i p) b i = aH (aCust (aDem A b i) b i p) b i := by unfold aBr; rw [if_neg hn]
      rw [e6] at hQ hw
      refine n_sendHelp G hS h2 k2.1.1 (by show A.2.1.length < 300; omega) (by omega) (by omega) hi'.1 (by omega) hn (fun im3 h3 => ?_)
      exact fin 1 (Or.inr ⟨rfl, hloc⟩) _ _ im3 h3 k3 hw (by omega) (by omega) (fun im' => Q 0 im') hQ
  case refine_2.refine_2 =>
    rw [if_pos hm] at hQ
    unfold aOcc at hQ
    rw [if_pos hm] at hQ
    have e2' : im2 = zst im1 (n + 2) (4 * b + i) (zw ((aDem A b i).1 (124 + 4 * b + i) - 1)) := by rw [show (aDem A b i).1 (124 + 4 * b + i) = A.1 (124 + 4 * b + i) from aG_n (by omega)]; exact e2
    have h2 := h1.ut k1.1.1 (c := 2) (t := 124) (by unfold tP; omega) (by omega) (by omega) hi'.1 (by omega) e2'
    rw [h2.t (c := 14) (t := 284) (by unfold tP; omega) (by omega) (by omega) hi'.1 (by omega), aG_n (by omega)] at e3
    have h3 : nS n x im0 im3 (aHit (aDem A b i) b i) := h2.ut (k1.1.1.up (by omega) (by omega) (zc_zw _)) (c := 14) (t := 284) (by unfold tP; omega) (by omega) (by omega) hi'.1 (by omega) e3
    exact fin 1 (Or.inr ⟨rfl, hloc⟩) _ b im3 h3 k4 hb (by show A.2.1.length < 299; omega) (by show A.2.2.2.length < 300; omega) (fun im' => Q 1 im') hQ
end ND
