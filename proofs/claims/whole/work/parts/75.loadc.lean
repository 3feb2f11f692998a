/-! the class's statements -/
section PD2
variable {g : zG} {S : zSh} {im im0 : zIm} {t n : Nat} {x : aX} {q : Nat} {A : aA}
theorem k_readSt (G : zOK g) (hS : zS_T S t) (hN : zS_N S n) (hx : xB x) (hd : t + 3 ≤ n ∨ n + 41 ≤ t) (hB : tB t x im0) (hM : cX t n im0 x im q A) (hG : gB A.1) {s : aQ} (hs : s = (q, A, 0, -1)) {Q : Int → zIm → Prop}
    (hE : (psS x s).2.2.1 ≠ 0 → ∀ im', eC t n im0 im' (psS x s).2.2.1 (psS x s).2.2.2 → Q (-1) im')
    (hO : (psS x s).2.2.1 = 0 → ∀ im', cX t n im0 x im' (psS x s).1 A → im' (t + 2) 0 = tV x (s1S x (wk x q) s).1 → (¬ (wk x q = 1 ∨ wk x q = 7) → im' (t + 2) 1 = tV x (s2S x (wk x q) s).1 ∧ im' (t + 2) 2 = tV x (s3S x (wk x q) s).1) → Q (wk x q) im') : zCI g yX5_readStatement M_X5_readStatement [.ref t, .ref (n + 3)] S im Q := by
  have g2 := hG.2.2.1
  have g3 := hG.2.2.2.1
  have r := wk_rg (x := x) (q := q)
  have eit := hM.ns.it
  have est := hM.ns.st
  refine v_X5_readStatement G hS (zN_S hN) (k_find G hS hx (hM.tb hd hB) hM.2.2.2.2.2 hM.2.2.2.2.1 ?_)
  obtain ⟨w, ew⟩ : ∃ w, w = wk x q := ⟨_, rfl⟩
  rw [← ew] at r hO ⊢
  have e1 : s.1 = q := by rw [hs]
  have hp (hn : w ≠ -1) : psS x s = stS x w s := by unfold psS; rw [e1, ← ew, if_neg hn]
  have fl (c : Int) (cc : zc c) (c0 : c ≠ 0) (he : psS x s = (q, A, c, (tS x q : Int))) : zCI g yX5_fail M_X5_fail [.ref t, .int (zi c)] S im (fun r im' => Q r im') := by
    rw [he] at hE
    exact k_fail G hS hM cc (hE c0)
  have f3 (hn : w ≠ -1) (hc : ¬ capS w A) : zCI g yX5_fail M_X5_fail [.ref t, .int (zi 3)] S im (fun r im' => Q r im') := by
    have v1 : s1S x w s = (q, A, 3, (tS x q : Int)) := by
      unfold s1S
      rw [hs, rqS_n rfl hc]
      rfl
    exact fl 3 (zc_of (by omega) (by omega)) (by decide) (by rw [hp hn, stS_1 (by rw [v1]; exact (show (3 : Int) ≠ 0 by decide)), v1])
  have nx (hn : w ≠ -1) (hc : capS w A) : zCV g yX5_nextToken M_X5_nextToken [.ref t] S im (fun im4 => ((w = 1 → zPI g M_X5_readStatement 72 [(0, .ref t), (1, .ref (n + 3)), (2, .int (zi w)), (3, .int (zi 1)), (4, .int (zi 0))] S im4 Q) ∧ (¬ w = 1 → ((¬ w = 7 → zPI g M_X5_readStatement 72 [(0, .ref t), (1, .ref (n + 3)), (2, .int (zi w)), (3, .int (zi 3)), (4, .int (zi 0))] S im4 Q) ∧ (w = 7 → zPI g M_X5_readStatement 72 [(0, .ref t), (1, .ref (n + 3)), (2, .int (zi w)), (3, .int (zi 1)), (4, .int (zi 0))] S im4 Q))))) := by
    refine k_nxt G hS hx hd hB hM (fun im4 h4 e4 => ?_)
    rw [hp hn] at hE hO
    have v1 : s1S x w s = (tE x q, A, 0, -1) := by unfold s1S; rw [hs, rqS_y hc]; rfl
    have e2 : s2S x w s = argS x (rgS w 0 A 0) (tE x q, A, 0, -1) := by unfold s2S; rw [v1, hs]
    have bad1 (hk : tK x (tE x q) ≠ 2) (im' : zIm) (h' : eC t n im0 im' 1 (tS x (tE x q))) : Q (-1) im' := by
      have k2 : s2S x w s = (tE x q, A, 1, (tS x (tE x q) : Int)) := e2.trans (argS_1 hk)
      rw [stS_2 (by rw [k2]; exact (show (1 : Int) ≠ 0 by decide)), k2] at hE
      exact hE (show (1 : Int) ≠ 0 by decide) im' h'
    have bad2 (hk : tK x (tE x q) = 2) (hr : ¬ rgS w 0 A 0 (tV x (tE x q))) (im' : zIm) (h' : eC t n im0 im' 2 (tS x (tE x q))) : Q (-1) im' := by
      have k2 : s2S x w s = (tE x q, A, 2, (tS x (tE x q) : Int)) := e2.trans (argS_2 hk hr)
      rw [stS_2 (by rw [k2]; exact (show (2 : Int) ≠ 0 by decide)), k2] at hE
      exact hE (show (2 : Int) ≠ 0 by decide) im' h'
    have one (ho : w = 1 ∨ w = 7) : zPI g M_X5_readStatement 72 [(0, .ref t), (1, .ref (n + 3)), (2, .int (zi w)), (3, .int (zi 1)), (4, .int (zi 0))] S im4 Q := by
      refine k_arg G hS hN hx hd hB h4 hG (k := 0) (v0 := 0) (by omega) r.2.1 (by omega) (by omega) (by omega) (fun _ h => absurd h (by decide)) bad1 bad2 (fun hk hr im5 h5 a5 _ => ?_)
      have k2 : s2S x w s = (tE x (tE x q), A, 0, -1) := e2.trans (argS_0 hk hr)
      have kb : bdS x w s = (tE x (tE x q), apS w A (tV x (tE x q)) 0 0, 0, -1) := by unfold bdS; rw [if_pos ho, k2, v1, hs]; rfl
      refine k_semi G hS hN hx hd hB h5 (k := 0 + 1) (by omega) r.2.1 (by omega) (by omega) (by omega) (fun ht im' h' => ?_) (fun ht im' h' e' => ?_)
      · have kf : stS x w s = (tE x (tE x q), apS w A (tV x (tE x q)) 0 0, 1, (tS x (tE x (tE x q)) : Int)) := by unfold stS; rw [kb]; exact finS_1 ht
        rw [kf] at hE
        exact hE (show (1 : Int) ≠ 0 by decide) im' h'
      · have kf : stS x w s = (tE x (tE x (tE x q)), apS w A (tV x (tE x q)) 0 0, 0, -1) := by unfold stS; rw [kb]; exact finS_0 ht
        rw [kf] at hO
        exact hO rfl im' h' (by rw [e', v1]; exact a5) (fun hn => absurd ho hn)
    have three (ho : ¬ (w = 1 ∨ w = 7)) : zPI g M_X5_readStatement 72 [(0, .ref t), (1, .ref (n + 3)), (2, .int (zi w)), (3, .int (zi 3)), (4, .int (zi 0))] S im4 Q := by
      refine k_arg G hS hN hx hd hB h4 hG (k := 0) (v0 := 0) (by omega) r.2.1 (by omega) (by omega) (by omega) (fun _ h => absurd h (by decide)) bad1 bad2 (fun hk hr im5 h5 a5 _ => ?_)
      have k2 : s2S x w s = (tE x (tE x q), A, 0, -1) := e2.trans (argS_0 hk hr)
      have hle := rgS_le hG hr
      have e3 : s3S x w s = argS x (rgS w 1 A (tV x (tE x q))) (tE x (tE x q), A, 0, -1) := by unfold s3S; rw [k2, v1, hs]
      refine k_arg G hS hN hx hd hB h5 hG (k := 0 + 1) (v0 := tV x (tE x q)) (by omega) r.2.1 (by omega) (by omega) (by omega) (fun _ _ => ⟨a5, by omega⟩) (fun hk2 im' h' => ?_) (fun hk2 hr2 im' h' => ?_) (fun hk2 hr2 im6 h6 a6 o6 => ?_)
      · have k3 : s3S x w s = (tE x (tE x q), A, 1, (tS x (tE x (tE x q)) : Int)) := e3.trans (argS_1 hk2)
        rw [stS_3 ho (by rw [k3]; exact (show (1 : Int) ≠ 0 by decide)), k3] at hE
        exact hE (show (1 : Int) ≠ 0 by decide) im' h'
      · have k3 : s3S x w s = (tE x (tE x q), A, 2, (tS x (tE x (tE x q)) : Int)) := e3.trans (argS_2 hk2 hr2)
        rw [stS_3 ho (by rw [k3]; exact (show (2 : Int) ≠ 0 by decide)), k3] at hE
        exact hE (show (2 : Int) ≠ 0 by decide) im' h'
      have k3 : s3S x w s = (tE x (tE x (tE x q)), A, 0, -1) := e3.trans (argS_0 hk2 hr2)
      have e4 : s4S x w s = argS x (rgS w 2 A (tV x (tE x q))) (tE x (tE x (tE x q)), A, 0, -1) := by unfold s4S; rw [k3, v1, hs]
      refine k_arg G hS hN hx hd hB h6 hG (k := 0 + 1 + 1) (v0 := tV x (tE x q)) (by omega) r.2.1 (by omega) (by omega) (by omega) (fun _ h => absurd h (by decide)) (fun hk3 im' h' => ?_) (fun hk3 hr3 im' h' => ?_) (fun hk3 hr3 im7 h7 a7 o7 => ?_)
      · have k4 : s4S x w s = (tE x (tE x (tE x q)), A, 1, (tS x (tE x (tE x (tE x q))) : Int)) := e4.trans (argS_1 hk3)
        rw [stS_4 ho (by rw [k4]; exact (show (1 : Int) ≠ 0 by decide)), k4] at hE
        exact hE (show (1 : Int) ≠ 0 by decide) im' h'
      · have k4 : s4S x w s = (tE x (tE x (tE x q)), A, 2, (tS x (tE x (tE x (tE x q))) : Int)) := e4.trans (argS_2 hk3 hr3)
        rw [stS_4 ho (by rw [k4]; exact (show (2 : Int) ≠ 0 by decide)), k4] at hE
        exact hE (show (2 : Int) ≠ 0 by decide) im' h'
      have k4 : s4S x w s = (tE x (tE x (tE x (tE x q))), A, 0, -1) := e4.trans (argS_0 hk3 hr3)
      have kb : bdS x w s = (tE x (tE x (tE x (tE x q))), apS w A (tV x (tE x q)) (tV x (tE x (tE x q))) (tV x (tE x (tE x (tE x q)))), 0, -1) := by unfold bdS; rw [if_neg ho, k4, k3, k2, v1, hs]; rfl
      refine k_semi G hS hN hx hd hB h7 (k := 0 + 1 + 1 + 1) (by omega) r.2.1 (by omega) (by omega) (by omega) (fun ht im' h' => ?_) (fun ht im' h' e' => ?_)
      · have kf : stS x w s = (tE x (tE x (tE x (tE x q))), apS w A (tV x (tE x q)) (tV x (tE x (tE x q))) (tV x (tE x (tE x (tE x q)))), 1, (tS x (tE x (tE x (tE x (tE x q)))) : Int)) := by unfold stS; rw [kb]; exact finS_1 ht
        rw [kf] at hE
        exact hE (show (1 : Int) ≠ 0 by decide) im' h'
      · have kf : stS x w s = (tE x (tE x (tE x (tE x (tE x q)))), apS w A (tV x (tE x q)) (tV x (tE x (tE x q))) (tV x (tE x (tE x (tE x q)))), 0, -1) := by unfold stS; rw [kb]; exact finS_0 ht
        rw [kf] at hO
        refine hO rfl im' h' ?_ (fun _ => ⟨?_, ?_⟩)
        · rw [e', v1, o7 0 (by decide), o6 0 (by decide)]; exact a5
        · rw [e', k2, o7 1 (by decide)]; exact a6
        · rw [e', k3]; exact a7
    exact ⟨fun h => one (Or.inl h), fun h => ⟨fun h' => three (fun hh => hh.elim h h'), fun h' => one (Or.inr h')⟩⟩
  refine ⟨fun hn => ⟨fun h0 => ⟨fun h1 => nx hn ⟨fun h => absurd h h0, fun h => absurd h h1⟩, fun h1 => ⟨fun h8 => nx hn ⟨fun h => absurd h h0, fun _ => by rw [← est]; exact h8⟩, fun h8 => f3 hn (fun hh => by have := hh.2 h1; omega)⟩⟩, fun h0 => ⟨fun h4 => f3 hn (fun hh => by have := hh.1 h0; omega), fun h4 => ⟨fun h1 => nx hn ⟨fun _ => by rw [← eit]; exact h4, fun h => absurd h h1⟩, fun h1 => absurd h1 (by omega)⟩⟩⟩, fun hn => ?_⟩
  refine fl 1 (zc_of (by omega) (by omega)) (by decide) ?_
  unfold psS
  rw [e1, ← ew, if_pos hn, hs, rqS_n rfl id]
theorem k_apply (G : zOK g) (hS : zS_T S t) (hN : zS_N S n) (hd : t + 3 ≤ n ∨ n + 41 ≤ t) (hM : cX t n im0 x im q A) (hL : lI A) {w v0 v1 v2 : Int} (w0 : 0 ≤ w) (w1 : w ≤ 7) (hc : capS w A) (a0 : im (t + 2) 0 = v0) (h0 : rgS w 0 A 0 v0) (h12 : ¬ (w = 1 ∨ w = 7) → (im (t + 2) 1 = v1 ∧ im (t + 2) 2 = v2) ∧ rgS w 1 A v0 v1 ∧ rgS w 2 A v0 v2) {Q : zIm → Prop} (hQ : ∀ im', cX t n im0 x im' q (apS w A v0 v1 v2) → Q im') : zCV g yX5_apply M_X5_apply [.ref t, .int (zi w), .ref n] S im Q := by
  have hG := hL.1.1.1
  have g2 := hG.2.2.1
  have g3 := hG.2.2.2.1
  have hns := hM.ns
  have b0 := rgS_le hG h0
  have tab (c : Nat) (tt : Int) (hct : tP c tt) (ho : ¬ (w = 1 ∨ w = 7)) (k0 : 1 ≤ v0 ∧ v0 ≤ A.1 3 - 1) (k1 : 0 ≤ v1 ∧ v1 ≤ A.1 2 - 1) (hq : ∀ im', cX t n im0 x im' q (aG A (tt + 4 * v0 + v1) v2) → Q im') : zCI g yX7_cell M_X7_cell [.int (zi (im (t + 2) 0)), .int (zi (im (t + 2) 1))] S im (fun r5 im6 => ((0 ≤ r5 ∧ r5 < 32) ∧ ∀ im8, im8 = zst im6 (n + c) r5 (im (t + 2) 2) → Q im8)) := by
    obtain ⟨⟨a1, a2⟩, _⟩ := h12 ho
    rw [a0, a1, a2]
    exact c_cell G (by omega) (by omega) (by omega) (by omega) ⟨⟨by omega, by omega⟩, fun im8 e8 => hq im8 (hM.up hd (hns.ut hG hct (by omega) (by omega) (by omega) (by omega) e8))⟩
  refine v_X5_apply G hS (zc_of (by omega) (by omega)) hN ⟨fun h => ?_, fun h => ?_, fun h => ?_, fun h => ?_, fun h => ?_, fun h => ?_, fun h => ?_, fun h => ?_⟩
  · subst h
    obtain ⟨⟨a1, a2⟩, k1, k2⟩ := h12 (by decide)
    have b1 := rgS_le hG k1
    have b2 := rgS_le hG k2
    rw [a0, a1, a2]
    exact k_newItem G hN hns hG (hc.1 rfl) (zc_of (by omega) (by omega)) (zc_of (by omega) (by omega)) (zc_of (by omega) (by omega)) (fun _ im' h' => hQ im' (hM.up hd h'))
  · subst h
    rw [a0]
    exact k_newBase G hN hns hG (hc.2 rfl) (zc_of (by omega) (by omega)) (fun _ im' h' => hQ im' (hM.up hd h'))
  · subst h
    obtain ⟨⟨a1, a2⟩, k1, k2⟩ := h12 (by decide)
    have k0 : 0 ≤ v0 ∧ v0 ≤ A.1 3 - 1 := h0
    have k1 : 0 ≤ v1 ∧ v1 ≤ A.1 2 - 1 := k1
    have k2 : 0 ≤ v2 ∧ v2 ≤ 20 := k2
    rw [a0, a1, a2]
    exact n_changeLevel G hN hns hL.1 (by rw [hL.2.1]; omega) ⟨k0.1, by omega⟩ ⟨k1.1, by omega⟩ k2.1 k2.2 (fun im' h' => hQ im' (hM.up hd h'))
  · subst h
    obtain ⟨⟨a1, a2⟩, k1, k2⟩ := h12 (by decide)
    have k0 : 1 ≤ v0 ∧ v0 ≤ A.1 3 - 1 := h0
    have k1 : (1 ≤ v1 ∧ v1 ≤ A.1 3 - 1) ∧ v1 ≠ v0 := k1
    have k2 : 1 ≤ v2 ∧ v2 ≤ 20 := k2
    rw [a0, a1, a2]
    exact k_join G hN hns hL.1 (by omega) (by omega) (by omega) (by omega) (by omega) (by omega) k2.2 (fun im' h' => hQ im' (hM.up hd h'))
  · subst h
    exact tab 10 188 (by unfold tP; omega) (by decide) h0 (h12 (by decide)).2.1 hQ
  · subst h
    exact tab 9 156 (by unfold tP; omega) (by decide) h0 (h12 (by decide)).2.1 hQ
  · subst h
    exact tab 11 220 (by unfold tP; omega) (by decide) h0 (h12 (by decide)).2.1 hQ
  · have h7 : w = 7 := by omega
    subst h7
    intro im4 e4
    rw [a0] at e4
    exact hQ im4 (hM.up hd (hns.mkLim hG e4))
theorem ldS_e {x : aX} {f m : Nat} {s : aQ} (h : s.2.2.1 ≠ 0) : ldS x f m s = (m, s) := by
  cases f with
  | zero => rw [ldS]
  | succ f => rw [ldS, if_neg (fun hh => h hh.1)]
def rO (t n : Nat) (im0 : zIm) (im : zIm) (A : aA) : Prop := eC t n im0 im 0 (-1) ∧ nRep im n A
theorem k_rd_loop (G : zOK g) (hS : zS_T S t) (hN : zS_N S n) (hx : xB x) (hd : t + 3 ≤ n ∨ n + 41 ≤ t) (hB : tB t x im0) {Q : Int → zIm → Prop} :
    ∀ (f m : Nat) (s : aQ) (im1 : zIm), s.2.2 = (0, -1) → cX t n im0 x im1 s.1 s.2.1 → lI s.2.1 → m ≤ s.1 → x.2 - s.1 < f → ((ldS x f m s).2.2.2.1 = 0 → ∀ im', rO t n im0 im' (ldS x f m s).2.2.1 → Q (ldS x f m s).1 im') → ((ldS x f m s).2.2.2.1 ≠ 0 → ∀ im', eC t n im0 im' (ldS x f m s).2.2.2.1 (ldS x f m s).2.2.2.2 → Q (-1) im') → zPI g M_X5_read 21 [(0, .ref t), (1, .ref n), (2, .int (zi m))] S im1 Q := by
  have hx0 := hx.1
  intro f
  induction f with
  | zero => intro m s im1 _ _ _ _ hf; exact absurd hf (by omega)
  | succ f ih =>
    intro m s im1 hs2 hM hL hm hf h0 h1
    have hq := hM.2.2.2.2.1
    have hs : s = (s.1, s.2.1, 0, -1) := by
      obtain ⟨q, A, c⟩ := s
      have : c = (0, -1) := hs2
      rw [this]
    have hc : s.2.2.1 = 0 := by rw [hs2]
    have eT := (hM.tb hd hB).1
    refine v_X5_read_21 G hS hN (zc_of (by omega) (by omega)) ⟨fun h => absurd h (by omega), fun _ => ?_⟩
    rw [show im1 t 6 = tK x s.1 from hM.2.2.2.2.2.2.1]
    refine ⟨fun hk => ?_, fun hk => ?_⟩
    · rw [ldS, if_pos ⟨hc, hk⟩] at h0 h1
      refine k_readSt G hS hN hx hd hB hM hL.1.1.1 (s := s) hs (fun he im' h' => ?_) (fun ho im' h' b0 b12 => ?_)
      · rw [ldS_e he] at h1
        exact ⟨fun h => absurd rfl h, fun _ => h1 he im' h'⟩
      · obtain ⟨o1, o2, o3, o4, o5⟩ := psS_ok hL hq hc ho
        have r := wk_rg (x := x) (q := s.1)
        have ep : psS x s = stS x (wk x s.1) s := by unfold psS; rw [if_neg o1]
        refine ⟨fun _ => ?_, fun h => absurd h o1⟩
        have hst : (stS x (wk x s.1) s).2.2.1 = 0 := by rw [← ep]; exact ho
        obtain ⟨f1, _, f3⟩ := finS_v hst
        have eA : (psS x s).2.1 = (bdS x (wk x s.1) s).2.1 := by rw [ep]; show (finS x (bdS x (wk x s.1) s)).2.1 = _; rw [f3]
        have nxt (im6 : zIm) (h6 : cX t n im0 x im6 (psS x s).1 (psS x s).2.1) : zPI g M_X5_read 21 [(0, .ref t), (1, .ref n), (2, .int (zi (zw ((m : Int) + 1))))] S im6 Q := by
          rw [zwS (k := m) (by omega)]
          refine ih (m + 1) (psS x s) im6 ?_ h6 o2 (by omega) (by omega) h0 h1
          have z1 : (psS x s).2.2 = ((psS x s).2.2.1, (psS x s).2.2.2) := rfl
          rw [z1, ho, o3, hs2]
        by_cases h1' : wk x s.1 = 1 ∨ wk x s.1 = 7
        · have eb : bdS x (wk x s.1) s = upS (s2S x (wk x s.1) s) (apS (wk x s.1) s.2.1 (tV x (s1S x (wk x s.1) s).1) 0 0) := by unfold bdS; rw [if_pos h1']
          rw [eb] at f1 eA
          obtain ⟨u1, u2⟩ := upS_v f1
          rw [u2] at eA
          obtain ⟨_, k2, k3⟩ := s2S_ok u1
          refine k_apply G hS hN hd h' hL (v1 := 0) (v2 := 0) (by omega) r.2.1 k2 b0 k3 (fun hn => absurd h1' hn) (fun im6 h6 => nxt im6 ?_)
          rw [eA]
          exact h6
        · have eb : bdS x (wk x s.1) s = upS (s4S x (wk x s.1) s) (apS (wk x s.1) s.2.1 (tV x (s1S x (wk x s.1) s).1) (tV x (s2S x (wk x s.1) s).1) (tV x (s3S x (wk x s.1) s).1)) := by unfold bdS; rw [if_neg h1']
          rw [eb] at f1 eA
          obtain ⟨u1, u2⟩ := upS_v f1
          rw [u2] at eA
          obtain ⟨_, k2, k3, k4, k5⟩ := s4S_ok u1
          refine k_apply G hS hN hd h' hL (by omega) r.2.1 k2 b0 k3 (fun hn => ⟨b12 hn, k4, k5⟩) (fun im6 h6 => nxt im6 ?_)
          rw [eA]
          exact h6
    · rw [ldS, if_neg (fun hh => hh.2 hk)] at h0
      exact h0 hc im1 ⟨⟨hM.1, hM.2.1, hM.2.2.1.1, hM.2.2.1.2⟩, hM.2.2.2.1⟩
theorem k_read (G : zOK g) (hS : zS_T S t) (hN : zS_N S n) (hx : xB x) (hd : t + 3 ≤ n ∨ n + 41 ≤ t) (hB : tB t x im) (hR : nRep im n A0S) {Q : Int → zIm → Prop} (h0 : (ldR x).2.2.2.1 = 0 → ∀ im', rO t n im im' (ldR x).2.2.1 → Q (ldR x).1 im') (h1 : (ldR x).2.2.2.1 ≠ 0 → ∀ im', eC t n im im' (ldR x).2.2.2.1 (ldR x).2.2.2.2 → Q (-1) im') : zCI g yX5_read M_X5_read [.ref t, .ref n] S im Q := by
  refine v_X5_read G hS hN (fun i1 e1 i3 e3 i5 e5 => ?_)
  have fb (b : Nat) (hb : b ≠ t) : i5 b = im b := by rw [e5, zst_n hb, e3, zst_n hb, e1, zst_n hb]
  have f0 : i5 t 0 = im t 0 := by rw [e5, zst_o (by omega), e3, zst_o (by omega), e1, zst_o (by omega)]
  have hB5 : tB t x i5 := ⟨by rw [f0]; exact hB.1, fun j j0 j1 => by rw [fb (t + 1) (by omega)]; exact hB.2 j j0 j1⟩
  have k5 : i5 t 5 = ((0 : Nat) : Int) := by rw [e5, zst_s]; rfl
  refine k_nextToken G hS hx (Nat.zero_le _) hB5 k5 (fun im' f1 t1 => ?_)
  refine k_rd_loop (im0 := im) G hS hN hx hd hB (x.2 + 1) 0 (0, A0S, 0, -1) im' rfl ⟨fun b b0 b1 hb => by rw [f1.1 b b0]; exact fb b b0, by rw [f1.2 0 (by omega)]; exact f0, ⟨?_, ?_⟩, hR.cong (fun b b0 b1 => by rw [f1.1 b (by omega)]; exact fb b (by omega)), Nat.zero_le _, t1⟩ lI_0 (Nat.le_refl _) (by show x.2 - 0 < _; omega) h0 h1
  · rw [f1.2 1 (by omega), e5, zst_o (by omega), e3, zst_o (by omega), e1, zst_s]
  · rw [f1.2 2 (by omega), e5, zst_o (by omega), e3, zst_s]
/-- the class's load -/
theorem k_load (G : zOK g) {a an as av at_ : Nat} (hS : zDep S a an as av at_) (hd : at_ + 3 ≤ as ∨ as + 41 ≤ at_) (hx : xB x) (hB : tB at_ x im) {Q : Option Value → zSh → zIm → Prop} (h0 : (ldR x).2.2.2.1 = 0 → ∀ im', (∀ b, b ≠ at_ → b ≠ at_ + 2 → (b < as ∨ as + 41 ≤ b) → im' b = im b) → im' at_ 0 = 0 → im' at_ 1 = 0 → im' at_ 2 = -1 → nRep im' as (ldR x).2.2.1 → Q (some (.int (zi ((ldR x).1 : Int)))) (zsf (zsf S a 0 (some as)) a 1 (some an)) im') (h1 : (ldR x).2.2.2.1 ≠ 0 → ∀ im', (∀ b, b ≠ at_ → b ≠ at_ + 2 → (b < as ∨ as + 41 ≤ b) → im' b = im b) → im' at_ 0 = 0 → im' at_ 1 = (ldR x).2.2.2.1 → im' at_ 2 = (ldR x).2.2.2.2 → Q (some (.int (zi (-1)))) S im') : zC g yX7_load M_X7_load [.ref a] S im Q zX0 := by
  obtain ⟨d1, d2, d3, d4, d5, d6, d7, d8, d9, d10⟩ := hS
  refine v_X7_load G ⟨d1, as, d3, (d7 0 (by decide)).1, ?_⟩
  refine k_clear G d7 (fun im5 h5 => ⟨at_, d5, (d8 0 (by decide)).1, ?_⟩)
  have hB5 : tB at_ x im5 := ⟨by rw [h5.1 at_ (by omega)]; exact hB.1, fun j j0 j1 => by rw [h5.1 (at_ + 1) (by omega)]; exact hB.2 j j0 j1⟩
  refine k_read G d8 d7 hx hd hB5 h5.2.2 (fun hc im11 h11 im13 e13 => ?_) (fun hc im11 h11 im13 e13 => ?_)
  · refine ⟨fun h => absurd h (by omega), fun _ => ⟨an, d2, fun S17 e17 => ?_⟩⟩
    subst e17
    refine ⟨d1, fun S20 e20 => ?_⟩
    subst e20
    obtain ⟨⟨r1, r2, r3, r4⟩, r5⟩ := h11
    exact h0 hc im13 (fun b b0 b1 hb => by rw [e13, zst_n b0, r1 b b0 b1 hb]; exact h5.1 b hb) (by rw [e13, zst_s]) (by rw [e13, zst_o (by omega)]; exact r3) (by rw [e13, zst_o (by omega)]; exact r4) (r5.cong (fun b b0 b1 => by rw [e13, zst_n (by omega)]))
  · obtain ⟨r1, r2, r3, r4⟩ := h11
    exact ⟨fun _ => h1 hc im13 (fun b b0 b1 hb => by rw [e13, zst_n b0, r1 b b0 b1 hb]; exact h5.1 b hb) (by rw [e13, zst_s]) (by rw [e13, zst_o (by omega)]; exact r3) (by rw [e13, zst_o (by omega)]; exact r4), fun h => absurd rfl h⟩
end PD2
