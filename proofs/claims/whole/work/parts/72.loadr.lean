/-! the reference's load -/
theorem zst_id {im : zIm} {b : Nat} {i : Int} : zst im b i (im b i) = im := by
  funext c j
  rw [zst_at]
  split
  · rename_i h
    rw [h.1, h.2]
  · rfl
section PL
variable {g : zG} {S : zSh} {im im0 : zIm} {a : Nat} {x : aX} {s : aQ}
theorem c_parseStatement (G : zOK g) (hS : zS_M S a) (hx : xB x) (hB : rB a x im0) (hM : pX a im0 x im s) (h0 : s.2.2.1 = 0) (hL : lI s.2.1) {Q : zIm → Prop} (hQ : ∀ im', pX a im0 x im' (psS x s) → Q im') : zCV g yX8_parseStatement M_X8_parseStatement [.ref a] S im Q := by
  have hT := hM.2.2.2.2.1
  have hq := hM.2.2.2.1
  refine v_X8_parseStatement G hS (fun w hw => ?_)
  refine c_isWord G hS hx hT hq hw ok_item (fun hk hd => ⟨fun h => absurd h (by decide), fun _ => c_stItem G hS hx hB hM hL (fun im6 h6 => c_fin G hS hx hB h6 (fun im' h' => hQ im' ?_))⟩) (fun n0 => ⟨fun _ w hw => ?_, fun h => absurd rfl h⟩)
  · have ew : wk x s.1 = 0 := by unfold wk; rw [if_pos hk, if_pos hd]
    unfold psS
    rw [ew, if_neg (by decide)]
    exact h'
  refine c_isWord G hS hx hT hq hw ok_base (fun hk hd => ⟨fun h => absurd h (by decide), fun _ => c_stBase G hS hx hB hM hL (fun im6 h6 => c_fin G hS hx hB h6 (fun im' h' => hQ im' ?_))⟩) (fun n1 => ⟨fun _ w hw => ?_, fun h => absurd rfl h⟩)
  · have ew : wk x s.1 = 1 := by unfold wk; rw [if_pos hk, if_neg (fun h => n0 ⟨hk, h⟩), if_pos hd]
    unfold psS
    rw [ew, if_neg (by decide)]
    exact h'
  refine c_isWord G hS hx hT hq hw ok_level (fun hk hd => ⟨fun h => absurd h (by decide), fun _ => c_stLevel G hS hx hB hM hL (fun im6 h6 => c_fin G hS hx hB h6 (fun im' h' => hQ im' ?_))⟩) (fun n2 => ⟨fun _ w hw => ?_, fun h => absurd rfl h⟩)
  · have ew : wk x s.1 = 2 := by unfold wk; rw [if_pos hk, if_neg (fun h => n0 ⟨hk, h⟩), if_neg (fun h => n1 ⟨hk, h⟩), if_pos hd]
    unfold psS
    rw [ew, if_neg (by decide)]
    exact h'
  refine c_isWord G hS hx hT hq hw ok_link (fun hk hd => ⟨fun h => absurd h (by decide), fun _ => c_stLink G hS hx hB hM hL (fun im6 h6 => c_fin G hS hx hB h6 (fun im' h' => hQ im' ?_))⟩) (fun n3 => ⟨fun _ w hw => ?_, fun h => absurd rfl h⟩)
  · have ew : wk x s.1 = 3 := by unfold wk; rw [if_pos hk, if_neg (fun h => n0 ⟨hk, h⟩), if_neg (fun h => n1 ⟨hk, h⟩), if_neg (fun h => n2 ⟨hk, h⟩), if_pos hd]
    unfold psS
    rw [ew, if_neg (by decide)]
    exact h'
  refine c_isWord G hS hx hT hq hw ok_share (fun hk hd => ⟨fun h => absurd h (by decide), fun _ => c_stN4 G hS hx hB hM hL (fun im6 h6 => c_fin G hS hx hB h6 (fun im' h' => hQ im' ?_))⟩) (fun n4 => ⟨fun _ w hw => ?_, fun h => absurd rfl h⟩)
  · have ew : wk x s.1 = 4 := by unfold wk; rw [if_pos hk, if_neg (fun h => n0 ⟨hk, h⟩), if_neg (fun h => n1 ⟨hk, h⟩), if_neg (fun h => n2 ⟨hk, h⟩), if_neg (fun h => n3 ⟨hk, h⟩), if_pos hd]
    unfold psS
    rw [ew, if_neg (by decide)]
    exact h'
  refine c_isWord G hS hx hT hq hw ok_reserve (fun hk hd => ⟨fun h => absurd h (by decide), fun _ => c_stN5 G hS hx hB hM hL (fun im6 h6 => c_fin G hS hx hB h6 (fun im' h' => hQ im' ?_))⟩) (fun n5 => ⟨fun _ w hw => ?_, fun h => absurd rfl h⟩)
  · have ew : wk x s.1 = 5 := by unfold wk; rw [if_pos hk, if_neg (fun h => n0 ⟨hk, h⟩), if_neg (fun h => n1 ⟨hk, h⟩), if_neg (fun h => n2 ⟨hk, h⟩), if_neg (fun h => n3 ⟨hk, h⟩), if_neg (fun h => n4 ⟨hk, h⟩), if_pos hd]
    unfold psS
    rw [ew, if_neg (by decide)]
    exact h'
  refine c_isWord G hS hx hT hq hw ok_rate (fun hk hd => ⟨fun h => absurd h (by decide), fun _ => c_stN6 G hS hx hB hM hL (fun im6 h6 => c_fin G hS hx hB h6 (fun im' h' => hQ im' ?_))⟩) (fun n6 => ⟨fun _ w hw => ?_, fun h => absurd rfl h⟩)
  · have ew : wk x s.1 = 6 := by unfold wk; rw [if_pos hk, if_neg (fun h => n0 ⟨hk, h⟩), if_neg (fun h => n1 ⟨hk, h⟩), if_neg (fun h => n2 ⟨hk, h⟩), if_neg (fun h => n3 ⟨hk, h⟩), if_neg (fun h => n4 ⟨hk, h⟩), if_neg (fun h => n5 ⟨hk, h⟩), if_pos hd]
    unfold psS
    rw [ew, if_neg (by decide)]
    exact h'
  refine c_isWord G hS hx hT hq hw ok_limit (fun hk hd => ?_) (fun n7 => ?_)
  · have ew : wk x s.1 = 7 := by unfold wk; rw [if_pos hk, if_neg (fun h => n0 ⟨hk, h⟩), if_neg (fun h => n1 ⟨hk, h⟩), if_neg (fun h => n2 ⟨hk, h⟩), if_neg (fun h => n3 ⟨hk, h⟩), if_neg (fun h => n4 ⟨hk, h⟩), if_neg (fun h => n5 ⟨hk, h⟩), if_neg (fun h => n6 ⟨hk, h⟩), if_pos hd]
    have eb : bdS x 7 s = upS (s2S x 7 s) (aG s.2.1 1 (tV x (s1S x 7 s).1)) := rfl
    have ep : psS x s = finS x (bdS x 7 s) := by unfold psS; rw [ew, if_neg (by decide)]; rfl
    rw [ep, eb] at hQ
    refine c_rq G hS hM (P := True) (Or.inl ⟨trivial, rfl⟩) (zc_of (by omega) (by omega)) (fun im2 h2 => ?_)
    rw [rqS_y trivial] at h2
    refine c_adv1 G hS hx hB h2 (w := 7) ⟨fun h => absurd h (by decide), fun h => absurd h (by decide)⟩ (fun im4 h4 => ?_)
    refine c_pn G hS hx hB h4 zc_0 (zc_of (by omega) (by omega)) (fun im7 h7 => ?_)
    have h7 : pX a im0 x im7 (s2S x 7 s) := h7
    rw [h7.c]
    refine ⟨fun hc im50 e50 => ?_, fun hc im49 e49 => ?_⟩
    · rw [zst_id] at e50
      subst e50
      rw [upS_e hc] at hQ
      exact c_fin G hS hx hB h7 hQ
    · unfold upS at hQ
      rw [if_pos hc] at hQ
      have hm := h7.m
      rw [s2S_A] at hm
      exact c_fin G hS hx hB (h7.up (hm.v e49 (by omega) (by omega))) hQ
  · have ew : wk x s.1 = -1 := by
      unfold wk
      by_cases hk : tK x s.1 = 1
      · rw [if_pos hk, if_neg (fun h => n0 ⟨hk, h⟩), if_neg (fun h => n1 ⟨hk, h⟩), if_neg (fun h => n2 ⟨hk, h⟩), if_neg (fun h => n3 ⟨hk, h⟩), if_neg (fun h => n4 ⟨hk, h⟩), if_neg (fun h => n5 ⟨hk, h⟩), if_neg (fun h => n6 ⟨hk, h⟩), if_neg (fun h => n7 ⟨hk, h⟩)]
      · rw [if_neg hk]
    have ep : psS x s = (s.1, s.2.1, 1, (tS x s.1 : Int)) := by unfold psS; rw [ew, if_pos rfl, rqS_n h0 id]
    rw [ep] at hQ
    refine c_rq G hS hM (P := False) (Or.inr ⟨id, rfl⟩) (zc_of (by omega) (by omega)) (fun im2 h2 => ?_)
    rw [rqS_n h0 id] at h2
    refine c_adv G hS hx hB h2 (fun im4 h4 => ?_)
    have h4 : pX a im0 x im4 (s.1, s.2.1, 1, (tS x s.1 : Int)) := h4
    refine c_pn G hS hx hB h4 zc_0 (zc_of (by omega) (by omega)) (fun im7 h7 => ?_)
    rw [argS_e (s := (s.1, s.2.1, 1, (tS x s.1 : Int))) (show (1 : Int) ≠ 0 by decide)] at h7
    rw [h7.c]
    refine ⟨fun hc im50 e50 => ?_, fun hc im49 e49 => absurd hc (show ¬ (1 : Int) = 0 by decide)⟩
    rw [zst_id] at e50
    subst e50
    refine c_fin G hS hx hB h7 (fun im' h' => hQ im' ?_)
    rw [finS_e (s := (s.1, s.2.1, 1, (tS x s.1 : Int))) (show (1 : Int) ≠ 0 by decide)] at h'
    exact h'
end PL
def g0S : aR := fun j => if j = 3 then 1 else 0
def A0S : aA := (g0S, [], [], [])
theorem g0_o {j : Int} (h : j ≠ 3) : g0S j = 0 := if_neg h
theorem g0_3 : g0S 3 = 1 := rfl
theorem lI_0 : lI A0S := by
  have z (j : Int) (h : j ≠ 3) : A0S.1 j = 0 := g0_o h
  refine ⟨⟨⟨⟨?_, ?_, ?_, ?_, fun i i0 i1 => ?_, fun s s0 s1 => ?_, fun b o b0 b1 o0 o1 => ?_, fun k k0 k1 => ?_, fun k k0 k1 => ?_⟩, fun u hu => ?_, fun u hu => ?_, fun u hu => ?_⟩, ⟨fun j j0 j1 => ?_, ?_⟩, ?_, fun j j0 j1 => ?_⟩, z 0 (by omega), rfl, fun j j0 j1 => ?_⟩
  · rw [z 0 (by omega)]; omega
  · rw [z 1 (by omega)]; omega
  · rw [z 2 (by omega)]; omega
  · show 1 ≤ g0S 3 ∧ g0S 3 ≤ 8
    rw [g0_3]; omega
  · rw [z 2 (by omega)] at i1; omega
  · have : s < g0S 3 := s1
    rw [g0_3] at this; omega
  · rw [z _ (by omega)]; omega
  · rw [z _ (by omega)]; omega
  · by_cases e : k = 3
    · rw [e]; exact zc_of (by show (-2147483648 : Int) ≤ g0S 3; rw [g0_3]; omega) (by show g0S 3 < 2147483648; rw [g0_3]; omega)
    · rw [z k e]; exact zc_0
  · exact absurd hu (by simp [A0S])
  · exact absurd hu (by simp [A0S])
  · exact absurd hu (by simp [A0S])
  · rw [z _ (by omega), z _ (by omega)]
    simp [A0S]
  · rw [z 124 (by omega), z 125 (by omega), z 126 (by omega), z 127 (by omega), z 92 (by omega), z 93 (by omega), z 94 (by omega), z 95 (by omega)]
    show ((0 : Nat) : Int) + 0 + (0 + 0 + 0 + 0) ≤ 201 + (0 + 0 + 0 + 0)
    omega
  · exact Nat.zero_le _
  · rw [z _ (by omega), z _ (by omega)]; omega
  · rw [z _ (by omega), z _ (by omega)]
theorem mRep_0 {r : aR} (h : ∀ j, 0 ≤ j → j < 7692 → r j = g0S j) : mRep r A0S := by
  refine ⟨fun i i0 i1 _ _ _ => h i i0 (by omega), by rw [h 4 (by omega) (by omega)]; rfl, by rw [h 5 (by omega) (by omega)]; rfl, by rw [h 6 (by omega) (by omega)]; rfl, fun k hk => absurd hk (Nat.not_lt_zero _), fun k hk => absurd hk (Nat.not_lt_zero _), fun k hk => absurd hk (Nat.not_lt_zero _)⟩
theorem argS_v {x : aX} {R : Int → Prop} {s : aQ} (h : (argS x R s).2.2.1 = 0) : argS x R s = (tE x s.1, s.2) := by
  obtain ⟨h1, h2, h3⟩ := argS_ok h
  obtain ⟨q, A, c, p⟩ := s
  have h1 : c = 0 := h1
  subst h1
  exact argS_0 h2 h3
theorem finS_v {x : aX} {s : aQ} (h : (finS x s).2.2.1 = 0) : s.2.2.1 = 0 ∧ tK x s.1 = 3 ∧ finS x s = (tE x s.1, s.2) := by
  obtain ⟨q, A, c, p⟩ := s
  by_cases hc : c = 0
  · subst hc
    by_cases h1 : tK x q = 3
    · exact ⟨rfl, h1, finS_0 h1⟩
    · rw [finS_1 h1] at h; exact absurd h (show ¬ (1 : Int) = 0 by decide)
  · rw [finS_e (s := (q, A, c, p)) hc] at h; exact absurd h hc
theorem s1S_v {x : aX} {w : Int} {s : aQ} (h : (s1S x w s).2.2.1 = 0) : s1S x w s = (tE x s.1, s.2) := by
  obtain ⟨h1, h2⟩ := s1S_ok h
  unfold s1S
  rw [rqS_y h2]
  unfold advS
  rw [if_pos h1]
theorem upS_v {s : aQ} {A : aA} (h : (upS s A).2.2.1 = 0) : s.2.2.1 = 0 ∧ upS s A = (s.1, A, s.2.2) := by
  unfold upS at h ⊢
  by_cases hc : s.2.2.1 = 0
  · rw [if_pos hc]; exact ⟨hc, rfl⟩
  · rw [if_neg hc] at h; exact absurd h hc
theorem wk_rg {x : aX} {q : Nat} : -1 ≤ wk x q ∧ wk x q ≤ 7 ∧ (wk x q ≠ -1 → tK x q = 1) := by
  unfold wk
  by_cases hk : tK x q = 1
  · rw [if_pos hk]
    refine ⟨?_, ?_, fun _ => hk⟩ <;> (repeat' split) <;> omega
  · rw [if_neg hk]
    exact ⟨by omega, by omega, fun h => absurd rfl h⟩
theorem stS_ok {x : aX} {w : Int} {s : aQ} (hL : lI s.2.1) (hq : s.1 ≤ x.2) (w0 : 0 ≤ w) (w1 : w ≤ 7) (hk : tK x s.1 = 1) (h : (stS x w s).2.2.1 = 0) : lI (stS x w s).2.1 ∧ (stS x w s).2.2.2 = s.2.2.2 ∧ s.1 < (stS x w s).1 ∧ (stS x w s).1 ≤ x.2 := by
  obtain ⟨f1, _, f3⟩ := finS_v h
  have e0 : stS x w s = (tE x (bdS x w s).1, (bdS x w s).2) := f3
  rw [e0]
  have b0 := tE_bd hq
  have s0 := tS_bd hq
  have b0' := b0.2.2.1 (by rw [hk]; decide)
  by_cases ho : w = 1 ∨ w = 7
  · have eb : bdS x w s = upS (s2S x w s) (apS w s.2.1 (tV x (s1S x w s).1) 0 0) := by unfold bdS; rw [if_pos ho]
    rw [eb] at f1 ⊢
    obtain ⟨u1, u2⟩ := upS_v f1
    obtain ⟨k1, k2, k3⟩ := s2S_ok u1
    have a1 := argS_ok u1
    have v1 := s1S_v a1.1
    have v2 : s2S x w s = (tE x (s1S x w s).1, (s1S x w s).2) := argS_v u1
    have p1 : (s1S x w s).1 = tE x s.1 := by rw [v1]
    have p2 : (s2S x w s).1 = tE x (tE x s.1) := by rw [v2, p1]
    have b1 := tE_bd (x := x) (q := tE x s.1) b0.2.1
    have s1 := tS_bd (x := x) (q := tE x s.1) b0.2.1
    have b2 := tE_bd (x := x) (q := tE x (tE x s.1)) b1.2.1
    have s2 := tS_bd (x := x) (q := tE x (tE x s.1)) b1.2.1
    rw [u2]
    refine ⟨hL.ap w0 w1 k2 k3 (fun hn => absurd ho hn), ?_, ?_, ?_⟩
    · show (s2S x w s).2.2.2 = _
      rw [v2, v1]
    · show s.1 < tE x (s2S x w s).1
      rw [p2]; omega
    · show tE x (s2S x w s).1 ≤ _
      rw [p2]; omega
  · have eb : bdS x w s = upS (s4S x w s) (apS w s.2.1 (tV x (s1S x w s).1) (tV x (s2S x w s).1) (tV x (s3S x w s).1)) := by unfold bdS; rw [if_neg ho]
    rw [eb] at f1 ⊢
    obtain ⟨u1, u2⟩ := upS_v f1
    obtain ⟨k1, k2, k3, k4, k5⟩ := s4S_ok u1
    have a3 := (argS_ok u1).1
    have a2 := (argS_ok a3).1
    have a1 := (argS_ok a2).1
    have v1 := s1S_v a1
    have v2 : s2S x w s = (tE x (s1S x w s).1, (s1S x w s).2) := argS_v a2
    have v3 : s3S x w s = (tE x (s2S x w s).1, (s2S x w s).2) := argS_v a3
    have v4 : s4S x w s = (tE x (s3S x w s).1, (s3S x w s).2) := argS_v u1
    have p1 : (s1S x w s).1 = tE x s.1 := by rw [v1]
    have p2 : (s2S x w s).1 = tE x (tE x s.1) := by rw [v2, p1]
    have p3 : (s3S x w s).1 = tE x (tE x (tE x s.1)) := by rw [v3, p2]
    have p4 : (s4S x w s).1 = tE x (tE x (tE x (tE x s.1))) := by rw [v4, p3]
    have b1 := tE_bd (x := x) (q := tE x s.1) b0.2.1
    have s1 := tS_bd (x := x) (q := tE x s.1) b0.2.1
    have b2 := tE_bd (x := x) (q := tE x (tE x s.1)) b1.2.1
    have s2 := tS_bd (x := x) (q := tE x (tE x s.1)) b1.2.1
    have b3 := tE_bd (x := x) (q := tE x (tE x (tE x s.1))) b2.2.1
    have s3 := tS_bd (x := x) (q := tE x (tE x (tE x s.1))) b2.2.1
    have b4 := tE_bd (x := x) (q := tE x (tE x (tE x (tE x s.1)))) b3.2.1
    have s4 := tS_bd (x := x) (q := tE x (tE x (tE x (tE x s.1)))) b3.2.1
    rw [u2]
    refine ⟨hL.ap w0 w1 k2 k3 (fun _ => ⟨k4, k5⟩), ?_, ?_, ?_⟩
    · show (s4S x w s).2.2.2 = _
      rw [v4, v3, v2, v1]
    · show s.1 < tE x (s4S x w s).1
      rw [p4]; omega
    · show tE x (s4S x w s).1 ≤ _
      rw [p4]; omega
theorem psS_ok {x : aX} {s : aQ} (hL : lI s.2.1) (hq : s.1 ≤ x.2) (h0 : s.2.2.1 = 0) (h : (psS x s).2.2.1 = 0) : wk x s.1 ≠ -1 ∧ lI (psS x s).2.1 ∧ (psS x s).2.2.2 = s.2.2.2 ∧ s.1 < (psS x s).1 ∧ (psS x s).1 ≤ x.2 := by
  have r := wk_rg (x := x) (q := s.1)
  unfold psS at h ⊢
  by_cases e : wk x s.1 = -1
  · rw [if_pos e, rqS_n h0 id] at h
    exact absurd h (show ¬ (1 : Int) = 0 by decide)
  · rw [if_neg e] at h ⊢
    exact ⟨e, stS_ok hL hq (by omega) r.2.1 (r.2.2 e) h⟩
noncomputable def ldS (x : aX) : Nat → Nat → aQ → Nat × aQ
  | 0, n, s => (n, s)
  | f + 1, n, s => if s.2.2.1 = 0 ∧ tK x s.1 ≠ 0 then ldS x f (n + 1) (psS x s) else (n, s)
noncomputable def ldR (x : aX) : Nat × aQ := ldS x (x.2 + 1) 0 (0, A0S, 0, -1)
/-- what a load answers, and leaves: the value, the network, the error's code and place -/
noncomputable def oLd (x : aX) (A : aA) : Int × aA × Int × Int := if (ldR x).2.2.2.1 = 0 then (((ldR x).1 : Int), (ldR x).2.2.1, 0, -1) else (-1, A, (ldR x).2.2.2.1, (ldR x).2.2.2.2)
theorem ldS_ok {x : aX} : ∀ (f n : Nat) (s : aQ), (s.2.2.1 = 0 → lI s.2.1 ∧ s.2.2.2 = -1 ∧ s.1 ≤ x.2) → (ldS x f n s).2.2.2.1 = 0 → lI (ldS x f n s).2.2.1 ∧ (ldS x f n s).2.2.2.2 = -1 := by
  intro f
  induction f with
  | zero => intro n s hs h; exact ⟨(hs h).1, (hs h).2.1⟩
  | succ f ih =>
    intro n s hs h
    rw [ldS] at h ⊢
    by_cases hc : s.2.2.1 = 0 ∧ tK x s.1 ≠ 0
    · rw [if_pos hc] at h ⊢
      obtain ⟨l1, l2, l3⟩ := hs hc.1
      refine ih (n + 1) (psS x s) (fun h' => ?_) h
      obtain ⟨_, o2, o3, _, o5⟩ := psS_ok l1 l3 hc.1 h'
      exact ⟨o2, o3.trans l2, o5⟩
    · rw [if_neg hc] at h ⊢
      exact ⟨(hs h).1, (hs h).2.1⟩
section PM
variable {g : zG} {S : zSh} {im im0 : zIm} {a : Nat} {x : aX}
theorem c_cl_loop (G : zOK g) (hS : zS_M S a) {Q : zIm → Prop} (hQ : ∀ r, (∀ j, 0 ≤ j → j < 7692 → r j = g0S j) → Q (zsr im (a + 1) r)) :
    ∀ (f k : Nat) (r : aR), k + f = 7692 → (∀ j : Int, 0 ≤ j → j < (k : Int) → r j = 0) → zPV g M_X8_clearNetwork 2 [(0, .ref a), (1, .int (zi k))] S (zsr im (a + 1) r) Q := by
  intro f
  induction f with
  | zero =>
    intro k r hk hr
    refine v_X8_clearNetwork_2 G hS (zc_of (by omega) (by omega)) ⟨fun _ im1 e1 => ?_, fun h => absurd h (by omega)⟩
    rw [zst_sr] at e1
    rw [e1]
    refine hQ _ (fun j j0 j1 => ?_)
    by_cases e : j = 3
    · rw [e, zup_s, g0_3]
    · rw [zup_n e, g0_o e]; exact hr j j0 (by omega)
  | succ f ih =>
    intro k r hk hr
    refine v_X8_clearNetwork_2 G hS (zc_of (by omega) (by omega)) ⟨fun h => absurd h (by omega), fun _ => ⟨⟨by omega, by omega⟩, fun im1 e1 => ?_⟩⟩
    rw [zst_sr] at e1
    rw [e1, zwS (k := k) (by omega)]
    refine ih (k + 1) _ (by omega) (fun j j0 j1 => ?_)
    by_cases e : j = k
    · rw [e, zup_s]
    · rw [zup_n e]; exact hr j j0 (by omega)
theorem c_clear (G : zOK g) (hS : zS_M S a) {Q : zIm → Prop} (hQ : ∀ r, (∀ j, 0 ≤ j → j < 7692 → r j = g0S j) → Q (zsr im (a + 1) r)) : zCV g yX8_clearNetwork M_X8_clearNetwork [.ref a] S im Q := by
  have := c_cl_loop (im := im) G hS hQ 7692 0 (im (a + 1)) (Nat.zero_add _) (fun j j0 j1 => absurd j0 (by omega))
  rw [zsr_id] at this
  exact v_X8_clearNetwork G hS this
def lPost (a : Nat) (im im' : zIm) (A : aA) (c p : Int) : Prop := (∀ b, b ≠ a → b ≠ a + 1 → b ≠ a + 2 → im' b = im b) ∧ (∀ f, f ≠ 4 → f ≠ 7 → (f < 8 ∨ 15 < f) → im' a f = im a f) ∧ im' a 4 = 0 ∧ im' a 7 = 0 ∧ im' a 13 = c ∧ im' a 14 = p ∧ mRep (im' (a + 1)) A
theorem c_ld_end (G : zOK g) (hS : zS_M S a) {A : aA} {s : aQ} {n : Nat} {im1 : zIm} (hF : aFit A) (hA : mRep (im0 (a + 2)) A) (hM : pX a im0 x im1 s) {im2 : zIm} (e2 : im2 = zst im1 a 7 0) (h4 : im0 a 4 = 0) (hf : ∀ b, b ≠ a → b ≠ a + 1 → b ≠ a + 2 → im0 b = im b) (hg : ∀ f, f ≠ 4 → (f < 8 ∨ 15 < f) → im0 a f = im a f) (hp : s.2.2.1 = 0 → s.2.2.2 = -1) {Q : Int → zIm → Prop} (h0 : s.2.2.1 = 0 → ∀ im', lPost a im im' s.2.1 0 (-1) → Q n im') (h1 : s.2.2.1 ≠ 0 → ∀ im', lPost a im im' A s.2.2.1 s.2.2.2 → Q (-1) im') :
    (((im2 a 13) = 0 → Q n im2) ∧ (¬ (im2 a 13) = 0 → zCV g yX8_copy M_X8_copy [.ref (a + 2), .int (zi 0), .ref (a + 1), .int (zi 0)] S im2 (fun im6 => Q (-1) im6))) := by
  obtain ⟨p1, p2, p3, p4, p5, p6, p7⟩ := hM
  have c13 : im2 a 13 = s.2.2.1 := by rw [e2, zst_o (by omega)]; exact p6
  have c14 : im2 a 14 = s.2.2.2 := by rw [e2, zst_o (by omega)]; exact p7
  have fr : ∀ b, b ≠ a → b ≠ a + 1 → b ≠ a + 2 → im2 b = im b := fun b b0 b1 b2 => by rw [e2, zst_n b0, p1 b b0 b1]; exact hf b b0 b1 b2
  have fg : ∀ f, f ≠ 4 → f ≠ 7 → (f < 8 ∨ 15 < f) → im2 a f = im a f := fun f f4 f7 hf => by rw [e2, zst_o f7, p2 f hf]; exact hg f f4 hf
  have f4 : im2 a 4 = 0 := by rw [e2, zst_o (by omega), p2 4 (by omega)]; exact h4
  have f7 : im2 a 7 = 0 := by rw [e2, zst_s]
  rw [c13]
  refine ⟨fun h => h0 h im2 ⟨fr, fg, f4, f7, by rw [c13]; exact h, by rw [c14]; exact hp h, by rw [e2, zst_n (by omega)]; exact p3⟩, fun h => ?_⟩
  have l2 : zln S (a + 2) = 7692 := (hS 2 (by decide)).2.1
  have l1 : zln S (a + 1) = 7692 := (hS 1 (by decide)).2.1
  refine c_copy G (hS 2 (by decide)).1 (hS 1 (by decide)).1 (by omega) (by omega) (by omega) (by omega) (by omega) (by omega) (by omega) (h1 h _ ⟨fun b b0 b1 b2 => by rw [zsr_n b1]; exact fr b b0 b1 b2, fun f f4 f7 hf => by rw [zsr_n (by omega)]; exact fg f f4 f7 hf, by rw [zsr_n (by omega)]; exact f4, by rw [zsr_n (by omega)]; exact f7, by rw [zsr_n (by omega)]; exact c13, by rw [zsr_n (by omega)]; exact c14, ?_⟩)
  rw [zsr_s]
  have e : im2 (a + 2) = im0 (a + 2) := by rw [e2, zst_n (by omega)]; exact p1 _ (by omega) (by omega)
  refine hA.cong hF (fun j j0 j1 => ?_)
  rw [if_pos (by omega), e]
  congr 1
  omega
theorem c_ld_loop (G : zOK g) (hS : zS_M S a) (hx : xB x) (hB : rB a x im0) {A : aA} (hF : aFit A) (hA : mRep (im0 (a + 2)) A) (h4 : im0 a 4 = 0) (hf : ∀ b, b ≠ a → b ≠ a + 1 → b ≠ a + 2 → im0 b = im b) (hg : ∀ f, f ≠ 4 → (f < 8 ∨ 15 < f) → im0 a f = im a f) {Q : Int → zIm → Prop} :
    ∀ (f n : Nat) (s : aQ) (im1 : zIm), pX a im0 x im1 s → n ≤ 501 → (s.2.2.1 = 0 → lI s.2.1 ∧ s.2.2.2 = -1 ∧ n ≤ s.1 ∧ x.2 - s.1 < f) → ((ldS x f n s).2.2.2.1 = 0 → ∀ im', lPost a im im' (ldS x f n s).2.2.1 0 (-1) → Q (ldS x f n s).1 im') → ((ldS x f n s).2.2.2.1 ≠ 0 → ∀ im', lPost a im im' A (ldS x f n s).2.2.2.1 (ldS x f n s).2.2.2.2 → Q (-1) im') → zPI g M_X8_load 43 [(0, .ref a), (1, .int (zi n))] S im1 Q := by
  have hx0 := hx.1
  intro f
  induction f with
  | zero =>
    intro n s im1 hM hn hs h0 h1
    rw [ldS] at h0 h1
    refine v_X8_load_43 G hS (zc_of (by omega) (by omega)) ?_
    rw [hM.c]
    refine ⟨fun hc im2 e2 => c_ld_end G hS hF hA hM e2 h4 hf hg (fun h => (hs h).2.1) h0 h1, fun hc => absurd (hs hc).2.2.2 (by omega)⟩
  | succ f ih =>
    intro n s im1 hM hn hs h0 h1
    have rk := rK_s (tK x s.1)
    refine v_X8_load_43 G hS (zc_of (by omega) (by omega)) ?_
    rw [hM.c, hM.2.2.2.2.1.2.2.1]
    refine ⟨fun hc im2 e2 => ?_, fun hc => ⟨fun ht im2 e2 => ?_, fun ht => ?_⟩⟩
    · rw [ldS, if_neg (fun hh => hc hh.1)] at h0 h1
      exact c_ld_end G hS hF hA hM e2 h4 hf hg (fun h => (hs h).2.1) h0 h1
    · rw [ldS, if_neg (fun hh => hh.2 (rk.1.1 ht))] at h0 h1
      exact c_ld_end G hS hF hA hM e2 h4 hf hg (fun h => (hs h).2.1) h0 h1
    · have hc2 : s.2.2.1 = 0 ∧ tK x s.1 ≠ 0 := ⟨hc, fun h => ht (rk.1.2 h)⟩
      rw [ldS, if_pos hc2] at h0 h1
      obtain ⟨l1, l2, l3, l4⟩ := hs hc
      have hq := hM.2.2.2.1
      refine c_parseStatement G hS hx hB hM hc l1 (fun im3 h3 => ?_)
      rw [zwS (k := n) (by omega)]
      refine ih (n + 1) (psS x s) im3 h3 (by omega) (fun hk => ?_) h0 h1
      obtain ⟨_, o2, o3, o4, o5⟩ := psS_ok l1 hq hc hk
      exact ⟨o2, o3.trans l2, by omega, by omega⟩
theorem r_load (G : zOK g) (hS : zS_M S a) (hx : xB x) (hB : rB a x im) {A : aA} (hM : mRep (im (a + 1)) A) (hF : aFit A) {Q : Int → zIm → Prop} (hQ : ∀ im', lPost a im im' (oLd x A).2.1 (oLd x A).2.2.1 (oLd x A).2.2.2 → Q (oLd x A).1 im') : zCI g yX8_load M_X8_load [.ref a] S im Q := by
  refine v_X8_load G hS (fun im1 e1 => ?_)
  have l2 : zln S (a + 2) = 7692 := (hS 2 (by decide)).2.1
  have l1 : zln S (a + 1) = 7692 := (hS 1 (by decide)).2.1
  refine c_copy G (hS 1 (by decide)).1 (hS 2 (by decide)).1 (by omega) (by omega) (by omega) (by omega) (by omega) (by omega) (by omega) ?_
  refine c_clear G hS (fun r hr i7 d7 i9 d9 i11 d11 => ?_)
  obtain ⟨i3, d3⟩ : ∃ i3, i3 = zsr im1 (a + 2) (fun j => if (0 : Int) ≤ j ∧ j < 0 + 7692 then im1 (a + 1) (0 + (j - 0)) else im1 (a + 2) j) := ⟨_, rfl⟩
  rw [← d3] at d7
  have k1 (b : Nat) (b0 : b ≠ a) (b1 : b ≠ a + 1) (b2 : b ≠ a + 2) : i11 b = im b := by rw [d11, zst_n b0, d9, zst_n b0, d7, zst_n b0, zsr_n b1, d3, zsr_n b2, e1, zst_n b0]
  have k2 (f : Int) (f4 : f ≠ 4) (f8 : f ≠ 8) (f3 : f ≠ 13) (f5 : f ≠ 14) : i11 a f = im a f := by rw [d11, zst_o f8, d9, zst_o f5, d7, zst_o f3, zsr_n (by omega), d3, zsr_n (by omega), e1, zst_o f4]
  have k4 : i11 a 4 = 0 := by rw [d11, zst_o (by omega), d9, zst_o (by omega), d7, zst_o (by omega), zsr_n (by omega), d3, zsr_n (by omega), e1, zst_s]
  have k8 : i11 a 8 = ((0 : Nat) : Int) := by rw [d11, zst_s]; rfl
  have k13 : i11 a 13 = 0 := by rw [d11, zst_o (by omega), d9, zst_o (by omega), d7, zst_s]
  have k14 : i11 a 14 = -1 := by rw [d11, zst_o (by omega), d9, zst_s]
  have kA : mRep (i11 (a + 2)) A := by
    rw [d11, zst_n (by omega), d9, zst_n (by omega), d7, zst_n (by omega), zsr_n (by omega), d3, zsr_s]
    refine hM.cong hF (fun j j0 j1 => ?_)
    rw [if_pos (by omega), e1, zst_n (by omega)]
    congr 1
    omega
  have kN : mRep (i11 (a + 1)) A0S := by
    rw [d11, zst_n (by omega), d9, zst_n (by omega), d7, zst_n (by omega), zsr_s]
    exact mRep_0 hr
  have hB1 : rB a x i11 := ⟨by rw [k2 7 (by omega) (by omega) (by omega) (by omega)]; exact hB.1, fun j j0 j1 => by rw [k1 (a + 5) (by omega) (by omega) (by omega)]; exact hB.2 j j0 j1⟩
  refine c_nextToken G hS hx (Nat.zero_le _) hB1 k8 (fun im' f1 t1 => ?_)
  have hP : pX a i11 x im' (0, A0S, 0, -1) := ⟨fun b b0 _ => f1.1 b b0, fun f hf => f1.2 f (by omega), by rw [f1.1 (a + 1) (by omega)]; exact kN, Nat.zero_le _, t1, by rw [f1.2 13 (by omega)]; exact k13, by rw [f1.2 14 (by omega)]; exact k14⟩
  unfold oLd at hQ
  refine c_ld_loop (im := im) G hS hx hB1 hF kA k4 k1 (fun f f4 hf => k2 f f4 (by omega) (by omega) (by omega)) (x.2 + 1) 0 (0, A0S, 0, -1) im' hP (by omega) (fun _ => ⟨lI_0, rfl, by show 0 ≤ 0; omega, by show x.2 - 0 < _; omega⟩) (fun h im2 h2 => ?_) (fun h im2 h2 => ?_)
  · rw [if_pos (show (ldR x).2.2.2.1 = 0 from h)] at hQ; exact hQ im2 h2
  · rw [if_neg (show ¬ (ldR x).2.2.2.1 = 0 from h)] at hQ; exact hQ im2 h2
end PM
