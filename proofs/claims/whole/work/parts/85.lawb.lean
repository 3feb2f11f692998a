/-! the law's objects -/
theorem k_L131 : zKI RL 131 yX7_init M_X7_init 0 := ⟨q_1_25, q_1_26, q_1_1, q_1_27, ⟨by decide +kernel, by decide +kernel⟩, by decide +kernel, rfl, rfl⟩
theorem k_L134 : zKI RL 134 yX8_init M_X8_init 0 := ⟨q_5_146, q_5_147, q_1_9, q_5_148, ⟨by decide +kernel, by decide +kernel⟩, by decide +kernel, rfl, rfl⟩
theorem sB.t {S S' S'' : zSh} {c d : Nat} (h : sB S S' c) (h' : sB S' S'' d) (hd : c ≤ d) : sB S S'' c := fun b hb => by
  have e := h' b (by omega)
  rw [e.1, e.2.1, e.2.2]
  exact h b hb
theorem sB_sf {S : zSh} {c i : Nat} {v : Option Nat} : sB S (zsf S c i v) c := fun b hb => ⟨rfl, rfl, zsf_o (by omega)⟩
def dPost (a : Nat) (S : zSh) (im : zIm) (S' : zSh) (im' : zIm) : Prop := zDep S' a (a + 1) (a + 42) (a + 83) (a + 84) ∧ ztop S' = a + 87 ∧ sB S S' a ∧ (∀ b, b < a → im' b = im b) ∧ nRep im' (a + 1) A0S ∧ (im' (a + 84) 0 = 0 ∧ im' (a + 84) 1 = 0 ∧ im' (a + 84) 2 = -1) ∧ ∀ k, zrf S' (a + 83) k = none
section LW
variable {g : zG} {S : zSh} {im : zIm} {a : Nat}
theorem i_D (G : zOK g) (ha : a = ztop S) {Q : Option Value → zSh → zIm → Prop} (hQ : ∀ S' im', dPost a S im S' im' → Q none S' im') : zC g yX7_init M_X7_init [.ref a] (zpush S 7 0) (zsr im a (fun _ => 0)) Q zX0 := by
  subst ha
  have p0 := zpush_s (S := S) (kd := 7) (n := 0)
  refine v_X7_init G (fun o1 e1 S3 e3 im5 e5 => ?_)
  have eo1 : o1 = ztop S + 1 := e1
  subst e3; subst e5
  refine i_N G e1 (fun S8 im7 hN1 ht1 hs1 hf1 hA1 => ?_)
  subst eo1
  have a1 := hs1 (ztop S) (by omega)
  refine ⟨rfl, by rw [a1.1]; exact p0.1, fun S11 e11 o13 e13 S15 e15 im17 e17 => ?_⟩
  have eo2 : o13 = ztop S + 42 := by rw [e13, e11]; show ztop S8 = _; omega
  subst e15; subst e17
  refine i_N G e13 (fun S20 im19 hN2 ht2 hs2 hf2 hA2 => ?_)
  subst eo2
  have a2 := hs2 (ztop S) (by omega)
  refine ⟨rfl, by rw [a2.1, e11]; show zkd S8 _ = _; rw [a1.1]; exact p0.1, fun S23 e23 o25 e25 S27 e27 im29 e29 => ?_⟩
  have eo3 : o25 = ztop S + 83 := by rw [e25, e23]; show ztop S20 = _; omega
  have a3 := zpush_o (S := S23) (kd := 13) (n := 2) (b := ztop S) (by rw [← e25]; omega)
  have p3 := zpush_s (S := S23) (kd := 13) (n := 2)
  rw [← e25, eo3] at p3
  refine ⟨by rw [e27, a3.1, e23]; show zkd S20 _ = _; rw [a2.1, e11]; show zkd S8 _ = _; rw [a1.1]; exact p0.1, fun S32 e32 o34 e34 S36 e36 im38 e38 => ?_⟩
  have eo4 : o34 = ztop S + 84 := by rw [e34, e32, e27]; show ztop S23 + 1 = _; rw [← e25, eo3]
  subst e36; subst e38
  refine i_T G e34 (fun S41 im40 hT ht4 hs4 hf4 t0 t1 t2 => ?_)
  subst eo4
  have a4 := hs4 (ztop S) (by omega)
  have a4v := hs4 (ztop S + 83) (by omega)
  have kx : zkd S41 (ztop S) = 7 := by rw [a4.1, e32]; show zkd S27 _ = _; rw [e27, a3.1, e23]; show zkd S20 _ = _; rw [a2.1, e11]; show zkd S8 _ = _; rw [a1.1]; exact p0.1
  refine ⟨rfl, kx, fun S44 e44 => ?_⟩
  have b27 : sB S23 S27 (ztop S + 83) := by rw [e27]; rw [show ztop S + 83 = ztop S23 from by rw [← e25, eo3]]; exact sB_push
  -- the references of the object
  have r44 (i : Nat) (hi : i ≠ 3) : zrf S44 (ztop S) i = zrf S32 (ztop S) i := by rw [e44, zsf_p hi, a4.2.2]
  have r32 (i : Nat) (hi : i ≠ 2) : zrf S32 (ztop S) i = zrf S23 (ztop S) i := by rw [e32, zsf_p hi, e27, a3.2.2]
  have r23 (i : Nat) (hi : i ≠ 1) : zrf S23 (ztop S) i = zrf S11 (ztop S) i := by rw [e23, zsf_p hi, a2.2.2]
  have sh {c N : Nat} {T : Nat → Nat × Nat × (Nat → Option Nat)} (h : zShp S20 c N T) (hc : ztop S < c) (hN : c + N ≤ ztop S + 83) : zShp S44 c N T := by
    rw [e44]
    refine zShp.sf ?_ (by omega)
    refine zShp.sB ?_ hs4 (by omega)
    rw [e32]
    refine zShp.sf ?_ (by omega)
    refine zShp.sB ?_ b27 hN
    rw [e23]
    exact zShp.sf h (by omega)
  have n1 : zS_N S20 (ztop S + 1) := by
    refine zShp.sB ?_ hs2 (by omega)
    rw [e11]
    exact zShp.sf hN1 (by omega)
  have v83 : zkd S44 (ztop S + 83) = 13 ∧ zln S44 (ztop S + 83) = 2 ∧ zrf S44 (ztop S + 83) = fun _ => none := by
    rw [e44, zsf_k.1, zsf_k.2.1, zsf_o (by omega), a4v.1, a4v.2.1, a4v.2.2, e32, zsf_k.1, zsf_k.2.1, zsf_o (by omega), e27]
    exact p3
  refine hQ S44 im40 ⟨⟨by rw [e44]; exact kx, ?_, ?_, ?_, ?_, sh n1 (by omega) (by omega), sh hN2 (by omega) (by omega), ?_, v83.1, v83.2.1⟩, by rw [e44]; exact ht4, ?_, fun b hb => ?_, ?_, ⟨t0, t1, t2⟩, fun k => by rw [v83.2.2]⟩
  · rw [r44 0 (by decide), r32 0 (by decide), r23 0 (by decide), e11, zsf_s]
  · rw [r44 1 (by decide), r32 1 (by decide), e23, zsf_s]
  · rw [r44 2 (by decide), e32, zsf_s, eo3]
  · rw [e44, zsf_s]
  · rw [e44]
    exact zShp.sf hT (by omega)
  · have b1 : sB S S8 (ztop S) := sB_push.t hs1 (by omega)
    have b2 : sB S S11 (ztop S) := b1.t (by rw [e11]; exact sB_sf) (Nat.le_refl _)
    have b3 : sB S S20 (ztop S) := b2.t hs2 (by omega)
    have b4 : sB S S23 (ztop S) := b3.t (by rw [e23]; exact sB_sf) (Nat.le_refl _)
    have b5 : sB S S27 (ztop S) := b4.t b27 (by omega)
    have b6 : sB S S32 (ztop S) := b5.t (by rw [e32]; exact sB_sf) (Nat.le_refl _)
    have b7 : sB S S41 (ztop S) := b6.t hs4 (by omega)
    exact b7.t (by rw [e44]; exact sB_sf) (Nat.le_refl _)
  · rw [hf4 b (by omega), e29, zsr_n (by omega), hf2 b (by omega), hf1 b (by omega), zsr_n (by omega)]
  · refine hA1.cong (fun b b0 b1 => ?_)
    rw [hf4 b (by omega), e29, zsr_n (by omega), hf2 b (by omega)]
/-! the law -/
theorem zand63 (y : Int) : zand y 63 = y % 64 := by
  unfold zand
  rw [pk_and (zi y) (m := zi 63) 6 (by decide), zi_tn]
  show (Int32.ofNat _).toInt = _
  rw [Int32.toInt_ofNat_of_lt (by omega)]
  omega
theorem lw_ret2 {p : Program} {l : Launch} {e : Env} {s : State} {m : MethodId} {args : Array Value} {below : List Frame} {meth : Method} {c : Code} (hx : p.tables.exec = Jvm.exec) (hb : c.code = code) (hr : meth.sig.returnType = ret) (hlocks : meth.locks = false) {pc : Nat} {H : Heap} {ls : Array Slot} (hdg : decode code pc = .ok (.ireturn, 1)) : W p l e room_1 s m args below meth c H [] 601024 7293034 (lw_Z below args s) (F0 m pc ls [.int 1]) := by
  intro T hT X
  obtain ⟨fs, hret, hrun, hended, hW, hframe⟩ := X.leave (v := some (.int 1)) (hlocks := hlocks) (fun h => by rw [hr] at h; cases h)
  have hmeth' : T.vm.method? m = some meth := X.method'
  refine ⟨T.setFrames fs, ?_, .returned (some (.int 1)), hrun, hended, rfl, ⟨_, rfl⟩, hW, hframe⟩
  jvm_step X.here [X.here.top, hx, hb, hdg, hmeth', hr, ret, narrow_b1]
  (try refine ⟨rfl, ?_⟩); (try refine ⟨rfl, ?_⟩)
  first | (intro acts; rw [hret _ acts rfl rfl rfl]) | rw [hret _ _ rfl rfl rfl]
  exact Steps.refl _
def zZl (g : zG) : zEnd := fun below args s t => s.heap.size ≤ zbs g → lw_Z below args s t
theorem lw_end {k n : Nat} {lv : List (Nat × Value)} (hk : k ≤ 601024) (hn : n ≤ 7293034) : zPz g M_L k n 2754 lv [.int (zi 1)] S im (zZl g) := by
  intro p e s m args below meth c H locs ls B R L V
  by_cases hs : s.heap.size ≤ zbs g
  · have h1 := lw_ret2 (l := g.1) (e := e) (s := s) (m := m) (args := args) (below := below) (H := H) (ls := ls) B.1 B.2.1 B.2.2.2.2.2.1 B.2.2.2.2.2.2.1 dL_law_2754
    have h2 := va_forget (fun q hq => Nat.le_trans hs (L q hq)) (W.widen hk hn h1)
    intro T hT X
    obtain ⟨t, q1, q2⟩ := h2 T hT X
    exact ⟨t, q1, fun _ => q2⟩
  · have h1 := p_zreturn (g := g) (M := M_L) (k := k) (n := n) (lv := lv) (S := S) (im := im) (Q := fun _ _ _ => True) (X := zX0) (x := 1) hk hn rfl (nf_r (zc_of (by omega) (by omega))) (Or.inr rfl) dL_law_2754 trivial p e s m args below meth c H locs ls B R L V
    intro T hT X
    obtain ⟨t, q1, q2⟩ := h1 T hT X
    exact ⟨t, q1, fun h => absurd h hs⟩
theorem Inv.step {j x m o : Nat} (h : Inv j x m o S im) : Inv (j + 1) x m o S im := by
  obtain ⟨an, as, A, X, h⟩ := h
  exact ⟨an, as, A, X, h.net (fun _ _ _ _ _ _ => rfl) (fun _ _ _ => rfl) h.bd.2.2 h.mm (h.w.mono (by omega))⟩
set_option maxHeartbeats 4000000 in
set_option maxRecDepth 20000 in
theorem lw_case (G : zOK g) {b x m o i j k n L : Nat} {xs : Nat → Int32} (hX : va_X b L xs g.2.1 g.2.1.heap) (hb : b < zbs g) (hL : L ≤ 2048) (hL2 : L < 2147483648) (hi : i + 4 ≤ L) (hk : k + 100 ≤ 601024) (hn : n + 10000 ≤ 7293034) (hj : j ≤ 600) (hI : Inv j x m o S im) {Z : zEnd} {a' : Int} (ca : zc a') (a0 : 0 ≤ a') (hC : ∀ k2 n2 S2 im2, k2 ≤ k + 60 → n2 ≤ n + 7000 → Inv (j + 1) x m o S2 im2 → zPz g M_L k2 n2 2747 [(0, .ref b), (1, .ref x), (2, .ref m), (3, .ref o), (4, .int (zi (i : Int)))] [] S2 im2 Z) :
    zPz g M_L k n 39 [(0, .ref b), (1, .ref x), (2, .ref m), (3, .ref o), (4, .int (zi (i : Int)))] [.int (zi a')] S im Z := by
  have cx (q : Nat) : zc (xs q).toInt := zc_of (Int32.le_toInt _) (by have := Int32.toInt_lt (xs q); omega)
  by_cases h0 : a' = 0
  · subst h0
    exact p_tableIn (tgt := 232) dL_law_39 (nf_r ca) (by decide) (by decide) rfl (by decide) (v_law_0 G hX hb hL hL2 hi hk hn (cx _) rfl (cx _) rfl (cx _) rfl hC (pv_0 G hI hj (cx _) (cx _) (cx _)))
  by_cases h1 : a' = 1
  · subst h1
    exact p_tableIn (tgt := 312) dL_law_39 (nf_r ca) (by decide) (by decide) rfl (by decide) (v_law_1 G hX hb hL hL2 hi hk hn (cx _) rfl hC (pv_1 G hI hj (cx _)))
  by_cases h2 : a' = 2
  · subst h2
    exact p_tableIn (tgt := 368) dL_law_39 (nf_r ca) (by decide) (by decide) rfl (by decide) (v_law_2 G hX hb hL hL2 hi hk hn  hC (pv_2 G hI hj ))
  by_cases h3 : a' = 3
  · subst h3
    exact p_tableIn (tgt := 381) dL_law_39 (nf_r ca) (by decide) (by decide) rfl (by decide) (v_law_3 G hX hb hL hL2 hi hk hn  hC (pv_3 G hI hj ))
  by_cases h4 : a' = 4
  · subst h4
    exact p_tableIn (tgt := 394) dL_law_39 (nf_r ca) (by decide) (by decide) rfl (by decide) (v_law_4 G hX hb hL hL2 hi hk hn (cx _) rfl (cx _) rfl (cx _) rfl hC (pv_4 G hI hj (cx _) (cx _) (cx _)))
  by_cases h5 : a' = 5
  · subst h5
    exact p_tableIn (tgt := 474) dL_law_39 (nf_r ca) (by decide) (by decide) rfl (by decide) (v_law_5 G hX hb hL hL2 hi hk hn (cx _) rfl (cx _) rfl (cx _) rfl hC (pv_5 G hI hj (cx _) (cx _) (cx _)))
  by_cases h6 : a' = 6
  · subst h6
    exact p_tableIn (tgt := 554) dL_law_39 (nf_r ca) (by decide) (by decide) rfl (by decide) (v_law_6 G hX hb hL hL2 hi hk hn (cx _) rfl (cx _) rfl (cx _) rfl hC (pv_6 G hI hj (cx _) (cx _) (cx _)))
  by_cases h7 : a' = 7
  · subst h7
    exact p_tableIn (tgt := 634) dL_law_39 (nf_r ca) (by decide) (by decide) rfl (by decide) (v_law_7 G hX hb hL hL2 hi hk hn (cx _) rfl (cx _) rfl (cx _) rfl hC (pv_7 G hI hj (cx _) (cx _) (cx _)))
  by_cases h8 : a' = 8
  · subst h8
    exact p_tableIn (tgt := 714) dL_law_39 (nf_r ca) (by decide) (by decide) rfl (by decide) (v_law_8 G hX hb hL hL2 hi hk hn (cx _) rfl (cx _) rfl (cx _) rfl hC (pv_8 G hI hj (cx _) (cx _) (cx _)))
  by_cases h9 : a' = 9
  · subst h9
    exact p_tableIn (tgt := 794) dL_law_39 (nf_r ca) (by decide) (by decide) rfl (by decide) (v_law_9 G hX hb hL hL2 hi hk hn (cx _) rfl hC (pv_9 G hI hj (cx _)))
  by_cases h10 : a' = 10
  · subst h10
    exact p_tableIn (tgt := 850) dL_law_39 (nf_r ca) (by decide) (by decide) rfl (by decide) (v_law_10 G hX hb hL hL2 hi hk hn (cx _) rfl (cx _) rfl (cx _) rfl hC (pv_10 G hI hj (cx _) (cx _) (cx _)))
  by_cases h11 : a' = 11
  · subst h11
    exact p_tableIn (tgt := 937) dL_law_39 (nf_r ca) (by decide) (by decide) rfl (by decide) (v_law_11 G hX hb hL hL2 hi hk hn (cx _) rfl hC (pv_11 G hI hj (cx _)))
  by_cases h12 : a' = 12
  · subst h12
    exact p_tableIn (tgt := 993) dL_law_39 (nf_r ca) (by decide) (by decide) rfl (by decide) (v_law_12 G hX hb hL hL2 hi hk hn (cx _) rfl (cx _) rfl hC (pv_12 G hI hj (cx _) (cx _)))
  by_cases h13 : a' = 13
  · subst h13
    exact p_tableIn (tgt := 1061) dL_law_39 (nf_r ca) (by decide) (by decide) rfl (by decide) (v_law_13 G hX hb hL hL2 hi hk hn  hC (pv_13 G hI hj ))
  by_cases h14 : a' = 14
  · subst h14
    exact p_tableIn (tgt := 1074) dL_law_39 (nf_r ca) (by decide) (by decide) rfl (by decide) (v_law_14 G hX hb hL hL2 hi hk hn  hC (pv_14 G hI hj ))
  by_cases h15 : a' = 15
  · subst h15
    exact p_tableIn (tgt := 1087) dL_law_39 (nf_r ca) (by decide) (by decide) rfl (by decide) (v_law_15 G hX hb hL hL2 hi hk hn (cx _) rfl (cx _) rfl hC (pv_15 G hI hj (cx _) (cx _)))
  by_cases h16 : a' = 16
  · subst h16
    exact p_tableIn (tgt := 1155) dL_law_39 (nf_r ca) (by decide) (by decide) rfl (by decide) (v_law_16 G hX hb hL hL2 hi hk hn (cx _) rfl (cx _) rfl hC (pv_16 G hI hj (cx _) (cx _)))
  by_cases h17 : a' = 17
  · subst h17
    exact p_tableIn (tgt := 1223) dL_law_39 (nf_r ca) (by decide) (by decide) rfl (by decide) (v_law_17 G hX hb hL hL2 hi hk hn (cx _) rfl (cx _) rfl hC (pv_17 G hI hj (cx _) (cx _)))
  by_cases h18 : a' = 18
  · subst h18
    exact p_tableIn (tgt := 1291) dL_law_39 (nf_r ca) (by decide) (by decide) rfl (by decide) (v_law_18 G hX hb hL hL2 hi hk hn (cx _) rfl (cx _) rfl hC (pv_18 G hI hj (cx _) (cx _)))
  by_cases h19 : a' = 19
  · subst h19
    exact p_tableIn (tgt := 1359) dL_law_39 (nf_r ca) (by decide) (by decide) rfl (by decide) (v_law_19 G hX hb hL hL2 hi hk hn (cx _) rfl hC (pv_19 G hI hj (cx _)))
  by_cases h20 : a' = 20
  · subst h20
    exact p_tableIn (tgt := 1415) dL_law_39 (nf_r ca) (by decide) (by decide) rfl (by decide) (v_law_20 G hX hb hL hL2 hi hk hn (cx _) rfl (cx _) rfl hC (pv_20 G hI hj (cx _) (cx _)))
  by_cases h21 : a' = 21
  · subst h21
    exact p_tableIn (tgt := 1483) dL_law_39 (nf_r ca) (by decide) (by decide) rfl (by decide) (v_law_21 G hX hb hL hL2 hi hk hn (cx _) rfl (cx _) rfl hC (pv_21 G hI hj (cx _) (cx _)))
  by_cases h22 : a' = 22
  · subst h22
    exact p_tableIn (tgt := 1551) dL_law_39 (nf_r ca) (by decide) (by decide) rfl (by decide) (v_law_22 G hX hb hL hL2 hi hk hn (cx _) rfl (cx _) rfl hC (pv_22 G hI hj (cx _) (cx _)))
  by_cases h23 : a' = 23
  · subst h23
    exact p_tableIn (tgt := 1619) dL_law_39 (nf_r ca) (by decide) (by decide) rfl (by decide) (v_law_23 G hX hb hL hL2 hi hk hn (cx _) rfl hC (pv_23 G hI hj (cx _)))
  by_cases h24 : a' = 24
  · subst h24
    exact p_tableIn (tgt := 1675) dL_law_39 (nf_r ca) (by decide) (by decide) rfl (by decide) (v_law_24 G hX hb hL hL2 hi hk hn (cx _) rfl (cx _) rfl hC (pv_24 G hI hj (cx _) (cx _)))
  by_cases h25 : a' = 25
  · subst h25
    exact p_tableIn (tgt := 1743) dL_law_39 (nf_r ca) (by decide) (by decide) rfl (by decide) (v_law_25 G hX hb hL hL2 hi hk hn  hC (pv_25 G hI hj ))
  by_cases h26 : a' = 26
  · subst h26
    exact p_tableIn (tgt := 1756) dL_law_39 (nf_r ca) (by decide) (by decide) rfl (by decide) (v_law_26 G hX hb hL hL2 hi hk hn (cx _) rfl hC (pv_26 G hI hj (cx _)))
  by_cases h27 : a' = 27
  · subst h27
    exact p_tableIn (tgt := 1812) dL_law_39 (nf_r ca) (by decide) (by decide) rfl (by decide) (v_law_27 G hX hb hL hL2 hi hk hn (cx _) rfl hC (pv_27 G hI hj (cx _)))
  by_cases h28 : a' = 28
  · subst h28
    exact p_tableIn (tgt := 1868) dL_law_39 (nf_r ca) (by decide) (by decide) rfl (by decide) (v_law_28 G hX hb hL hL2 hi hk hn (cx _) rfl hC (pv_28 G hI hj (cx _)))
  by_cases h29 : a' = 29
  · subst h29
    exact p_tableIn (tgt := 1924) dL_law_39 (nf_r ca) (by decide) (by decide) rfl (by decide) (v_law_29 G hX hb hL hL2 hi hk hn (cx _) rfl hC (pv_29 G hI hj (cx _)))
  by_cases h30 : a' = 30
  · subst h30
    exact p_tableIn (tgt := 1980) dL_law_39 (nf_r ca) (by decide) (by decide) rfl (by decide) (v_law_30 G hX hb hL hL2 hi hk hn (cx _) rfl hC (pv_30 G hI hj (cx _)))
  by_cases h31 : a' = 31
  · subst h31
    exact p_tableIn (tgt := 2036) dL_law_39 (nf_r ca) (by decide) (by decide) rfl (by decide) (v_law_31 G hX hb hL hL2 hi hk hn (cx _) rfl (cx _) rfl hC (pv_31 G hI hj (cx _) (cx _)))
  by_cases h32 : a' = 32
  · subst h32
    exact p_tableIn (tgt := 2104) dL_law_39 (nf_r ca) (by decide) (by decide) rfl (by decide) (v_law_32 G hX hb hL hL2 hi hk hn (cx _) rfl (cx _) rfl hC (pv_32 G hI hj (cx _) (cx _)))
  by_cases h33 : a' = 33
  · subst h33
    exact p_tableIn (tgt := 2172) dL_law_39 (nf_r ca) (by decide) (by decide) rfl (by decide) (v_law_33 G hX hb hL hL2 hi hk hn (cx _) rfl (cx _) rfl hC (pv_33 G hI hj (cx _) (cx _)))
  by_cases h34 : a' = 34
  · subst h34
    exact p_tableIn (tgt := 2240) dL_law_39 (nf_r ca) (by decide) (by decide) rfl (by decide) (v_law_34 G hX hb hL hL2 hi hk hn (cx _) rfl (cx _) rfl hC (pv_34 G hI hj (cx _) (cx _)))
  by_cases h35 : a' = 35
  · subst h35
    exact p_tableIn (tgt := 2308) dL_law_39 (nf_r ca) (by decide) (by decide) rfl (by decide) (v_law_35 G hX hb hL hL2 hi hk hn (cx _) rfl (cx _) rfl hC (pv_35 G hI hj (cx _) (cx _)))
  by_cases h36 : a' = 36
  · subst h36
    exact p_tableIn (tgt := 2376) dL_law_39 (nf_r ca) (by decide) (by decide) rfl (by decide) (v_law_36 G hX hb hL hL2 hi hk hn (cx _) rfl (cx _) rfl hC (pv_36 G hI hj (cx _) (cx _)))
  by_cases h37 : a' = 37
  · subst h37
    exact p_tableIn (tgt := 2444) dL_law_39 (nf_r ca) (by decide) (by decide) rfl (by decide) (v_law_37 G hX hb hL hL2 hi hk hn (cx _) rfl (cx _) rfl (cx _) rfl hC (pv_37 G hI hj (cx _) (cx _) (cx _)))
  by_cases h38 : a' = 38
  · subst h38
    exact p_tableIn (tgt := 2524) dL_law_39 (nf_r ca) (by decide) (by decide) rfl (by decide) (v_law_38 G hX hb hL hL2 hi hk hn (cx _) rfl hC (pv_38 G hI hj (cx _)))
  by_cases h39 : a' = 39
  · subst h39
    exact p_tableIn (tgt := 2580) dL_law_39 (nf_r ca) (by decide) (by decide) rfl (by decide) (v_law_39 G hX hb hL hL2 hi hk hn (cx _) rfl hC (pv_39 G hI hj (cx _)))
  by_cases h40 : a' = 40
  · subst h40
    exact p_tableIn (tgt := 2636) dL_law_39 (nf_r ca) (by decide) (by decide) rfl (by decide) (v_law_40 G hX hb hL hL2 hi hk hn  hC (pv_40 G hI hj ))
  by_cases h41 : a' = 41
  · subst h41
    exact p_tableIn (tgt := 2649) dL_law_39 (nf_r ca) (by decide) (by decide) rfl (by decide) (v_law_41 G hX hb hL hL2 hi hk hn  hC (pv_41 G hI hj ))
  by_cases h42 : a' = 42
  · subst h42
    exact p_tableIn (tgt := 2662) dL_law_39 (nf_r ca) (by decide) (by decide) rfl (by decide) (v_law_42 G hX hb hL hL2 hi hk hn  hC (pv_42 G hI hj ))
  by_cases h43 : a' = 43
  · subst h43
    exact p_tableIn (tgt := 2675) dL_law_39 (nf_r ca) (by decide) (by decide) rfl (by decide) (v_law_43 G hX hb hL hL2 hi hk hn (cx _) rfl hC (pv_43 G hI hj (cx _)))
  by_cases h44 : a' = 44
  · subst h44
    exact p_tableIn (tgt := 2711) dL_law_39 (nf_r ca) (by decide) (by decide) rfl (by decide) (v_law_44 G hX hb hL hL2 hi hk hn (cx _) rfl hC (pv_44 G hI hj (cx _)))
  exact p_tableOut (tgt := 2747) dL_law_39 (nf_r ca) (by omega) (by decide) (hC k n S im (by omega) (by omega) hI.step)
theorem lw_loop (G : zOK g) {b x m o L : Nat} {xs : Nat → Int32} (hX : va_X b L xs g.2.1 g.2.1.heap) (hb : b < zbs g) (hL : L ≤ 2048) : ∀ (f i j k n : Nat) (S : zSh) (im : zIm), i = 4 * j → L < i + 4 * (f + 1) → i ≤ L + 3 → Inv j x m o S im → k ≤ 100 + 60 * j → n ≤ 50000 + 7000 * j → zPz g M_L k n 23 [(0, .ref b), (1, .ref x), (2, .ref m), (3, .ref o), (4, .int (zi (i : Int)))] [] S im (zZl g) := by
  intro f
  induction f with
  | zero =>
    intro i j k n S im ei hf hi hI hk hn
    refine p_iload dL_law_23 (q := 4) rfl ?_
    refine p_aload_n dL_law_25 rfl (q := 0) rfl ?_
    refine p_slenA hX hb (by omega) dL_law_26 ?_
    refine p_iconst dL_law_27 ?_
    refine p_isub dL_law_28 ?_
    refine p_icmp_gt (tgt := 2753) dL_law_29 (by decide) (nf_r (zc_of (by omega) (by omega))) (nf_r (zc_of (by omega) (by omega))) (fun _ => ?_) (fun h => absurd h (by omega))
    exact p_iconst dL_law_2753 (lw_end (by omega) (by omega))
  | succ f ih =>
    intro i j k n S im ei hf hi hI hk hn
    refine p_iload dL_law_23 (q := 4) rfl ?_
    refine p_aload_n dL_law_25 rfl (q := 0) rfl ?_
    refine p_slenA hX hb (by omega) dL_law_26 ?_
    refine p_iconst dL_law_27 ?_
    refine p_isub dL_law_28 ?_
    refine p_icmp_gt (tgt := 2753) dL_law_29 (by decide) (nf_r (zc_of (by omega) (by omega))) (nf_r (zc_of (by omega) (by omega))) (fun _ => ?_) (fun h => ?_)
    · exact p_iconst dL_law_2753 (lw_end (by omega) (by omega))
    · refine p_aload_n dL_law_32 rfl (q := 0) rfl ?_
      refine p_iload dL_law_33 (q := 4) rfl ?_
      refine p_sld hX hb (by omega) (nf_r (zc_of (by omega) (by omega))) (by omega) (by omega) dL_law_35 ?_
      refine p_bipush dL_law_36 rfl ?_
      refine p_iand dL_law_38 ?_
      rw [zand63]
      refine lw_case G hX hb hL (by omega) (by omega) (by omega) (by omega) (by omega) hI (zc_of (by omega) (by omega)) (by omega) (fun k2 n2 S2 im2 h1 h2 hI2 => ?_)
      refine p_iinc (q := 4) (lv' := [(4, .int (zi ((i : Int) + 4))), (0, .ref b), (1, .ref x), (2, .ref m), (3, .ref o)]) dL_law_2747 rfl (by decide) rfl ?_
      refine p_goto (tgt := 23) dL_law_2750 (by decide) ?_
      refine p_sub (lv' := [(0, .ref b), (1, .ref x), (2, .ref m), (3, .ref o), (4, .int (zi ((i : Int) + 4)))]) [1, 2, 3, 4, 0] rfl ?_
      have g1 : i + 4 = 4 * (j + 1) := by omega
      have g2 : L < i + 4 + 4 * (f + 1) := by omega
      have g3 : i + 4 ≤ L + 3 := by omega
      have g4 : k2 ≤ 100 + 60 * (j + 1) := by omega
      have g5 : n2 ≤ 50000 + 7000 * (j + 1) := by
        rw [Nat.mul_succ, ← Nat.add_assoc]
        exact Nat.le_trans h2 (Nat.add_le_add_right hn _)
      have q := ih (i + 4) (j + 1) k2 n2 S2 im2 g1 g2 g3 hI2 g4 g5
      rw [show (((i + 4 : Nat)) : Int) = (i : Int) + 4 from by omega] at q
      exact q
theorem IJ_0 {x : Nat} {S1 S2 : zSh} {im1 im2 : zIm} (hd : dPost x S im S1 im1) (hx : x = ztop S) (hM : zS_M S2 (x + 87)) (ht : ztop S2 = x + 93) (hs : sB S1 S2 (x + 87)) (hf : ∀ b, b < x + 87 → im2 b = im1 b) (t7 : im2 (x + 87) 7 = 0) (t13 : im2 (x + 87) 13 = 0) (t14 : im2 (x + 87) 14 = -1) (hm : mRep (im2 (x + 87 + 1)) A0S) (h4 : ∀ j, im2 (x + 87 + 4) j = 0) : Inv 0 x (x + 87) (x + 93) (zpush S2 12 1) (zsr im2 (x + 93) (fun _ => 0)) := by
  obtain ⟨⟨d1, d2, d3, d4, d5, d6, d7, d8, d9, d10⟩, e1, e2, e3, e4, ⟨e5, e6, e7⟩, e8⟩ := hd
  have b3 : sB S2 (zpush S2 12 1) (x + 93) := by rw [← ht]; exact sB_push
  have bb : sB S1 (zpush S2 12 1) (x + 87) := hs.t b3 (by omega)
  have ex := bb x (by omega)
  have ev := bb (x + 83) (by omega)
  have po := zpush_s (S := S2) (kd := 12) (n := 1)
  rw [ht] at po
  have fi (b : Nat) (hb : b < x + 93) : zsr im2 (x + 93) (fun _ => 0) b = im2 b := zsr_n (by omega)
  refine ⟨x + 1, x + 42, A0S, ((fun _ => 0), 0), ⟨rfl, rfl, by show x + 94 ≤ ztop S2 + 1; omega⟩, ⟨po.1, po.2.1⟩, zShp.sB hM b3 (by omega), Or.inl ⟨rfl, rfl⟩, ⟨by rw [ex.1]; exact d1, by rw [ex.2.2]; exact d2, by rw [ex.2.2]; exact d3, by rw [ex.2.2]; exact d4, by rw [ex.2.2]; exact d5, zShp.sB d6 bb (by omega), zShp.sB d7 bb (by omega), zShp.sB d8 bb (by omega), by rw [ev.1]; exact d9, by rw [ev.2.1]; exact d10⟩, e4.cong (fun b b0 b1 => by rw [fi b (by omega)]; exact hf b (by omega)), by rw [fi _ (by omega)]; exact hm, ?_, ⟨⟨Nat.zero_le _, fun i i0 i1 => absurd i1 (Nat.not_lt_zero _)⟩, ⟨by rw [fi _ (by omega), hf _ (by omega)]; exact e5, fun i i0 i1 => absurd i1 (Nat.not_lt_zero _)⟩, ⟨by rw [fi _ (by omega)]; exact t7, fun i i0 i1 => absurd i1 (Nat.not_lt_zero _)⟩⟩, ⟨by rw [fi _ (by omega), fi _ (by omega), t13, hf _ (by omega), e6], by rw [fi _ (by omega), fi _ (by omega), t14, hf _ (by omega), e7]⟩, fun k hk => Or.inl ⟨by rw [ev.2.2]; exact e8 k, by rw [fi _ (by omega)]; exact h4 _⟩, fun b c hb hc => ?_⟩
  · have w := lI_0
    rw [w.2.1]
    exact w.1
  · rw [ev.2.2, e8 0] at hb
    cases hb
theorem lw_body (G : zOK g) {b L : Nat} {xs : Nat → Int32} (hX : va_X b L xs g.2.1 g.2.1.heap) (hb : b < zbs g) (hL : L ≤ 2048) : zPz g M_L 0 0 0 [(0, .ref b)] [] S im (zZl g) := by
  refine p_new G (q := 7) (by decide) q_1_23 q_1_24 q_1_1 (Nat.le_of_ble_eq_true rfl) (Nat.le_of_ble_eq_true rfl) dL_law_0 (zdef (by decide)) ?_
  refine p_dup dL_law_3 rfl ?_
  refine p_I G k_L131 (Q' := fun v S' im' => v = none ∧ dPost (ztop S) S im S' im') rfl rfl (Nat.le_of_ble_eq_true rfl) ⟨by decide, by decide⟩ ⟨Nat.le_of_ble_eq_true rfl, Nat.le_of_ble_eq_true rfl⟩ dL_law_4 (i_D G rfl (fun S' im' h => ⟨rfl, h⟩)) (fun v S1 im1 h => ?_)
  obtain ⟨rfl, hd⟩ := h
  obtain ⟨x, ex⟩ : ∃ x, x = ztop S := ⟨_, rfl⟩
  rw [← ex] at hd ⊢
  have t1 := hd.2.1
  refine p_astore_n (lv' := [(1, .ref x), (0, .ref b)]) dL_law_7 rfl (by decide) rfl ?_
  refine p_new G (q := 8) (by decide) q_5_144 q_5_145 q_1_9 (Nat.le_of_ble_eq_true rfl) (Nat.le_of_ble_eq_true rfl) dL_law_8 (zdef (by decide)) ?_
  refine p_dup dL_law_11 rfl ?_
  refine p_I G k_L134 (Q' := fun v S' im' => v = none ∧ zS_M S' (ztop S1) ∧ ztop S' = ztop S1 + 6 ∧ sB S1 S' (ztop S1) ∧ (∀ b, b < ztop S1 → im' b = im1 b) ∧ im' (ztop S1) 7 = 0 ∧ im' (ztop S1) 13 = 0 ∧ im' (ztop S1) 14 = -1 ∧ mRep (im' (ztop S1 + 1)) A0S ∧ ∀ j, im' (ztop S1 + 4) j = 0) rfl rfl (Nat.le_of_ble_eq_true rfl) ⟨by decide, by decide⟩ ⟨Nat.le_of_ble_eq_true rfl, Nat.le_of_ble_eq_true rfl⟩ dL_law_12 (i_M G rfl (fun S' im' a1 a2 a3 a4 a5 a6 a7 a8 a9 => ⟨rfl, a1, a2, a3, a4, a5, a6, a7, a8, a9⟩)) (fun v S2 im2 h => ?_)
  obtain ⟨rfl, a1, a2, a3, a4, a5, a6, a7, a8, a9⟩ := h
  rw [t1] at a1 a2 a3 a4 a5 a6 a7 a8 a9 ⊢
  refine p_astore_n (lv' := [(2, .ref (x + 87)), (1, .ref x), (0, .ref b)]) dL_law_15 rfl (by decide) rfl ?_
  refine p_iconst dL_law_16 ?_
  refine p_newL G (N := 1) (nf_r (zc_of (by omega) (by omega))) (by decide) (by decide) (Nat.le_of_ble_eq_true rfl) (Nat.le_of_ble_eq_true rfl) dL_law_17 ?_
  have t2 : ztop S2 = x + 93 := by omega
  rw [t2]
  refine p_astore_n (lv' := [(3, .ref (x + 93)), (2, .ref (x + 87)), (1, .ref x), (0, .ref b)]) dL_law_19 rfl (by decide) rfl ?_
  refine p_iconst dL_law_20 ?_
  refine p_istore (lv' := [(4, .int (zi 0)), (3, .ref (x + 93)), (2, .ref (x + 87)), (1, .ref x), (0, .ref b)]) dL_law_21 (by decide) rfl ?_
  refine p_sub (lv' := [(0, .ref b), (1, .ref x), (2, .ref (x + 87)), (3, .ref (x + 93)), (4, .int (zi 0))]) [4, 3, 2, 1, 0] rfl ?_
  exact lw_loop G hX hb hL 512 0 0 _ _ _ _ rfl (by omega) (by omega) (IJ_0 hd ex a1 t2 a3 a4 a5 a6 a7 a8 a9) (Nat.le_of_ble_eq_true rfl) (Nat.le_of_ble_eq_true rfl)
theorem whole_start {p : Program} {e : Env} {s : State} {m : MethodId} {below : List Frame} {meth : Method} {c : Code} (l : Launch) (hflags : l.flags = flags0) {b L : Nat} {xs : Nat → Int32} (hL : L ≤ 2048) (C0 : lw_At p s m meth c b L xs) : W p l e room_1 s m #[Value.ref b] below meth c s.heap [] 0 0 (lw_Z below #[Value.ref b] s) (entryFrame m ([Value.ref b] : List Value).toArray 7) := by
  obtain ⟨D, cy, G⟩ := zOK_of l hflags C0
  obtain ⟨hx, hb, hr, hml, hown, hts, hX, hbl, hlocks, hgv⟩ := C0
  have hl := lv_entry ([.ref b]) (n := 7) (Nat.le_of_ble_eq_true rfl)
  rw [lg_entry_eq]
  generalize (lg_sl ([.ref b]) ++ List.replicate (7 - (lg_sl ([.ref b])).length) Slot.unset).toArray = ls at hl ⊢
  have hl : lv_has ls 7 [(0, .ref b)] := hl
  have h := lw_body (S := (fun _ => 14, fun _ => 0, fun _ _ => none, s.heap.size)) (im := fun _ _ => 0) G (b := b) (L := L) (xs := xs) hX hbl hL p e s m #[Value.ref b] below meth c s.heap [] ls ⟨hx, hb, hml, hown, State.WarmedH.refl s, hr, hlocks, fun hh h => (by cases h), fun h => absurd h (by decide)⟩ ⟨rfl, Nat.le_refl _, fun q hq => rfl, fun a ha => absurd ha (Nat.lt_irrefl 14)⟩ (fun z h => (by cases h)) hl
  intro T hT X
  obtain ⟨t, q1, q2⟩ := h T hT X
  exact ⟨t, q1, q2 (Nat.le_refl _)⟩
end LW
