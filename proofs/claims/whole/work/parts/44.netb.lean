/-! the class's steps -/
section NB
variable {n : Nat} {x : Int} {im0 im im' : zIm} {A : aA}
theorem nS.U (h : nS n x im0 im A) {L : List aR} (f : frU (n + 18) im im') (hu : uRp im' (n + 18) (sr L)) (hw : wl L = wl A.2.1) : nS n x im0 im' (A.1, L, A.2.2) := by
  obtain ⟨hf, hx, hg, _, hwl, ho, hc⟩ := h
  refine ⟨fun b hb => by rw [f b (by omega)]; exact hf b hb, by rw [f _ (by omega)]; exact hx, hg.cong (fun b b0 b1 => f b (by omega)), hu, ?_, ho.cong (fun b b0 b1 => f b (by omega)), hc.cong (fun b b0 b1 => f b (by omega))⟩
  show qRp False im' (n + 25) (wl L)
  rw [hw]
  exact hwl.cong (fun b b0 b1 => f b (by omega))
theorem nS.W (h : nS n x im0 im A) {L : List aR} (f : frQ (n + 25) im im') (hw : qRp False im' (n + 25) (wl L)) (hu : sr L = sr A.2.1) : nS n x im0 im' (A.1, L, A.2.2) := by
  obtain ⟨hf, hx, hg, hur, _, ho, hc⟩ := h
  refine ⟨fun b hb => by rw [f b (by omega)]; exact hf b hb, by rw [f _ (by omega)]; exact hx, hg.cong (fun b b0 b1 => f b (by omega)), ?_, hw, ho.cong (fun b b0 b1 => f b (by omega)), hc.cong (fun b b0 b1 => f b (by omega))⟩
  show uRp im' (n + 18) (sr L)
  rw [hu]
  exact hur.cong (fun b b0 b1 => f b (by omega))
theorem nS.O (h : nS n x im0 im A) {L : List aR} (f : frQ (n + 30) im im') (ho : qRp False im' (n + 30) (ol L)) : nS n x im0 im' (A.1, A.2.1, A.2.2.1, L) := by
  obtain ⟨hf, hx, hg, hu, hw, _, hc⟩ := h
  exact ⟨fun b hb => by rw [f b (by omega)]; exact hf b hb, by rw [f _ (by omega)]; exact hx, hg.cong (fun b b0 b1 => f b (by omega)), hu.cong (fun b b0 b1 => f b (by omega)), hw.cong (fun b b0 b1 => f b (by omega)), ho, hc.cong (fun b b0 b1 => f b (by omega))⟩
theorem nS.C (h : nS n x im0 im A) {L : List aR} (f : frQ (n + 35) im im') (hc : qRp True im' (n + 35) L) : nS n x im0 im' (A.1, A.2.1, L, A.2.2.2) := by
  obtain ⟨hf, hx, hg, hu, hw, ho, _⟩ := h
  exact ⟨fun b hb => by rw [f b (by omega)]; exact hf b hb, by rw [f _ (by omega)]; exact hx, hg.cong (fun b b0 b1 => f b (by omega)), hu.cong (fun b b0 b1 => f b (by omega)), hw.cong (fun b b0 b1 => f b (by omega)), ho.cong (fun b b0 b1 => f b (by omega)), hc⟩
theorem ol_len (l : List aR) : (ol l).length = l.length := by unfold ol; simp
theorem rg_map {l : List aR} {f : aR → aR} {k : Nat} (h : k < l.length) : rg (l.map f) k = f (rg l k) := by
  unfold rg
  simp [List.getD_eq_getElem?_getD, List.getElem?_map, List.getElem?_eq_getElem h]
theorem ol_rg {l : List aR} {k : Nat} (h : k < l.length) : rg (ol l) k = mkC (rg l k 1) (rg l k 0) (rg l k 2) 0 := rg_map h
theorem ol_er (l : List aR) (k : Nat) : ol (l.eraseIdx k) = (ol l).eraseIdx k := by
  unfold ol
  induction l generalizing k with
  | nil => simp
  | cons y l ih =>
    cases k with
    | zero => simp
    | succ k => simp [ih]
/-- what the class's search finds -/
noncomputable def bstQ (l : List aR) (s i : Int) : Nat → Int
  | 0 => -1
  | m + 1 => @ite _ (rg l m 1 = i ∧ (s = -1 ∨ rg l m 0 = s) ∧ (bstQ l s i m = -1 ∨ rg l (bstQ l s i m).toNat 2 < rg l m 2)) (Classical.propDecidable _) (m : Int) (bstQ l s i m)
theorem bstQ_y {l : List aR} {s i : Int} {m : Nat} (h : rg l m 1 = i ∧ (s = -1 ∨ rg l m 0 = s) ∧ (bstQ l s i m = -1 ∨ rg l (bstQ l s i m).toNat 2 < rg l m 2)) : bstQ l s i (m + 1) = m := by rw [bstQ]; exact if_pos h
theorem bstQ_n {l : List aR} {s i : Int} {m : Nat} (h : ¬ (rg l m 1 = i ∧ (s = -1 ∨ rg l m 0 = s) ∧ (bstQ l s i m = -1 ∨ rg l (bstQ l s i m).toNat 2 < rg l m 2))) : bstQ l s i (m + 1) = bstQ l s i m := by rw [bstQ]; exact if_neg h
theorem bstQ_bd (l : List aR) (s i : Int) (m : Nat) : -1 ≤ bstQ l s i m ∧ bstQ l s i m < m := by
  induction m with
  | zero => rw [bstQ]; omega
  | succ m ih => rw [bstQ]; split <;> omega
theorem bstQ_C (l : List aR) (b i : Int) (hb : b ≠ -1) (m : Nat) : bstQ l b i m = bstC l b i m := by
  induction m with
  | zero => rw [bstQ, bstC]
  | succ m ih =>
    by_cases h : rg l m 0 = b ∧ rg l m 1 = i ∧ (bstC l b i m = -1 ∨ rg l (bstC l b i m).toNat 2 < rg l m 2)
    · rw [bstC, if_pos h, bstQ_y ⟨h.2.1, Or.inr h.1, by rw [ih]; exact h.2.2⟩]
    · rw [bstC, if_neg h, bstQ_n (fun hh => h ⟨hh.2.1.resolve_left hb, hh.1, by rw [← ih]; exact hh.2.2⟩), ih]
theorem bstQ_O (l : List aR) (i : Int) (m : Nat) (hm : m ≤ l.length) : bstQ (ol l) (-1) i m = bstO l i m := by
  induction m with
  | zero => rw [bstQ, bstO]
  | succ m ih =>
    have ih := ih (by omega)
    have e1 : rg (ol l) m 1 = rg l m 0 := by rw [ol_rg (by omega)]; rfl
    have e2 : rg (ol l) m 2 = rg l m 2 := by rw [ol_rg (by omega)]; rfl
    have bd := bstO_bd l i m
    have e3 : (bstO l i m = -1 ∨ rg (ol l) (bstO l i m).toNat 2 < rg l m 2) ↔ (bstO l i m = -1 ∨ rg l (bstO l i m).toNat 2 < rg l m 2) := by
      by_cases h : bstO l i m = -1
      · simp [h]
      · rw [ol_rg (by omega)]; exact Iff.rfl
    by_cases h : rg l m 0 = i ∧ (bstO l i m = -1 ∨ rg l (bstO l i m).toNat 2 < rg l m 2)
    · rw [bstO, if_pos h, bstQ_y ⟨by rw [e1]; exact h.1, Or.inl rfl, by rw [ih, e2]; exact e3.2 h.2⟩]
    · rw [bstO, if_neg h, bstQ_n (fun hh => h ⟨by rw [← e1]; exact hh.1, by have := hh.2.2; rw [ih, e2] at this; exact e3.1 this⟩), ih]
theorem bstQ_app {l : List aR} {u : aR} {s i : Int} {m : Nat} (hm : m ≤ l.length) : bstQ (l ++ [u]) s i m = bstQ l s i m := by
  induction m with
  | zero => rw [bstQ, bstQ]
  | succ m ih =>
    have ih := ih (by omega)
    have bd := bstQ_bd l s i m
    have e0 : rg (l ++ [u]) m = rg l m := rg_app_l (by omega)
    have e3 : (bstQ l s i m = -1 ∨ rg (l ++ [u]) (bstQ l s i m).toNat 2 < rg l m 2) ↔ (bstQ l s i m = -1 ∨ rg l (bstQ l s i m).toNat 2 < rg l m 2) := by
      by_cases h : bstQ l s i m = -1
      · simp [h]
      · rw [rg_app_l (by omega)]
    by_cases h : rg l m 1 = i ∧ (s = -1 ∨ rg l m 0 = s) ∧ (bstQ l s i m = -1 ∨ rg l (bstQ l s i m).toNat 2 < rg l m 2)
    · rw [bstQ_y h, bstQ_y ⟨by rw [e0]; exact h.1, by rw [e0]; exact h.2.1, by rw [ih, e0]; exact e3.2 h.2.2⟩]
    · rw [bstQ_n h, bstQ_n (fun hh => h ⟨by rw [← e0]; exact hh.1, by rw [← e0]; exact hh.2.1, by have := hh.2.2; rw [ih, e0] at this; exact e3.1 this⟩), ih]
theorem fstP_cong {p q : Nat → Prop} {m : Nat} (h : ∀ j, j < m → (p j ↔ q j)) : fstP p m = fstP q m := by
  induction m with
  | zero => rw [fstP, fstP]
  | succ m ih =>
    have ih := ih (fun j hj => h j (by omega))
    have := h m (by omega)
    by_cases e : fstP q m = -1
    · by_cases hq : q m
      · rw [fstP_y e hq, fstP_y (by rw [ih]; exact e) (this.2 hq)]
      · rw [fstP_n hq, fstP_n (fun hh => hq (this.1 hh)), ih]
    · rw [fstP_k e, fstP_k (by rw [ih]; exact e), ih]
theorem wl_z {l : List aR} {k : Nat} (h : k < (wl l).length) : rg (wl l) k 0 = 0 ∧ rg (wl l) k 2 = 0 := by
  have := rg_mem h
  unfold wl at this ⊢
  obtain ⟨y, _, e⟩ := List.mem_map.1 this
  rw [← e]
  exact ⟨rfl, rfl⟩
/-- the first waiting unit of an item, in the one order and in the other -/
theorem wl_fst (i : Int) (l : List aR) : (fstP (fun k => rg l k 0 = 4 ∧ rg l k 1 = i) l.length = -1 ∧ bstQ (wl l) 0 i (wl l).length = -1) ∨ (∃ f b : Nat, fstP (fun k => rg l k 0 = 4 ∧ rg l k 1 = i) l.length = f ∧ bstQ (wl l) 0 i (wl l).length = b ∧ f < l.length ∧ b < (wl l).length ∧ wl (l.eraseIdx f) = (wl l).eraseIdx b) := by
  induction l using rev_ind with
  | h0 => left; exact ⟨by rw [List.length_nil, fstP], by unfold wl; simp; rw [bstQ]⟩
  | h1 l u ih =>
    have ec : fstP (fun k => rg (l ++ [u]) k 0 = 4 ∧ rg (l ++ [u]) k 1 = i) l.length = fstP (fun k => rg l k 0 = 4 ∧ rg l k 1 = i) l.length := fstP_cong (fun j hj => by rw [rg_app_l hj])
    have el : (l ++ [u]).length = l.length + 1 := by simp
    rw [el]
    by_cases w : u 0 = 4
    · have elw : (wl l ++ [mkC 0 (u 1) 0 0]).length = (wl l).length + 1 := by simp
      have ew : rg (wl l ++ [mkC 0 (u 1) 0 0]) (wl l).length = mkC 0 (u 1) 0 0 := rg_app_r
      rw [wl_app_w w, elw]
      have eb := bstQ_app (l := wl l) (u := mkC 0 (u 1) 0 0) (s := 0) (i := i) (m := (wl l).length) (Nat.le_refl _)
      rcases ih with ⟨h1, h2⟩ | ⟨f, b, h1, h2, h3, h4, h5⟩
      · by_cases hi : u 1 = i
        · right
          refine ⟨l.length, (wl l).length, fstP_y (by rw [ec]; exact h1) (by rw [rg_app_r]; exact ⟨w, hi⟩), bstQ_y (by rw [ew, eb, h2]; exact ⟨hi, Or.inr rfl, Or.inl rfl⟩), by omega, by omega, ?_⟩
          rw [er_app_r, er_app_r]
        · left
          refine ⟨by rw [fstP_n (by rw [rg_app_r]; exact fun hh => hi hh.2), ec]; exact h1, by rw [bstQ_n (by rw [ew]; exact fun hh => hi hh.1), eb]; exact h2⟩
      · right
        refine ⟨f, b, by rw [fstP_k (by rw [ec, h1]; omega), ec]; exact h1, ?_, by omega, by omega, ?_⟩
        · rw [bstQ_n (by rw [ew, eb, h2, Int.toNat_natCast, rg_app_l h4, (wl_z h4).2]; exact fun hh => hh.2.2.elim (fun h => by omega) (fun h => by unfold mkC at h; simp at h)), eb]
          exact h2
        · rw [er_app_l h3, er_app_l h4, wl_app_w w, h5]
    · rw [wl_app_u w]
      rcases ih with ⟨h1, h2⟩ | ⟨f, b, h1, h2, h3, h4, h5⟩
      · left
        exact ⟨by rw [fstP_n (by rw [rg_app_r]; exact fun hh => w hh.1), ec]; exact h1, h2⟩
      · right
        refine ⟨f, b, by rw [fstP_k (by rw [ec, h1]; omega), ec]; exact h1, h2, by omega, h4, ?_⟩
        rw [er_app_l h3, wl_app_u w, h5]
end NB
section NC
variable {g : zG} {S : zSh} {n : Nat} {x : Int} {im0 im : zIm} {A : aA}
theorem c_cell (G : zOK g) {s i : Int} {Q : Int → zIm → Prop} (s0 : 0 ≤ s) (s1 : s < 8) (i0 : 0 ≤ i) (i1 : i < 4) (hq : Q (4 * s + i) im) : zCI g yX7_cell M_X7_cell [.int (zi s), .int (zi i)] S im Q := by
  refine v_X7_cell G (zc_of (by omega) (by omega)) (zc_of (by omega) (by omega)) ?_
  rw [zw_of (by omega) (by omega), Int.mul_comm s 4]
  exact hq
theorem c_linkTime (G : zOK g) (hS : zS_N S n) (hM : nS n x im0 im A) {b o : Int} {Q : Int → zIm → Prop} (b0 : 0 ≤ b) (b1 : b < 8) (o0 : 0 ≤ o) (o1 : o < 8) (hq : Q (A.1 (28 + 8 * b + o)) im) : zCI g yX4_linkTime M_X4_linkTime [.ref (n + 3), .int (zi b), .int (zi o)] S im Q := by
  refine v_X4_linkTime G (zN_S hS) (zc_of (by omega) (by omega)) (zc_of (by omega) (by omega)) ?_
  rw [zw_of (by omega) (by omega), Int.mul_comm b 8, show n + 3 + 5 = n + 8 from rfl, hM.lk b0 b1 o0 o1]
  exact ⟨⟨by omega, by omega⟩, hq⟩
theorem c_first_loop (G : zOK g) {u : Nat} (hS : zS_Q S u) {sn : Prop} {R : List aR} (hR : qRp sn im u R) (hl : R.length < 300) {s i : Int} (cs : zc s) (ci : zc i) {Q : Int → zIm → Prop} (hQ : Q (bstQ R s i R.length) im) :
    ∀ (f k : Nat), k + f = R.length → zPI g M_X3_firstOf 5 [(0, .ref u), (1, .int (zi s)), (2, .int (zi i)), (3, .int (zi (bstQ R s i k))), (4, .int (zi k))] S im Q := by
  have e0 := hR.1
  intro f
  induction f with
  | zero =>
    intro k hk
    have bd := bstQ_bd R s i k
    refine v_X3_firstOf_5 G hS cs ci (zc_of (by omega) (by omega)) (zc_of (by omega) (by omega)) ⟨fun _ => ?_, fun h => absurd h (by omega)⟩
    rw [show k = R.length from by omega]
    exact hQ
  | succ f ih =>
    intro k hk
    have bd := bstQ_bd R s i k
    have st := ih (k + 1) (by omega)
    have hw := hR.2 k (by omega)
    have sn := fun (hn) => (bstQ_n (l := R) (s := s) (i := i) (m := k) hn) ▸ st
    have sy := fun (hn) => (bstQ_y (l := R) (s := s) (i := i) (m := k) hn) ▸ st
    have b : 0 ≤ (k : Int) ∧ (k : Int) < 300 := by omega
    refine v_X3_firstOf_5 G hS cs ci (zc_of (by omega) (by omega)) (zc_of (by omega) (by omega)) ⟨fun h => absurd h (by omega), fun _ => ?_⟩
    rw [zwS (k := k) (by omega), hw.1, hw.2.1, hw.2.2.1]
    have cmp (h2 : ¬ bstQ R s i k = -1) : (0 ≤ bstQ R s i k ∧ bstQ R s i k < 300) ∧ im (u + 3) (bstQ R s i k) = rg R (bstQ R s i k).toNat 2 := by
      refine ⟨by omega, ?_⟩
      have := (hR.2 (bstQ R s i k).toNat (by omega)).2.2.1
      rw [← this]
      congr 1
      omega
    refine ⟨b, fun h1 => sn (fun hh => h1 hh.1), fun h1 => ⟨fun h2 => ⟨fun h3 => sy ⟨h1, Or.inl h2, Or.inl h3⟩, fun h3 => ⟨b, (cmp h3).1, fun h4 => ?_, fun h4 => ?_⟩⟩, fun h2 => ⟨b, fun h3 => sn (fun hh => hh.2.1.elim h2 h3), fun h3 => ⟨fun h4 => sy ⟨h1, Or.inr h3, Or.inl h4⟩, fun h4 => ⟨b, (cmp h4).1, fun h5 => ?_, fun h5 => ?_⟩⟩⟩⟩⟩
    · rw [(cmp h3).2] at h4
      exact sn (fun hh => hh.2.2.elim h3 (fun h => by omega))
    · rw [(cmp h3).2] at h4
      exact sy ⟨h1, Or.inl h2, Or.inr h4⟩
    · rw [(cmp h4).2] at h5
      exact sn (fun hh => hh.2.2.elim h4 (fun h => by omega))
    · rw [(cmp h4).2] at h5
      exact sy ⟨h1, Or.inr h3, Or.inr h5⟩
theorem c_firstOf (G : zOK g) {u : Nat} (hS : zS_Q S u) {sn : Prop} {R : List aR} (hR : qRp sn im u R) (hl : R.length < 300) {s i : Int} (cs : zc s) (ci : zc i) {Q : Int → zIm → Prop} (hQ : Q (bstQ R s i R.length) im) : zCI g yX3_firstOf M_X3_firstOf [.ref u, .int (zi s), .int (zi i)] S im Q :=
  v_X3_firstOf G hS cs ci (c_first_loop G hS hR hl cs ci hQ _ 0 (Nat.zero_add _))
/-- a unit under way is added -/
theorem n_app (G : zOK g) (hS : zS_N S n) (hM : nS n x im0 im A) (hU : A.2.1.length < 300) {k i s o d l : Int} {Q : zIm → Prop} (ck : zc k) (ci : zc i) (cs : zc s) (co : zc o) (cd : zc d) (cl : zc l) (h4 : k ≠ 4) (hQ : ∀ im', nS n x im0 im' (aApp A (mkU k i s o d l)) → Q im') : zCV g yX6_add M_X6_add [.ref (n + 18), .int (zi d), .int (zi k), .int (zi i), .int (zi s), .int (zi o), .int (zi l)] S im Q := by
  have hl := sr_wl_len A.2.1
  have hk : (mkU k i s o d l) 0 ≠ 4 := h4
  refine c_addU G (zN_U hS) cd ck ci cs co cl (by omega) hM.2.2.2.1 (fun im' f r => hQ im' ?_)
  exact hM.U (L := A.2.1 ++ [mkU k i s o d l]) f (by rw [sr_app_u hk]; exact r) (wl_app_u hk)
theorem n_wait (G : zOK g) (hS : zS_N S n) (hM : nS n x im0 im A) (hU : A.2.1.length < 300) {i d : Int} {Q : zIm → Prop} (ci : zc i) (cd : zc d) (hQ : ∀ im', nS n x im0 im' (aApp A (mkU 4 i 0 0 0 0)) → Q im') : zCV g yX3_add M_X3_add [.ref (n + 25), .int (zi 0), .int (zi i), .int (zi 0), .int (zi d)] S im Q := by
  have hl := sr_wl_len A.2.1
  have hk : (mkU 4 i 0 0 0 0) 0 = 4 := rfl
  refine c_addQ G (zN_W hS) zc_0 ci zc_0 cd (by omega) hM.2.2.2.2.1 (fun im' f r => hQ im' ?_)
  refine hM.W (L := A.2.1 ++ [mkU 4 i 0 0 0 0]) f ?_ (sr_app_w hk)
  rw [wl_app_w hk]
  refine r.eqv (by simp) (fun j hj => ?_)
  rw [List.length_append, List.length_singleton] at hj
  by_cases e : j = (wl A.2.1).length
  · rw [e, rg_app_r, rg_app_r]; exact ⟨rfl, rfl, rfl⟩
  · rw [rg_app_l (by omega), rg_app_l (by omega)]; exact ⟨rfl, rfl, rfl⟩
theorem n_sup (G : zOK g) (hS : zS_N S n) (hM : nS n x im0 im A) (hg : gB A.1) (hU : A.2.1.length < 300) {b i : Int} {Q : zIm → Prop} (hb : kB A b) (ci : zc i) (hQ : ∀ im', nS n x im0 im' (aSup A b i) → Q im') : ((0 ≤ b ∧ b < 8) ∧ zCV g yX6_add M_X6_add [.ref (n + 18), .int (zi (zw ((im n 0) + (im (n + 7) b)))), .int (zi 2), .int (zi i), .int (zi b), .int (zi b), .int (zi 0)] S im Q) := by
  have hb' := hb
  unfold kB at hb'
  have g3 := hg.2.2.2.1
  rw [hM.d, hM.ld hb]
  exact ⟨by omega, n_app G hS hM hU (zc_of (by omega) (by omega)) ci (zc_of (by omega) (by omega)) (zc_of (by omega) (by omega)) (zc_zw _) zc_0 (by omega) hQ⟩
theorem n_fill (G : zOK g) (hS : zS_N S n) (hM : nS n x im0 im A) {lo : Int} (hB : aB lo A) (hU : A.2.1.length < 300) (hO : A.2.2.2.length < 300) {i : Int} {Q : zIm → Prop} (hi : kI A i) (hQ : ∀ im', nS n x im0 im' (aFill A i) → Q im') : zCV g yX2_stockDepot M_X2_stockDepot [.ref n, .int (zi i)] S im Q := by
  have g2 := hB.1.2.2.1
  have g3 := hB.1.2.2.2.1
  have hi' := hi
  unfold kI at hi'
  have bd := bO_bd A i
  refine v_X2_stockDepot G hS (zc_of (by omega) (by omega)) ?_
  refine c_firstOf G (zN_O hS) hM.2.2.2.2.2.1 (by rw [ol_len]; exact hO) (zc_of (by omega) (by omega)) (zc_of (by omega) (by omega)) ?_
  rw [ol_len, bstQ_O _ _ _ (Nat.le_refl _)]
  show (¬ bO A i = -1 → _) ∧ (bO A i = -1 → _)
  unfold aFill at hQ
  refine ⟨fun h => ?_, fun h => ?_⟩
  · rw [if_neg h] at hQ
    obtain ⟨m, hm⟩ : ∃ m : Nat, bO A i = m := ⟨(bO A i).toNat, by omega⟩
    have hm' : bstO A.2.2.2 i A.2.2.2.length = m := hm
    rw [hm, Int.toNat_natCast] at hQ
    rw [hm']
    have ho := hB.2.2.2 _ (rg_mem (l := A.2.2.2) (k := m) (by omega))
    have ho' := ho
    unfold oB at ho'
    have q := (hM.2.2.2.2.2.1.2 m (by rw [ol_len]; omega)).1
    rw [ol_rg (by omega)] at q
    have q' : im (n + 31) m = rg A.2.2.2 m 1 := q
    refine ⟨⟨by omega, by omega⟩, ?_⟩
    refine c_removeQ G (zN_O hS) (by rw [ol_len]; exact hO) (by rw [ol_len]; omega) hM.2.2.2.2.2.1 (fun im1 f1 r1 => ?_)
    rw [q']
    have h1 := hM.O (L := A.2.2.2.eraseIdx m) f1 (by rw [ol_er]; exact r1)
    exact n_sup G hS h1 hB.1 hU ⟨ho'.2.2.1, ho'.2.2.2.1⟩ (zc_of (by omega) (by omega)) hQ
  · rw [if_pos h] at hQ
    refine c_cell G (by omega) (by omega) hi'.1 (by omega) ⟨⟨by omega, by omega⟩, fun im1 e1 => hQ im1 ?_⟩
    rw [hM.t (c := 2) (t := 124) (by unfold tP; omega) (by omega) (by omega) hi'.1 (by omega)] at e1
    exact hM.ut hB.1 (c := 2) (t := 124) (by unfold tP; omega) (by omega) (by omega) hi'.1 (by omega) e1
theorem n_come (G : zOK g) (hS : zS_N S n) (hM : nS n x im0 im A) {lo : Int} (hB : aB lo A) (hC : A.2.2.1.length < 300) {b i : Int} {Q : zIm → Prop} (hb : kB A b) (hi : kI A i) (hQ : ∀ im', nS n x im0 im' (aCome A b i) → Q im') : zCV g yX2_stockBase M_X2_stockBase [.ref n, .int (zi b), .int (zi i)] S im Q := by
  have g2 := hB.1.2.2.1
  have g3 := hB.1.2.2.2.1
  have hi' := hi
  have hb' := hb
  unfold kI at hi'
  unfold kB at hb'
  have bd := bC_bd A b i
  refine v_X2_stockBase G hS (zc_of (by omega) (by omega)) (zc_of (by omega) (by omega)) ?_
  refine c_cell G (by omega) (by omega) hi'.1 (by omega) ?_
  refine c_firstOf G (zN_C hS) hM.2.2.2.2.2.2 hC (zc_of (by omega) (by omega)) (zc_of (by omega) (by omega)) ?_
  rw [bstQ_C _ _ _ (by omega)]
  show (¬ bC A b i = -1 → _) ∧ (bC A b i = -1 → _)
  unfold aCome at hQ
  refine ⟨fun h => ?_, fun h => ?_⟩
  · rw [if_neg h] at hQ
    obtain ⟨m, hm⟩ : ∃ m : Nat, bC A b i = m := ⟨(bC A b i).toNat, by omega⟩
    have hm' : bstC A.2.2.1 b i A.2.2.1.length = m := hm
    rw [hm, Int.toNat_natCast] at hQ
    rw [hm']
    have q : im (n + 39) m = rg A.2.2.1 m 3 := (hM.2.2.2.2.2.2.2 m (by omega)).2.2.2 trivial
    refine ⟨⟨by omega, by omega⟩, ⟨by omega, by omega⟩, fun im1 e1 => ?_⟩
    rw [hM.t (c := 15) (t := 316) (by unfold tP; omega) (by omega) (by omega) hi'.1 (by omega), hM.d, q] at e1
    have h1 := hM.ut hB.1 (c := 15) (t := 316) (by unfold tP; omega) (by omega) (by omega) hi'.1 (by omega) e1
    refine c_removeQ G (zN_C hS) (R := A.2.2.1) hC (by omega) h1.2.2.2.2.2.2 (fun im2 f2 r2 => hQ im2 ?_)
    exact h1.C (L := A.2.2.1.eraseIdx m) f2 r2
  · rw [if_pos h] at hQ
    refine ⟨⟨by omega, by omega⟩, fun im1 e1 => hQ im1 ?_⟩
    rw [hM.t (c := 2) (t := 124) (by unfold tP; omega) (by omega) (by omega) hi'.1 (by omega)] at e1
    exact hM.ut hB.1 (c := 2) (t := 124) (by unfold tP; omega) (by omega) (by omega) hi'.1 (by omega) e1
end NC
