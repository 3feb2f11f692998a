/-! saved states -/
section PVD
variable {g : zG} {S : zSh} {im : zIm} {j x m o an as : Nat} {A : aA} {X : aX}
theorem r_save (G : zOK g) (hS : zS_M S m) {p : Int} (cp : zc p) {Q : zIm → Prop} (h0 : 0 ≤ p → p ≤ 1 → ∀ im', (∀ b, b ≠ m → b ≠ m + 3 → b ≠ m + 4 → im' b = im b) → (∀ f, f ≠ 4 → im' m f = im m f) → im' m 4 = 0 → im' (m + 3) = (fun i => if 7692 * p ≤ i ∧ i < 7692 * p + 7692 then im (m + 1) (0 + (i - 7692 * p)) else im (m + 3) i) → im' (m + 4) = zup (im (m + 4)) p 1 → Q im') (h1 : ¬ (0 ≤ p ∧ p ≤ 1) → ∀ im', (∀ b, b ≠ m → im' b = im b) → (∀ f, f ≠ 4 → im' m f = im m f) → im' m 4 = 1 → Q im') : zCV g yX8_save M_X8_save [.ref m, .int (zi p)] S im Q := by
  have l1 : zln S (m + 1) = 7692 := (hS 1 (by decide)).2.1
  have l3 : zln S (m + 3) = 15384 := (hS 3 (by decide)).2.1
  refine v_X8_save G hS cp ?_
  refine c_between G cp zc_0 (zc_of (by omega) (by omega)) (fun p0 p1 => ⟨fun h => absurd h (by decide), fun _ im4 e4 => ⟨fun h => ?_, fun _ => ?_⟩⟩) (fun hp => ⟨fun _ im4 e4 => ⟨fun _ => h1 (by omega) im4 (fun b hb => by rw [e4, zst_n hb]) (fun f hf => by rw [e4, zst_o hf]) (by rw [e4, zst_s]), fun h => ?_⟩, fun h => absurd rfl h⟩)
  · rw [e4, zst_s] at h; exact absurd rfl h
  · rw [zw_of (by omega) (by omega)]
    refine c_copy G (hS 1 (by decide)).1 (hS 3 (by decide)).1 (by omega) (by omega) (by omega) (by omega) (by omega) (by omega) (by omega) ⟨⟨by omega, by omega⟩, fun im9 e9 => ?_⟩
    refine h0 p0 p1 im9 (fun b b0 b1 b2 => by rw [e9, zst_n b2, zsr_n b1, e4, zst_n b0]) (fun f hf => by rw [e9, zst_n (by omega), zsr_n (by omega), e4, zst_o hf]) (by rw [e9, zst_n (by omega), zsr_n (by omega), e4, zst_s]) ?_ ?_
    · rw [e9, zst_n (by omega), zsr_s, e4, zst_n (by omega), zst_n (by omega)]
    · rw [e9, zst_df, zsr_s, zsr_n (by omega), e4, zst_n (by omega)]
  · rw [e4, zst_s] at h; exact absurd h (by decide)
theorem r_restore (G : zOK g) (hS : zS_M S m) {p : Int} (cp : zc p) {Q : zIm → Prop} (h0 : 0 ≤ p → p ≤ 1 → im (m + 4) p ≠ 0 → ∀ im', (∀ b, b ≠ m → b ≠ m + 1 → im' b = im b) → (∀ f, f ≠ 4 → im' m f = im m f) → im' m 4 = 0 → im' (m + 1) = (fun i => if 0 ≤ i ∧ i < 0 + 7692 then im (m + 3) (7692 * p + (i - 0)) else im (m + 1) i) → Q im') (h2 : 0 ≤ p → p ≤ 1 → im (m + 4) p = 0 → ∀ im', (∀ b, b ≠ m → im' b = im b) → (∀ f, f ≠ 4 → im' m f = im m f) → im' m 4 = 2 → Q im') (h1 : ¬ (0 ≤ p ∧ p ≤ 1) → ∀ im', (∀ b, b ≠ m → im' b = im b) → (∀ f, f ≠ 4 → im' m f = im m f) → im' m 4 = 1 → Q im') : zCV g yX8_restore M_X8_restore [.ref m, .int (zi p)] S im Q := by
  have l1 : zln S (m + 1) = 7692 := (hS 1 (by decide)).2.1
  have l3 : zln S (m + 3) = 15384 := (hS 3 (by decide)).2.1
  refine v_X8_restore G hS cp ?_
  refine c_between G cp zc_0 (zc_of (by omega) (by omega)) (fun p0 p1 => ⟨fun _ => ⟨⟨by omega, by omega⟩, fun hf im6 e6 => ⟨fun h => ?_, fun _ => ?_⟩, fun hf im6 e6 => ⟨fun _ => h2 p0 p1 hf im6 (fun b hb => by rw [e6, zst_n hb]) (fun f hf => by rw [e6, zst_o hf]) (by rw [e6, zst_s]), fun h => ?_⟩⟩, fun h => absurd h (by decide)⟩) (fun hp => ⟨fun h => absurd rfl h, fun _ im4 e4 => ⟨fun _ => h1 (by omega) im4 (fun b hb => by rw [e4, zst_n hb]) (fun f hf => by rw [e4, zst_o hf]) (by rw [e4, zst_s]), fun h => ?_⟩⟩)
  · rw [e6, zst_s] at h; exact absurd rfl h
  · rw [zw_of (by omega) (by omega)]
    refine c_copy G (hS 3 (by decide)).1 (hS 1 (by decide)).1 (by omega) (by omega) (by omega) (by omega) (by omega) (by omega) (by omega) (h0 p0 p1 hf _ (fun b b0 b1 => by rw [zsr_n b1, e6, zst_n b0]) (fun f hf => by rw [zsr_n (by omega), e6, zst_o hf]) (by rw [zsr_n (by omega), e6, zst_s]) ?_)
    rw [zsr_s, e6, zst_n (by omega), zst_n (by omega)]
  · rw [e6, zst_s] at h; exact absurd h (by decide)
  · rw [e4, zst_s] at h; exact absurd h (by decide)
/-- a state saved in slot k, in block b -/
theorem IJ.sav {S' : zSh} {im2 im' : zIm} {k b : Nat} (h : IJ j x m o an as A X S im) (hk : k < 2) (hs : ∀ c, c < ztop S → zkd S' c = zkd S c ∧ zln S' c = zln S c ∧ (c ≠ x + 83 → zrf S' c = zrf S c)) (ht : ztop S ≤ ztop S') (hr : ∀ i, zrf S' (x + 83) i = if i = k then some b else zrf S (x + 83) i) (b0 : x + 94 ≤ b) (b1 : b + 41 ≤ ztop S') (hN : zS_N S' b) (hdj : ∀ c, c + 41 ≤ ztop S → zrf S (x + 83) (1 - k) = some c → b + 41 ≤ c ∨ c + 41 ≤ b) (f2 : ∀ c, c < ztop S → (c < b ∨ b + 41 ≤ c) → im2 c = im c) (n2 : nRep im2 b A) (f' : ∀ c, c ≠ m → c ≠ m + 3 → c ≠ m + 4 → im' c = im2 c) (fm : ∀ f, f ≠ 4 → im' m f = im2 m f) (e3 : im' (m + 3) = (fun i => if 7692 * (k : Int) ≤ i ∧ i < 7692 * (k : Int) + 7692 then im2 (m + 1) (0 + (i - 7692 * (k : Int))) else im2 (m + 3) i)) (e4 : im' (m + 4) = zup (im2 (m + 4)) k 1) : Inv (j + 1) x m o S' im' := by
  obtain ⟨⟨l1, l2, l3⟩, ⟨o1, o2⟩, hm, ha, ⟨d1, d2, d3, d4, d5, d6, d7, d8, d9, d10⟩, hn, hr0, hw, ⟨x1, x2, x3⟩, ⟨w1, w2⟩, hs1, hs2⟩ := h
  have fr (c : Nat) (c0 : c < x + 94) (c1 : c ≠ m) (c2 : c ≠ m + 3) (c3 : c ≠ m + 4) : im' c = im c := by rw [f' c c1 c2 c3]; exact f2 c (by omega) (by omega)
  have gm (f : Int) (hf : f ≠ 4) : im' m f = im m f := by rw [fm f hf, f2 m (by omega) (by omega)]
  have q1 : im2 (m + 1) = im (m + 1) := f2 _ (by omega) (by omega)
  have q3 : im2 (m + 3) = im (m + 3) := f2 _ (by omega) (by omega)
  have q4 : im2 (m + 4) = im (m + 4) := f2 _ (by omega) (by omega)
  have et := fr (x + 84) (by omega) (by omega) (by omega) (by omega)
  have et1 := fr (x + 84 + 1) (by omega) (by omega) (by omega) (by omega)
  have shp {c N : Nat} {T : Nat → Nat × Nat × (Nat → Option Nat)} (h : zShp S c N T) (hc : c + N ≤ ztop S) (hx : x + 83 < c ∨ c + N ≤ x + 83) : zShp S' c N T := by
    intro d hd
    have e := hs (c + d) (by omega)
    rw [e.1, e.2.1, e.2.2 (by omega)]
    exact h d hd
  have ex := hs x (by omega)
  have ev := hs (x + 83) (by omega)
  have eo := hs o (by omega)
  have exr := ex.2.2 (by omega)
  have mm : mRep (im' (m + 1)) A := by rw [fr _ (by omega) (by omega) (by omega) (by omega)]; exact hr0
  refine ⟨an, as, A, X, ⟨l1, l2, by omega⟩, ⟨by rw [eo.1]; exact o1, by rw [eo.2.1]; exact o2⟩, shp hm (by omega) (by omega), ha, ⟨by rw [ex.1]; exact d1, by rw [exr]; exact d2, by rw [exr]; exact d3, by rw [exr]; exact d4, by rw [exr]; exact d5, shp d6 (by omega) (by omega), shp d7 (by omega) (by omega), shp d8 (by omega) (by omega), by rw [ev.1]; exact d9, by rw [ev.2.1]; exact d10⟩, hn.cong (fun c c0 c1 => fr c (by omega) (by omega) (by omega) (by omega)), mm, hw.mono (by omega), ⟨x1, ⟨by rw [et]; exact x2.1, fun i i0 i1 => by rw [et1]; exact x2.2 i i0 i1⟩, ⟨by rw [gm 7 (by omega)]; exact x3.1, fun i i0 i1 => by rw [fr (m + 5) (by omega) (by omega) (by omega) (by omega)]; exact x3.2 i i0 i1⟩⟩, ⟨by rw [gm 13 (by omega), et]; exact w1, by rw [gm 14 (by omega), et]; exact w2⟩, fun i hi => ?_, ?_⟩
  · by_cases e : i = k
    · subst e
      refine Or.inr ⟨b, A, by rw [hr, if_pos rfl], by rw [e4, zup_s], b0, b1, hN, n2.cong (fun c c0 c1 => f' c (by omega) (by omega) (by omega)), ?_, hw.mono (by omega)⟩
      refine hr0.cong hw.fit (fun i' i0 i1 => ?_)
      show im' (m + 3) (7692 * (i : Int) + i') = _
      rw [e3]
      dsimp only
      rw [if_pos (by omega), q1]
      congr 1
      omega
    · have ei : i = 1 - k := by omega
      rcases hs1 i hi with ⟨a, c⟩ | ⟨c, B, k1, k2, k3, k4, k5, k6, k7, k8⟩
      · refine Or.inl ⟨by rw [hr, if_neg e]; exact a, ?_⟩
        rw [e4, zup_n (by omega), q4]; exact c
      · have dj := hdj c k4 (by rw [← ei]; exact k1)
        refine Or.inr ⟨c, B, by rw [hr, if_neg e]; exact k1, by rw [e4, zup_n (by omega), q4]; exact k2, k3, by omega, shp k5 k4 (by omega), k6.cong (fun d dd0 dd1 => by rw [f' d (by omega) (by omega) (by omega)]; exact f2 d (by omega) (by omega)), ?_, k8.mono (by omega)⟩
        refine k7.cong k8.fit (fun i' i0 i1 => ?_)
        show im' (m + 3) (7692 * (i : Int) + i') = im (m + 3) (7692 * (i : Int) + i')
        rw [e3]
        dsimp only
        rw [if_neg (by omega), q3]
  · intro c c' hc hc'
    rw [hr] at hc hc'
    have : k = 0 ∨ k = 1 := by omega
    rcases this with rfl | rfl
    · rw [if_pos rfl] at hc
      rw [if_neg (by decide)] at hc'
      have hb : b = c := Option.some.inj hc
      subst hb
      rcases hs1 1 (by decide) with ⟨a, _⟩ | ⟨c2, B, k1, _, _, k4, _⟩
      · rw [a] at hc'; cases hc'
      · have : c2 = c' := Option.some.inj (k1.symm.trans hc')
        subst this
        exact hdj c2 k4 k1
    · rw [if_neg (by decide)] at hc
      rw [if_pos rfl] at hc'
      have hb : b = c' := Option.some.inj hc'
      subst hb
      rcases hs1 0 (by decide) with ⟨a, _⟩ | ⟨c2, B, k1, _, _, k4, _⟩
      · rw [a] at hc; cases hc
      · have : c2 = c := Option.some.inj (k1.symm.trans hc)
        subst this
        exact (hdj c2 k4 k1).symm
theorem pv_43 (G : zOK g) (hI : Inv j x m o S im) (hj : j ≤ 600) {s1 : Int} (c1 : zc s1) :
    (zkd S x = 7 ∧ zCW g yL_save M_L_save [(0, 5, 8, 13)] [.ref x, .int (zi s1)] S im (zQW (fun r2 S3 im4 => (zkd S3 m = 8 ∧ zCV g yX8_save M_X8_save [.ref m, .int (zi s1)] S3 im4 (fun im7 => zCI g yX8_thrown M_X8_thrown [.ref m] S3 im7 (fun r10 im9 => ((r10 = r2 → Inv (j + 1) x m o S3 im9) ∧ (¬ r10 = r2 → False))))))) zX0) := by
  obtain ⟨an, as, A, X, h⟩ := hI
  have hd := h.dep
  have hM := h.bd
  have hW := h.w
  have hG := hW.1.1
  have hF := hW.fit
  have sz := hW.sz
  have l := h.loc
  have l3 := h.two
  obtain ⟨⟨l1, l2, lt⟩, _, hm, ha, ⟨d1, d2, d3, d4, d5, d6, d7, d8, d9, d10⟩, hn, hr0, hw, _, _, hs1, hs2⟩ := id h
  have hl := sr_wl_len A.2.1
  refine ⟨d1, v_L_save G d1 c1 (v_X7_save G c1 ?_)⟩
  refine k_range G c1 zc_0 (zc_of (by omega) (by omega)) (fun p0 p1 => ?_) (fun hp => ⟨rfl, ?_⟩)
  · obtain ⟨k, ek⟩ : ∃ k : Nat, s1 = k := ⟨s1.toNat, by omega⟩
    subst ek
    have hk : k < 2 := by omega
    have tail (S' : zSh) (im2 : zIm) (hS' : zS_M S' m) (fin : ∀ im', (∀ c, c ≠ m → c ≠ m + 3 → c ≠ m + 4 → im' c = im2 c) → (∀ f, f ≠ 4 → im' m f = im2 m f) → im' (m + 3) = (fun i => if 7692 * (k : Int) ≤ i ∧ i < 7692 * (k : Int) + 7692 then im2 (m + 1) (0 + (i - 7692 * (k : Int))) else im2 (m + 3) i) → im' (m + 4) = zup (im2 (m + 4)) k 1 → Inv (j + 1) x m o S' im') : (zkd S' m = 8 ∧ zCV g yX8_save M_X8_save [.ref m, .int (zi (k : Int))] S' im2 (fun im7 => zCI g yX8_thrown M_X8_thrown [.ref m] S' im7 (fun r10 im9 => ((r10 = 0 → Inv (j + 1) x m o S' im9) ∧ (¬ r10 = 0 → False))))) := by
      refine ⟨(hS' 0 (by decide)).1, r_save G hS' c1 (fun _ _ im' a1 a2 a3 a4 a5 => c_thrown G hS' ⟨fun _ => fin im' a1 a2 a4 a5, fun hn => hn a3⟩) (fun hn => absurd ⟨p0, p1⟩ hn)⟩
    refine ⟨d1, x + 83, d4, d9, ⟨p0, by rw [d10]; omega⟩, fun hnone => ?_, fun b hsome => ?_⟩
    · rw [Int.toNat_natCast] at hnone ⊢
      intro o9 e9 S11 e11 im13 e13
      subst e9; subst e11; subst e13
      refine i_N G rfl (fun S' im' hN' ht' hsB hf' _ => ?_)
      have dep := zDep.sB h.dep hsB lt ha
      have hm' := zShp.sB hm hsB (by omega)
      refine ⟨rfl, dep.1, x + 83, dep.2.2.2.1, dep.2.2.2.2.2.2.2.2.1, (hN' 0 (by decide)).1, ⟨p0, by rw [dep.2.2.2.2.2.2.2.2.2]; omega⟩, fun S23 e23 => ?_⟩
      subst e23
      have sfN : zS_N (zsf S' (x + 83) k (some (ztop S))) (ztop S) := hN'.sf (by omega)
      refine ⟨dep.1, an, by rw [zsf_o (by omega)]; exact dep.2.1, (sfN 0 (by decide)).1, ?_⟩
      refine k_copyFrom G sfN (dep.2.2.2.2.2.1.sf (by omega)) (by omega) (A := A) (hn.cong (fun b b0 b1 => hf' b (by omega))) hG (by omega) (by omega) (by omega) (fun im29 h29 => ⟨rfl, ?_⟩)
      refine tail _ im29 (hm'.sf (by omega)) (fun im7 a1 a2 a3 a4 => ?_)
      refine h.sav (b := ztop S) hk (fun c hc => ⟨(hsB c hc).1, (hsB c hc).2.1, fun hne => by rw [zsf_o hne]; exact (hsB c hc).2.2⟩) (by show ztop S ≤ ztop S'; omega) (fun i => ?_) lt (by show ztop S + 41 ≤ ztop S'; omega) sfN (fun c hc _ => Or.inr hc) (fun c hc hcb => by rw [h29.1 c hcb]; exact hf' c hc) h29.2.2 a1 a2 a3 a4
      by_cases e : i = k
      · rw [e, zsf_s, if_pos rfl]
      · rw [zsf_p e, if_neg e, (hsB (x + 83) (by omega)).2.2]
    · rw [Int.toNat_natCast] at hsome
      rcases hs1 k hk with ⟨a, _⟩ | ⟨b', B, k1, k2, k3, k4, k5, k6, k7, k8⟩
      · rw [a] at hsome; cases hsome
      · have hb : b' = b := Option.some.inj (k1.symm.trans hsome)
        subst hb
        refine ⟨an, d2, (k5 0 (by decide)).1, ?_⟩
        refine k_copyFrom G k5 d6 (by omega) hn hG (by omega) (by omega) (by omega) (fun im12 h12 => ⟨rfl, ?_⟩)
        refine tail S im12 hm (fun im7 a1 a2 a3 a4 => ?_)
        refine h.sav (b := b') hk (fun c hc => ⟨rfl, rfl, fun _ => rfl⟩) (Nat.le_refl _) (fun i => ?_) k3 k4 k5 (fun c hc hc2 => ?_) (fun c hc hcb => h12.1 c hcb) h12.2.2 a1 a2 a3 a4
        · by_cases e : i = k
          · rw [if_pos e, e, k1]
          · rw [if_neg e]
        · have : k = 0 ∨ k = 1 := by omega
          rcases this with rfl | rfl
          · exact hs2 b' c k1 hc2
          · exact (hs2 c b' hc2 k1).symm
  · refine ⟨(h.push.sm 0 (by decide)).1, r_save G h.push.sm c1 (fun a b => absurd ⟨a, b⟩ hp) (fun _ im' a1 a2 a3 => c_thrown G h.push.sm ⟨fun _ => h.push.m4 a1 a2, fun hn => hn a3⟩)⟩
theorem pv_44 (G : zOK g) (hI : Inv j x m o S im) (hj : j ≤ 600) {s1 : Int} (c1 : zc s1) :
    (zkd S x = 7 ∧ zCW g yL_restore M_L_restore [(0, 5, 8, 13), (0, 5, 11, 15)] [.ref x, .int (zi s1)] S im (zQW (fun r2 S3 im4 => (zkd S3 m = 8 ∧ zCV g yX8_restore M_X8_restore [.ref m, .int (zi s1)] S3 im4 (fun im7 => zCI g yX8_thrown M_X8_thrown [.ref m] S3 im7 (fun r10 im9 => ((r10 = r2 → Inv (j + 1) x m o S3 im9) ∧ (¬ r10 = r2 → False))))))) zX0) := by
  obtain ⟨an, as, A, X, h⟩ := hI
  have hd := h.dep
  have hM := h.bd
  have hW := h.w
  have hG := hW.1.1
  have hF := hW.fit
  have sz := hW.sz
  have l := h.loc
  have l3 := h.two
  obtain ⟨⟨l1, l2, lt⟩, _, hm, ha, ⟨d1, d2, d3, d4, d5, d6, d7, d8, d9, d10⟩, hn, hr0, hw, _, _, hs1, hs2⟩ := id h
  refine ⟨d1, v_L_restore G d1 c1 (v_X7_restore G c1 ?_)⟩
  refine k_range G c1 zc_0 (zc_of (by omega) (by omega)) (fun p0 p1 => ?_) (fun hp => Or.inl ⟨rfl, ?_⟩)
  · obtain ⟨k, ek⟩ : ∃ k : Nat, s1 = k := ⟨s1.toNat, by omega⟩
    subst ek
    have hk : k < 2 := by omega
    refine ⟨d1, x + 83, d4, d9, ⟨p0, by rw [d10]; omega⟩, fun hnone => ?_, fun b hsome => ?_⟩
    · rw [Int.toNat_natCast] at hnone
      rcases hs1 k hk with ⟨_, c0⟩ | ⟨b', B, k1, _⟩
      · exact Or.inr ⟨rfl, (h.push.sm 0 (by decide)).1, r_restore G h.push.sm c1 (fun _ _ hf => absurd c0 hf) (fun _ _ _ im' a1 a2 a3 => c_thrown G h.push.sm ⟨fun _ => h.push.m4 a1 a2, fun hn => hn a3⟩) (fun hn => absurd ⟨p0, p1⟩ hn)⟩
      · rw [hnone] at k1; cases k1
    · rw [Int.toNat_natCast] at hsome
      rcases hs1 k hk with ⟨a, _⟩ | ⟨b', B, k1, k2, k3, k4, k5, k6, k7, k8⟩
      · rw [a] at hsome; cases hsome
      · have hb : b' = b := Option.some.inj (k1.symm.trans hsome)
        subst hb
        have szB := k8.sz
        refine ⟨an, d2, (d6 0 (by decide)).1, ?_⟩
        refine k_copyFrom G d6 k5 (by omega) k6 k8.1.1 (by omega) (by omega) (by omega) (fun im12 h12 => ⟨rfl, (hm 0 (by decide)).1, ?_⟩)
        have fr (b : Nat) (hb : b < an ∨ an + 41 ≤ b) : im12 b = im b := h12.1 b hb
        refine r_restore G hm c1 (fun _ _ _ im' a1 a2 a3 a4 => c_thrown G hm ⟨fun _ => ?_, fun hn => hn a3⟩) (fun _ _ hf => absurd hf (by rw [fr (m + 4) (by omega), k2]; decide)) (fun hn => absurd ⟨p0, p1⟩ hn)
        refine ⟨an, as, B, X, h.net (fun b hb b0 b1 b2 b3 => by rw [a1 b b1 b2]; exact fr b (by omega)) (fun f f4 f5 => by rw [a2 f f4, fr m (by omega)]) (h12.2.2.cong (fun b b0 b1 => a1 b (by omega) (by omega))) ?_ (k8.mono (by omega))⟩
        refine k7.cong k8.fit (fun i i0 i1 => ?_)
        rw [a4]
        dsimp only
        rw [if_pos (by omega), fr (m + 3) (by omega)]
        congr 1
        omega
  · refine ⟨(h.push.sm 0 (by decide)).1, r_restore G h.push.sm c1 (fun a b => absurd ⟨a, b⟩ hp) (fun a b => absurd ⟨a, b⟩ hp) (fun _ im' a1 a2 a3 => c_thrown G h.push.sm ⟨fun _ => h.push.m4 a1 a2, fun hn => hn a3⟩)⟩
end PVD
