section PVC
variable {g : zG} {S : zSh} {im : zIm} {j x m o an as : Nat} {A : aA} {X : aX}
theorem pv_2 (G : zOK g) (hI : Inv j x m o S im) (hj : j ≤ 600) :
    (zkd S x = 7 ∧ zCI g yX7_itemCount M_X7_itemCount [.ref x] S im (fun r3 im2 => (zkd S m = 8 ∧ zCI g yX8_itemCount M_X8_itemCount [.ref m] S im2 (fun r7 im6 => ((r3 = r7 → Inv (j + 1) x m o S im6) ∧ (¬ r3 = r7 → False)))))) := by
  obtain ⟨an, as, A, X, h⟩ := hI
  have hd := h.dep
  have hM := h.bd
  have hW := h.w
  have hG := hW.1.1
  have hF := hW.fit
  have sz := hW.sz
  have l := h.loc
  have l3 := h.two
  refine ⟨hd.1, v_X7_itemCount G hd ⟨(h.sm 0 (by decide)).1, v_X8_itemCount G h.sm (fun im1 e1 => ⟨fun _ => by rw [e1]; exact I_pl h (mP_z h.mm), fun hn => hn ?_⟩)⟩⟩
  rw [e1, zst_n (by omega), hM.it, h.mm.g (by omega) (by omega) (by omega) (by omega) (by omega)]
theorem pv_3 (G : zOK g) (hI : Inv j x m o S im) (hj : j ≤ 600) :
    (zkd S x = 7 ∧ zCI g yX7_siteCount M_X7_siteCount [.ref x] S im (fun r3 im2 => (zkd S m = 8 ∧ zCI g yX8_siteCount M_X8_siteCount [.ref m] S im2 (fun r7 im6 => ((r3 = r7 → Inv (j + 1) x m o S im6) ∧ (¬ r3 = r7 → False)))))) := by
  obtain ⟨an, as, A, X, h⟩ := hI
  have hd := h.dep
  have hM := h.bd
  have hW := h.w
  have hG := hW.1.1
  have hF := hW.fit
  have sz := hW.sz
  have l := h.loc
  have l3 := h.two
  refine ⟨hd.1, v_X7_siteCount G hd ⟨(h.sm 0 (by decide)).1, v_X8_siteCount G h.sm (fun im1 e1 => ⟨fun _ => by rw [e1]; exact I_pl h (mP_z h.mm), fun hn => hn ?_⟩)⟩⟩
  rw [e1, zst_n (by omega), hM.st, h.mm.g (by omega) (by omega) (by omega) (by omega) (by omega)]
theorem pv_13 (G : zOK g) (hI : Inv j x m o S im) (hj : j ≤ 600) :
    (zkd S x = 7 ∧ zCI g yX7_day M_X7_day [.ref x] S im (fun r3 im2 => (zkd S m = 8 ∧ zCI g yX8_day M_X8_day [.ref m] S im2 (fun r7 im6 => ((r3 = r7 → Inv (j + 1) x m o S im6) ∧ (¬ r3 = r7 → False)))))) := by
  obtain ⟨an, as, A, X, h⟩ := hI
  have hd := h.dep
  have hM := h.bd
  have hW := h.w
  have hG := hW.1.1
  have hF := hW.fit
  have sz := hW.sz
  have l := h.loc
  have l3 := h.two
  refine ⟨hd.1, v_X7_day G hd ⟨(h.sm 0 (by decide)).1, v_X8_day G h.sm (fun im1 e1 => ⟨fun _ => by rw [e1]; exact I_pl h (mP_z h.mm), fun hn => hn ?_⟩)⟩⟩
  rw [e1, zst_n (by omega), hM.d, h.mm.g (by omega) (by omega) (by omega) (by omega) (by omega)]
theorem pv_14 (G : zOK g) (hI : Inv j x m o S im) (hj : j ≤ 600) :
    (zkd S x = 7 ∧ zCI g yX7_refusedDemands M_X7_refusedDemands [.ref x] S im (fun r3 im2 => (zkd S m = 8 ∧ zCI g yX8_refusedDemands M_X8_refusedDemands [.ref m] S im2 (fun r7 im6 => ((r3 = r7 → Inv (j + 1) x m o S im6) ∧ (¬ r3 = r7 → False)))))) := by
  obtain ⟨an, as, A, X, h⟩ := hI
  have hd := h.dep
  have hM := h.bd
  have hW := h.w
  have hG := hW.1.1
  have hF := hW.fit
  have sz := hW.sz
  have l := h.loc
  have l3 := h.two
  refine ⟨hd.1, v_X7_refusedDemands G hd ⟨(h.sm 0 (by decide)).1, v_X8_refusedDemands G h.sm (fun im1 e1 => ⟨fun _ => by rw [e1]; exact I_pl h (mP_z h.mm), fun hn => hn ?_⟩)⟩⟩
  rw [e1, zst_n (by omega), hM.rf, h.mm.g (by omega) (by omega) (by omega) (by omega) (by omega)]
theorem pv_25 (G : zOK g) (hI : Inv j x m o S im) (hj : j ≤ 600) :
    (zkd S x = 7 ∧ zCI g yX7_dueCount M_X7_dueCount [.ref x] S im (fun r3 im2 => (zkd S m = 8 ∧ zCI g yX8_dueCount M_X8_dueCount [.ref m] S im2 (fun r7 im6 => ((r3 = r7 → Inv (j + 1) x m o S im6) ∧ (¬ r3 = r7 → False)))))) := by
  obtain ⟨an, as, A, X, h⟩ := hI
  have hd := h.dep
  have hM := h.bd
  have hW := h.w
  have hG := hW.1.1
  have hF := hW.fit
  have sz := hW.sz
  have l := h.loc
  have l3 := h.two
  exact ⟨hd.1, k_dueCount G hd hM ⟨(h.sm 0 (by decide)).1, r_dueCount G h.sm h.mm hF (fun im' p => ⟨fun _ => I_pl h p, fun hn => hn rfl⟩)⟩⟩
theorem pv_41 (G : zOK g) (hI : Inv j x m o S im) (hj : j ≤ 600) :
    (zkd S x = 7 ∧ zCI g yX7_errorCode M_X7_errorCode [.ref x] S im (fun r3 im2 => (zkd S m = 8 ∧ zCI g yX8_errorCode M_X8_errorCode [.ref m] S im2 (fun r7 im6 => ((r3 = r7 → Inv (j + 1) x m o S im6) ∧ (¬ r3 = r7 → False)))))) := by
  obtain ⟨an, as, A, X, h⟩ := hI
  have hd := h.dep
  have hM := h.bd
  have hW := h.w
  have hG := hW.1.1
  have hF := hW.fit
  have sz := hW.sz
  have l := h.loc
  have l3 := h.two
  refine ⟨hd.1, v_X7_errorCode G hd ⟨(h.sm 0 (by decide)).1, v_X8_errorCode G h.sm (fun im1 e1 => ⟨fun _ => by rw [e1]; exact I_pl h (mP_z h.mm), fun hn => hn ?_⟩)⟩⟩
  rw [e1, zst_o (by omega)]
  exact h.2.2.2.2.2.2.2.2.2.1.1.symm
theorem pv_42 (G : zOK g) (hI : Inv j x m o S im) (hj : j ≤ 600) :
    (zkd S x = 7 ∧ zCI g yX7_errorPosition M_X7_errorPosition [.ref x] S im (fun r3 im2 => (zkd S m = 8 ∧ zCI g yX8_errorPosition M_X8_errorPosition [.ref m] S im2 (fun r7 im6 => ((r3 = r7 → Inv (j + 1) x m o S im6) ∧ (¬ r3 = r7 → False)))))) := by
  obtain ⟨an, as, A, X, h⟩ := hI
  have hd := h.dep
  have hM := h.bd
  have hW := h.w
  have hG := hW.1.1
  have hF := hW.fit
  have sz := hW.sz
  have l := h.loc
  have l3 := h.two
  refine ⟨hd.1, v_X7_errorPosition G hd ⟨(h.sm 0 (by decide)).1, v_X8_errorPosition G h.sm (fun im1 e1 => ⟨fun _ => by rw [e1]; exact I_pl h (mP_z h.mm), fun hn => hn ?_⟩)⟩⟩
  rw [e1, zst_o (by omega)]
  exact h.2.2.2.2.2.2.2.2.2.1.2.symm
theorem lTd_of (G : zOK g) {S3 : zSh} {im4 : zIm} (hS : zS_M S3 m) (ho : zkd S3 o = 12 ∧ zln S3 o = 1) {R : (Int → zIm → Prop) → Prop} {P : zIm → Prop} {C : zSh → zIm → Prop} {c v : Int} (hR : ∀ Q' : Int → zIm → Prop, (∀ im', P im' → Q' v im') → R Q') (hP : ∀ im', P im' → im' m 4 = c ∧ im' o = im4 o ∧ C S3 im') (hv : c = 0 → (v = 0 → im4 o 0 = 0) ∧ (¬ v = 0 → im4 o 0 = 1)) :
    (zkd S3 m = 8 ∧ R (fun r8 im7 => zCI g yX8_thrown M_X8_thrown [.ref m] S3 im7 (fun r11 im10 => ((r11 = c → ((¬ c = 0 → C S3 im10) ∧ (c = 0 → (zkd S3 o = 12 ∧ (zln S3 o = 1 ∧ ((r8 = 0 → (((zcmp (im10 o 0) 0) = 0 → C S3 im10) ∧ (¬ (zcmp (im10 o 0) 0) = 0 → False))) ∧ (¬ r8 = 0 → (((zcmp (im10 o 0) 1) = 0 → C S3 im10) ∧ (¬ (zcmp (im10 o 0) 1) = 0 → False))))))))) ∧ (¬ r11 = c → False))))) := by
  refine ⟨(hS 0 (by decide)).1, hR _ (fun im' h' => ?_)⟩
  obtain ⟨p1, p2, p3⟩ := hP im' h'
  refine c_thrown G hS ⟨fun _ => ⟨fun _ => p3, fun h0 => ⟨ho.1, ho.2, fun h8 => ⟨fun _ => p3, fun hz => hz (zcmp_0.2 ?_)⟩, fun h8 => ⟨fun _ => p3, fun hz => hz (zcmp_0.2 ?_)⟩⟩⟩, fun hn => hn p1⟩
  · rw [p2]; exact (hv h0).1 h8
  · rw [p2]; exact (hv h0).2 h8
theorem pv_10 (G : zOK g) (hI : Inv j x m o S im) (hj : j ≤ 600) {s1 : Int} (c1 : zc s1) {s2 : Int} (c2 : zc s2) {s3 : Int} (c3 : zc s3) :
    (zkd S x = 7 ∧ zCW g yL_demand M_L_demand [(0, 19, 22, 24), (0, 19, 26, 13), (0, 19, 30, 15)] [.ref x, .int (zi s1), .int (zi s2), .int (zi s3), .ref o] S im (zQW (fun r2 S3 im4 => (zkd S3 m = 8 ∧ zCI g yX8_demand M_X8_demand [.ref m, .int (zi s1), .int (zi s2), .int (zi s3)] S3 im4 (fun r8 im7 => zCI g yX8_thrown M_X8_thrown [.ref m] S3 im7 (fun r11 im10 => ((r11 = r2 → ((¬ r2 = 0 → Inv (j + 1) x m o S3 im10) ∧ (r2 = 0 → (zkd S3 o = 12 ∧ (zln S3 o = 1 ∧ ((r8 = 0 → (((zcmp (im10 o 0) 0) = 0 → Inv (j + 1) x m o S3 im10) ∧ (¬ (zcmp (im10 o 0) 0) = 0 → False))) ∧ (¬ r8 = 0 → (((zcmp (im10 o 0) 1) = 0 → Inv (j + 1) x m o S3 im10) ∧ (¬ (zcmp (im10 o 0) 1) = 0 → False))))))))) ∧ (¬ r11 = r2 → False))))))) zX0) := by
  obtain ⟨an, as, A, X, h⟩ := hI
  have hd := h.dep
  have hM := h.bd
  have hW := h.w
  have hG := hW.1.1
  have hF := hW.fit
  have sz := hW.sz
  have l := h.loc
  have l3 := h.two
  obtain ⟨oc, eoc⟩ : ∃ oc, oc = oDem A s1 s2 s3 := ⟨_, rfl⟩
  have kp : kP j A oc := by rw [eoc]; exact kp_dem hW hj _ _ _
  have hR (S3 : zSh) (hS3 : zS_M S3 m) (im4 : zIm) (hmm : mRep (im4 (m + 1)) A) (Q' : Int → zIm → Prop) (hq : ∀ im', mP m im4 im' oc.2.2 oc.1 → Q' oc.2.1 im') : zCI g yX8_demand M_X8_demand [.ref m, .int (zi s1), .int (zi s2), .int (zi s3)] S3 im4 Q' := by
    rw [eoc] at hq
    exact r_demand G hS3 hmm hW c1 c2 c3 hq
  have ex (c : Int) (hc : c ≠ 0) (e1 : oc.1 = c) := lTd_of (R := zCI g yX8_demand M_X8_demand [.ref m, .int (zi s1), .int (zi s2), .int (zi s3)] (zpush S 14 0) im) (P := fun im' => mP m im im' oc.2.2 oc.1) (C := Inv (j + 1) x m o) (c := c) (v := oc.2.1) (im4 := im) G h.push.sm h.push.oo (hR _ h.push.sm _ h.mm) (fun im' p => ⟨by rw [p.2.2.1, e1], p.1 o (by omega) (by omega) (by omega), an, as, A, X, h.push.net (fun b hb b0 b1 b2 b3 => p.1 b b1 b2 b3) p.2.1 (hM.2.2.cong (fun b b0 b1 => p.1 b (by omega) (by omega) (by omega))) ((kp.1 (by rw [e1]; exact hc)) ▸ p.2.2.2) (hW.mono (by omega))⟩) (fun h => absurd h hc)
  refine ⟨hd.1, v_L_demand G hd.1 h.oo.1 h.oo.2 c1 c2 c3 ?_⟩
  refine k_demand G hd hM hW (by omega) c1 c2 c3 (fun e0 im1 n1 => ?_) (fun e1 => Or.inl ⟨rfl, ex 1 (by decide) (by rw [eoc]; exact e1)⟩) (fun e1 => Or.inr (Or.inl ⟨rfl, ex 2 (by decide) (by rw [eoc]; exact e1)⟩)) (fun e1 => Or.inr (Or.inr ⟨rfl, ex 3 (by decide) (by rw [eoc]; exact e1)⟩))
  rw [← eoc] at e0 n1 ⊢
  have q := n1.fr
  refine lTd_of (P := fun im' => mP m (zst im1 o 0 (if oc.2.1 = 0 then 0 else 1)) im' oc.2.2 oc.1) (v := oc.2.1) G h.sm h.oo (hR _ h.sm _ (by rw [zst_n (by omega), q.1 _ (by omega)]; exact h.mm)) (fun im' p => ⟨by rw [p.2.2.1, e0], p.1 o (by omega) (by omega) (by omega), an, as, oc.2.2, X, h.net (fun b hb b0 b1 b2 b3 => by rw [p.1 b b1 b2 b3, zst_n b0]; exact q.1 b (by omega)) (fun f f4 f5 => by rw [p.2.1 f f4 f5, zst_n (by omega), q.1 _ (by omega)]) (q.2.cong (fun b b0 b1 => by rw [p.1 b (by omega) (by omega) (by omega), zst_n (by omega)])) p.2.2.2 kp.2⟩) (fun _ => ⟨fun hv => by rw [zst_s, if_pos hv], fun hv => by rw [zst_s, if_neg hv]⟩)
/-! texts -/
theorem IJ.txt {im' : zIm} {X' : aX} (h : IJ j x m o an as A X S im) (fr : ∀ b, b ≠ x + 84 → b ≠ x + 84 + 1 → b ≠ o → b ≠ m → b ≠ m + 5 → im' b = im b) (ft : ∀ f, f ≠ 0 → im' (x + 84) f = im (x + 84) f) (fm : ∀ f, f ≠ 4 → f ≠ 7 → im' m f = im m f) (hx : xB X') (hT : tB (x + 84) X' im') (hR : rB m X' im') : Inv (j + 1) x m o S im' := by
  obtain ⟨⟨l1, l2, l3⟩, ho, hm, ha, hd, hn, hr, hw, _, ⟨e1, e2⟩, hs1, hs2⟩ := h
  refine ⟨an, as, A, X', ⟨l1, l2, l3⟩, ho, hm, ha, hd, hn.cong (fun b b0 b1 => fr b (by omega) (by omega) (by omega) (by omega) (by omega)), by rw [fr (m + 1) (by omega) (by omega) (by omega) (by omega) (by omega)]; exact hr, hw.mono (by omega), ⟨hx, hT, hR⟩, ⟨by rw [fm 13 (by omega) (by omega), ft 1 (by omega)]; exact e1, by rw [fm 14 (by omega) (by omega), ft 2 (by omega)]; exact e2⟩, fun k hk => (hs1 k hk).cong (by omega) (fun b hb => fr b (by omega) (by omega) (by omega) (by omega) (by omega)) (fr _ (by omega) (by omega) (by omega) (by omega) (by omega)) (fr _ (by omega) (by omega) (by omega) (by omega) (by omega)), hs2⟩
theorem IJ.m4 {im' : zIm} (h : IJ j x m o an as A X S im) (fr : ∀ b, b ≠ m → im' b = im b) (fm : ∀ f, f ≠ 4 → im' m f = im m f) : Inv (j + 1) x m o S im' := by
  obtain ⟨l1, l2⟩ := h.loc
  have l3 := h.two
  exact ⟨an, as, A, X, h.net (fun b _ _ b1 _ _ => fr b b1) (fun f f4 _ => fm f f4) (h.bd.2.2.cong (fun b b0 b1 => fr b (by omega))) (by rw [fr (m + 1) (by omega)]; exact h.mm) (h.w.mono (by omega))⟩
theorem IJ.xs (h : IJ j x m o an as A X S im) : xB X ∧ tB (x + 84) X im ∧ rB m X im := h.2.2.2.2.2.2.2.2.1
theorem pv_38 (G : zOK g) (hI : Inv j x m o S im) (hj : j ≤ 600) {s1 : Int} (c1 : zc s1) :
    (zkd S x = 7 ∧ zCW g yL_appendText M_L_appendText [(0, 9, 12, 15)] [.ref x, .int (zi s1), .ref o] S im (zQW (fun r2 S3 im4 => (zkd S3 m = 8 ∧ zCI g yX8_appendText M_X8_appendText [.ref m, .int (zi s1)] S3 im4 (fun r8 im7 => zCI g yX8_thrown M_X8_thrown [.ref m] S3 im7 (fun r11 im10 => ((r11 = r2 → ((¬ r2 = 0 → Inv (j + 1) x m o S3 im10) ∧ (r2 = 0 → (zkd S3 o = 12 ∧ (zln S3 o = 1 ∧ (((zcmp (im10 o 0) r8) = 0 → Inv (j + 1) x m o S3 im10) ∧ (¬ (zcmp (im10 o 0) r8) = 0 → False))))))) ∧ (¬ r11 = r2 → False))))))) zX0) := by
  obtain ⟨an, as, A, X, h⟩ := hI
  have hd := h.dep
  have hM := h.bd
  have hW := h.w
  have hG := hW.1.1
  have hF := hW.fit
  have sz := hW.sz
  have l := h.loc
  have l3 := h.two
  obtain ⟨x1, x2, x3⟩ := h.xs
  refine ⟨hd.1, v_L_appendText G hd.1 h.oo.1 h.oo.2 c1 ?_⟩
  refine k_appendText G hd x2 c1 x1 (fun hl im1 f1 g1 t1 => ?_) (fun hl => ⟨rfl, ?_⟩)
  · have rb : rB m X (zst im1 o 0 ((X.2 + 4 : Nat) : Int)) := ⟨by rw [zst_n (by omega), f1 m (by omega) (by omega)]; exact x3.1, fun i i0 i1 => by rw [zst_n (by omega), f1 (m + 5) (by omega) (by omega)]; exact x3.2 i i0 i1⟩
    refine lT_of G h.sm h.oo (R := zCI g yX8_appendText M_X8_appendText [.ref m, .int (zi s1)] S (zst im1 o 0 ((X.2 + 4 : Nat) : Int))) (P := fun im' => (∀ b, b ≠ m → b ≠ m + 5 → im' b = zst im1 o 0 ((X.2 + 4 : Nat) : Int) b) ∧ (∀ f, f ≠ 4 → f ≠ 7 → im' m f = zst im1 o 0 ((X.2 + 4 : Nat) : Int) m f) ∧ im' m 4 = 0 ∧ rB m (apX X s1) im') (v := ((X.2 + 4 : Nat) : Int)) (fun Q' hq => r_appendText G h.sm rb c1 x1 (fun _ im' a1 a2 a3 a4 => hq im' ⟨a1, a2, a3, a4⟩) (fun hn => absurd hl hn)) (fun im' p => ⟨p.2.2.1, p.1 o (by omega) (by omega), ?_⟩) (fun _ => zst_s)
    refine h.txt (fun b b0 b1 b2 b3 b4 => by rw [p.1 b b3 b4, zst_n b2]; exact f1 b b0 b1) (fun f hf => by rw [p.1 (x + 84) (by omega) (by omega), zst_n (by omega)]; exact g1 f hf) (fun f f4 f7 => by rw [p.2.1 f f4 f7, zst_n (by omega), f1 m (by omega) (by omega)]) (apX_B c1 x1 hl) ⟨by rw [p.1 (x + 84) (by omega) (by omega), zst_n (by omega)]; exact t1.1, fun i i0 i1 => by rw [p.1 (x + 84 + 1) (by omega) (by omega), zst_n (by omega)]; exact t1.2 i i0 i1⟩ p.2.2.2
  · refine lT_of G h.push.sm h.push.oo (R := zCI g yX8_appendText M_X8_appendText [.ref m, .int (zi s1)] (zpush S 14 0) im) (P := fun im' => (∀ b, b ≠ m → im' b = im b) ∧ (∀ f, f ≠ 4 → im' m f = im m f) ∧ im' m 4 = 1) (v := 0) (fun Q' hq => r_appendText G h.push.sm x3 c1 x1 (fun hn => absurd hn hl) (fun _ im' a1 a2 a3 => hq im' ⟨a1, a2, a3⟩)) (fun im' p => ⟨p.2.2, p.1 o (by omega), h.push.m4 p.1 p.2.1⟩) (fun h => absurd h (by decide))
theorem pv_39 (G : zOK g) (hI : Inv j x m o S im) (hj : j ≤ 600) {s1 : Int} (c1 : zc s1) :
    (zkd S x = 7 ∧ zCW g yL_truncateText M_L_truncateText [(0, 9, 12, 13)] [.ref x, .int (zi s1), .ref o] S im (zQW (fun r2 S3 im4 => (zkd S3 m = 8 ∧ zCI g yX8_truncateText M_X8_truncateText [.ref m, .int (zi s1)] S3 im4 (fun r8 im7 => zCI g yX8_thrown M_X8_thrown [.ref m] S3 im7 (fun r11 im10 => ((r11 = r2 → ((¬ r2 = 0 → Inv (j + 1) x m o S3 im10) ∧ (r2 = 0 → (zkd S3 o = 12 ∧ (zln S3 o = 1 ∧ (((zcmp (im10 o 0) r8) = 0 → Inv (j + 1) x m o S3 im10) ∧ (¬ (zcmp (im10 o 0) r8) = 0 → False))))))) ∧ (¬ r11 = r2 → False))))))) zX0) := by
  obtain ⟨an, as, A, X, h⟩ := hI
  have hd := h.dep
  have hM := h.bd
  have hW := h.w
  have hG := hW.1.1
  have hF := hW.fit
  have sz := hW.sz
  have l := h.loc
  have l3 := h.two
  obtain ⟨x1, x2, x3⟩ := h.xs
  have hx0 := x1.1
  refine ⟨hd.1, v_L_truncateText G hd.1 h.oo.1 h.oo.2 c1 ?_⟩
  refine k_truncateText G hd x2 c1 x1 (fun p0 p1 im1 f1 g1 t1 => ?_) (fun hl => ⟨rfl, ?_⟩)
  · have rb : rB m X (zst im1 o 0 s1) := ⟨by rw [zst_n (by omega), f1 m (by omega)]; exact x3.1, fun i i0 i1 => by rw [zst_n (by omega), f1 (m + 5) (by omega)]; exact x3.2 i i0 i1⟩
    refine lT_of G h.sm h.oo (R := zCI g yX8_truncateText M_X8_truncateText [.ref m, .int (zi s1)] S (zst im1 o 0 s1)) (P := fun im' => (∀ b, b ≠ m → im' b = zst im1 o 0 s1 b) ∧ (∀ f, f ≠ 4 → f ≠ 7 → im' m f = zst im1 o 0 s1 m f) ∧ im' m 4 = 0 ∧ rB m (X.1, s1.toNat) im') (v := s1) (fun Q' hq => r_truncateText G h.sm rb c1 x1 (fun _ _ im' a1 a2 a3 a4 => hq im' ⟨a1, a2, a3, a4⟩) (fun hn => absurd ⟨p0, p1⟩ hn)) (fun im' p => ⟨p.2.2.1, p.1 o (by omega), ?_⟩) (fun _ => zst_s)
    refine h.txt (X' := (X.1, s1.toNat)) (fun b b0 b1 b2 b3 b4 => by rw [p.1 b b3, zst_n b2]; exact f1 b b0) (fun f hf => by rw [p.1 (x + 84) (by omega), zst_n (by omega)]; exact g1 f hf) (fun f f4 f7 => by rw [p.2.1 f f4 f7, zst_n (by omega), f1 m (by omega)]) ⟨by show s1.toNat ≤ 500; omega, fun i i0 i1 => x1.2 i i0 (by have : i < s1.toNat := i1; omega)⟩ ⟨by rw [p.1 (x + 84) (by omega), zst_n (by omega)]; exact t1.1, fun i i0 i1 => by rw [p.1 (x + 84 + 1) (by omega), zst_n (by omega)]; exact t1.2 i i0 i1⟩ p.2.2.2
  · refine lT_of G h.push.sm h.push.oo (R := zCI g yX8_truncateText M_X8_truncateText [.ref m, .int (zi s1)] (zpush S 14 0) im) (P := fun im' => (∀ b, b ≠ m → im' b = im b) ∧ (∀ f, f ≠ 4 → im' m f = im m f) ∧ im' m 4 = 1) (v := 0) (fun Q' hq => r_truncateText G h.push.sm x3 c1 x1 (fun a b => absurd ⟨a, b⟩ hl) (fun _ im' a1 a2 a3 => hq im' ⟨a1, a2, a3⟩)) (fun im' p => ⟨p.2.2, p.1 o (by omega), h.push.m4 p.1 p.2.1⟩) (fun h => absurd h (by decide))
/-! a load -/
theorem ldS_n {x : aX} : ∀ (f n : Nat) (s : aQ), (ldS x f n s).1 ≤ n + f := by
  intro f
  induction f with
  | zero => intro n s; rw [ldS]; exact Nat.le_refl _
  | succ f ih =>
    intro n s
    rw [ldS]
    split
    · have := ih (n + 1) (psS x s); omega
    · show n ≤ _; omega
theorem zShp.sf {S : zSh} {a N c i : Nat} {v : Option Nat} {T : Nat → Nat × Nat × (Nat → Option Nat)} (h : zShp S a N T) (hc : c < a ∨ a + N ≤ c) : zShp (zsf S c i v) a N T := by
  intro d hd
  rw [zsf_o (by omega)]
  exact h d hd
theorem IJ.ld {S' : zSh} {an' as' : Nat} {A' : aA} {im2 im' : zIm} {c p : Int} (h : IJ j x m o an as A X S im) (f2 : ∀ b, b ≠ x + 84 → b ≠ x + 84 + 2 → (b < as ∨ as + 41 ≤ b) → im2 b = im b) (t0 : im2 (x + 84) 0 = 0) (t1 : im2 (x + 84) 1 = c) (t2 : im2 (x + 84) 2 = p) (q : lPost m im2 im' A' c p) (hs : (an' = an ∧ as' = as) ∨ (an' = as ∧ as' = an)) (hn : nRep im2 an' A') (hw : aW (A'.1 0 + 1) (840 * ((j + 1 : Nat) : Int)) A') (hk : zkd S' = zkd S ∧ zln S' = zln S ∧ ztop S' = ztop S) (hr : ∀ b, b ≠ x → zrf S' b = zrf S b) (hd' : zDep S' x an' as' (x + 83) (x + 84)) : Inv (j + 1) x m o S' im' := by
  obtain ⟨⟨l1, l2, l3⟩, ⟨o1, o2⟩, hm, ha, hd, _, _, _, ⟨x1, _, _⟩, _, hs1, hs2⟩ := h
  obtain ⟨q1, q2, q3, q4, q5, q6, q7⟩ := q
  have fr (b : Nat) (b0 : b ≠ x + 84) (b1 : b ≠ x + 84 + 2) (b2 : b < as ∨ as + 41 ≤ b) (b3 : b ≠ m) (b4 : b ≠ m + 1) (b5 : b ≠ m + 2) : im' b = im b := by rw [q1 b b3 b4 b5]; exact f2 b b0 b1 b2
  have et : im' (x + 84) = im2 (x + 84) := q1 _ (by omega) (by omega) (by omega)
  have shp {a N : Nat} {T : Nat → Nat × Nat × (Nat → Option Nat)} (h : zShp S a N T) (hc : x < a) : zShp S' a N T := by
    intro d hd
    rw [hk.1, hk.2.1, hr _ (by omega)]
    exact h d hd
  have ev : zrf S' (x + 83) = zrf S (x + 83) := hr _ (by omega)
  refine ⟨an', as', A', (X.1, 0), ⟨l1, l2, by rw [hk.2.2]; exact l3⟩, ⟨by rw [hk.1]; exact o1, by rw [hk.2.1]; exact o2⟩, shp hm (by omega), by omega, hd', hn.cong (fun b b0 b1 => q1 b (by omega) (by omega) (by omega)), q7, hw, ⟨⟨Nat.zero_le _, fun i i0 i1 => absurd i1 (Nat.not_lt_zero _)⟩, ⟨by rw [et, t0]; rfl, fun i i0 i1 => absurd i1 (Nat.not_lt_zero _)⟩, ⟨by rw [q4]; rfl, fun i i0 i1 => absurd i1 (Nat.not_lt_zero _)⟩⟩, ⟨by rw [q5, et, t1], by rw [q6, et, t2]⟩, fun k hk2 => ?_, ?_⟩
  · rcases hs1 k hk2 with ⟨a, b⟩ | ⟨b, B, e1, e2, e3, e4, e5, e6, e7, e8⟩
    · exact Or.inl ⟨by rw [ev]; exact a, by rw [fr (m + 4) (by omega) (by omega) (by omega) (by omega) (by omega) (by omega)]; exact b⟩
    · exact Or.inr ⟨b, B, by rw [ev]; exact e1, by rw [fr (m + 4) (by omega) (by omega) (by omega) (by omega) (by omega) (by omega)]; exact e2, e3, by rw [hk.2.2]; exact e4, shp e5 (by omega), e6.cong (fun c c0 c1 => fr c (by omega) (by omega) (by omega) (by omega) (by omega) (by omega)), by rw [fr (m + 3) (by omega) (by omega) (by omega) (by omega) (by omega) (by omega)]; exact e7, e8.mono (by omega)⟩
  · unfold svD at hs2 ⊢
    rw [ev]
    exact hs2
theorem pv_40 (G : zOK g) (hI : Inv j x m o S im) (hj : j ≤ 600) :
    (zkd S x = 7 ∧ zC g yX7_load M_X7_load [.ref x] S im (fun v6 S4 im2 => ∃ r3 : Int, v6 = some (.int (zi r3)) ∧ zc r3 ∧ (zkd S4 m = 8 ∧ zCI g yX8_load M_X8_load [.ref m] S4 im2 (fun r9 im8 => ((r3 = r9 → Inv (j + 1) x m o S4 im8) ∧ (¬ r3 = r9 → False))))) zX0) := by
  obtain ⟨an, as, A, X, h⟩ := hI
  have hd := h.dep
  have hM := h.bd
  have hW := h.w
  have hG := hW.1.1
  have hF := hW.fit
  have sz := hW.sz
  have l := h.loc
  have l3 := h.two
  obtain ⟨x1, x2, x3⟩ := h.xs
  have hx0 := x1.1
  have hn0 : (ldR X).1 ≤ 501 := by have := ldS_n (x := X) (X.2 + 1) 0 (0, A0S, 0, -1); unfold ldR; omega
  have rb (im2 : zIm) (f2 : ∀ b, b ≠ x + 84 → b ≠ x + 84 + 2 → (b < as ∨ as + 41 ≤ b) → im2 b = im b) : rB m X im2 ∧ mRep (im2 (m + 1)) A := ⟨⟨by rw [f2 m (by omega) (by omega) (by omega)]; exact x3.1, fun i i0 i1 => by rw [f2 (m + 5) (by omega) (by omega) (by omega)]; exact x3.2 i i0 i1⟩, by rw [f2 (m + 1) (by omega) (by omega) (by omega)]; exact h.mm⟩
  refine ⟨hd.1, k_load G hd (by omega) x1 x2 (fun hc im2 f2 t0 t1 t2 n2 => ?_) (fun hc im2 f2 t0 t1 t2 => ?_)⟩
  · have hS' : zS_M (zsf (zsf S x 0 (some as)) x 1 (some an)) m := (h.sm.sf (by omega)).sf (by omega)
    have ol : oLd X A = (((ldR X).1 : Int), (ldR X).2.2.1, 0, -1) := by unfold oLd; rw [if_pos hc]
    have ok := ldS_ok (x := X) (X.2 + 1) 0 (0, A0S, 0, -1) (fun _ => ⟨lI_0, rfl, Nat.zero_le _⟩) hc
    have ok1 : lI (ldR X).2.2.1 := ok.1
    refine ⟨_, rfl, zc_of (by omega) (by omega), (hS' 0 (by decide)).1, ?_⟩
    refine r_load G hS' x1 (rb im2 f2).1 (rb im2 f2).2 hF (fun im8 p => ?_)
    rw [ol] at p ⊢
    obtain ⟨d1, d2, d3, d4, d5, d6, d7, d8, d9, d10⟩ := hd
    refine ⟨fun _ => h.ld f2 t0 t1 t2 p (Or.inr ⟨rfl, rfl⟩) n2 ?_ ⟨rfl, rfl, rfl⟩ (fun b hb => by rw [zsf_o hb, zsf_o hb]) ⟨d1, ?_, zsf_s, ?_, ?_, (d7.sf (by omega)).sf (by omega), (d6.sf (by omega)).sf (by omega), (d8.sf (by omega)).sf (by omega), d9, d10⟩, fun hn => hn rfl⟩
    · show aW ((ldR X).2.2.1.1 0 + 1) _ (ldR X).2.2.1
      rw [ok1.2.1]
      exact ok1.1.mono (by omega)
    · rw [zsf_p (by decide), zsf_s]
    · rw [zsf_p (by decide), zsf_p (by decide)]; exact d4
    · rw [zsf_p (by decide), zsf_p (by decide)]; exact d5
  · have ol : oLd X A = (-1, A, (ldR X).2.2.2.1, (ldR X).2.2.2.2) := by unfold oLd; rw [if_neg hc]
    refine ⟨_, rfl, zc_of (by omega) (by omega), (h.sm 0 (by decide)).1, ?_⟩
    refine r_load G h.sm x1 (rb im2 f2).1 (rb im2 f2).2 hF (fun im8 p => ?_)
    rw [ol] at p ⊢
    exact ⟨fun _ => h.ld f2 t0 t1 t2 p (Or.inl ⟨rfl, rfl⟩) (hM.2.2.cong (fun b b0 b1 => f2 b (by omega) (by omega) (by omega))) (hW.mono (by omega)) ⟨rfl, rfl, rfl⟩ (fun b hb => rfl) hd, fun hn => hn rfl⟩
end PVC
