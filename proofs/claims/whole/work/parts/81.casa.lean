section PV
variable {g : zG} {S : zSh} {im : zIm} {j x m o : Nat}
theorem kp_self {A : aA} {oc : aO} {im1 : zIm} {n : Nat} (kp : kP j A oc) (h : nRep im1 n A) (e : oc.2.2 = A) : nRep im1 n oc.2.2 := by rw [e]; exact h
theorem k_figT (G : zOK g) {a an as av at_ : Nat} {A : aA} {y : Int} (hS0 : zDep S a an as av at_) (hM : nS an y im im A) (hG : gB A.1) {c : Nat} {t b i : Int} (hc : tP c t) (hkd : zkd S (an + c) = 9) (hln : zln S (an + c) = 32) (cb : zc b) (ci : zc i) {Q : Int → zIm → Prop} {X : String → zSh → zIm → Prop} (h0 : (oFig A b i (zw (vS A t b i))).1 = 0 → Q (oFig A b i (zw (vS A t b i))).2.1 im) (h1 : (oFig A b i (zw (vS A t b i))).1 = 1 → X "java/lang/IndexOutOfBoundsException" (zpush S 14 0) im) : zCVx g yX7_checkFigure M_X7_checkFigure [.ref a, .int (zi b), .int (zi i)] S im (fun im1 => zCI g yX2_total M_X2_total [.ref an, .ref (an + c), .int (zi b), .int (zi i)] S im1 (fun r3 im4 => Q r3 im4)) X :=
  k_fig G hS0 hM cb ci h0 h1 (fun hb hi hq => k_total G hS0.2.2.2.2.2.1 hM hG hc hkd hln hb hi hq)
theorem pv_0 (G : zOK g) (hI : Inv j x m o S im) (hj : j ≤ 600) {s1 : Int} (c1 : zc s1) {s2 : Int} (c2 : zc s2) {s3 : Int} (c3 : zc s3) :
    (zkd S x = 7 ∧ zCW g yL_addItem M_L_addItem [(0, 12, 15, 13), (0, 12, 19, 15)] [.ref x, .int (zi s1), .int (zi s2), .int (zi s3), .ref o] S im (zQW (fun r2 S3 im4 => (zkd S3 m = 8 ∧ zCI g yX8_addItem M_X8_addItem [.ref m, .int (zi s1), .int (zi s2), .int (zi s3)] S3 im4 (fun r8 im7 => zCI g yX8_thrown M_X8_thrown [.ref m] S3 im7 (fun r11 im10 => ((r11 = r2 → ((¬ r2 = 0 → Inv (j + 1) x m o S3 im10) ∧ (r2 = 0 → (zkd S3 o = 12 ∧ (zln S3 o = 1 ∧ (((zcmp (im10 o 0) r8) = 0 → Inv (j + 1) x m o S3 im10) ∧ (¬ (zcmp (im10 o 0) r8) = 0 → False))))))) ∧ (¬ r11 = r2 → False))))))) zX0) := by
  obtain ⟨an, as, A, X, h⟩ := hI
  have hd := h.dep
  have hM := h.bd
  have hW := h.w
  have hG := hW.1.1
  have hF := hW.fit
  have sz := hW.sz
  have l := h.loc
  have l3 := h.two
  have hm : (840 * (j : Int)) ≤ 70000000 := by omega
  obtain ⟨oc, eoc⟩ : ∃ oc, oc = oItem A s1 s2 s3 := ⟨_, rfl⟩
  have kp : kP j A oc := by rw [eoc]; exact kp_item hW _ _ _
  have hR (S3 : zSh) (hS3 : zS_M S3 m) (im4 : zIm) (hmm : mRep (im4 (m + 1)) A) (Q' : Int → zIm → Prop) (hq : ∀ im', mP m im4 im' oc.2.2 oc.1 → Q' oc.2.1 im') : zCI g yX8_addItem M_X8_addItem [.ref m, .int (zi s1), .int (zi s2), .int (zi s3)] S3 im4 Q' := by
    rw [eoc] at hq
    exact r_addItem G hS3 hmm hG c1 c2 c3 hq
  refine ⟨hd.1, v_L_addItem G hd.1 h.oo.1 h.oo.2 c1 c2 c3 ?_⟩
  refine k_addItem G hd hM hG c1 c2 c3 (fun e0 im1 n1 => ?_) (fun e1 => Or.inl ⟨rfl, ?_⟩) (fun e1 => Or.inr (⟨rfl, ?_⟩))
  · rw [← eoc] at e0 n1 ⊢
    have q := n1.fr
    exact I_ok G h e0 (fun b hb => q.1 b (by omega)) q.2 kp.2 (hR S h.sm)
  · rw [← eoc] at e1
    exact I_ex G h e1 (by decide) (kp.1 (by rw [e1]; decide)) (hR _ h.push.sm)
  · rw [← eoc] at e1
    exact I_ex G h e1 (by decide) (kp.1 (by rw [e1]; decide)) (hR _ h.push.sm)
theorem pv_1 (G : zOK g) (hI : Inv j x m o S im) (hj : j ≤ 600) {s1 : Int} (c1 : zc s1) :
    (zkd S x = 7 ∧ zCW g yL_addBase M_L_addBase [(0, 9, 12, 13), (0, 9, 15, 15)] [.ref x, .int (zi s1), .ref o] S im (zQW (fun r2 S3 im4 => (zkd S3 m = 8 ∧ zCI g yX8_addBase M_X8_addBase [.ref m, .int (zi s1)] S3 im4 (fun r8 im7 => zCI g yX8_thrown M_X8_thrown [.ref m] S3 im7 (fun r11 im10 => ((r11 = r2 → ((¬ r2 = 0 → Inv (j + 1) x m o S3 im10) ∧ (r2 = 0 → (zkd S3 o = 12 ∧ (zln S3 o = 1 ∧ (((zcmp (im10 o 0) r8) = 0 → Inv (j + 1) x m o S3 im10) ∧ (¬ (zcmp (im10 o 0) r8) = 0 → False))))))) ∧ (¬ r11 = r2 → False))))))) zX0) := by
  obtain ⟨an, as, A, X, h⟩ := hI
  have hd := h.dep
  have hM := h.bd
  have hW := h.w
  have hG := hW.1.1
  have hF := hW.fit
  have sz := hW.sz
  have l := h.loc
  have l3 := h.two
  have hm : (840 * (j : Int)) ≤ 70000000 := by omega
  obtain ⟨oc, eoc⟩ : ∃ oc, oc = oBase A s1 := ⟨_, rfl⟩
  have kp : kP j A oc := by rw [eoc]; exact kp_base hW _
  have hR (S3 : zSh) (hS3 : zS_M S3 m) (im4 : zIm) (hmm : mRep (im4 (m + 1)) A) (Q' : Int → zIm → Prop) (hq : ∀ im', mP m im4 im' oc.2.2 oc.1 → Q' oc.2.1 im') : zCI g yX8_addBase M_X8_addBase [.ref m, .int (zi s1)] S3 im4 Q' := by
    rw [eoc] at hq
    exact r_addBase G hS3 hmm hG c1 hq
  refine ⟨hd.1, v_L_addBase G hd.1 h.oo.1 h.oo.2 c1 ?_⟩
  refine k_addBase G hd hM hG c1 (fun e0 im1 n1 => ?_) (fun e1 => Or.inl ⟨rfl, ?_⟩) (fun e1 => Or.inr (⟨rfl, ?_⟩))
  · rw [← eoc] at e0 n1 ⊢
    have q := n1.fr
    exact I_ok G h e0 (fun b hb => q.1 b (by omega)) q.2 kp.2 (hR S h.sm)
  · rw [← eoc] at e1
    exact I_ex G h e1 (by decide) (kp.1 (by rw [e1]; decide)) (hR _ h.push.sm)
  · rw [← eoc] at e1
    exact I_ex G h e1 (by decide) (kp.1 (by rw [e1]; decide)) (hR _ h.push.sm)
theorem pv_4 (G : zOK g) (hI : Inv j x m o S im) (hj : j ≤ 600) {s1 : Int} (c1 : zc s1) {s2 : Int} (c2 : zc s2) {s3 : Int} (c3 : zc s3) :
    (zkd S x = 7 ∧ zCW g yL_setLink M_L_setLink [(0, 12, 15, 24), (0, 12, 19, 13)] [.ref x, .int (zi s1), .int (zi s2), .int (zi s3), .ref o] S im (zQW (fun r2 S3 im4 => (zkd S3 m = 8 ∧ zCI g yX8_setLink M_X8_setLink [.ref m, .int (zi s1), .int (zi s2), .int (zi s3)] S3 im4 (fun r8 im7 => zCI g yX8_thrown M_X8_thrown [.ref m] S3 im7 (fun r11 im10 => ((r11 = r2 → ((¬ r2 = 0 → Inv (j + 1) x m o S3 im10) ∧ (r2 = 0 → (zkd S3 o = 12 ∧ (zln S3 o = 1 ∧ (((zcmp (im10 o 0) r8) = 0 → Inv (j + 1) x m o S3 im10) ∧ (¬ (zcmp (im10 o 0) r8) = 0 → False))))))) ∧ (¬ r11 = r2 → False))))))) zX0) := by
  obtain ⟨an, as, A, X, h⟩ := hI
  have hd := h.dep
  have hM := h.bd
  have hW := h.w
  have hG := hW.1.1
  have hF := hW.fit
  have sz := hW.sz
  have l := h.loc
  have l3 := h.two
  have hm : (840 * (j : Int)) ≤ 70000000 := by omega
  obtain ⟨oc, eoc⟩ : ∃ oc, oc = oLink A s1 s2 s3 := ⟨_, rfl⟩
  have kp : kP j A oc := by rw [eoc]; exact kp_link hW _ _ _
  have hR (S3 : zSh) (hS3 : zS_M S3 m) (im4 : zIm) (hmm : mRep (im4 (m + 1)) A) (Q' : Int → zIm → Prop) (hq : ∀ im', mP m im4 im' oc.2.2 oc.1 → Q' oc.2.1 im') : zCI g yX8_setLink M_X8_setLink [.ref m, .int (zi s1), .int (zi s2), .int (zi s3)] S3 im4 Q' := by
    rw [eoc] at hq
    exact r_setLink G hS3 hmm hG c1 c2 c3 hq
  refine ⟨hd.1, v_L_setLink G hd.1 h.oo.1 h.oo.2 c1 c2 c3 ?_⟩
  refine k_setLink G hd hM hG c1 c2 c3 (fun e0 im1 n1 => ?_) (fun e1 => Or.inl ⟨rfl, ?_⟩) (fun e1 => Or.inr (⟨rfl, ?_⟩))
  · rw [← eoc] at e0 n1 ⊢
    have q := n1.fr
    exact I_ok G h e0 (fun b hb => q.1 b (by omega)) q.2 kp.2 (hR S h.sm)
  · rw [← eoc] at e1
    exact I_ex G h e1 (by decide) (kp.1 (by rw [e1]; decide)) (hR _ h.push.sm)
  · rw [← eoc] at e1
    exact I_ex G h e1 (by decide) (kp.1 (by rw [e1]; decide)) (hR _ h.push.sm)
theorem pv_5 (G : zOK g) (hI : Inv j x m o S im) (hj : j ≤ 600) {s1 : Int} (c1 : zc s1) {s2 : Int} (c2 : zc s2) {s3 : Int} (c3 : zc s3) :
    (zkd S x = 7 ∧ zCW g yL_setLevel M_L_setLevel [(0, 12, 15, 24), (0, 12, 19, 13), (0, 12, 23, 15)] [.ref x, .int (zi s1), .int (zi s2), .int (zi s3), .ref o] S im (zQW (fun r2 S3 im4 => (zkd S3 m = 8 ∧ zCI g yX8_setLevel M_X8_setLevel [.ref m, .int (zi s1), .int (zi s2), .int (zi s3)] S3 im4 (fun r8 im7 => zCI g yX8_thrown M_X8_thrown [.ref m] S3 im7 (fun r11 im10 => ((r11 = r2 → ((¬ r2 = 0 → Inv (j + 1) x m o S3 im10) ∧ (r2 = 0 → (zkd S3 o = 12 ∧ (zln S3 o = 1 ∧ (((zcmp (im10 o 0) r8) = 0 → Inv (j + 1) x m o S3 im10) ∧ (¬ (zcmp (im10 o 0) r8) = 0 → False))))))) ∧ (¬ r11 = r2 → False))))))) zX0) := by
  obtain ⟨an, as, A, X, h⟩ := hI
  have hd := h.dep
  have hM := h.bd
  have hW := h.w
  have hG := hW.1.1
  have hF := hW.fit
  have sz := hW.sz
  have l := h.loc
  have l3 := h.two
  have hm : (840 * (j : Int)) ≤ 70000000 := by omega
  obtain ⟨oc, eoc⟩ : ∃ oc, oc = oLevel A s1 s2 s3 := ⟨_, rfl⟩
  have kp : kP j A oc := by rw [eoc]; exact kp_level hW _ _ _
  have hR (S3 : zSh) (hS3 : zS_M S3 m) (im4 : zIm) (hmm : mRep (im4 (m + 1)) A) (Q' : Int → zIm → Prop) (hq : ∀ im', mP m im4 im' oc.2.2 oc.1 → Q' oc.2.1 im') : zCI g yX8_setLevel M_X8_setLevel [.ref m, .int (zi s1), .int (zi s2), .int (zi s3)] S3 im4 Q' := by
    rw [eoc] at hq
    exact r_setLevel G hS3 hmm hW (by omega) c1 c2 c3 hq
  refine ⟨hd.1, v_L_setLevel G hd.1 h.oo.1 h.oo.2 c1 c2 c3 ?_⟩
  refine k_setLevel G hd hM hW (by omega) c1 c2 c3 (fun e0 im1 n1 => ?_) (fun e1 => Or.inl ⟨rfl, ?_⟩) (fun e1 => Or.inr (Or.inl ⟨rfl, ?_⟩)) (fun e1 => Or.inr (Or.inr (⟨rfl, ?_⟩)))
  · rw [← eoc] at e0 n1 ⊢
    have q := n1.fr
    exact I_ok G h e0 (fun b hb => q.1 b (by omega)) q.2 kp.2 (hR S h.sm)
  · rw [← eoc] at e1
    exact I_ex G h e1 (by decide) (kp.1 (by rw [e1]; decide)) (hR _ h.push.sm)
  · rw [← eoc] at e1
    exact I_ex G h e1 (by decide) (kp.1 (by rw [e1]; decide)) (hR _ h.push.sm)
  · rw [← eoc] at e1
    exact I_ex G h e1 (by decide) (kp.1 (by rw [e1]; decide)) (hR _ h.push.sm)
theorem pv_6 (G : zOK g) (hI : Inv j x m o S im) (hj : j ≤ 600) {s1 : Int} (c1 : zc s1) {s2 : Int} (c2 : zc s2) {s3 : Int} (c3 : zc s3) :
    (zkd S x = 7 ∧ zCW g yL_setShare M_L_setShare [(0, 12, 15, 24), (0, 12, 19, 13)] [.ref x, .int (zi s1), .int (zi s2), .int (zi s3), .ref o] S im (zQW (fun r2 S3 im4 => (zkd S3 m = 8 ∧ zCI g yX8_setShare M_X8_setShare [.ref m, .int (zi s1), .int (zi s2), .int (zi s3)] S3 im4 (fun r8 im7 => zCI g yX8_thrown M_X8_thrown [.ref m] S3 im7 (fun r11 im10 => ((r11 = r2 → ((¬ r2 = 0 → Inv (j + 1) x m o S3 im10) ∧ (r2 = 0 → (zkd S3 o = 12 ∧ (zln S3 o = 1 ∧ (((zcmp (im10 o 0) r8) = 0 → Inv (j + 1) x m o S3 im10) ∧ (¬ (zcmp (im10 o 0) r8) = 0 → False))))))) ∧ (¬ r11 = r2 → False))))))) zX0) := by
  obtain ⟨an, as, A, X, h⟩ := hI
  have hd := h.dep
  have hM := h.bd
  have hW := h.w
  have hG := hW.1.1
  have hF := hW.fit
  have sz := hW.sz
  have l := h.loc
  have l3 := h.two
  have hm : (840 * (j : Int)) ≤ 70000000 := by omega
  obtain ⟨oc, eoc⟩ : ∃ oc, oc = oNum 188 10 A s1 s2 s3 := ⟨_, rfl⟩
  have kp : kP j A oc := by rw [eoc]; exact kp_num hW (by omega) (by omega) (by omega) _ _ _
  have hR (S3 : zSh) (hS3 : zS_M S3 m) (im4 : zIm) (hmm : mRep (im4 (m + 1)) A) (Q' : Int → zIm → Prop) (hq : ∀ im', mP m im4 im' oc.2.2 oc.1 → Q' oc.2.1 im') : zCI g yX8_setShare M_X8_setShare [.ref m, .int (zi s1), .int (zi s2), .int (zi s3)] S3 im4 Q' := by
    rw [eoc] at hq
    exact v_X8_setShare G hS3 c1 c2 c3 (r_setNumber G hS3 hmm hG (by omega) (by omega) (by omega) (by omega) c1 c2 c3 hq)
  refine ⟨hd.1, v_L_setShare G hd.1 h.oo.1 h.oo.2 c1 c2 c3 ?_⟩
  refine v_X7_setShare G hd c1 c2 c3 (k_num G hd hM hG (c := 10) (t := 188) (by unfold tP; omega) (hd.2.2.2.2.2.1 10 (by decide)).1 (hd.2.2.2.2.2.1 10 (by decide)).2.1 (by omega) (by omega) c1 c2 c3 (fun e0 im1 n1 => ?_) (fun e1 => Or.inl ⟨rfl, ?_⟩) (fun e1 => Or.inr (⟨rfl, ?_⟩)))
  · rw [← eoc] at e0 n1 ⊢
    have q := n1.fr
    exact I_ok G h e0 (fun b hb => q.1 b (by omega)) q.2 kp.2 (hR S h.sm)
  · rw [← eoc] at e1
    exact I_ex G h e1 (by decide) (kp.1 (by rw [e1]; decide)) (hR _ h.push.sm)
  · rw [← eoc] at e1
    exact I_ex G h e1 (by decide) (kp.1 (by rw [e1]; decide)) (hR _ h.push.sm)
theorem pv_7 (G : zOK g) (hI : Inv j x m o S im) (hj : j ≤ 600) {s1 : Int} (c1 : zc s1) {s2 : Int} (c2 : zc s2) {s3 : Int} (c3 : zc s3) :
    (zkd S x = 7 ∧ zCW g yL_setReserve M_L_setReserve [(0, 12, 15, 24), (0, 12, 19, 13)] [.ref x, .int (zi s1), .int (zi s2), .int (zi s3), .ref o] S im (zQW (fun r2 S3 im4 => (zkd S3 m = 8 ∧ zCI g yX8_setReserve M_X8_setReserve [.ref m, .int (zi s1), .int (zi s2), .int (zi s3)] S3 im4 (fun r8 im7 => zCI g yX8_thrown M_X8_thrown [.ref m] S3 im7 (fun r11 im10 => ((r11 = r2 → ((¬ r2 = 0 → Inv (j + 1) x m o S3 im10) ∧ (r2 = 0 → (zkd S3 o = 12 ∧ (zln S3 o = 1 ∧ (((zcmp (im10 o 0) r8) = 0 → Inv (j + 1) x m o S3 im10) ∧ (¬ (zcmp (im10 o 0) r8) = 0 → False))))))) ∧ (¬ r11 = r2 → False))))))) zX0) := by
  obtain ⟨an, as, A, X, h⟩ := hI
  have hd := h.dep
  have hM := h.bd
  have hW := h.w
  have hG := hW.1.1
  have hF := hW.fit
  have sz := hW.sz
  have l := h.loc
  have l3 := h.two
  have hm : (840 * (j : Int)) ≤ 70000000 := by omega
  obtain ⟨oc, eoc⟩ : ∃ oc, oc = oNum 156 20 A s1 s2 s3 := ⟨_, rfl⟩
  have kp : kP j A oc := by rw [eoc]; exact kp_num hW (by omega) (by omega) (by omega) _ _ _
  have hR (S3 : zSh) (hS3 : zS_M S3 m) (im4 : zIm) (hmm : mRep (im4 (m + 1)) A) (Q' : Int → zIm → Prop) (hq : ∀ im', mP m im4 im' oc.2.2 oc.1 → Q' oc.2.1 im') : zCI g yX8_setReserve M_X8_setReserve [.ref m, .int (zi s1), .int (zi s2), .int (zi s3)] S3 im4 Q' := by
    rw [eoc] at hq
    exact v_X8_setReserve G hS3 c1 c2 c3 (r_setNumber G hS3 hmm hG (by omega) (by omega) (by omega) (by omega) c1 c2 c3 hq)
  refine ⟨hd.1, v_L_setReserve G hd.1 h.oo.1 h.oo.2 c1 c2 c3 ?_⟩
  refine v_X7_setReserve G hd c1 c2 c3 (k_num G hd hM hG (c := 9) (t := 156) (by unfold tP; omega) (hd.2.2.2.2.2.1 9 (by decide)).1 (hd.2.2.2.2.2.1 9 (by decide)).2.1 (by omega) (by omega) c1 c2 c3 (fun e0 im1 n1 => ?_) (fun e1 => Or.inl ⟨rfl, ?_⟩) (fun e1 => Or.inr (⟨rfl, ?_⟩)))
  · rw [← eoc] at e0 n1 ⊢
    have q := n1.fr
    exact I_ok G h e0 (fun b hb => q.1 b (by omega)) q.2 kp.2 (hR S h.sm)
  · rw [← eoc] at e1
    exact I_ex G h e1 (by decide) (kp.1 (by rw [e1]; decide)) (hR _ h.push.sm)
  · rw [← eoc] at e1
    exact I_ex G h e1 (by decide) (kp.1 (by rw [e1]; decide)) (hR _ h.push.sm)
theorem pv_8 (G : zOK g) (hI : Inv j x m o S im) (hj : j ≤ 600) {s1 : Int} (c1 : zc s1) {s2 : Int} (c2 : zc s2) {s3 : Int} (c3 : zc s3) :
    (zkd S x = 7 ∧ zCW g yL_setRate M_L_setRate [(0, 12, 15, 24), (0, 12, 19, 13)] [.ref x, .int (zi s1), .int (zi s2), .int (zi s3), .ref o] S im (zQW (fun r2 S3 im4 => (zkd S3 m = 8 ∧ zCI g yX8_setRate M_X8_setRate [.ref m, .int (zi s1), .int (zi s2), .int (zi s3)] S3 im4 (fun r8 im7 => zCI g yX8_thrown M_X8_thrown [.ref m] S3 im7 (fun r11 im10 => ((r11 = r2 → ((¬ r2 = 0 → Inv (j + 1) x m o S3 im10) ∧ (r2 = 0 → (zkd S3 o = 12 ∧ (zln S3 o = 1 ∧ (((zcmp (im10 o 0) r8) = 0 → Inv (j + 1) x m o S3 im10) ∧ (¬ (zcmp (im10 o 0) r8) = 0 → False))))))) ∧ (¬ r11 = r2 → False))))))) zX0) := by
  obtain ⟨an, as, A, X, h⟩ := hI
  have hd := h.dep
  have hM := h.bd
  have hW := h.w
  have hG := hW.1.1
  have hF := hW.fit
  have sz := hW.sz
  have l := h.loc
  have l3 := h.two
  have hm : (840 * (j : Int)) ≤ 70000000 := by omega
  obtain ⟨oc, eoc⟩ : ∃ oc, oc = oNum 220 100 A s1 s2 s3 := ⟨_, rfl⟩
  have kp : kP j A oc := by rw [eoc]; exact kp_num hW (by omega) (by omega) (by omega) _ _ _
  have hR (S3 : zSh) (hS3 : zS_M S3 m) (im4 : zIm) (hmm : mRep (im4 (m + 1)) A) (Q' : Int → zIm → Prop) (hq : ∀ im', mP m im4 im' oc.2.2 oc.1 → Q' oc.2.1 im') : zCI g yX8_setRate M_X8_setRate [.ref m, .int (zi s1), .int (zi s2), .int (zi s3)] S3 im4 Q' := by
    rw [eoc] at hq
    exact v_X8_setRate G hS3 c1 c2 c3 (r_setNumber G hS3 hmm hG (by omega) (by omega) (by omega) (by omega) c1 c2 c3 hq)
  refine ⟨hd.1, v_L_setRate G hd.1 h.oo.1 h.oo.2 c1 c2 c3 ?_⟩
  refine v_X7_setRate G hd c1 c2 c3 (k_num G hd hM hG (c := 11) (t := 220) (by unfold tP; omega) (hd.2.2.2.2.2.1 11 (by decide)).1 (hd.2.2.2.2.2.1 11 (by decide)).2.1 (by omega) (by omega) c1 c2 c3 (fun e0 im1 n1 => ?_) (fun e1 => Or.inl ⟨rfl, ?_⟩) (fun e1 => Or.inr (⟨rfl, ?_⟩)))
  · rw [← eoc] at e0 n1 ⊢
    have q := n1.fr
    exact I_ok G h e0 (fun b hb => q.1 b (by omega)) q.2 kp.2 (hR S h.sm)
  · rw [← eoc] at e1
    exact I_ex G h e1 (by decide) (kp.1 (by rw [e1]; decide)) (hR _ h.push.sm)
  · rw [← eoc] at e1
    exact I_ex G h e1 (by decide) (kp.1 (by rw [e1]; decide)) (hR _ h.push.sm)
theorem pv_9 (G : zOK g) (hI : Inv j x m o S im) (hj : j ≤ 600) {s1 : Int} (c1 : zc s1) :
    (zkd S x = 7 ∧ zCW g yL_setLateralLimit M_L_setLateralLimit [(0, 9, 12, 13)] [.ref x, .int (zi s1), .ref o] S im (zQW (fun r2 S3 im4 => (zkd S3 m = 8 ∧ zCI g yX8_setLateralLimit M_X8_setLateralLimit [.ref m, .int (zi s1)] S3 im4 (fun r8 im7 => zCI g yX8_thrown M_X8_thrown [.ref m] S3 im7 (fun r11 im10 => ((r11 = r2 → ((¬ r2 = 0 → Inv (j + 1) x m o S3 im10) ∧ (r2 = 0 → (zkd S3 o = 12 ∧ (zln S3 o = 1 ∧ (((zcmp (im10 o 0) r8) = 0 → Inv (j + 1) x m o S3 im10) ∧ (¬ (zcmp (im10 o 0) r8) = 0 → False))))))) ∧ (¬ r11 = r2 → False))))))) zX0) := by
  obtain ⟨an, as, A, X, h⟩ := hI
  have hd := h.dep
  have hM := h.bd
  have hW := h.w
  have hG := hW.1.1
  have hF := hW.fit
  have sz := hW.sz
  have l := h.loc
  have l3 := h.two
  have hm : (840 * (j : Int)) ≤ 70000000 := by omega
  obtain ⟨oc, eoc⟩ : ∃ oc, oc = oLim A s1 := ⟨_, rfl⟩
  have kp : kP j A oc := by rw [eoc]; exact kp_lim hW _
  have hR (S3 : zSh) (hS3 : zS_M S3 m) (im4 : zIm) (hmm : mRep (im4 (m + 1)) A) (Q' : Int → zIm → Prop) (hq : ∀ im', mP m im4 im' oc.2.2 oc.1 → Q' oc.2.1 im') : zCI g yX8_setLateralLimit M_X8_setLateralLimit [.ref m, .int (zi s1)] S3 im4 Q' := by
    rw [eoc] at hq
    exact r_setLimit G hS3 hmm c1 hq
  refine ⟨hd.1, v_L_setLateralLimit G hd.1 h.oo.1 h.oo.2 c1 ?_⟩
  refine k_setLimit G hd hM hG c1 (fun e0 im1 n1 => ?_) (fun e1 => ⟨rfl, ?_⟩)
  · rw [← eoc] at e0 n1 ⊢
    have q := n1.fr
    exact I_ok G h e0 (fun b hb => q.1 b (by omega)) q.2 kp.2 (hR S h.sm)
  · rw [← eoc] at e1
    exact I_ex G h e1 (by decide) (kp.1 (by rw [e1]; decide)) (hR _ h.push.sm)
theorem pv_11 (G : zOK g) (hI : Inv j x m o S im) (hj : j ≤ 600) {s1 : Int} (c1 : zc s1) :
    (zkd S x = 7 ∧ zCW g yL_advance M_L_advance [(0, 9, 12, 13), (0, 9, 15, 15)] [.ref x, .int (zi s1), .ref o] S im (zQW (fun r2 S3 im4 => (zkd S3 m = 8 ∧ zCI g yX8_advance M_X8_advance [.ref m, .int (zi s1)] S3 im4 (fun r8 im7 => zCI g yX8_thrown M_X8_thrown [.ref m] S3 im7 (fun r11 im10 => ((r11 = r2 → ((¬ r2 = 0 → Inv (j + 1) x m o S3 im10) ∧ (r2 = 0 → (zkd S3 o = 12 ∧ (zln S3 o = 1 ∧ (((zcmp (im10 o 0) r8) = 0 → Inv (j + 1) x m o S3 im10) ∧ (¬ (zcmp (im10 o 0) r8) = 0 → False))))))) ∧ (¬ r11 = r2 → False))))))) zX0) := by
  obtain ⟨an, as, A, X, h⟩ := hI
  have hd := h.dep
  have hM := h.bd
  have hW := h.w
  have hG := hW.1.1
  have hF := hW.fit
  have sz := hW.sz
  have l := h.loc
  have l3 := h.two
  have hm : (840 * (j : Int)) ≤ 70000000 := by omega
  obtain ⟨oc, eoc⟩ : ∃ oc, oc = oAdv A s1 := ⟨_, rfl⟩
  have kp : kP j A oc := by rw [eoc]; exact kp_adv hW _
  have hR (S3 : zSh) (hS3 : zS_M S3 m) (im4 : zIm) (hmm : mRep (im4 (m + 1)) A) (Q' : Int → zIm → Prop) (hq : ∀ im', mP m im4 im' oc.2.2 oc.1 → Q' oc.2.1 im') : zCI g yX8_advance M_X8_advance [.ref m, .int (zi s1)] S3 im4 Q' := by
    rw [eoc] at hq
    exact r_advance G hS3 hmm hW c1 hq
  refine ⟨hd.1, v_L_advance G hd.1 h.oo.1 h.oo.2 c1 ?_⟩
  refine k_advance G hd hM hW c1 (fun e0 im1 n1 => ?_) (fun e1 => Or.inl ⟨rfl, ?_⟩) (fun e1 => Or.inr (⟨rfl, ?_⟩))
  · rw [← eoc] at e0 n1 ⊢
    have q := n1.fr
    exact I_ok G h e0 (fun b hb => q.1 b (by omega)) q.2 kp.2 (hR S h.sm)
  · rw [← eoc] at e1
    exact I_ex G h e1 (by decide) (kp.1 (by rw [e1]; decide)) (hR _ h.push.sm)
  · rw [← eoc] at e1
    exact I_ex G h e1 (by decide) (kp.1 (by rw [e1]; decide)) (hR _ h.push.sm)
theorem pv_12 (G : zOK g) (hI : Inv j x m o S im) (hj : j ≤ 600) {s1 : Int} (c1 : zc s1) {s2 : Int} (c2 : zc s2) :
    (zkd S x = 7 ∧ zCW g yL_run M_L_run [(0, 10, 13, 13), (0, 10, 17, 15)] [.ref x, .int (zi s1), .int (zi s2), .ref o] S im (zQW (fun r2 S3 im4 => (zkd S3 m = 8 ∧ zCI g yX8_run M_X8_run [.ref m, .int (zi s1), .int (zi s2)] S3 im4 (fun r8 im7 => zCI g yX8_thrown M_X8_thrown [.ref m] S3 im7 (fun r11 im10 => ((r11 = r2 → ((¬ r2 = 0 → Inv (j + 1) x m o S3 im10) ∧ (r2 = 0 → (zkd S3 o = 12 ∧ (zln S3 o = 1 ∧ (((zcmp (im10 o 0) r8) = 0 → Inv (j + 1) x m o S3 im10) ∧ (¬ (zcmp (im10 o 0) r8) = 0 → False))))))) ∧ (¬ r11 = r2 → False))))))) zX0) := by
  obtain ⟨an, as, A, X, h⟩ := hI
  have hd := h.dep
  have hM := h.bd
  have hW := h.w
  have hG := hW.1.1
  have hF := hW.fit
  have sz := hW.sz
  have l := h.loc
  have l3 := h.two
  have hm : (840 * (j : Int)) ≤ 70000000 := by omega
  obtain ⟨oc, eoc⟩ : ∃ oc, oc = oRun A s1 s2 := ⟨_, rfl⟩
  have kp : kP j A oc := by rw [eoc]; exact kp_run hW hj c1 _
  have hR (S3 : zSh) (hS3 : zS_M S3 m) (im4 : zIm) (hmm : mRep (im4 (m + 1)) A) (Q' : Int → zIm → Prop) (hq : ∀ im', mP m im4 im' oc.2.2 oc.1 → Q' oc.2.1 im') : zCI g yX8_run M_X8_run [.ref m, .int (zi s1), .int (zi s2)] S3 im4 Q' := by
    rw [eoc] at hq
    exact r_run G hS3 hmm hW (by omega) c1 c2 hq
  refine ⟨hd.1, v_L_run G hd.1 h.oo.1 h.oo.2 c1 c2 ?_⟩
  refine k_run G hd hM hW (by omega) c1 c2 (fun e0 im1 n1 => ?_) (fun e1 => Or.inl ⟨rfl, ?_⟩) (fun e1 => Or.inr (⟨rfl, ?_⟩))
  · rw [← eoc] at e0 n1 ⊢
    have q := n1.fr
    exact I_ok G h e0 (fun b hb => q.1 b (by omega)) q.2 kp.2 (hR S h.sm)
  · rw [← eoc] at e1
    exact I_ex G h e1 (by decide) (kp.1 (by rw [e1]; decide)) (hR _ h.push.sm)
  · rw [← eoc] at e1
    exact I_ex G h e1 (by decide) (kp.1 (by rw [e1]; decide)) (hR _ h.push.sm)
end PV
