section PVB
variable {g : zG} {S : zSh} {im : zIm} {j x m o : Nat}
theorem k_dueDay (G : zOK g) {a an as av at_ : Nat} {A : aA} {y : Int} (hd : zDep S a an as av at_) (hM : nS an y im im A) (hU : A.2.1.length < 300) {p : Int} (cp : zc p) {Q : Int → zIm → Prop} {X : String → zSh → zIm → Prop} (h0 : (oDue A p 4).1 = 0 → Q (oDue A p 4).2.1 im) (h1 : (oDue A p 4).1 = 1 → X "java/lang/IndexOutOfBoundsException" (zpush S 14 0) im) : zCIx g yX7_dueDay M_X7_dueDay [.ref a, .int (zi p)] S im Q X :=
  v_X7_dueDay G hd cp (k_unit (f := 4) (Q := Q) (X := X) (c := 19) G hd hM hU cp (fun k hk => (hM.2.2.2.1.2 k hk).1) h0 h1)
theorem k_dueKind (G : zOK g) {a an as av at_ : Nat} {A : aA} {y : Int} (hd : zDep S a an as av at_) (hM : nS an y im im A) (hU : A.2.1.length < 300) {p : Int} (cp : zc p) {Q : Int → zIm → Prop} {X : String → zSh → zIm → Prop} (h0 : (oDue A p 0).1 = 0 → Q (oDue A p 0).2.1 im) (h1 : (oDue A p 0).1 = 1 → X "java/lang/IndexOutOfBoundsException" (zpush S 14 0) im) : zCIx g yX7_dueKind M_X7_dueKind [.ref a, .int (zi p)] S im Q X :=
  v_X7_dueKind G hd cp (k_unit (f := 0) (Q := Q) (X := X) (c := 20) G hd hM hU cp (fun k hk => (hM.2.2.2.1.2 k hk).2.1) h0 h1)
theorem k_dueItem (G : zOK g) {a an as av at_ : Nat} {A : aA} {y : Int} (hd : zDep S a an as av at_) (hM : nS an y im im A) (hU : A.2.1.length < 300) {p : Int} (cp : zc p) {Q : Int → zIm → Prop} {X : String → zSh → zIm → Prop} (h0 : (oDue A p 1).1 = 0 → Q (oDue A p 1).2.1 im) (h1 : (oDue A p 1).1 = 1 → X "java/lang/IndexOutOfBoundsException" (zpush S 14 0) im) : zCIx g yX7_dueItem M_X7_dueItem [.ref a, .int (zi p)] S im Q X :=
  v_X7_dueItem G hd cp (k_unit (f := 1) (Q := Q) (X := X) (c := 21) G hd hM hU cp (fun k hk => (hM.2.2.2.1.2 k hk).2.2.1) h0 h1)
theorem k_dueSite (G : zOK g) {a an as av at_ : Nat} {A : aA} {y : Int} (hd : zDep S a an as av at_) (hM : nS an y im im A) (hU : A.2.1.length < 300) {p : Int} (cp : zc p) {Q : Int → zIm → Prop} {X : String → zSh → zIm → Prop} (h0 : (oDue A p 2).1 = 0 → Q (oDue A p 2).2.1 im) (h1 : (oDue A p 2).1 = 1 → X "java/lang/IndexOutOfBoundsException" (zpush S 14 0) im) : zCIx g yX7_dueSite M_X7_dueSite [.ref a, .int (zi p)] S im Q X :=
  v_X7_dueSite G hd cp (k_unit (f := 2) (Q := Q) (X := X) (c := 22) G hd hM hU cp (fun k hk => (hM.2.2.2.1.2 k hk).2.2.2.1) h0 h1)
theorem k_dueOwner (G : zOK g) {a an as av at_ : Nat} {A : aA} {y : Int} (hd : zDep S a an as av at_) (hM : nS an y im im A) (hU : A.2.1.length < 300) {p : Int} (cp : zc p) {Q : Int → zIm → Prop} {X : String → zSh → zIm → Prop} (h0 : (oDue A p 3).1 = 0 → Q (oDue A p 3).2.1 im) (h1 : (oDue A p 3).1 = 1 → X "java/lang/IndexOutOfBoundsException" (zpush S 14 0) im) : zCIx g yX7_dueOwner M_X7_dueOwner [.ref a, .int (zi p)] S im Q X :=
  v_X7_dueOwner G hd cp (k_unit (f := 3) (Q := Q) (X := X) (c := 23) G hd hM hU cp (fun k hk => (hM.2.2.2.1.2 k hk).2.2.2.2.1) h0 h1)
theorem pv_15 (G : zOK g) (hI : Inv j x m o S im) (hj : j ≤ 600) {s1 : Int} (c1 : zc s1) {s2 : Int} (c2 : zc s2) :
    (zkd S x = 7 ∧ zCW g yL_level M_L_level [(0, 10, 13, 24)] [.ref x, .int (zi s1), .int (zi s2), .ref o] S im (zQW (fun r2 S3 im4 => (zkd S3 m = 8 ∧ zCI g yX8_level M_X8_level [.ref m, .int (zi s1), .int (zi s2)] S3 im4 (fun r8 im7 => zCI g yX8_thrown M_X8_thrown [.ref m] S3 im7 (fun r11 im10 => ((r11 = r2 → ((¬ r2 = 0 → Inv (j + 1) x m o S3 im10) ∧ (r2 = 0 → (zkd S3 o = 12 ∧ (zln S3 o = 1 ∧ (((zcmp (im10 o 0) r8) = 0 → Inv (j + 1) x m o S3 im10) ∧ (¬ (zcmp (im10 o 0) r8) = 0 → False))))))) ∧ (¬ r11 = r2 → False))))))) zX0) := by
  obtain ⟨an, as, A, X, h⟩ := hI
  have hd := h.dep
  have hM := h.bd
  have hW := h.w
  have hG := hW.1.1
  have hF := hW.fit
  have sz := hW.sz
  have l := h.loc
  have l3 := h.two
  have hm : (840 * (j : Int)) ≤ 70000000 := by omega
  obtain ⟨oc, eoc⟩ : ∃ oc, oc = oAt 92 A s1 s2 := ⟨_, rfl⟩
  have kp : kP j A oc := by rw [eoc]; exact kP_A hW oAt_A
  have hR (S3 : zSh) (hS3 : zS_M S3 m) (im4 : zIm) (hmm : mRep (im4 (m + 1)) A) (Q' : Int → zIm → Prop) (hq : ∀ im', mP m im4 im' oc.2.2 oc.1 → Q' oc.2.1 im') : zCI g yX8_level M_X8_level [.ref m, .int (zi s1), .int (zi s2)] S3 im4 Q' := by
    rw [eoc] at hq
    exact r_level G hS3 hmm hG c1 c2 hq
  refine ⟨hd.1, v_L_level G hd.1 h.oo.1 h.oo.2 c1 c2 ?_⟩
  refine k_level G hd hM hG c1 c2 (fun e0 => ?_) (fun e1 => ⟨rfl, ?_⟩)
  · rw [← eoc] at e0 ⊢
    exact I_ok G h e0 (fun b hb => rfl) (kp_self kp h.bd.2.2 (by rw [eoc]; exact oAt_A)) kp.2 (hR S h.sm)
  · rw [← eoc] at e1
    exact I_ex G h e1 (by decide) (kp.1 (by rw [e1]; decide)) (hR _ h.push.sm)
theorem pv_16 (G : zOK g) (hI : Inv j x m o S im) (hj : j ≤ 600) {s1 : Int} (c1 : zc s1) {s2 : Int} (c2 : zc s2) :
    (zkd S x = 7 ∧ zCW g yL_onHand M_L_onHand [(0, 10, 13, 24)] [.ref x, .int (zi s1), .int (zi s2), .ref o] S im (zQW (fun r2 S3 im4 => (zkd S3 m = 8 ∧ zCI g yX8_onHand M_X8_onHand [.ref m, .int (zi s1), .int (zi s2)] S3 im4 (fun r8 im7 => zCI g yX8_thrown M_X8_thrown [.ref m] S3 im7 (fun r11 im10 => ((r11 = r2 → ((¬ r2 = 0 → Inv (j + 1) x m o S3 im10) ∧ (r2 = 0 → (zkd S3 o = 12 ∧ (zln S3 o = 1 ∧ (((zcmp (im10 o 0) r8) = 0 → Inv (j + 1) x m o S3 im10) ∧ (¬ (zcmp (im10 o 0) r8) = 0 → False))))))) ∧ (¬ r11 = r2 → False))))))) zX0) := by
  obtain ⟨an, as, A, X, h⟩ := hI
  have hd := h.dep
  have hM := h.bd
  have hW := h.w
  have hG := hW.1.1
  have hF := hW.fit
  have sz := hW.sz
  have l := h.loc
  have l3 := h.two
  have hm : (840 * (j : Int)) ≤ 70000000 := by omega
  obtain ⟨oc, eoc⟩ : ∃ oc, oc = oAt 124 A s1 s2 := ⟨_, rfl⟩
  have kp : kP j A oc := by rw [eoc]; exact kP_A hW oAt_A
  have hR (S3 : zSh) (hS3 : zS_M S3 m) (im4 : zIm) (hmm : mRep (im4 (m + 1)) A) (Q' : Int → zIm → Prop) (hq : ∀ im', mP m im4 im' oc.2.2 oc.1 → Q' oc.2.1 im') : zCI g yX8_onHand M_X8_onHand [.ref m, .int (zi s1), .int (zi s2)] S3 im4 Q' := by
    rw [eoc] at hq
    exact r_onHand G hS3 hmm hG c1 c2 hq
  refine ⟨hd.1, v_L_onHand G hd.1 h.oo.1 h.oo.2 c1 c2 ?_⟩
  refine k_onHand G hd hM hG c1 c2 (fun e0 => ?_) (fun e1 => ⟨rfl, ?_⟩)
  · rw [← eoc] at e0 ⊢
    exact I_ok G h e0 (fun b hb => rfl) (kp_self kp h.bd.2.2 (by rw [eoc]; exact oAt_A)) kp.2 (hR S h.sm)
  · rw [← eoc] at e1
    exact I_ex G h e1 (by decide) (kp.1 (by rw [e1]; decide)) (hR _ h.push.sm)
theorem pv_17 (G : zOK g) (hI : Inv j x m o S im) (hj : j ≤ 600) {s1 : Int} (c1 : zc s1) {s2 : Int} (c2 : zc s2) :
    (zkd S x = 7 ∧ zCW g yL_waiting M_L_waiting [(0, 10, 13, 24)] [.ref x, .int (zi s1), .int (zi s2), .ref o] S im (zQW (fun r2 S3 im4 => (zkd S3 m = 8 ∧ zCI g yX8_waiting M_X8_waiting [.ref m, .int (zi s1), .int (zi s2)] S3 im4 (fun r8 im7 => zCI g yX8_thrown M_X8_thrown [.ref m] S3 im7 (fun r11 im10 => ((r11 = r2 → ((¬ r2 = 0 → Inv (j + 1) x m o S3 im10) ∧ (r2 = 0 → (zkd S3 o = 12 ∧ (zln S3 o = 1 ∧ (((zcmp (im10 o 0) r8) = 0 → Inv (j + 1) x m o S3 im10) ∧ (¬ (zcmp (im10 o 0) r8) = 0 → False))))))) ∧ (¬ r11 = r2 → False))))))) zX0) := by
  obtain ⟨an, as, A, X, h⟩ := hI
  have hd := h.dep
  have hM := h.bd
  have hW := h.w
  have hG := hW.1.1
  have hF := hW.fit
  have sz := hW.sz
  have l := h.loc
  have l3 := h.two
  have hm : (840 * (j : Int)) ≤ 70000000 := by omega
  obtain ⟨oc, eoc⟩ : ∃ oc, oc = oBI A s1 s2 (vWt A s1 s2) := ⟨_, rfl⟩
  have kp : kP j A oc := by rw [eoc]; exact kP_A hW oBI_A
  have hR (S3 : zSh) (hS3 : zS_M S3 m) (im4 : zIm) (hmm : mRep (im4 (m + 1)) A) (Q' : Int → zIm → Prop) (hq : ∀ im', mP m im4 im' oc.2.2 oc.1 → Q' oc.2.1 im') : zCI g yX8_waiting M_X8_waiting [.ref m, .int (zi s1), .int (zi s2)] S3 im4 Q' := by
    rw [eoc] at hq
    exact r_waiting G hS3 hmm hG hF c1 c2 hq
  refine ⟨hd.1, v_L_waiting G hd.1 h.oo.1 h.oo.2 c1 c2 ?_⟩
  refine k_waiting G hd hM (by omega) c1 c2 (fun e0 => ?_) (fun e1 => ⟨rfl, ?_⟩)
  · rw [← eoc] at e0 ⊢
    exact I_ok G h e0 (fun b hb => rfl) (kp_self kp h.bd.2.2 (by rw [eoc]; exact oBI_A)) kp.2 (hR S h.sm)
  · rw [← eoc] at e1
    exact I_ex G h e1 (by decide) (kp.1 (by rw [e1]; decide)) (hR _ h.push.sm)
theorem pv_18 (G : zOK g) (hI : Inv j x m o S im) (hj : j ≤ 600) {s1 : Int} (c1 : zc s1) {s2 : Int} (c2 : zc s2) :
    (zkd S x = 7 ∧ zCW g yL_topPriority M_L_topPriority [(0, 10, 13, 24)] [.ref x, .int (zi s1), .int (zi s2), .ref o] S im (zQW (fun r2 S3 im4 => (zkd S3 m = 8 ∧ zCI g yX8_topPriority M_X8_topPriority [.ref m, .int (zi s1), .int (zi s2)] S3 im4 (fun r8 im7 => zCI g yX8_thrown M_X8_thrown [.ref m] S3 im7 (fun r11 im10 => ((r11 = r2 → ((¬ r2 = 0 → Inv (j + 1) x m o S3 im10) ∧ (r2 = 0 → (zkd S3 o = 12 ∧ (zln S3 o = 1 ∧ (((zcmp (im10 o 0) r8) = 0 → Inv (j + 1) x m o S3 im10) ∧ (¬ (zcmp (im10 o 0) r8) = 0 → False))))))) ∧ (¬ r11 = r2 → False))))))) zX0) := by
  obtain ⟨an, as, A, X, h⟩ := hI
  have hd := h.dep
  have hM := h.bd
  have hW := h.w
  have hG := hW.1.1
  have hF := hW.fit
  have sz := hW.sz
  have l := h.loc
  have l3 := h.two
  have hm : (840 * (j : Int)) ≤ 70000000 := by omega
  obtain ⟨oc, eoc⟩ : ∃ oc, oc = oBI A s1 s2 (vTop A s1 s2) := ⟨_, rfl⟩
  have kp : kP j A oc := by rw [eoc]; exact kP_A hW oBI_A
  have hR (S3 : zSh) (hS3 : zS_M S3 m) (im4 : zIm) (hmm : mRep (im4 (m + 1)) A) (Q' : Int → zIm → Prop) (hq : ∀ im', mP m im4 im' oc.2.2 oc.1 → Q' oc.2.1 im') : zCI g yX8_topPriority M_X8_topPriority [.ref m, .int (zi s1), .int (zi s2)] S3 im4 Q' := by
    rw [eoc] at hq
    exact r_topPriority G hS3 hmm hG hF c1 c2 hq
  refine ⟨hd.1, v_L_topPriority G hd.1 h.oo.1 h.oo.2 c1 c2 ?_⟩
  refine k_topPriority G hd hM (by omega) c1 c2 (fun e0 => ?_) (fun e1 => ⟨rfl, ?_⟩)
  · rw [← eoc] at e0 ⊢
    exact I_ok G h e0 (fun b hb => rfl) (kp_self kp h.bd.2.2 (by rw [eoc]; exact oBI_A)) kp.2 (hR S h.sm)
  · rw [← eoc] at e1
    exact I_ex G h e1 (by decide) (kp.1 (by rw [e1]; decide)) (hR _ h.push.sm)
theorem pv_20 (G : zOK g) (hI : Inv j x m o S im) (hj : j ≤ 600) {s1 : Int} (c1 : zc s1) {s2 : Int} (c2 : zc s2) :
    (zkd S x = 7 ∧ zCW g yL_dueIn M_L_dueIn [(0, 10, 13, 24)] [.ref x, .int (zi s1), .int (zi s2), .ref o] S im (zQW (fun r2 S3 im4 => (zkd S3 m = 8 ∧ zCI g yX8_dueIn M_X8_dueIn [.ref m, .int (zi s1), .int (zi s2)] S3 im4 (fun r8 im7 => zCI g yX8_thrown M_X8_thrown [.ref m] S3 im7 (fun r11 im10 => ((r11 = r2 → ((¬ r2 = 0 → Inv (j + 1) x m o S3 im10) ∧ (r2 = 0 → (zkd S3 o = 12 ∧ (zln S3 o = 1 ∧ (((zcmp (im10 o 0) r8) = 0 → Inv (j + 1) x m o S3 im10) ∧ (¬ (zcmp (im10 o 0) r8) = 0 → False))))))) ∧ (¬ r11 = r2 → False))))))) zX0) := by
  obtain ⟨an, as, A, X, h⟩ := hI
  have hd := h.dep
  have hM := h.bd
  have hW := h.w
  have hG := hW.1.1
  have hF := hW.fit
  have sz := hW.sz
  have l := h.loc
  have l3 := h.two
  have hm : (840 * (j : Int)) ≤ 70000000 := by omega
  obtain ⟨oc, eoc⟩ : ∃ oc, oc = oBI A s1 s2 (vDue A s1 s2) := ⟨_, rfl⟩
  have kp : kP j A oc := by rw [eoc]; exact kP_A hW oBI_A
  have hR (S3 : zSh) (hS3 : zS_M S3 m) (im4 : zIm) (hmm : mRep (im4 (m + 1)) A) (Q' : Int → zIm → Prop) (hq : ∀ im', mP m im4 im' oc.2.2 oc.1 → Q' oc.2.1 im') : zCI g yX8_dueIn M_X8_dueIn [.ref m, .int (zi s1), .int (zi s2)] S3 im4 Q' := by
    rw [eoc] at hq
    exact r_dueIn G hS3 hmm hG hF c1 c2 hq
  refine ⟨hd.1, v_L_dueIn G hd.1 h.oo.1 h.oo.2 c1 c2 ?_⟩
  refine k_dueIn G hd hM hW.1 (by omega) (by omega) c1 c2 (fun e0 => ?_) (fun e1 => ⟨rfl, ?_⟩)
  · rw [← eoc] at e0 ⊢
    exact I_ok G h e0 (fun b hb => rfl) (kp_self kp h.bd.2.2 (by rw [eoc]; exact oBI_A)) kp.2 (hR S h.sm)
  · rw [← eoc] at e1
    exact I_ex G h e1 (by decide) (kp.1 (by rw [e1]; decide)) (hR _ h.push.sm)
theorem pv_21 (G : zOK g) (hI : Inv j x m o S im) (hj : j ≤ 600) {s1 : Int} (c1 : zc s1) {s2 : Int} (c2 : zc s2) :
    (zkd S x = 7 ∧ zCW g yL_position M_L_position [(0, 10, 13, 24)] [.ref x, .int (zi s1), .int (zi s2), .ref o] S im (zQW (fun r2 S3 im4 => (zkd S3 m = 8 ∧ zCI g yX8_position M_X8_position [.ref m, .int (zi s1), .int (zi s2)] S3 im4 (fun r8 im7 => zCI g yX8_thrown M_X8_thrown [.ref m] S3 im7 (fun r11 im10 => ((r11 = r2 → ((¬ r2 = 0 → Inv (j + 1) x m o S3 im10) ∧ (r2 = 0 → (zkd S3 o = 12 ∧ (zln S3 o = 1 ∧ (((zcmp (im10 o 0) r8) = 0 → Inv (j + 1) x m o S3 im10) ∧ (¬ (zcmp (im10 o 0) r8) = 0 → False))))))) ∧ (¬ r11 = r2 → False))))))) zX0) := by
  obtain ⟨an, as, A, X, h⟩ := hI
  have hd := h.dep
  have hM := h.bd
  have hW := h.w
  have hG := hW.1.1
  have hF := hW.fit
  have sz := hW.sz
  have l := h.loc
  have l3 := h.two
  have hm : (840 * (j : Int)) ≤ 70000000 := by omega
  obtain ⟨oc, eoc⟩ : ∃ oc, oc = oBI A s1 s2 (vPos A s1 s2) := ⟨_, rfl⟩
  have kp : kP j A oc := by rw [eoc]; exact kP_A hW oBI_A
  have hR (S3 : zSh) (hS3 : zS_M S3 m) (im4 : zIm) (hmm : mRep (im4 (m + 1)) A) (Q' : Int → zIm → Prop) (hq : ∀ im', mP m im4 im' oc.2.2 oc.1 → Q' oc.2.1 im') : zCI g yX8_position M_X8_position [.ref m, .int (zi s1), .int (zi s2)] S3 im4 Q' := by
    rw [eoc] at hq
    exact r_position G hS3 hmm hG hF c1 c2 hq
  refine ⟨hd.1, v_L_position G hd.1 h.oo.1 h.oo.2 c1 c2 ?_⟩
  refine k_position G hd hM hW.1 (by omega) (by omega) (by omega) c1 c2 (fun e0 => ?_) (fun e1 => ⟨rfl, ?_⟩)
  · rw [← eoc] at e0 ⊢
    exact I_ok G h e0 (fun b hb => rfl) (kp_self kp h.bd.2.2 (by rw [eoc]; exact oBI_A)) kp.2 (hR S h.sm)
  · rw [← eoc] at e1
    exact I_ex G h e1 (by decide) (kp.1 (by rw [e1]; decide)) (hR _ h.push.sm)
theorem pv_24 (G : zOK g) (hI : Inv j x m o S im) (hj : j ≤ 600) {s1 : Int} (c1 : zc s1) {s2 : Int} (c2 : zc s2) :
    (zkd S x = 7 ∧ zCW g yL_nextArrival M_L_nextArrival [(0, 10, 13, 24)] [.ref x, .int (zi s1), .int (zi s2), .ref o] S im (zQW (fun r2 S3 im4 => (zkd S3 m = 8 ∧ zCI g yX8_nextArrival M_X8_nextArrival [.ref m, .int (zi s1), .int (zi s2)] S3 im4 (fun r8 im7 => zCI g yX8_thrown M_X8_thrown [.ref m] S3 im7 (fun r11 im10 => ((r11 = r2 → ((¬ r2 = 0 → Inv (j + 1) x m o S3 im10) ∧ (r2 = 0 → (zkd S3 o = 12 ∧ (zln S3 o = 1 ∧ (((zcmp (im10 o 0) r8) = 0 → Inv (j + 1) x m o S3 im10) ∧ (¬ (zcmp (im10 o 0) r8) = 0 → False))))))) ∧ (¬ r11 = r2 → False))))))) zX0) := by
  obtain ⟨an, as, A, X, h⟩ := hI
  have hd := h.dep
  have hM := h.bd
  have hW := h.w
  have hG := hW.1.1
  have hF := hW.fit
  have sz := hW.sz
  have l := h.loc
  have l3 := h.two
  have hm : (840 * (j : Int)) ≤ 70000000 := by omega
  obtain ⟨oc, eoc⟩ : ∃ oc, oc = oBI A s1 s2 (vNx A s1 s2) := ⟨_, rfl⟩
  have kp : kP j A oc := by rw [eoc]; exact kP_A hW oBI_A
  have hR (S3 : zSh) (hS3 : zS_M S3 m) (im4 : zIm) (hmm : mRep (im4 (m + 1)) A) (Q' : Int → zIm → Prop) (hq : ∀ im', mP m im4 im' oc.2.2 oc.1 → Q' oc.2.1 im') : zCI g yX8_nextArrival M_X8_nextArrival [.ref m, .int (zi s1), .int (zi s2)] S3 im4 Q' := by
    rw [eoc] at hq
    exact r_nextArrival G hS3 hmm hW.1 hF c1 c2 hq
  refine ⟨hd.1, v_L_nextArrival G hd.1 h.oo.1 h.oo.2 c1 c2 ?_⟩
  refine k_nextArrival G hd hM hW.1 (by omega) c1 c2 (fun e0 => ?_) (fun e1 => ⟨rfl, ?_⟩)
  · rw [← eoc] at e0 ⊢
    exact I_ok G h e0 (fun b hb => rfl) (kp_self kp h.bd.2.2 (by rw [eoc]; exact oBI_A)) kp.2 (hR S h.sm)
  · rw [← eoc] at e1
    exact I_ex G h e1 (by decide) (kp.1 (by rw [e1]; decide)) (hR _ h.push.sm)
theorem pv_19 (G : zOK g) (hI : Inv j x m o S im) (hj : j ≤ 600) {s1 : Int} (c1 : zc s1) :
    (zkd S x = 7 ∧ zCW g yL_keptOrders M_L_keptOrders [(0, 9, 12, 24)] [.ref x, .int (zi s1), .ref o] S im (zQW (fun r2 S3 im4 => (zkd S3 m = 8 ∧ zCI g yX8_keptOrders M_X8_keptOrders [.ref m, .int (zi s1)] S3 im4 (fun r8 im7 => zCI g yX8_thrown M_X8_thrown [.ref m] S3 im7 (fun r11 im10 => ((r11 = r2 → ((¬ r2 = 0 → Inv (j + 1) x m o S3 im10) ∧ (r2 = 0 → (zkd S3 o = 12 ∧ (zln S3 o = 1 ∧ (((zcmp (im10 o 0) r8) = 0 → Inv (j + 1) x m o S3 im10) ∧ (¬ (zcmp (im10 o 0) r8) = 0 → False))))))) ∧ (¬ r11 = r2 → False))))))) zX0) := by
  obtain ⟨an, as, A, X, h⟩ := hI
  have hd := h.dep
  have hM := h.bd
  have hW := h.w
  have hG := hW.1.1
  have hF := hW.fit
  have sz := hW.sz
  have l := h.loc
  have l3 := h.two
  have hm : (840 * (j : Int)) ≤ 70000000 := by omega
  obtain ⟨oc, eoc⟩ : ∃ oc, oc = oIt A s1 (vKept A s1) := ⟨_, rfl⟩
  have kp : kP j A oc := by rw [eoc]; exact kP_A hW oIt_A
  have hR (S3 : zSh) (hS3 : zS_M S3 m) (im4 : zIm) (hmm : mRep (im4 (m + 1)) A) (Q' : Int → zIm → Prop) (hq : ∀ im', mP m im4 im' oc.2.2 oc.1 → Q' oc.2.1 im') : zCI g yX8_keptOrders M_X8_keptOrders [.ref m, .int (zi s1)] S3 im4 Q' := by
    rw [eoc] at hq
    exact r_keptOrders G hS3 hmm hG hF c1 hq
  refine ⟨hd.1, v_L_keptOrders G hd.1 h.oo.1 h.oo.2 c1 ?_⟩
  refine k_keptOrders G hd hM (by omega) c1 (fun e0 => ?_) (fun e1 => ⟨rfl, ?_⟩)
  · rw [← eoc] at e0 ⊢
    exact I_ok G h e0 (fun b hb => rfl) (kp_self kp h.bd.2.2 (by rw [eoc]; exact oIt_A)) kp.2 (hR S h.sm)
  · rw [← eoc] at e1
    exact I_ex G h e1 (by decide) (kp.1 (by rw [e1]; decide)) (hR _ h.push.sm)
theorem pv_23 (G : zOK g) (hI : Inv j x m o S im) (hj : j ≤ 600) {s1 : Int} (c1 : zc s1) :
    (zkd S x = 7 ∧ zCW g yL_fleet M_L_fleet [(0, 9, 12, 24)] [.ref x, .int (zi s1), .ref o] S im (zQW (fun r2 S3 im4 => (zkd S3 m = 8 ∧ zCI g yX8_fleet M_X8_fleet [.ref m, .int (zi s1)] S3 im4 (fun r8 im7 => zCI g yX8_thrown M_X8_thrown [.ref m] S3 im7 (fun r11 im10 => ((r11 = r2 → ((¬ r2 = 0 → Inv (j + 1) x m o S3 im10) ∧ (r2 = 0 → (zkd S3 o = 12 ∧ (zln S3 o = 1 ∧ (((zcmp (im10 o 0) r8) = 0 → Inv (j + 1) x m o S3 im10) ∧ (¬ (zcmp (im10 o 0) r8) = 0 → False))))))) ∧ (¬ r11 = r2 → False))))))) zX0) := by
  obtain ⟨an, as, A, X, h⟩ := hI
  have hd := h.dep
  have hM := h.bd
  have hW := h.w
  have hG := hW.1.1
  have hF := hW.fit
  have sz := hW.sz
  have l := h.loc
  have l3 := h.two
  have hm : (840 * (j : Int)) ≤ 70000000 := by omega
  obtain ⟨oc, eoc⟩ : ∃ oc, oc = oIt A s1 (vFl A s1) := ⟨_, rfl⟩
  have kp : kP j A oc := by rw [eoc]; exact kP_A hW oIt_A
  have hR (S3 : zSh) (hS3 : zS_M S3 m) (im4 : zIm) (hmm : mRep (im4 (m + 1)) A) (Q' : Int → zIm → Prop) (hq : ∀ im', mP m im4 im' oc.2.2 oc.1 → Q' oc.2.1 im') : zCI g yX8_fleet M_X8_fleet [.ref m, .int (zi s1)] S3 im4 Q' := by
    rw [eoc] at hq
    exact r_fleet G hS3 hmm hG hF c1 hq
  refine ⟨hd.1, v_L_fleet G hd.1 h.oo.1 h.oo.2 c1 ?_⟩
  refine k_fleet G hd hM hW.1 (by omega) (by omega) c1 (fun e0 => ?_) (fun e1 => ⟨rfl, ?_⟩)
  · rw [← eoc] at e0 ⊢
    exact I_ok G h e0 (fun b hb => rfl) (kp_self kp h.bd.2.2 (by rw [eoc]; exact oIt_A)) kp.2 (hR S h.sm)
  · rw [← eoc] at e1
    exact I_ex G h e1 (by decide) (kp.1 (by rw [e1]; decide)) (hR _ h.push.sm)
theorem pv_22 (G : zOK g) (hI : Inv j x m o S im) (hj : j ≤ 600) {s1 : Int} (c1 : zc s1) {s2 : Int} (c2 : zc s2) :
    (zkd S x = 7 ∧ zCW g yL_underWay M_L_underWay [(0, 10, 13, 24), (0, 10, 17, 13)] [.ref x, .int (zi s1), .int (zi s2), .ref o] S im (zQW (fun r2 S3 im4 => (zkd S3 m = 8 ∧ zCI g yX8_underWay M_X8_underWay [.ref m, .int (zi s1), .int (zi s2)] S3 im4 (fun r8 im7 => zCI g yX8_thrown M_X8_thrown [.ref m] S3 im7 (fun r11 im10 => ((r11 = r2 → ((¬ r2 = 0 → Inv (j + 1) x m o S3 im10) ∧ (r2 = 0 → (zkd S3 o = 12 ∧ (zln S3 o = 1 ∧ (((zcmp (im10 o 0) r8) = 0 → Inv (j + 1) x m o S3 im10) ∧ (¬ (zcmp (im10 o 0) r8) = 0 → False))))))) ∧ (¬ r11 = r2 → False))))))) zX0) := by
  obtain ⟨an, as, A, X, h⟩ := hI
  have hd := h.dep
  have hM := h.bd
  have hW := h.w
  have hG := hW.1.1
  have hF := hW.fit
  have sz := hW.sz
  have l := h.loc
  have l3 := h.two
  have hm : (840 * (j : Int)) ≤ 70000000 := by omega
  obtain ⟨oc, eoc⟩ : ∃ oc, oc = oUnd A s1 s2 := ⟨_, rfl⟩
  have kp : kP j A oc := by rw [eoc]; exact kP_A hW oUnd_A
  have hR (S3 : zSh) (hS3 : zS_M S3 m) (im4 : zIm) (hmm : mRep (im4 (m + 1)) A) (Q' : Int → zIm → Prop) (hq : ∀ im', mP m im4 im' oc.2.2 oc.1 → Q' oc.2.1 im') : zCI g yX8_underWay M_X8_underWay [.ref m, .int (zi s1), .int (zi s2)] S3 im4 Q' := by
    rw [eoc] at hq
    exact r_underWay G hS3 hmm hG hF c1 c2 hq
  refine ⟨hd.1, v_L_underWay G hd.1 h.oo.1 h.oo.2 c1 c2 ?_⟩
  refine k_underWay G hd hM (by omega) c1 c2 (fun e0 => ?_) (fun e1 => Or.inl ⟨rfl, ?_⟩) (fun e1 => Or.inr (⟨rfl, ?_⟩))
  · rw [← eoc] at e0 ⊢
    exact I_ok G h e0 (fun b hb => rfl) (kp_self kp h.bd.2.2 (by rw [eoc]; exact oUnd_A)) kp.2 (hR S h.sm)
  · rw [← eoc] at e1
    exact I_ex G h e1 (by decide) (kp.1 (by rw [e1]; decide)) (hR _ h.push.sm)
  · rw [← eoc] at e1
    exact I_ex G h e1 (by decide) (kp.1 (by rw [e1]; decide)) (hR _ h.push.sm)
theorem pv_26 (G : zOK g) (hI : Inv j x m o S im) (hj : j ≤ 600) {s1 : Int} (c1 : zc s1) :
    (zkd S x = 7 ∧ zCW g yL_dueDay M_L_dueDay [(0, 9, 12, 24)] [.ref x, .int (zi s1), .ref o] S im (zQW (fun r2 S3 im4 => (zkd S3 m = 8 ∧ zCI g yX8_dueDay M_X8_dueDay [.ref m, .int (zi s1)] S3 im4 (fun r8 im7 => zCI g yX8_thrown M_X8_thrown [.ref m] S3 im7 (fun r11 im10 => ((r11 = r2 → ((¬ r2 = 0 → Inv (j + 1) x m o S3 im10) ∧ (r2 = 0 → (zkd S3 o = 12 ∧ (zln S3 o = 1 ∧ (((zcmp (im10 o 0) r8) = 0 → Inv (j + 1) x m o S3 im10) ∧ (¬ (zcmp (im10 o 0) r8) = 0 → False))))))) ∧ (¬ r11 = r2 → False))))))) zX0) := by
  obtain ⟨an, as, A, X, h⟩ := hI
  have hd := h.dep
  have hM := h.bd
  have hW := h.w
  have hG := hW.1.1
  have hF := hW.fit
  have sz := hW.sz
  have l := h.loc
  have l3 := h.two
  have hm : (840 * (j : Int)) ≤ 70000000 := by omega
  obtain ⟨oc, eoc⟩ : ∃ oc, oc = oDue A s1 4 := ⟨_, rfl⟩
  have kp : kP j A oc := by rw [eoc]; exact kP_A hW oDue_A
  have hR (S3 : zSh) (hS3 : zS_M S3 m) (im4 : zIm) (hmm : mRep (im4 (m + 1)) A) (Q' : Int → zIm → Prop) (hq : ∀ im', mP m im4 im' oc.2.2 oc.1 → Q' oc.2.1 im') : zCI g yX8_dueDay M_X8_dueDay [.ref m, .int (zi s1)] S3 im4 Q' := by
    rw [eoc] at hq
    exact v_X8_dueDay G hS3 c1 (r_dueField G hS3 hmm hF c1 (by omega) (by omega) hq)
  refine ⟨hd.1, v_L_dueDay G hd.1 h.oo.1 h.oo.2 c1 ?_⟩
  refine k_dueDay G hd hM (by omega) c1 (fun e0 => ?_) (fun e1 => ⟨rfl, ?_⟩)
  · rw [← eoc] at e0 ⊢
    exact I_ok G h e0 (fun b hb => rfl) (kp_self kp h.bd.2.2 (by rw [eoc]; exact oDue_A)) kp.2 (hR S h.sm)
  · rw [← eoc] at e1
    exact I_ex G h e1 (by decide) (kp.1 (by rw [e1]; decide)) (hR _ h.push.sm)
theorem pv_27 (G : zOK g) (hI : Inv j x m o S im) (hj : j ≤ 600) {s1 : Int} (c1 : zc s1) :
    (zkd S x = 7 ∧ zCW g yL_dueKind M_L_dueKind [(0, 9, 12, 24)] [.ref x, .int (zi s1), .ref o] S im (zQW (fun r2 S3 im4 => (zkd S3 m = 8 ∧ zCI g yX8_dueKind M_X8_dueKind [.ref m, .int (zi s1)] S3 im4 (fun r8 im7 => zCI g yX8_thrown M_X8_thrown [.ref m] S3 im7 (fun r11 im10 => ((r11 = r2 → ((¬ r2 = 0 → Inv (j + 1) x m o S3 im10) ∧ (r2 = 0 → (zkd S3 o = 12 ∧ (zln S3 o = 1 ∧ (((zcmp (im10 o 0) r8) = 0 → Inv (j + 1) x m o S3 im10) ∧ (¬ (zcmp (im10 o 0) r8) = 0 → False))))))) ∧ (¬ r11 = r2 → False))))))) zX0) := by
  obtain ⟨an, as, A, X, h⟩ := hI
  have hd := h.dep
  have hM := h.bd
  have hW := h.w
  have hG := hW.1.1
  have hF := hW.fit
  have sz := hW.sz
  have l := h.loc
  have l3 := h.two
  have hm : (840 * (j : Int)) ≤ 70000000 := by omega
  obtain ⟨oc, eoc⟩ : ∃ oc, oc = oDue A s1 0 := ⟨_, rfl⟩
  have kp : kP j A oc := by rw [eoc]; exact kP_A hW oDue_A
  have hR (S3 : zSh) (hS3 : zS_M S3 m) (im4 : zIm) (hmm : mRep (im4 (m + 1)) A) (Q' : Int → zIm → Prop) (hq : ∀ im', mP m im4 im' oc.2.2 oc.1 → Q' oc.2.1 im') : zCI g yX8_dueKind M_X8_dueKind [.ref m, .int (zi s1)] S3 im4 Q' := by
    rw [eoc] at hq
    exact v_X8_dueKind G hS3 c1 (r_dueField G hS3 hmm hF c1 (by omega) (by omega) hq)
  refine ⟨hd.1, v_L_dueKind G hd.1 h.oo.1 h.oo.2 c1 ?_⟩
  refine k_dueKind G hd hM (by omega) c1 (fun e0 => ?_) (fun e1 => ⟨rfl, ?_⟩)
  · rw [← eoc] at e0 ⊢
    exact I_ok G h e0 (fun b hb => rfl) (kp_self kp h.bd.2.2 (by rw [eoc]; exact oDue_A)) kp.2 (hR S h.sm)
  · rw [← eoc] at e1
    exact I_ex G h e1 (by decide) (kp.1 (by rw [e1]; decide)) (hR _ h.push.sm)
theorem pv_28 (G : zOK g) (hI : Inv j x m o S im) (hj : j ≤ 600) {s1 : Int} (c1 : zc s1) :
    (zkd S x = 7 ∧ zCW g yL_dueItem M_L_dueItem [(0, 9, 12, 24)] [.ref x, .int (zi s1), .ref o] S im (zQW (fun r2 S3 im4 => (zkd S3 m = 8 ∧ zCI g yX8_dueItem M_X8_dueItem [.ref m, .int (zi s1)] S3 im4 (fun r8 im7 => zCI g yX8_thrown M_X8_thrown [.ref m] S3 im7 (fun r11 im10 => ((r11 = r2 → ((¬ r2 = 0 → Inv (j + 1) x m o S3 im10) ∧ (r2 = 0 → (zkd S3 o = 12 ∧ (zln S3 o = 1 ∧ (((zcmp (im10 o 0) r8) = 0 → Inv (j + 1) x m o S3 im10) ∧ (¬ (zcmp (im10 o 0) r8) = 0 → False))))))) ∧ (¬ r11 = r2 → False))))))) zX0) := by
  obtain ⟨an, as, A, X, h⟩ := hI
  have hd := h.dep
  have hM := h.bd
  have hW := h.w
  have hG := hW.1.1
  have hF := hW.fit
  have sz := hW.sz
  have l := h.loc
  have l3 := h.two
  have hm : (840 * (j : Int)) ≤ 70000000 := by omega
  obtain ⟨oc, eoc⟩ : ∃ oc, oc = oDue A s1 1 := ⟨_, rfl⟩
  have kp : kP j A oc := by rw [eoc]; exact kP_A hW oDue_A
  have hR (S3 : zSh) (hS3 : zS_M S3 m) (im4 : zIm) (hmm : mRep (im4 (m + 1)) A) (Q' : Int → zIm → Prop) (hq : ∀ im', mP m im4 im' oc.2.2 oc.1 → Q' oc.2.1 im') : zCI g yX8_dueItem M_X8_dueItem [.ref m, .int (zi s1)] S3 im4 Q' := by
    rw [eoc] at hq
    exact v_X8_dueItem G hS3 c1 (r_dueField G hS3 hmm hF c1 (by omega) (by omega) hq)
  refine ⟨hd.1, v_L_dueItem G hd.1 h.oo.1 h.oo.2 c1 ?_⟩
  refine k_dueItem G hd hM (by omega) c1 (fun e0 => ?_) (fun e1 => ⟨rfl, ?_⟩)
  · rw [← eoc] at e0 ⊢
    exact I_ok G h e0 (fun b hb => rfl) (kp_self kp h.bd.2.2 (by rw [eoc]; exact oDue_A)) kp.2 (hR S h.sm)
  · rw [← eoc] at e1
    exact I_ex G h e1 (by decide) (kp.1 (by rw [e1]; decide)) (hR _ h.push.sm)
theorem pv_29 (G : zOK g) (hI : Inv j x m o S im) (hj : j ≤ 600) {s1 : Int} (c1 : zc s1) :
    (zkd S x = 7 ∧ zCW g yL_dueSite M_L_dueSite [(0, 9, 12, 24)] [.ref x, .int (zi s1), .ref o] S im (zQW (fun r2 S3 im4 => (zkd S3 m = 8 ∧ zCI g yX8_dueSite M_X8_dueSite [.ref m, .int (zi s1)] S3 im4 (fun r8 im7 => zCI g yX8_thrown M_X8_thrown [.ref m] S3 im7 (fun r11 im10 => ((r11 = r2 → ((¬ r2 = 0 → Inv (j + 1) x m o S3 im10) ∧ (r2 = 0 → (zkd S3 o = 12 ∧ (zln S3 o = 1 ∧ (((zcmp (im10 o 0) r8) = 0 → Inv (j + 1) x m o S3 im10) ∧ (¬ (zcmp (im10 o 0) r8) = 0 → False))))))) ∧ (¬ r11 = r2 → False))))))) zX0) := by
  obtain ⟨an, as, A, X, h⟩ := hI
  have hd := h.dep
  have hM := h.bd
  have hW := h.w
  have hG := hW.1.1
  have hF := hW.fit
  have sz := hW.sz
  have l := h.loc
  have l3 := h.two
  have hm : (840 * (j : Int)) ≤ 70000000 := by omega
  obtain ⟨oc, eoc⟩ : ∃ oc, oc = oDue A s1 2 := ⟨_, rfl⟩
  have kp : kP j A oc := by rw [eoc]; exact kP_A hW oDue_A
  have hR (S3 : zSh) (hS3 : zS_M S3 m) (im4 : zIm) (hmm : mRep (im4 (m + 1)) A) (Q' : Int → zIm → Prop) (hq : ∀ im', mP m im4 im' oc.2.2 oc.1 → Q' oc.2.1 im') : zCI g yX8_dueSite M_X8_dueSite [.ref m, .int (zi s1)] S3 im4 Q' := by
    rw [eoc] at hq
    exact v_X8_dueSite G hS3 c1 (r_dueField G hS3 hmm hF c1 (by omega) (by omega) hq)
  refine ⟨hd.1, v_L_dueSite G hd.1 h.oo.1 h.oo.2 c1 ?_⟩
  refine k_dueSite G hd hM (by omega) c1 (fun e0 => ?_) (fun e1 => ⟨rfl, ?_⟩)
  · rw [← eoc] at e0 ⊢
    exact I_ok G h e0 (fun b hb => rfl) (kp_self kp h.bd.2.2 (by rw [eoc]; exact oDue_A)) kp.2 (hR S h.sm)
  · rw [← eoc] at e1
    exact I_ex G h e1 (by decide) (kp.1 (by rw [e1]; decide)) (hR _ h.push.sm)
theorem pv_30 (G : zOK g) (hI : Inv j x m o S im) (hj : j ≤ 600) {s1 : Int} (c1 : zc s1) :
    (zkd S x = 7 ∧ zCW g yL_dueOwner M_L_dueOwner [(0, 9, 12, 24)] [.ref x, .int (zi s1), .ref o] S im (zQW (fun r2 S3 im4 => (zkd S3 m = 8 ∧ zCI g yX8_dueOwner M_X8_dueOwner [.ref m, .int (zi s1)] S3 im4 (fun r8 im7 => zCI g yX8_thrown M_X8_thrown [.ref m] S3 im7 (fun r11 im10 => ((r11 = r2 → ((¬ r2 = 0 → Inv (j + 1) x m o S3 im10) ∧ (r2 = 0 → (zkd S3 o = 12 ∧ (zln S3 o = 1 ∧ (((zcmp (im10 o 0) r8) = 0 → Inv (j + 1) x m o S3 im10) ∧ (¬ (zcmp (im10 o 0) r8) = 0 → False))))))) ∧ (¬ r11 = r2 → False))))))) zX0) := by
  obtain ⟨an, as, A, X, h⟩ := hI
  have hd := h.dep
  have hM := h.bd
  have hW := h.w
  have hG := hW.1.1
  have hF := hW.fit
  have sz := hW.sz
  have l := h.loc
  have l3 := h.two
  have hm : (840 * (j : Int)) ≤ 70000000 := by omega
  obtain ⟨oc, eoc⟩ : ∃ oc, oc = oDue A s1 3 := ⟨_, rfl⟩
  have kp : kP j A oc := by rw [eoc]; exact kP_A hW oDue_A
  have hR (S3 : zSh) (hS3 : zS_M S3 m) (im4 : zIm) (hmm : mRep (im4 (m + 1)) A) (Q' : Int → zIm → Prop) (hq : ∀ im', mP m im4 im' oc.2.2 oc.1 → Q' oc.2.1 im') : zCI g yX8_dueOwner M_X8_dueOwner [.ref m, .int (zi s1)] S3 im4 Q' := by
    rw [eoc] at hq
    exact v_X8_dueOwner G hS3 c1 (r_dueField G hS3 hmm hF c1 (by omega) (by omega) hq)
  refine ⟨hd.1, v_L_dueOwner G hd.1 h.oo.1 h.oo.2 c1 ?_⟩
  refine k_dueOwner G hd hM (by omega) c1 (fun e0 => ?_) (fun e1 => ⟨rfl, ?_⟩)
  · rw [← eoc] at e0 ⊢
    exact I_ok G h e0 (fun b hb => rfl) (kp_self kp h.bd.2.2 (by rw [eoc]; exact oDue_A)) kp.2 (hR S h.sm)
  · rw [← eoc] at e1
    exact I_ex G h e1 (by decide) (kp.1 (by rw [e1]; decide)) (hR _ h.push.sm)
theorem pv_31 (G : zOK g) (hI : Inv j x m o S im) (hj : j ≤ 600) {s1 : Int} (c1 : zc s1) {s2 : Int} (c2 : zc s2) :
    (zkd S x = 7 ∧ zCW g yL_demands M_L_demands [(0, 10, 13, 24)] [.ref x, .int (zi s1), .int (zi s2), .ref o] S im (zQW (fun r2 S3 im4 => (zkd S3 m = 8 ∧ zCI g yX8_demands M_X8_demands [.ref m, .int (zi s1), .int (zi s2)] S3 im4 (fun r8 im7 => zCI g yX8_thrown M_X8_thrown [.ref m] S3 im7 (fun r11 im10 => ((r11 = r2 → ((¬ r2 = 0 → Inv (j + 1) x m o S3 im10) ∧ (r2 = 0 → (zkd S3 o = 12 ∧ (zln S3 o = 1 ∧ (((zcmp (im10 o 0) r8) = 0 → Inv (j + 1) x m o S3 im10) ∧ (¬ (zcmp (im10 o 0) r8) = 0 → False))))))) ∧ (¬ r11 = r2 → False))))))) zX0) := by
  obtain ⟨an, as, A, X, h⟩ := hI
  have hd := h.dep
  have hM := h.bd
  have hW := h.w
  have hG := hW.1.1
  have hF := hW.fit
  have sz := hW.sz
  have l := h.loc
  have l3 := h.two
  have hm : (840 * (j : Int)) ≤ 70000000 := by omega
  obtain ⟨oc, eoc⟩ : ∃ oc, oc = oFig A s1 s2 (zw (vS A 252 s1 s2)) := ⟨_, rfl⟩
  have kp : kP j A oc := by rw [eoc]; exact kP_A hW oFig_A
  have hR (S3 : zSh) (hS3 : zS_M S3 m) (im4 : zIm) (hmm : mRep (im4 (m + 1)) A) (Q' : Int → zIm → Prop) (hq : ∀ im', mP m im4 im' oc.2.2 oc.1 → Q' oc.2.1 im') : zCI g yX8_demands M_X8_demands [.ref m, .int (zi s1), .int (zi s2)] S3 im4 Q' := by
    rw [eoc] at hq
    exact v_X8_demands G hS3 c1 c2 (r_figure G hS3 hmm hG (by omega) (by omega) c1 c2 hq)
  refine ⟨hd.1, v_L_demands G hd.1 h.oo.1 h.oo.2 c1 c2 ?_⟩
  refine v_X7_demands G hd c1 c2 (k_figT G hd hM hG (c := 13) (t := 252) (by unfold tP; omega) (hd.2.2.2.2.2.1 13 (by decide)).1 (hd.2.2.2.2.2.1 13 (by decide)).2.1 c1 c2 (fun e0 => ?_) (fun e1 => ⟨rfl, ?_⟩))
  · rw [← eoc] at e0 ⊢
    exact I_ok G h e0 (fun b hb => rfl) (kp_self kp h.bd.2.2 (by rw [eoc]; exact oFig_A)) kp.2 (hR S h.sm)
  · rw [← eoc] at e1
    exact I_ex G h e1 (by decide) (kp.1 (by rw [e1]; decide)) (hR _ h.push.sm)
theorem pv_34 (G : zOK g) (hI : Inv j x m o S im) (hj : j ≤ 600) {s1 : Int} (c1 : zc s1) {s2 : Int} (c2 : zc s2) :
    (zkd S x = 7 ∧ zCW g yL_delays M_L_delays [(0, 10, 13, 24)] [.ref x, .int (zi s1), .int (zi s2), .ref o] S im (zQW (fun r2 S3 im4 => (zkd S3 m = 8 ∧ zCI g yX8_delays M_X8_delays [.ref m, .int (zi s1), .int (zi s2)] S3 im4 (fun r8 im7 => zCI g yX8_thrown M_X8_thrown [.ref m] S3 im7 (fun r11 im10 => ((r11 = r2 → ((¬ r2 = 0 → Inv (j + 1) x m o S3 im10) ∧ (r2 = 0 → (zkd S3 o = 12 ∧ (zln S3 o = 1 ∧ (((zcmp (im10 o 0) r8) = 0 → Inv (j + 1) x m o S3 im10) ∧ (¬ (zcmp (im10 o 0) r8) = 0 → False))))))) ∧ (¬ r11 = r2 → False))))))) zX0) := by
  obtain ⟨an, as, A, X, h⟩ := hI
  have hd := h.dep
  have hM := h.bd
  have hW := h.w
  have hG := hW.1.1
  have hF := hW.fit
  have sz := hW.sz
  have l := h.loc
  have l3 := h.two
  have hm : (840 * (j : Int)) ≤ 70000000 := by omega
  obtain ⟨oc, eoc⟩ : ∃ oc, oc = oFig A s1 s2 (zw (vS A 316 s1 s2)) := ⟨_, rfl⟩
  have kp : kP j A oc := by rw [eoc]; exact kP_A hW oFig_A
  have hR (S3 : zSh) (hS3 : zS_M S3 m) (im4 : zIm) (hmm : mRep (im4 (m + 1)) A) (Q' : Int → zIm → Prop) (hq : ∀ im', mP m im4 im' oc.2.2 oc.1 → Q' oc.2.1 im') : zCI g yX8_delays M_X8_delays [.ref m, .int (zi s1), .int (zi s2)] S3 im4 Q' := by
    rw [eoc] at hq
    exact v_X8_delays G hS3 c1 c2 (r_figure G hS3 hmm hG (by omega) (by omega) c1 c2 hq)
  refine ⟨hd.1, v_L_delays G hd.1 h.oo.1 h.oo.2 c1 c2 ?_⟩
  refine v_X7_delays G hd c1 c2 (k_figT G hd hM hG (c := 15) (t := 316) (by unfold tP; omega) (hd.2.2.2.2.2.1 15 (by decide)).1 (hd.2.2.2.2.2.1 15 (by decide)).2.1 c1 c2 (fun e0 => ?_) (fun e1 => ⟨rfl, ?_⟩))
  · rw [← eoc] at e0 ⊢
    exact I_ok G h e0 (fun b hb => rfl) (kp_self kp h.bd.2.2 (by rw [eoc]; exact oFig_A)) kp.2 (hR S h.sm)
  · rw [← eoc] at e1
    exact I_ex G h e1 (by decide) (kp.1 (by rw [e1]; decide)) (hR _ h.push.sm)
theorem pv_35 (G : zOK g) (hI : Inv j x m o S im) (hj : j ≤ 600) {s1 : Int} (c1 : zc s1) {s2 : Int} (c2 : zc s2) :
    (zkd S x = 7 ∧ zCW g yL_backorderDays M_L_backorderDays [(0, 10, 13, 24)] [.ref x, .int (zi s1), .int (zi s2), .ref o] S im (zQW (fun r2 S3 im4 => (zkd S3 m = 8 ∧ zCI g yX8_backorderDays M_X8_backorderDays [.ref m, .int (zi s1), .int (zi s2)] S3 im4 (fun r8 im7 => zCI g yX8_thrown M_X8_thrown [.ref m] S3 im7 (fun r11 im10 => ((r11 = r2 → ((¬ r2 = 0 → Inv (j + 1) x m o S3 im10) ∧ (r2 = 0 → (zkd S3 o = 12 ∧ (zln S3 o = 1 ∧ (((zcmp (im10 o 0) r8) = 0 → Inv (j + 1) x m o S3 im10) ∧ (¬ (zcmp (im10 o 0) r8) = 0 → False))))))) ∧ (¬ r11 = r2 → False))))))) zX0) := by
  obtain ⟨an, as, A, X, h⟩ := hI
  have hd := h.dep
  have hM := h.bd
  have hW := h.w
  have hG := hW.1.1
  have hF := hW.fit
  have sz := hW.sz
  have l := h.loc
  have l3 := h.two
  have hm : (840 * (j : Int)) ≤ 70000000 := by omega
  obtain ⟨oc, eoc⟩ : ∃ oc, oc = oFig A s1 s2 (zw (vS A 348 s1 s2)) := ⟨_, rfl⟩
  have kp : kP j A oc := by rw [eoc]; exact kP_A hW oFig_A
  have hR (S3 : zSh) (hS3 : zS_M S3 m) (im4 : zIm) (hmm : mRep (im4 (m + 1)) A) (Q' : Int → zIm → Prop) (hq : ∀ im', mP m im4 im' oc.2.2 oc.1 → Q' oc.2.1 im') : zCI g yX8_backorderDays M_X8_backorderDays [.ref m, .int (zi s1), .int (zi s2)] S3 im4 Q' := by
    rw [eoc] at hq
    exact v_X8_backorderDays G hS3 c1 c2 (r_figure G hS3 hmm hG (by omega) (by omega) c1 c2 hq)
  refine ⟨hd.1, v_L_backorderDays G hd.1 h.oo.1 h.oo.2 c1 c2 ?_⟩
  refine v_X7_backorderDays G hd c1 c2 (k_figT G hd hM hG (c := 16) (t := 348) (by unfold tP; omega) (hd.2.2.2.2.2.1 16 (by decide)).1 (hd.2.2.2.2.2.1 16 (by decide)).2.1 c1 c2 (fun e0 => ?_) (fun e1 => ⟨rfl, ?_⟩))
  · rw [← eoc] at e0 ⊢
    exact I_ok G h e0 (fun b hb => rfl) (kp_self kp h.bd.2.2 (by rw [eoc]; exact oFig_A)) kp.2 (hR S h.sm)
  · rw [← eoc] at e1
    exact I_ex G h e1 (by decide) (kp.1 (by rw [e1]; decide)) (hR _ h.push.sm)
theorem pv_36 (G : zOK g) (hI : Inv j x m o S im) (hj : j ≤ 600) {s1 : Int} (c1 : zc s1) {s2 : Int} (c2 : zc s2) :
    (zkd S x = 7 ∧ zCW g yL_helped M_L_helped [(0, 10, 13, 24)] [.ref x, .int (zi s1), .int (zi s2), .ref o] S im (zQW (fun r2 S3 im4 => (zkd S3 m = 8 ∧ zCI g yX8_helped M_X8_helped [.ref m, .int (zi s1), .int (zi s2)] S3 im4 (fun r8 im7 => zCI g yX8_thrown M_X8_thrown [.ref m] S3 im7 (fun r11 im10 => ((r11 = r2 → ((¬ r2 = 0 → Inv (j + 1) x m o S3 im10) ∧ (r2 = 0 → (zkd S3 o = 12 ∧ (zln S3 o = 1 ∧ (((zcmp (im10 o 0) r8) = 0 → Inv (j + 1) x m o S3 im10) ∧ (¬ (zcmp (im10 o 0) r8) = 0 → False))))))) ∧ (¬ r11 = r2 → False))))))) zX0) := by
  obtain ⟨an, as, A, X, h⟩ := hI
  have hd := h.dep
  have hM := h.bd
  have hW := h.w
  have hG := hW.1.1
  have hF := hW.fit
  have sz := hW.sz
  have l := h.loc
  have l3 := h.two
  have hm : (840 * (j : Int)) ≤ 70000000 := by omega
  obtain ⟨oc, eoc⟩ : ∃ oc, oc = oFig A s1 s2 (zw (vS A 380 s1 s2)) := ⟨_, rfl⟩
  have kp : kP j A oc := by rw [eoc]; exact kP_A hW oFig_A
  have hR (S3 : zSh) (hS3 : zS_M S3 m) (im4 : zIm) (hmm : mRep (im4 (m + 1)) A) (Q' : Int → zIm → Prop) (hq : ∀ im', mP m im4 im' oc.2.2 oc.1 → Q' oc.2.1 im') : zCI g yX8_helped M_X8_helped [.ref m, .int (zi s1), .int (zi s2)] S3 im4 Q' := by
    rw [eoc] at hq
    exact v_X8_helped G hS3 c1 c2 (r_figure G hS3 hmm hG (by omega) (by omega) c1 c2 hq)
  refine ⟨hd.1, v_L_helped G hd.1 h.oo.1 h.oo.2 c1 c2 ?_⟩
  refine v_X7_helped G hd c1 c2 (k_figT G hd hM hG (c := 17) (t := 380) (by unfold tP; omega) (hd.2.2.2.2.2.1 17 (by decide)).1 (hd.2.2.2.2.2.1 17 (by decide)).2.1 c1 c2 (fun e0 => ?_) (fun e1 => ⟨rfl, ?_⟩))
  · rw [← eoc] at e0 ⊢
    exact I_ok G h e0 (fun b hb => rfl) (kp_self kp h.bd.2.2 (by rw [eoc]; exact oFig_A)) kp.2 (hR S h.sm)
  · rw [← eoc] at e1
    exact I_ex G h e1 (by decide) (kp.1 (by rw [e1]; decide)) (hR _ h.push.sm)
theorem pv_32 (G : zOK g) (hI : Inv j x m o S im) (hj : j ≤ 600) {s1 : Int} (c1 : zc s1) {s2 : Int} (c2 : zc s2) :
    (zkd S x = 7 ∧ zCW g yL_fillNumerator M_L_fillNumerator [(0, 10, 13, 24)] [.ref x, .int (zi s1), .int (zi s2), .ref o] S im (zQW (fun r2 S3 im4 => (zkd S3 m = 8 ∧ zCI g yX8_fillNumerator M_X8_fillNumerator [.ref m, .int (zi s1), .int (zi s2)] S3 im4 (fun r8 im7 => zCI g yX8_thrown M_X8_thrown [.ref m] S3 im7 (fun r11 im10 => ((r11 = r2 → ((¬ r2 = 0 → Inv (j + 1) x m o S3 im10) ∧ (r2 = 0 → (zkd S3 o = 12 ∧ (zln S3 o = 1 ∧ (((zcmp (im10 o 0) r8) = 0 → Inv (j + 1) x m o S3 im10) ∧ (¬ (zcmp (im10 o 0) r8) = 0 → False))))))) ∧ (¬ r11 = r2 → False))))))) zX0) := by
  obtain ⟨an, as, A, X, h⟩ := hI
  have hd := h.dep
  have hM := h.bd
  have hW := h.w
  have hG := hW.1.1
  have hF := hW.fit
  have sz := hW.sz
  have l := h.loc
  have l3 := h.two
  have hm : (840 * (j : Int)) ≤ 70000000 := by omega
  obtain ⟨oc, eoc⟩ : ∃ oc, oc = oFig A s1 s2 (vFR A s1 s2 1) := ⟨_, rfl⟩
  have kp : kP j A oc := by rw [eoc]; exact kP_A hW oFig_A
  have hR (S3 : zSh) (hS3 : zS_M S3 m) (im4 : zIm) (hmm : mRep (im4 (m + 1)) A) (Q' : Int → zIm → Prop) (hq : ∀ im', mP m im4 im' oc.2.2 oc.1 → Q' oc.2.1 im') : zCI g yX8_fillNumerator M_X8_fillNumerator [.ref m, .int (zi s1), .int (zi s2)] S3 im4 Q' := by
    rw [eoc] at hq
    exact v_X8_fillNumerator G hS3 c1 c2 (r_fillRate G hS3 hmm hW hm c1 c2 (by omega) hq)
  refine ⟨hd.1, v_L_fillNumerator G hd.1 h.oo.1 h.oo.2 c1 c2 ?_⟩
  refine k_fillNumerator G hd hM hW hm (hd.2.2.2.2.2.1 13 (by decide)).1 (hd.2.2.2.2.2.1 13 (by decide)).2.1 (hd.2.2.2.2.2.1 14 (by decide)).1 (hd.2.2.2.2.2.1 14 (by decide)).2.1 c1 c2 (fun e0 => ?_) (fun e1 => ⟨rfl, ?_⟩)
  · rw [← eoc] at e0 ⊢
    exact I_ok G h e0 (fun b hb => rfl) (kp_self kp h.bd.2.2 (by rw [eoc]; exact oFig_A)) kp.2 (hR S h.sm)
  · rw [← eoc] at e1
    exact I_ex G h e1 (by decide) (kp.1 (by rw [e1]; decide)) (hR _ h.push.sm)
theorem pv_33 (G : zOK g) (hI : Inv j x m o S im) (hj : j ≤ 600) {s1 : Int} (c1 : zc s1) {s2 : Int} (c2 : zc s2) :
    (zkd S x = 7 ∧ zCW g yL_fillDenominator M_L_fillDenominator [(0, 10, 13, 24)] [.ref x, .int (zi s1), .int (zi s2), .ref o] S im (zQW (fun r2 S3 im4 => (zkd S3 m = 8 ∧ zCI g yX8_fillDenominator M_X8_fillDenominator [.ref m, .int (zi s1), .int (zi s2)] S3 im4 (fun r8 im7 => zCI g yX8_thrown M_X8_thrown [.ref m] S3 im7 (fun r11 im10 => ((r11 = r2 → ((¬ r2 = 0 → Inv (j + 1) x m o S3 im10) ∧ (r2 = 0 → (zkd S3 o = 12 ∧ (zln S3 o = 1 ∧ (((zcmp (im10 o 0) r8) = 0 → Inv (j + 1) x m o S3 im10) ∧ (¬ (zcmp (im10 o 0) r8) = 0 → False))))))) ∧ (¬ r11 = r2 → False))))))) zX0) := by
  obtain ⟨an, as, A, X, h⟩ := hI
  have hd := h.dep
  have hM := h.bd
  have hW := h.w
  have hG := hW.1.1
  have hF := hW.fit
  have sz := hW.sz
  have l := h.loc
  have l3 := h.two
  have hm : (840 * (j : Int)) ≤ 70000000 := by omega
  obtain ⟨oc, eoc⟩ : ∃ oc, oc = oFig A s1 s2 (vFR A s1 s2 0) := ⟨_, rfl⟩
  have kp : kP j A oc := by rw [eoc]; exact kP_A hW oFig_A
  have hR (S3 : zSh) (hS3 : zS_M S3 m) (im4 : zIm) (hmm : mRep (im4 (m + 1)) A) (Q' : Int → zIm → Prop) (hq : ∀ im', mP m im4 im' oc.2.2 oc.1 → Q' oc.2.1 im') : zCI g yX8_fillDenominator M_X8_fillDenominator [.ref m, .int (zi s1), .int (zi s2)] S3 im4 Q' := by
    rw [eoc] at hq
    exact v_X8_fillDenominator G hS3 c1 c2 (r_fillRate G hS3 hmm hW hm c1 c2 (by omega) hq)
  refine ⟨hd.1, v_L_fillDenominator G hd.1 h.oo.1 h.oo.2 c1 c2 ?_⟩
  refine k_fillDenominator G hd hM hW hm (hd.2.2.2.2.2.1 13 (by decide)).1 (hd.2.2.2.2.2.1 13 (by decide)).2.1 (hd.2.2.2.2.2.1 14 (by decide)).1 (hd.2.2.2.2.2.1 14 (by decide)).2.1 c1 c2 (fun e0 => ?_) (fun e1 => ⟨rfl, ?_⟩)
  · rw [← eoc] at e0 ⊢
    exact I_ok G h e0 (fun b hb => rfl) (kp_self kp h.bd.2.2 (by rw [eoc]; exact oFig_A)) kp.2 (hR S h.sm)
  · rw [← eoc] at e1
    exact I_ex G h e1 (by decide) (kp.1 (by rw [e1]; decide)) (hR _ h.push.sm)
theorem pv_37 (G : zOK g) (hI : Inv j x m o S im) (hj : j ≤ 600) {s1 : Int} (c1 : zc s1) {s2 : Int} (c2 : zc s2) {s3 : Int} (c3 : zc s3) :
    (zkd S x = 7 ∧ zCW g yL_bestSite M_L_bestSite [(0, 12, 15, 24), (0, 12, 19, 13), (0, 12, 23, 15)] [.ref x, .int (zi s1), .int (zi s2), .int (zi s3), .ref o] S im (zQW (fun r2 S3 im4 => (zkd S3 m = 8 ∧ zCI g yX8_bestSite M_X8_bestSite [.ref m, .int (zi s1), .int (zi s2), .int (zi s3)] S3 im4 (fun r8 im7 => zCI g yX8_thrown M_X8_thrown [.ref m] S3 im7 (fun r11 im10 => ((r11 = r2 → ((¬ r2 = 0 → Inv (j + 1) x m o S3 im10) ∧ (r2 = 0 → (zkd S3 o = 12 ∧ (zln S3 o = 1 ∧ (((zcmp (im10 o 0) r8) = 0 → Inv (j + 1) x m o S3 im10) ∧ (¬ (zcmp (im10 o 0) r8) = 0 → False))))))) ∧ (¬ r11 = r2 → False))))))) zX0) := by
  obtain ⟨an, as, A, X, h⟩ := hI
  have hd := h.dep
  have hM := h.bd
  have hW := h.w
  have hG := hW.1.1
  have hF := hW.fit
  have sz := hW.sz
  have l := h.loc
  have l3 := h.two
  have hm : (840 * (j : Int)) ≤ 70000000 := by omega
  obtain ⟨oc, eoc⟩ : ∃ oc, oc = oBest A s1 s2 s3 := ⟨_, rfl⟩
  have kp : kP j A oc := by rw [eoc]; exact kP_A hW oBest_A
  have hR (S3 : zSh) (hS3 : zS_M S3 m) (im4 : zIm) (hmm : mRep (im4 (m + 1)) A) (Q' : Int → zIm → Prop) (hq : ∀ im', mP m im4 im' oc.2.2 oc.1 → Q' oc.2.1 im') : zCI g yX8_bestSite M_X8_bestSite [.ref m, .int (zi s1), .int (zi s2), .int (zi s3)] S3 im4 Q' := by
    rw [eoc] at hq
    exact r_bestSite G hS3 hmm hW (by omega) c1 c2 c3 hq
  refine ⟨hd.1, v_L_bestSite G hd.1 h.oo.1 h.oo.2 c1 c2 c3 ?_⟩
  refine k_bestSite G hd (by omega) hM hW (by omega) c1 c2 c3 (fun e0 im1 n1 => ?_) (fun e1 => Or.inl ⟨rfl, ?_⟩) (fun e1 => Or.inr (Or.inl ⟨rfl, ?_⟩)) (fun e1 => Or.inr (Or.inr (⟨rfl, ?_⟩)))
  · rw [← eoc] at e0 ⊢
    exact I_ok G h e0 (fun b hb => n1 b (by omega)) (kp_self kp (h.bd.2.2.cong (fun b b0 b1 => n1 b (by omega))) (by rw [eoc]; exact oBest_A)) kp.2 (hR S h.sm)
  · rw [← eoc] at e1
    exact I_ex G h e1 (by decide) (kp.1 (by rw [e1]; decide)) (hR _ h.push.sm)
  · rw [← eoc] at e1
    exact I_ex G h e1 (by decide) (kp.1 (by rw [e1]; decide)) (hR _ h.push.sm)
  · rw [← eoc] at e1
    exact I_ex G h e1 (by decide) (kp.1 (by rw [e1]; decide)) (hR _ h.push.sm)
end PVB
