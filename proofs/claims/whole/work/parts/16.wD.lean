set_option maxRecDepth 20000 in
set_option maxHeartbeats 4000000 in
theorem v_X7_init {g : zG} (G : zOK g) {S : zSh} {im : zIm} {a : Nat} {Q : Option Value → zSh → zIm → Prop}  
    (h : ∀ o1, o1 = ztop S → ∀ S3, S3 = zpush S 2 0 → ∀ im5, im5 = zsr im o1 (fun _ => 0) → zC g yX2_init M_X2_init [.ref o1] S3 im5 (fun v9 S8 im7 => v9 = none ∧ (zkd S8 a = 7 ∧ ∀ S11, S11 = zsf S8 a 0 (some o1) → ∀ o13, o13 = ztop S11 → ∀ S15, S15 = zpush S11 2 0 → ∀ im17, im17 = zsr im7 o13 (fun _ => 0) → zC g yX2_init M_X2_init [.ref o13] S15 im17 (fun v21 S20 im19 => v21 = none ∧ (zkd S20 a = 7 ∧ ∀ S23, S23 = zsf S20 a 1 (some o13) → ∀ o25, o25 = ztop S23 → ∀ S27, S27 = zpush S23 13 2 → ∀ im29, im29 = zsr im19 o25 (fun _ => 0) → (zkd S27 a = 7 ∧ ∀ S32, S32 = zsf S27 a 2 (some o25) → ∀ o34, o34 = ztop S32 → ∀ S36, S36 = zpush S32 5 0 → ∀ im38, im38 = zsr im29 o34 (fun _ => 0) → zC g yX5_init M_X5_init [.ref o34] S36 im38 (fun v42 S41 im40 => v42 = none ∧ (zkd S41 a = 7 ∧ ∀ S44, S44 = zsf S41 a 3 (some o34) → Q none S44 im40)) zX0))) zX0)) zX0) :
    zC g yX7_init M_X7_init [.ref a] S im Q zX0 := by
  refine zC_of (by decide) rfl rfl rfl rfl (Nat.le_of_ble_eq_true rfl) ?_
  refine p_aload_n dX7_init_0 rfl (q := 0) rfl ?_
  refine p_objInit G q_1_28 q_1_29 q_1_30 (by decide) (Nat.le_of_ble_eq_true rfl) dX7_init_1 ?_
  refine p_aload_n dX7_init_4 rfl (q := 0) rfl ?_
  refine p_new G (q := 2) (by decide) q_1_31 q_1_32 q_1_2 (by decide) (by decide) dX7_init_5 (zdef (by decide)) ?_
  obtain ⟨o1, e2⟩ : ∃ o, o = ztop S := ⟨_, rfl⟩
  rw [← e2]
  have h := h o1 e2
  refine p_genS (fun S3 e4 => ?_)
  have h := h S3 e4
  refine p_gen (fun im5 e6 => ?_)
  have h := h im5 e6
  refine p_dup dX7_init_8 rfl ?_
  refine p_I G k_RX7_11 rfl rfl (Nat.le_of_ble_eq_true rfl) ⟨by decide, by decide⟩ ⟨by decide, by decide⟩ dX7_init_9 h (fun v9 S8 im7 h => ?_)
  obtain ⟨rfl, h⟩ := h
  have k10 := h.1
  have h := h.2
  refine p_putR (b := o1) (j := 0) G f_RX7_12 rfl rfl k10 rfl rfl dX7_init_12 ?_
  refine p_genS (fun S11 e12 => ?_)
  have h := h S11 e12
  refine p_aload_n dX7_init_15 rfl (q := 0) rfl ?_
  refine p_new G (q := 2) (by decide) q_1_31 q_1_32 q_1_2 (by decide) (by decide) dX7_init_16 (zdef (by decide)) ?_
  obtain ⟨o13, e14⟩ : ∃ o, o = ztop S11 := ⟨_, rfl⟩
  rw [← e14]
  have h := h o13 e14
  refine p_genS (fun S15 e16 => ?_)
  have h := h S15 e16
  refine p_gen (fun im17 e18 => ?_)
  have h := h im17 e18
  refine p_dup dX7_init_19 rfl ?_
  refine p_I G k_RX7_11 rfl rfl (Nat.le_of_ble_eq_true rfl) ⟨by decide, by decide⟩ ⟨by decide, by decide⟩ dX7_init_20 h (fun v21 S20 im19 h => ?_)
  obtain ⟨rfl, h⟩ := h
  have k22 := h.1
  have h := h.2
  refine p_putR (b := o13) (j := 1) G f_RX7_16 rfl rfl k22 rfl rfl dX7_init_23 ?_
  refine p_genS (fun S23 e24 => ?_)
  have h := h S23 e24
  refine p_aload_n dX7_init_26 rfl (q := 0) rfl ?_
  refine p_iconst dX7_init_27 ?_
  refine p_anew G (N := 2) q_1_31 q_2_15 (nf_k (by decide)) (by decide) (by decide) (by decide) dX7_init_28 ?_
  obtain ⟨o25, e26⟩ : ∃ o, o = ztop S23 := ⟨_, rfl⟩
  rw [← e26]
  have h := h o25 e26
  refine p_genS (fun S27 e28 => ?_)
  have h := h S27 e28
  refine p_gen (fun im29 e30 => ?_)
  have h := h im29 e30
  have k31 := h.1
  have h := h.2
  refine p_putF (b := o25) (j := 2) G f_RX7_19 rfl rfl rfl rfl k31 rfl rfl dX7_init_31 ?_
  refine p_genS (fun S32 e33 => ?_)
  have h := h S32 e33
  refine p_aload_n dX7_init_34 rfl (q := 0) rfl ?_
  refine p_new G (q := 5) (by decide) q_2_16 q_2_17 q_1_8 (by decide) (by decide) dX7_init_35 (zdef (by decide)) ?_
  obtain ⟨o34, e35⟩ : ∃ o, o = ztop S32 := ⟨_, rfl⟩
  rw [← e35]
  have h := h o34 e35
  refine p_genS (fun S36 e37 => ?_)
  have h := h S36 e37
  refine p_gen (fun im38 e39 => ?_)
  have h := h im38 e39
  refine p_dup dX7_init_38 rfl ?_
  refine p_I G k_RX7_25 rfl rfl (Nat.le_of_ble_eq_true rfl) ⟨by decide, by decide⟩ ⟨by decide, by decide⟩ dX7_init_39 h (fun v42 S41 im40 h => ?_)
  obtain ⟨rfl, h⟩ := h
  have k43 := h.1
  have h := h.2
  refine p_putF (b := o34) (j := 3) G f_RX7_26 rfl rfl rfl rfl k43 rfl rfl dX7_init_42 ?_
  refine p_genS (fun S44 e45 => ?_)
  have h := h S44 e45
  exact p_return (by decide) (by decide) rfl dX7_init_45 h
set_option maxRecDepth 20000 in
set_option maxHeartbeats 4000000 in
theorem v_X7_itemCount {g : zG} (G : zOK g) {S : zSh} {im : zIm} {a an as av at_ : Nat} {Q : Int → zIm → Prop} (hS : zDep S a an as av at_)
    (h : Q (im (an + 3) 0) im) :
    zCI g yX7_itemCount M_X7_itemCount [.ref a] S im Q := by
  refine zC_of (by decide) rfl rfl rfl rfl (Nat.le_of_ble_eq_true rfl) ?_
  refine p_aload_n dX7_itemCount_0 rfl (q := 0) rfl ?_
  refine p_getR G f_RX7_12 rfl hS.1 hS.2.1 dX7_itemCount_1 ?_
  refine p_getR (b := (an + 3)) G f_RX7_34 rfl (hS.2.2.2.2.2.1 0 (by decide)).1 ((hS.2.2.2.2.2.1 0 (by decide)).2.2 3 (by decide)) dX7_itemCount_4 ?_
  refine p_getI (j := 0) G f_RX7_38 rfl (hS.2.2.2.2.2.1 3 (by decide)).1 dX7_itemCount_7 (fun c1 => ?_)
  exact p_iretI (by decide) (by decide) rfl (nf_r c1) dX7_itemCount_10 h
set_option maxRecDepth 20000 in
set_option maxHeartbeats 4000000 in
theorem v_X7_siteCount {g : zG} (G : zOK g) {S : zSh} {im : zIm} {a an as av at_ : Nat} {Q : Int → zIm → Prop} (hS : zDep S a an as av at_)
    (h : Q (im (an + 3) 1) im) :
    zCI g yX7_siteCount M_X7_siteCount [.ref a] S im Q := by
  refine zC_of (by decide) rfl rfl rfl rfl (Nat.le_of_ble_eq_true rfl) ?_
  refine p_aload_n dX7_siteCount_0 rfl (q := 0) rfl ?_
  refine p_getR G f_RX7_12 rfl hS.1 hS.2.1 dX7_siteCount_1 ?_
  refine p_getR (b := (an + 3)) G f_RX7_34 rfl (hS.2.2.2.2.2.1 0 (by decide)).1 ((hS.2.2.2.2.2.1 0 (by decide)).2.2 3 (by decide)) dX7_siteCount_4 ?_
  refine p_getI (j := 1) G f_RX7_55 rfl (hS.2.2.2.2.2.1 3 (by decide)).1 dX7_siteCount_7 (fun c1 => ?_)
  exact p_iretI (by decide) (by decide) rfl (nf_r c1) dX7_siteCount_10 h
set_option maxRecDepth 20000 in
set_option maxHeartbeats 4000000 in
theorem v_X7_day {g : zG} (G : zOK g) {S : zSh} {im : zIm} {a an as av at_ : Nat} {Q : Int → zIm → Prop} (hS : zDep S a an as av at_)
    (h : Q (im an 0) im) :
    zCI g yX7_day M_X7_day [.ref a] S im Q := by
  refine zC_of (by decide) rfl rfl rfl rfl (Nat.le_of_ble_eq_true rfl) ?_
  refine p_aload_n dX7_day_0 rfl (q := 0) rfl ?_
  refine p_getR G f_RX7_12 rfl hS.1 hS.2.1 dX7_day_1 ?_
  refine p_getI (j := 0) G f_RX7_133 rfl (hS.2.2.2.2.2.1 0 (by decide)).1 dX7_day_4 (fun c1 => ?_)
  exact p_iretI (by decide) (by decide) rfl (nf_r c1) dX7_day_7 h
set_option maxRecDepth 20000 in
set_option maxHeartbeats 4000000 in
theorem v_X7_refusedDemands {g : zG} (G : zOK g) {S : zSh} {im : zIm} {a an as av at_ : Nat} {Q : Int → zIm → Prop} (hS : zDep S a an as av at_)
    (h : Q (im (an + 12) 0) im) :
    zCI g yX7_refusedDemands M_X7_refusedDemands [.ref a] S im Q := by
  refine zC_of (by decide) rfl rfl rfl rfl (Nat.le_of_ble_eq_true rfl) ?_
  refine p_aload_n dX7_refusedDemands_0 rfl (q := 0) rfl ?_
  refine p_getR G f_RX7_12 rfl hS.1 hS.2.1 dX7_refusedDemands_1 ?_
  refine p_getR (b := (an + 12)) G f_RX7_140 rfl (hS.2.2.2.2.2.1 0 (by decide)).1 ((hS.2.2.2.2.2.1 0 (by decide)).2.2 4 (by decide)) dX7_refusedDemands_4 ?_
  refine p_getI (j := 0) G f_RX7_144 rfl (hS.2.2.2.2.2.1 12 (by decide)).1 dX7_refusedDemands_7 (fun c1 => ?_)
  exact p_iretI (by decide) (by decide) rfl (nf_r c1) dX7_refusedDemands_10 h
set_option maxRecDepth 20000 in
set_option maxHeartbeats 4000000 in
theorem v_X7_dueCount {g : zG} (G : zOK g) {S : zSh} {im : zIm} {a an as av at_ : Nat} {Q : Int → zIm → Prop} (hS : zDep S a an as av at_)
    (h : Q (im (an + 18) 0) im) :
    zCI g yX7_dueCount M_X7_dueCount [.ref a] S im Q := by
  refine zC_of (by decide) rfl rfl rfl rfl (Nat.le_of_ble_eq_true rfl) ?_
  refine p_aload_n dX7_dueCount_0 rfl (q := 0) rfl ?_
  refine p_getR G f_RX7_12 rfl hS.1 hS.2.1 dX7_dueCount_1 ?_
  refine p_getR (b := (an + 18)) G f_RX7_173 rfl (hS.2.2.2.2.2.1 0 (by decide)).1 ((hS.2.2.2.2.2.1 0 (by decide)).2.2 5 (by decide)) dX7_dueCount_4 ?_
  refine p_getI (j := 0) G f_RX7_184 rfl (hS.2.2.2.2.2.1 18 (by decide)).1 dX7_dueCount_7 (fun c1 => ?_)
  exact p_iretI (by decide) (by decide) rfl (nf_r c1) dX7_dueCount_10 h
set_option maxRecDepth 20000 in
set_option maxHeartbeats 4000000 in
theorem v_X7_load {g : zG} (G : zOK g) {S : zSh} {im : zIm} {a : Nat} {Q : Option Value → zSh → zIm → Prop}  
    (h : (zkd S a = 7 ∧ (∃ b2, zrf S a 1 = some b2 ∧ (zkd S b2 = 2 ∧ zCV g yX2_clear M_X2_clear [.ref b2] S im (fun im5 => (∃ b7, zrf S a 3 = some b7 ∧ (zkd S b7 = 5 ∧ zCI g yX5_read M_X5_read [.ref b7, .ref b2] S im5 (fun r10 im11 => ∀ im13, im13 = zst im11 b7 0 0 → ((r10 = (-1) → Q (some (.int (zi r10))) S im13) ∧ (¬ r10 = (-1) → (∃ b15, zrf S a 0 = some b15 ∧ ∀ S17, S17 = zsf S a 0 (some b2) → (zkd S17 a = 7 ∧ ∀ S20, S20 = zsf S17 a 1 (some b15) → Q (some (.int (zi r10))) S20 im13)))))))))))) :
    zC g yX7_load M_X7_load [.ref a] S im Q zX0 := by
  refine zC_of (by decide) rfl rfl rfl rfl (Nat.le_of_ble_eq_true rfl) ?_
  refine p_aload_n dX7_load_0 rfl (q := 0) rfl ?_
  have k1 := h.1
  have h := h.2
  obtain ⟨b2, h3, h⟩ := h
  refine p_getR (b := b2) G f_RX7_16 rfl k1 h3 dX7_load_1 ?_
  have k4 := h.1
  have h := h.2
  refine p_VV G k_RX7_242 (by decide) k4 rfl rfl (Nat.le_of_ble_eq_true rfl) ⟨by decide, by decide⟩ ⟨by decide, by decide⟩ dX7_load_4 h (fun im5 h => ?_)
  refine p_aload_n dX7_load_7 rfl (q := 0) rfl ?_
  obtain ⟨b7, h8, h⟩ := h
  refine p_getR (b := b7) G f_RX7_26 rfl k1 h8 dX7_load_8 ?_
  refine p_aload_n dX7_load_11 rfl (q := 0) rfl ?_
  refine p_getR (b := b2) G f_RX7_16 rfl k1 h3 dX7_load_12 ?_
  have k9 := h.1
  have h := h.2
  refine p_VI G k_RX7_245 (by decide) k9 rfl rfl (Nat.le_of_ble_eq_true rfl) ⟨by decide, by decide⟩ ⟨by decide, by decide⟩ dX7_load_15 h (fun r10 im11 c12 h => ?_)
  refine p_istore_n (lv' := [(1, .int (zi r10)), (0, .ref a)]) dX7_load_18 rfl (by decide) rfl ?_
  refine p_aload_n dX7_load_19 rfl (q := 1) rfl ?_
  refine p_getR (b := b7) G f_RX7_26 rfl k1 h8 dX7_load_20 ?_
  refine p_iconst dX7_load_23 ?_
  refine p_putI (j := 0) G f_RX7_239 rfl rfl rfl k9 (nf_k (by decide)) dX7_load_24 ?_
  refine p_gen (fun im13 e14 => ?_)
  have h := h im13 e14
  refine p_iload_n dX7_load_27 rfl (q := 0) rfl ?_
  refine p_iconst dX7_load_28 ?_
  refine p_icmp_eq (tgt := 50) dX7_load_29 (by decide) (nf_r c12) (nf_k (by decide)) (fun b15 => ?_) (fun b15 => ?_)
  · have h := h.1 b15
    refine p_iload_n dX7_load_50 rfl (q := 0) rfl ?_
    exact p_ireturn (by decide) (by decide) rfl (nf_r c12) dX7_load_51 h
  · have h := h.2 b15
    refine p_aload_n dX7_load_32 rfl (q := 1) rfl ?_
    obtain ⟨b15, h16, h⟩ := h
    refine p_getR (b := b15) G f_RX7_12 rfl k1 h16 dX7_load_33 ?_
    refine p_astore_n (lv' := [(2, .ref b15), (1, .int (zi r10)), (0, .ref a)]) dX7_load_36 rfl (by decide) rfl ?_
    refine p_aload_n dX7_load_37 rfl (q := 2) rfl ?_
    refine p_aload_n dX7_load_38 rfl (q := 2) rfl ?_
    refine p_getR (b := b2) G f_RX7_16 rfl k1 h3 dX7_load_39 ?_
    refine p_putR (b := b2) (j := 0) G f_RX7_12 rfl rfl k1 rfl rfl dX7_load_42 ?_
    refine p_genS (fun S17 e18 => ?_)
    have h := h S17 e18
    refine p_aload_n dX7_load_45 rfl (q := 2) rfl ?_
    refine p_aload_n dX7_load_46 rfl (q := 0) rfl ?_
    have k19 := h.1
    have h := h.2
    refine p_putR (b := b15) (j := 1) G f_RX7_16 rfl rfl k19 rfl rfl dX7_load_47 ?_
    refine p_genS (fun S20 e21 => ?_)
    have h := h S20 e21
    refine p_iload_n dX7_load_50 rfl (q := 1) rfl ?_
    exact p_ireturn (by decide) (by decide) rfl (nf_r c12) dX7_load_51 h
set_option maxRecDepth 20000 in
set_option maxHeartbeats 4000000 in
theorem v_X7_errorCode {g : zG} (G : zOK g) {S : zSh} {im : zIm} {a an as av at_ : Nat} {Q : Int → zIm → Prop} (hS : zDep S a an as av at_)
    (h : Q (im at_ 1) im) :
    zCI g yX7_errorCode M_X7_errorCode [.ref a] S im Q := by
  refine zC_of (by decide) rfl rfl rfl rfl (Nat.le_of_ble_eq_true rfl) ?_
  refine p_aload_n dX7_errorCode_0 rfl (q := 0) rfl ?_
  refine p_getR G f_RX7_26 rfl hS.1 hS.2.2.2.2.1 dX7_errorCode_1 ?_
  refine p_getI (j := 1) G f_RX7_249 rfl (hS.2.2.2.2.2.2.2.1 0 (by decide)).1 dX7_errorCode_4 (fun c1 => ?_)
  exact p_iretI (by decide) (by decide) rfl (nf_r c1) dX7_errorCode_7 h
set_option maxRecDepth 20000 in
set_option maxHeartbeats 4000000 in
theorem v_X7_errorPosition {g : zG} (G : zOK g) {S : zSh} {im : zIm} {a an as av at_ : Nat} {Q : Int → zIm → Prop} (hS : zDep S a an as av at_)
    (h : Q (im at_ 2) im) :
    zCI g yX7_errorPosition M_X7_errorPosition [.ref a] S im Q := by
  refine zC_of (by decide) rfl rfl rfl rfl (Nat.le_of_ble_eq_true rfl) ?_
  refine p_aload_n dX7_errorPosition_0 rfl (q := 0) rfl ?_
  refine p_getR G f_RX7_26 rfl hS.1 hS.2.2.2.2.1 dX7_errorPosition_1 ?_
  refine p_getI (j := 2) G f_RX7_252 rfl (hS.2.2.2.2.2.2.2.1 0 (by decide)).1 dX7_errorPosition_4 (fun c1 => ?_)
  exact p_iretI (by decide) (by decide) rfl (nf_r c1) dX7_errorPosition_7 h
set_option maxRecDepth 20000 in
set_option maxHeartbeats 4000000 in
theorem v_X7_checkRange {g : zG} (G : zOK g) {S : zSh} {im : zIm} {p1 : Int} {p2 : Int} {p3 : Int} {Q : zIm → Prop} {X : String → zSh → zIm → Prop} (c_p1 : zc p1) (c_p2 : zc p2) (c_p3 : zc p3)
    (h : zCI g yX7_within M_X7_within [.int (zi p1), .int (zi p2), .int (zi p3)] S im (fun r1 im2 => ((¬ r1 = 0 → Q im2) ∧ (r1 = 0 → X "java/lang/IllegalArgumentException" (zpush S 14 0) im2)))) :
    zCVx g yX7_checkRange M_X7_checkRange [.int (zi p1), .int (zi p2), .int (zi p3)] S im Q X := by
  refine zC_of (by decide) rfl rfl rfl rfl (Nat.le_of_ble_eq_true rfl) ?_
  refine p_iload_n dX7_checkRange_0 rfl (q := 0) rfl ?_
  refine p_iload_n dX7_checkRange_1 rfl (q := 1) rfl ?_
  refine p_iload_n dX7_checkRange_2 rfl (q := 2) rfl ?_
  refine p_SI G k_RX7_280 rfl rfl (Nat.le_of_ble_eq_true rfl) ⟨by decide, by decide⟩ ⟨by decide, by decide⟩ dX7_checkRange_3 h (fun r1 im2 c3 h => ?_)
  refine p_if_ne (tgt := 20) dX7_checkRange_6 (by decide) (nf_r c3) (fun b4 => ?_) (fun b4 => ?_)
  · have h := h.1 b4
    exact p_retV (by decide) (by decide) rfl dX7_checkRange_20 h
  · have h := h.2 b4
    exact p_throwSW G tw_IAE q_3_108 rfl (by decide) (Nat.le_of_ble_eq_true rfl) (by decide) (by decide) dX7_checkRange_9 dX7_checkRange_12 dX7_checkRange_13 dX7_checkRange_16 dX7_checkRange_19 h
set_option maxRecDepth 20000 in
set_option maxHeartbeats 4000000 in
theorem v_X7_addItem {g : zG} (G : zOK g) {S : zSh} {im : zIm} {a an as av at_ : Nat} {p1 : Int} {p2 : Int} {p3 : Int} {Q : Int → zIm → Prop} {X : String → zSh → zIm → Prop} (hS : zDep S a an as av at_) (c_p1 : zc p1) (c_p2 : zc p2) (c_p3 : zc p3)
    (h : zCVx g yX7_checkRange M_X7_checkRange [.int (zi p1), .int (zi 1), .int (zi 30)] S im (fun im1 => zCVx g yX7_checkRange M_X7_checkRange [.int (zi p2), .int (zi 1), .int (zi 5)] S im1 (fun im3 => zCVx g yX7_checkRange M_X7_checkRange [.int (zi p3), .int (zi 1), .int (zi 30)] S im3 (fun im5 => (((im5 (an + 3) 0) < 4 → zCI g yX4_newItem M_X4_newItem [.ref (an + 3), .int (zi p1), .int (zi p2), .int (zi p3)] S im5 (fun r8 im9 => Q r8 im9)) ∧ (4 ≤ (im5 (an + 3) 0) → X "java/lang/IllegalStateException" (zpush S 14 0) im5))) X) X) X) :
    zCIx g yX7_addItem M_X7_addItem [.ref a, .int (zi p1), .int (zi p2), .int (zi p3)] S im Q X := by
  refine zC_of (by decide) rfl rfl rfl rfl (Nat.le_of_ble_eq_true rfl) ?_
  refine p_iload_n dX7_addItem_0 rfl (q := 1) rfl ?_
  refine p_iconst dX7_addItem_1 ?_
  refine p_bipush dX7_addItem_2 (by decide) ?_
  refine p_SVx G rfl k_RX7_30 rfl rfl (Nat.le_of_ble_eq_true rfl) ⟨by decide, by decide⟩ ⟨by decide, by decide⟩ dX7_addItem_4 h (fun im1 h => ?_)
  refine p_iload_n dX7_addItem_7 rfl (q := 2) rfl ?_
  refine p_iconst dX7_addItem_8 ?_
  refine p_iconst dX7_addItem_9 ?_
  refine p_SVx G rfl k_RX7_30 rfl rfl (Nat.le_of_ble_eq_true rfl) ⟨by decide, by decide⟩ ⟨by decide, by decide⟩ dX7_addItem_10 h (fun im3 h => ?_)
  refine p_iload_n dX7_addItem_13 rfl (q := 3) rfl ?_
  refine p_iconst dX7_addItem_14 ?_
  refine p_bipush dX7_addItem_15 (by decide) ?_
  refine p_SVx G rfl k_RX7_30 rfl rfl (Nat.le_of_ble_eq_true rfl) ⟨by decide, by decide⟩ ⟨by decide, by decide⟩ dX7_addItem_17 h (fun im5 h => ?_)
  refine p_aload_n dX7_addItem_20 rfl (q := 0) rfl ?_
  refine p_getR G f_RX7_12 rfl hS.1 hS.2.1 dX7_addItem_21 ?_
  refine p_getR (b := (an + 3)) G f_RX7_34 rfl (hS.2.2.2.2.2.1 0 (by decide)).1 ((hS.2.2.2.2.2.1 0 (by decide)).2.2 3 (by decide)) dX7_addItem_24 ?_
  refine p_getI (j := 0) G f_RX7_38 rfl (hS.2.2.2.2.2.1 3 (by decide)).1 dX7_addItem_27 (fun c7 => ?_)
  refine p_iconst dX7_addItem_30 ?_
  refine p_icmp_lt (tgt := 44) dX7_addItem_31 (by decide) (nf_r c7) (nf_k (by decide)) (fun b8 => ?_) (fun b8 => ?_)
  · have h := h.1 b8
    refine p_aload_n dX7_addItem_44 rfl (q := 0) rfl ?_
    refine p_getR G f_RX7_12 rfl hS.1 hS.2.1 dX7_addItem_45 ?_
    refine p_getR (b := (an + 3)) G f_RX7_34 rfl (hS.2.2.2.2.2.1 0 (by decide)).1 ((hS.2.2.2.2.2.1 0 (by decide)).2.2 3 (by decide)) dX7_addItem_48 ?_
    refine p_iload_n dX7_addItem_51 rfl (q := 1) rfl ?_
    refine p_iload_n dX7_addItem_52 rfl (q := 2) rfl ?_
    refine p_iload_n dX7_addItem_53 rfl (q := 3) rfl ?_
    refine p_VI G k_RX7_51 (by decide) (hS.2.2.2.2.2.1 3 (by decide)).1 rfl rfl (Nat.le_of_ble_eq_true rfl) ⟨by decide, by decide⟩ ⟨by decide, by decide⟩ dX7_addItem_54 h (fun r8 im9 c10 h => ?_)
    exact p_iretI (by decide) (by decide) rfl (nf_r c10) dX7_addItem_57 h
  · have h := h.2 b8
    exact p_throwS G tw_ISE q_3_143 rfl (by decide) (Nat.le_of_ble_eq_true rfl) (by decide) (by decide) dX7_addItem_34 dX7_addItem_37 dX7_addItem_38 dX7_addItem_40 dX7_addItem_43 h
set_option maxRecDepth 20000 in
set_option maxHeartbeats 4000000 in
theorem v_X7_addBase {g : zG} (G : zOK g) {S : zSh} {im : zIm} {a an as av at_ : Nat} {p1 : Int} {Q : Int → zIm → Prop} {X : String → zSh → zIm → Prop} (hS : zDep S a an as av at_) (c_p1 : zc p1)
    (h : zCVx g yX7_checkRange M_X7_checkRange [.int (zi p1), .int (zi 1), .int (zi 20)] S im (fun im1 => (((im1 (an + 3) 1) < 8 → zCI g yX4_newBase M_X4_newBase [.ref (an + 3), .int (zi p1)] S im1 (fun r4 im5 => Q r4 im5)) ∧ (8 ≤ (im1 (an + 3) 1) → X "java/lang/IllegalStateException" (zpush S 14 0) im1))) X) :
    zCIx g yX7_addBase M_X7_addBase [.ref a, .int (zi p1)] S im Q X := by
  refine zC_of (by decide) rfl rfl rfl rfl (Nat.le_of_ble_eq_true rfl) ?_
  refine p_iload_n dX7_addBase_0 rfl (q := 1) rfl ?_
  refine p_iconst dX7_addBase_1 ?_
  refine p_bipush dX7_addBase_2 (by decide) ?_
  refine p_SVx G rfl k_RX7_30 rfl rfl (Nat.le_of_ble_eq_true rfl) ⟨by decide, by decide⟩ ⟨by decide, by decide⟩ dX7_addBase_4 h (fun im1 h => ?_)
  refine p_aload_n dX7_addBase_7 rfl (q := 0) rfl ?_
  refine p_getR G f_RX7_12 rfl hS.1 hS.2.1 dX7_addBase_8 ?_
  refine p_getR (b := (an + 3)) G f_RX7_34 rfl (hS.2.2.2.2.2.1 0 (by decide)).1 ((hS.2.2.2.2.2.1 0 (by decide)).2.2 3 (by decide)) dX7_addBase_11 ?_
  refine p_getI (j := 1) G f_RX7_55 rfl (hS.2.2.2.2.2.1 3 (by decide)).1 dX7_addBase_14 (fun c3 => ?_)
  refine p_bipush dX7_addBase_17 (by decide) ?_
  refine p_icmp_lt (tgt := 32) dX7_addBase_19 (by decide) (nf_r c3) (nf_k (by decide)) (fun b4 => ?_) (fun b4 => ?_)
  · have h := h.1 b4
    refine p_aload_n dX7_addBase_32 rfl (q := 0) rfl ?_
    refine p_getR G f_RX7_12 rfl hS.1 hS.2.1 dX7_addBase_33 ?_
    refine p_getR (b := (an + 3)) G f_RX7_34 rfl (hS.2.2.2.2.2.1 0 (by decide)).1 ((hS.2.2.2.2.2.1 0 (by decide)).2.2 3 (by decide)) dX7_addBase_36 ?_
    refine p_iload_n dX7_addBase_39 rfl (q := 1) rfl ?_
    refine p_VI G k_RX7_60 (by decide) (hS.2.2.2.2.2.1 3 (by decide)).1 rfl rfl (Nat.le_of_ble_eq_true rfl) ⟨by decide, by decide⟩ ⟨by decide, by decide⟩ dX7_addBase_40 h (fun r4 im5 c6 h => ?_)
    exact p_iretI (by decide) (by decide) rfl (nf_r c6) dX7_addBase_43 h
  · have h := h.2 b4
    exact p_throwS G tw_ISE q_3_158 rfl (by decide) (Nat.le_of_ble_eq_true rfl) (by decide) (by decide) dX7_addBase_22 dX7_addBase_25 dX7_addBase_26 dX7_addBase_28 dX7_addBase_31 h
set_option maxRecDepth 20000 in
set_option maxHeartbeats 4000000 in
theorem v_X7_checkBase {g : zG} (G : zOK g) {S : zSh} {im : zIm} {a an as av at_ : Nat} {p1 : Int} {Q : zIm → Prop} {X : String → zSh → zIm → Prop} (hS : zDep S a an as av at_) (c_p1 : zc p1)
    (h : zCI g yX4_isBase M_X4_isBase [.ref (an + 3), .int (zi p1)] S im (fun r1 im2 => ((¬ r1 = 0 → Q im2) ∧ (r1 = 0 → X "java/lang/IndexOutOfBoundsException" (zpush S 14 0) im2)))) :
    zCVx g yX7_checkBase M_X7_checkBase [.ref a, .int (zi p1)] S im Q X := by
  refine zC_of (by decide) rfl rfl rfl rfl (Nat.le_of_ble_eq_true rfl) ?_
  refine p_aload_n dX7_checkBase_0 rfl (q := 0) rfl ?_
  refine p_getR G f_RX7_12 rfl hS.1 hS.2.1 dX7_checkBase_1 ?_
  refine p_getR (b := (an + 3)) G f_RX7_34 rfl (hS.2.2.2.2.2.1 0 (by decide)).1 ((hS.2.2.2.2.2.1 0 (by decide)).2.2 3 (by decide)) dX7_checkBase_4 ?_
  refine p_iload_n dX7_checkBase_7 rfl (q := 1) rfl ?_
  refine p_VI G k_RX7_266 (by decide) (hS.2.2.2.2.2.1 3 (by decide)).1 rfl rfl (Nat.le_of_ble_eq_true rfl) ⟨by decide, by decide⟩ ⟨by decide, by decide⟩ dX7_checkBase_8 h (fun r1 im2 c3 h => ?_)
  refine p_if_ne (tgt := 25) dX7_checkBase_11 (by decide) (nf_r c3) (fun b4 => ?_) (fun b4 => ?_)
  · have h := h.1 b4
    exact p_retV (by decide) (by decide) rfl dX7_checkBase_25 h
  · have h := h.2 b4
    exact p_throwSW G tw_IOB q_3_182 rfl (by decide) (Nat.le_of_ble_eq_true rfl) (by decide) (by decide) dX7_checkBase_14 dX7_checkBase_17 dX7_checkBase_18 dX7_checkBase_21 dX7_checkBase_24 h
set_option maxRecDepth 20000 in
set_option maxHeartbeats 4000000 in
theorem v_X7_setLink {g : zG} (G : zOK g) {S : zSh} {im : zIm} {a an as av at_ : Nat} {p1 : Int} {p2 : Int} {p3 : Int} {Q : Int → zIm → Prop} {X : String → zSh → zIm → Prop} (hS : zDep S a an as av at_) (c_p1 : zc p1) (c_p2 : zc p2) (c_p3 : zc p3)
    (h : zCVx g yX7_checkBase M_X7_checkBase [.ref a, .int (zi p1)] S im (fun im1 => zCVx g yX7_checkBase M_X7_checkBase [.ref a, .int (zi p2)] S im1 (fun im3 => ((¬ p1 = p2 → zCVx g yX7_checkRange M_X7_checkRange [.int (zi p3), .int (zi 0), .int (zi 20)] S im3 (fun im5 => zCI g yX4_linkTime M_X4_linkTime [.ref (an + 3), .int (zi p1), .int (zi p2)] S im5 (fun r7 im8 => zCV g yX4_join M_X4_join [.ref (an + 3), .int (zi p1), .int (zi p2), .int (zi p3)] S im8 (fun im10 => Q r7 im10))) X) ∧ (p1 = p2 → X "java/lang/IllegalArgumentException" (zpush S 14 0) im3))) X) X) :
    zCIx g yX7_setLink M_X7_setLink [.ref a, .int (zi p1), .int (zi p2), .int (zi p3)] S im Q X := by
  refine zC_of (by decide) rfl rfl rfl rfl (Nat.le_of_ble_eq_true rfl) ?_
  refine p_aload_n dX7_setLink_0 rfl (q := 0) rfl ?_
  refine p_iload_n dX7_setLink_1 rfl (q := 1) rfl ?_
  refine p_VVx G rfl k_RX7_64 (by decide) hS.1 rfl rfl (Nat.le_of_ble_eq_true rfl) ⟨by decide, by decide⟩ ⟨by decide, by decide⟩ dX7_setLink_2 h (fun im1 h => ?_)
  refine p_aload_n dX7_setLink_5 rfl (q := 0) rfl ?_
  refine p_iload_n dX7_setLink_6 rfl (q := 2) rfl ?_
  refine p_VVx G rfl k_RX7_64 (by decide) hS.1 rfl rfl (Nat.le_of_ble_eq_true rfl) ⟨by decide, by decide⟩ ⟨by decide, by decide⟩ dX7_setLink_7 h (fun im3 h => ?_)
  refine p_iload_n dX7_setLink_10 rfl (q := 1) rfl ?_
  refine p_iload_n dX7_setLink_11 rfl (q := 2) rfl ?_
  refine p_icmp_ne (tgt := 25) dX7_setLink_12 (by decide) (nf_r c_p1) (nf_r c_p2) (fun b5 => ?_) (fun b5 => ?_)
  · have h := h.1 b5
    refine p_iload_n dX7_setLink_25 rfl (q := 3) rfl ?_
    refine p_iconst dX7_setLink_26 ?_
    refine p_bipush dX7_setLink_27 (by decide) ?_
    refine p_SVx G rfl k_RX7_30 rfl rfl (Nat.le_of_ble_eq_true rfl) ⟨by decide, by decide⟩ ⟨by decide, by decide⟩ dX7_setLink_29 h (fun im5 h => ?_)
    refine p_aload_n dX7_setLink_32 rfl (q := 0) rfl ?_
    refine p_getR G f_RX7_12 rfl hS.1 hS.2.1 dX7_setLink_33 ?_
    refine p_getR (b := (an + 3)) G f_RX7_34 rfl (hS.2.2.2.2.2.1 0 (by decide)).1 ((hS.2.2.2.2.2.1 0 (by decide)).2.2 3 (by decide)) dX7_setLink_36 ?_
    refine p_iload_n dX7_setLink_39 rfl (q := 1) rfl ?_
    refine p_iload_n dX7_setLink_40 rfl (q := 2) rfl ?_
    refine p_VI G k_RX7_73 (by decide) (hS.2.2.2.2.2.1 3 (by decide)).1 rfl rfl (Nat.le_of_ble_eq_true rfl) ⟨by decide, by decide⟩ ⟨by decide, by decide⟩ dX7_setLink_41 h (fun r7 im8 c9 h => ?_)
    refine p_istore (lv' := [(4, .int (zi r7)), (0, .ref a), (1, .int (zi p1)), (2, .int (zi p2)), (3, .int (zi p3))]) dX7_setLink_44 (by decide) rfl ?_
    refine p_aload_n dX7_setLink_46 rfl (q := 1) rfl ?_
    refine p_getR G f_RX7_12 rfl hS.1 hS.2.1 dX7_setLink_47 ?_
    refine p_getR (b := (an + 3)) G f_RX7_34 rfl (hS.2.2.2.2.2.1 0 (by decide)).1 ((hS.2.2.2.2.2.1 0 (by decide)).2.2 3 (by decide)) dX7_setLink_50 ?_
    refine p_iload_n dX7_setLink_53 rfl (q := 2) rfl ?_
    refine p_iload_n dX7_setLink_54 rfl (q := 3) rfl ?_
    refine p_iload_n dX7_setLink_55 rfl (q := 4) rfl ?_
    refine p_VV G k_RX7_77 (by decide) (hS.2.2.2.2.2.1 3 (by decide)).1 rfl rfl (Nat.le_of_ble_eq_true rfl) ⟨by decide, by decide⟩ ⟨by decide, by decide⟩ dX7_setLink_56 h (fun im10 h => ?_)
    refine p_iload dX7_setLink_59 (q := 0) rfl ?_
    exact p_iretI (by decide) (by decide) rfl (nf_r c9) dX7_setLink_61 h
  · have h := h.2 b5
    exact p_throwS G tw_IAE q_3_189 rfl (by decide) (Nat.le_of_ble_eq_true rfl) (by decide) (by decide) dX7_setLink_15 dX7_setLink_18 dX7_setLink_19 dX7_setLink_21 dX7_setLink_24 h
set_option maxRecDepth 20000 in
set_option maxHeartbeats 4000000 in
theorem v_X7_checkSite {g : zG} (G : zOK g) {S : zSh} {im : zIm} {a an as av at_ : Nat} {p1 : Int} {Q : zIm → Prop} {X : String → zSh → zIm → Prop} (hS : zDep S a an as av at_) (c_p1 : zc p1)
    (h : zCI g yX4_isSite M_X4_isSite [.ref (an + 3), .int (zi p1)] S im (fun r1 im2 => ((¬ r1 = 0 → Q im2) ∧ (r1 = 0 → X "java/lang/IndexOutOfBoundsException" (zpush S 14 0) im2)))) :
    zCVx g yX7_checkSite M_X7_checkSite [.ref a, .int (zi p1)] S im Q X := by
  refine zC_of (by decide) rfl rfl rfl rfl (Nat.le_of_ble_eq_true rfl) ?_
  refine p_aload_n dX7_checkSite_0 rfl (q := 0) rfl ?_
  refine p_getR G f_RX7_12 rfl hS.1 hS.2.1 dX7_checkSite_1 ?_
  refine p_getR (b := (an + 3)) G f_RX7_34 rfl (hS.2.2.2.2.2.1 0 (by decide)).1 ((hS.2.2.2.2.2.1 0 (by decide)).2.2 3 (by decide)) dX7_checkSite_4 ?_
  refine p_iload_n dX7_checkSite_7 rfl (q := 1) rfl ?_
  refine p_VI G k_RX7_257 (by decide) (hS.2.2.2.2.2.1 3 (by decide)).1 rfl rfl (Nat.le_of_ble_eq_true rfl) ⟨by decide, by decide⟩ ⟨by decide, by decide⟩ dX7_checkSite_8 h (fun r1 im2 c3 h => ?_)
  refine p_if_ne (tgt := 25) dX7_checkSite_11 (by decide) (nf_r c3) (fun b4 => ?_) (fun b4 => ?_)
  · have h := h.1 b4
    exact p_retV (by decide) (by decide) rfl dX7_checkSite_25 h
  · have h := h.2 b4
    exact p_throwSW G tw_IOB q_3_207 rfl (by decide) (Nat.le_of_ble_eq_true rfl) (by decide) (by decide) dX7_checkSite_14 dX7_checkSite_17 dX7_checkSite_18 dX7_checkSite_21 dX7_checkSite_24 h
set_option maxRecDepth 20000 in
set_option maxHeartbeats 4000000 in
theorem v_X7_checkItem {g : zG} (G : zOK g) {S : zSh} {im : zIm} {a an as av at_ : Nat} {p1 : Int} {Q : zIm → Prop} {X : String → zSh → zIm → Prop} (hS : zDep S a an as av at_) (c_p1 : zc p1)
    (h : zCI g yX4_isItem M_X4_isItem [.ref (an + 3), .int (zi p1)] S im (fun r1 im2 => ((¬ r1 = 0 → Q im2) ∧ (r1 = 0 → X "java/lang/IndexOutOfBoundsException" (zpush S 14 0) im2)))) :
    zCVx g yX7_checkItem M_X7_checkItem [.ref a, .int (zi p1)] S im Q X := by
  refine zC_of (by decide) rfl rfl rfl rfl (Nat.le_of_ble_eq_true rfl) ?_
  refine p_aload_n dX7_checkItem_0 rfl (q := 0) rfl ?_
  refine p_getR G f_RX7_12 rfl hS.1 hS.2.1 dX7_checkItem_1 ?_
  refine p_getR (b := (an + 3)) G f_RX7_34 rfl (hS.2.2.2.2.2.1 0 (by decide)).1 ((hS.2.2.2.2.2.1 0 (by decide)).2.2 3 (by decide)) dX7_checkItem_4 ?_
  refine p_iload_n dX7_checkItem_7 rfl (q := 1) rfl ?_
  refine p_VI G k_RX7_271 (by decide) (hS.2.2.2.2.2.1 3 (by decide)).1 rfl rfl (Nat.le_of_ble_eq_true rfl) ⟨by decide, by decide⟩ ⟨by decide, by decide⟩ dX7_checkItem_8 h (fun r1 im2 c3 h => ?_)
  refine p_if_ne (tgt := 25) dX7_checkItem_11 (by decide) (nf_r c3) (fun b4 => ?_) (fun b4 => ?_)
  · have h := h.1 b4
    exact p_retV (by decide) (by decide) rfl dX7_checkItem_25 h
  · have h := h.2 b4
    exact p_throwSW G tw_IOB q_3_213 rfl (by decide) (Nat.le_of_ble_eq_true rfl) (by decide) (by decide) dX7_checkItem_14 dX7_checkItem_17 dX7_checkItem_18 dX7_checkItem_21 dX7_checkItem_24 h
set_option maxRecDepth 20000 in
set_option maxHeartbeats 4000000 in
theorem v_X7_setLevel {g : zG} (G : zOK g) {S : zSh} {im : zIm} {a an as av at_ : Nat} {p1 : Int} {p2 : Int} {p3 : Int} {Q : Int → zIm → Prop} {X : String → zSh → zIm → Prop} (hS : zDep S a an as av at_) (c_p1 : zc p1) (c_p2 : zc p2) (c_p3 : zc p3)
    (h : zCVx g yX7_checkSite M_X7_checkSite [.ref a, .int (zi p1)] S im (fun im1 => zCVx g yX7_checkItem M_X7_checkItem [.ref a, .int (zi p2)] S im1 (fun im3 => zCVx g yX7_checkRange M_X7_checkRange [.int (zi p3), .int (zi 0), .int (zi 20)] S im3 (fun im5 => zCI g yX7_cell M_X7_cell [.int (zi p1), .int (zi p2)] S im5 (fun r7 im8 => ((0 ≤ r7 ∧ r7 < 32) ∧ ((0 ≤ r7 ∧ r7 < 32) ∧ (((zw ((im8 (an + 1) r7) - p3)) ≤ (im8 (an + 2) r7) → zCV g yX2_changeLevel M_X2_changeLevel [.ref an, .int (zi p1), .int (zi p2), .int (zi p3)] S im8 (fun im14 => Q (im8 (an + 1) r7) im14)) ∧ ((im8 (an + 2) r7) < (zw ((im8 (an + 1) r7) - p3)) → X "java/lang/IllegalStateException" (zpush S 14 0) im8)))))) X) X) X) :
    zCIx g yX7_setLevel M_X7_setLevel [.ref a, .int (zi p1), .int (zi p2), .int (zi p3)] S im Q X := by
  refine zC_of (by decide) rfl rfl rfl rfl (Nat.le_of_ble_eq_true rfl) ?_
  refine p_aload_n dX7_setLevel_0 rfl (q := 0) rfl ?_
  refine p_iload_n dX7_setLevel_1 rfl (q := 1) rfl ?_
  refine p_VVx G rfl k_RX7_80 (by decide) hS.1 rfl rfl (Nat.le_of_ble_eq_true rfl) ⟨by decide, by decide⟩ ⟨by decide, by decide⟩ dX7_setLevel_2 h (fun im1 h => ?_)
  refine p_aload_n dX7_setLevel_5 rfl (q := 0) rfl ?_
  refine p_iload_n dX7_setLevel_6 rfl (q := 2) rfl ?_
  refine p_VVx G rfl k_RX7_83 (by decide) hS.1 rfl rfl (Nat.le_of_ble_eq_true rfl) ⟨by decide, by decide⟩ ⟨by decide, by decide⟩ dX7_setLevel_7 h (fun im3 h => ?_)
  refine p_iload_n dX7_setLevel_10 rfl (q := 3) rfl ?_
  refine p_iconst dX7_setLevel_11 ?_
  refine p_bipush dX7_setLevel_12 (by decide) ?_
  refine p_SVx G rfl k_RX7_30 rfl rfl (Nat.le_of_ble_eq_true rfl) ⟨by decide, by decide⟩ ⟨by decide, by decide⟩ dX7_setLevel_14 h (fun im5 h => ?_)
  refine p_iload_n dX7_setLevel_17 rfl (q := 1) rfl ?_
  refine p_iload_n dX7_setLevel_18 rfl (q := 2) rfl ?_
  refine p_SI G k_RX7_86 rfl rfl (Nat.le_of_ble_eq_true rfl) ⟨by decide, by decide⟩ ⟨by decide, by decide⟩ dX7_setLevel_19 h (fun r7 im8 c9 h => ?_)
  refine p_istore (lv' := [(4, .int (zi r7)), (0, .ref a), (1, .int (zi p1)), (2, .int (zi p2)), (3, .int (zi p3))]) dX7_setLevel_22 (by decide) rfl ?_
  refine p_aload_n dX7_setLevel_24 rfl (q := 1) rfl ?_
  refine p_getR G f_RX7_12 rfl hS.1 hS.2.1 dX7_setLevel_25 ?_
  refine p_getR (b := (an + 1)) G f_RX7_89 rfl (hS.2.2.2.2.2.1 0 (by decide)).1 ((hS.2.2.2.2.2.1 0 (by decide)).2.2 1 (by decide)) dX7_setLevel_28 ?_
  refine p_iload dX7_setLevel_31 (q := 0) rfl ?_
  have g11 := h.1
  have h := h.2
  refine p_iald G (hS.2.2.2.2.2.1 1 (by decide)).1 (nf_r c9) g11.1 (zln_lt (hS.2.2.2.2.2.1 1 (by decide)).2.1 g11.2) dX7_setLevel_33 (fun c10 => ?_)
  refine p_istore (lv' := [(5, .int (zi (im8 (an + 1) r7))), (4, .int (zi r7)), (0, .ref a), (1, .int (zi p1)), (2, .int (zi p2)), (3, .int (zi p3))]) dX7_setLevel_34 (by decide) rfl ?_
  refine p_iload dX7_setLevel_36 (q := 0) rfl ?_
  refine p_iload_n dX7_setLevel_38 rfl (q := 5) rfl ?_
  refine p_isub dX7_setLevel_39 ?_
  refine p_aload_n dX7_setLevel_40 rfl (q := 2) rfl ?_
  refine p_getR G f_RX7_12 rfl hS.1 hS.2.1 dX7_setLevel_41 ?_
  refine p_getR (b := (an + 2)) G f_RX7_93 rfl (hS.2.2.2.2.2.1 0 (by decide)).1 ((hS.2.2.2.2.2.1 0 (by decide)).2.2 2 (by decide)) dX7_setLevel_44 ?_
  refine p_iload dX7_setLevel_47 (q := 1) rfl ?_
  have g13 := h.1
  have h := h.2
  refine p_iald G (hS.2.2.2.2.2.1 2 (by decide)).1 (nf_r c9) g13.1 (zln_lt (hS.2.2.2.2.2.1 2 (by decide)).2.1 g13.2) dX7_setLevel_49 (fun c12 => ?_)
  refine p_icmp_le (tgt := 63) dX7_setLevel_50 (by decide) (nf_w _) (nf_r c12) (fun b14 => ?_) (fun b14 => ?_)
  · have h := h.1 b14
    refine p_aload_n dX7_setLevel_63 rfl (q := 2) rfl ?_
    refine p_getR G f_RX7_12 rfl hS.1 hS.2.1 dX7_setLevel_64 ?_
    refine p_iload_n dX7_setLevel_67 rfl (q := 3) rfl ?_
    refine p_iload_n dX7_setLevel_68 rfl (q := 4) rfl ?_
    refine p_iload_n dX7_setLevel_69 rfl (q := 5) rfl ?_
    refine p_VV G k_RX7_98 (by decide) (hS.2.2.2.2.2.1 0 (by decide)).1 rfl rfl (Nat.le_of_ble_eq_true rfl) ⟨by decide, by decide⟩ ⟨by decide, by decide⟩ dX7_setLevel_70 h (fun im14 h => ?_)
    refine p_iload dX7_setLevel_73 (q := 0) rfl ?_
    exact p_iretI (by decide) (by decide) rfl (nf_r c10) dX7_setLevel_75 h
  · have h := h.2 b14
    exact p_throwS G tw_ISE q_3_215 rfl (by decide) (Nat.le_of_ble_eq_true rfl) (by decide) (by decide) dX7_setLevel_53 dX7_setLevel_56 dX7_setLevel_57 dX7_setLevel_59 dX7_setLevel_62 h
set_option maxRecDepth 20000 in
set_option maxHeartbeats 4000000 in
theorem v_X7_setShare {g : zG} (G : zOK g) {S : zSh} {im : zIm} {a an as av at_ : Nat} {p1 : Int} {p2 : Int} {p3 : Int} {Q : Int → zIm → Prop} {X : String → zSh → zIm → Prop} (hS : zDep S a an as av at_) (c_p1 : zc p1) (c_p2 : zc p2) (c_p3 : zc p3)
    (h : zCVx g yX7_checkBase M_X7_checkBase [.ref a, .int (zi p1)] S im (fun im1 => zCVx g yX7_checkItem M_X7_checkItem [.ref a, .int (zi p2)] S im1 (fun im3 => zCVx g yX7_checkRange M_X7_checkRange [.int (zi p3), .int (zi 0), .int (zi 10)] S im3 (fun im5 => zCI g yX7_cell M_X7_cell [.int (zi p1), .int (zi p2)] S im5 (fun r7 im8 => zCI g yX7_exchange M_X7_exchange [.ref (an + 10), .int (zi r7), .int (zi p3)] S im8 (fun r10 im11 => Q r10 im11))) X) X) X) :
    zCIx g yX7_setShare M_X7_setShare [.ref a, .int (zi p1), .int (zi p2), .int (zi p3)] S im Q X := by
  refine zC_of (by decide) rfl rfl rfl rfl (Nat.le_of_ble_eq_true rfl) ?_
  refine p_aload_n dX7_setShare_0 rfl (q := 0) rfl ?_
  refine p_iload_n dX7_setShare_1 rfl (q := 1) rfl ?_
  refine p_VVx G rfl k_RX7_64 (by decide) hS.1 rfl rfl (Nat.le_of_ble_eq_true rfl) ⟨by decide, by decide⟩ ⟨by decide, by decide⟩ dX7_setShare_2 h (fun im1 h => ?_)
  refine p_aload_n dX7_setShare_5 rfl (q := 0) rfl ?_
  refine p_iload_n dX7_setShare_6 rfl (q := 2) rfl ?_
  refine p_VVx G rfl k_RX7_83 (by decide) hS.1 rfl rfl (Nat.le_of_ble_eq_true rfl) ⟨by decide, by decide⟩ ⟨by decide, by decide⟩ dX7_setShare_7 h (fun im3 h => ?_)
  refine p_iload_n dX7_setShare_10 rfl (q := 3) rfl ?_
  refine p_iconst dX7_setShare_11 ?_
  refine p_bipush dX7_setShare_12 (by decide) ?_
  refine p_SVx G rfl k_RX7_30 rfl rfl (Nat.le_of_ble_eq_true rfl) ⟨by decide, by decide⟩ ⟨by decide, by decide⟩ dX7_setShare_14 h (fun im5 h => ?_)
  refine p_aload_n dX7_setShare_17 rfl (q := 0) rfl ?_
  refine p_getR G f_RX7_12 rfl hS.1 hS.2.1 dX7_setShare_18 ?_
  refine p_getR (b := (an + 3)) G f_RX7_34 rfl (hS.2.2.2.2.2.1 0 (by decide)).1 ((hS.2.2.2.2.2.1 0 (by decide)).2.2 3 (by decide)) dX7_setShare_21 ?_
  refine p_getR (b := (an + 10)) G f_RX7_101 rfl (hS.2.2.2.2.2.1 3 (by decide)).1 ((hS.2.2.2.2.2.1 3 (by decide)).2.2 9 (by decide)) dX7_setShare_24 ?_
  refine p_iload_n dX7_setShare_27 rfl (q := 1) rfl ?_
  refine p_iload_n dX7_setShare_28 rfl (q := 2) rfl ?_
  refine p_SI G k_RX7_86 rfl rfl (Nat.le_of_ble_eq_true rfl) ⟨by decide, by decide⟩ ⟨by decide, by decide⟩ dX7_setShare_29 h (fun r7 im8 c9 h => ?_)
  refine p_iload_n dX7_setShare_32 rfl (q := 3) rfl ?_
  refine p_SI G k_RX7_104 rfl rfl (Nat.le_of_ble_eq_true rfl) ⟨by decide, by decide⟩ ⟨by decide, by decide⟩ dX7_setShare_33 h (fun r10 im11 c12 h => ?_)
  exact p_iretI (by decide) (by decide) rfl (nf_r c12) dX7_setShare_36 h
set_option maxRecDepth 20000 in
set_option maxHeartbeats 4000000 in
theorem v_X7_setReserve {g : zG} (G : zOK g) {S : zSh} {im : zIm} {a an as av at_ : Nat} {p1 : Int} {p2 : Int} {p3 : Int} {Q : Int → zIm → Prop} {X : String → zSh → zIm → Prop} (hS : zDep S a an as av at_) (c_p1 : zc p1) (c_p2 : zc p2) (c_p3 : zc p3)
    (h : zCVx g yX7_checkBase M_X7_checkBase [.ref a, .int (zi p1)] S im (fun im1 => zCVx g yX7_checkItem M_X7_checkItem [.ref a, .int (zi p2)] S im1 (fun im3 => zCVx g yX7_checkRange M_X7_checkRange [.int (zi p3), .int (zi 0), .int (zi 20)] S im3 (fun im5 => zCI g yX7_cell M_X7_cell [.int (zi p1), .int (zi p2)] S im5 (fun r7 im8 => zCI g yX7_exchange M_X7_exchange [.ref (an + 9), .int (zi r7), .int (zi p3)] S im8 (fun r10 im11 => Q r10 im11))) X) X) X) :
    zCIx g yX7_setReserve M_X7_setReserve [.ref a, .int (zi p1), .int (zi p2), .int (zi p3)] S im Q X := by
  refine zC_of (by decide) rfl rfl rfl rfl (Nat.le_of_ble_eq_true rfl) ?_
  refine p_aload_n dX7_setReserve_0 rfl (q := 0) rfl ?_
  refine p_iload_n dX7_setReserve_1 rfl (q := 1) rfl ?_
  refine p_VVx G rfl k_RX7_64 (by decide) hS.1 rfl rfl (Nat.le_of_ble_eq_true rfl) ⟨by decide, by decide⟩ ⟨by decide, by decide⟩ dX7_setReserve_2 h (fun im1 h => ?_)
  refine p_aload_n dX7_setReserve_5 rfl (q := 0) rfl ?_
  refine p_iload_n dX7_setReserve_6 rfl (q := 2) rfl ?_
  refine p_VVx G rfl k_RX7_83 (by decide) hS.1 rfl rfl (Nat.le_of_ble_eq_true rfl) ⟨by decide, by decide⟩ ⟨by decide, by decide⟩ dX7_setReserve_7 h (fun im3 h => ?_)
  refine p_iload_n dX7_setReserve_10 rfl (q := 3) rfl ?_
  refine p_iconst dX7_setReserve_11 ?_
  refine p_bipush dX7_setReserve_12 (by decide) ?_
  refine p_SVx G rfl k_RX7_30 rfl rfl (Nat.le_of_ble_eq_true rfl) ⟨by decide, by decide⟩ ⟨by decide, by decide⟩ dX7_setReserve_14 h (fun im5 h => ?_)
  refine p_aload_n dX7_setReserve_17 rfl (q := 0) rfl ?_
  refine p_getR G f_RX7_12 rfl hS.1 hS.2.1 dX7_setReserve_18 ?_
  refine p_getR (b := (an + 3)) G f_RX7_34 rfl (hS.2.2.2.2.2.1 0 (by decide)).1 ((hS.2.2.2.2.2.1 0 (by decide)).2.2 3 (by decide)) dX7_setReserve_21 ?_
  refine p_getR (b := (an + 9)) G f_RX7_108 rfl (hS.2.2.2.2.2.1 3 (by decide)).1 ((hS.2.2.2.2.2.1 3 (by decide)).2.2 8 (by decide)) dX7_setReserve_24 ?_
  refine p_iload_n dX7_setReserve_27 rfl (q := 1) rfl ?_
  refine p_iload_n dX7_setReserve_28 rfl (q := 2) rfl ?_
  refine p_SI G k_RX7_86 rfl rfl (Nat.le_of_ble_eq_true rfl) ⟨by decide, by decide⟩ ⟨by decide, by decide⟩ dX7_setReserve_29 h (fun r7 im8 c9 h => ?_)
  refine p_iload_n dX7_setReserve_32 rfl (q := 3) rfl ?_
  refine p_SI G k_RX7_104 rfl rfl (Nat.le_of_ble_eq_true rfl) ⟨by decide, by decide⟩ ⟨by decide, by decide⟩ dX7_setReserve_33 h (fun r10 im11 c12 h => ?_)
  exact p_iretI (by decide) (by decide) rfl (nf_r c12) dX7_setReserve_36 h
set_option maxRecDepth 20000 in
set_option maxHeartbeats 4000000 in
theorem v_X7_setRate {g : zG} (G : zOK g) {S : zSh} {im : zIm} {a an as av at_ : Nat} {p1 : Int} {p2 : Int} {p3 : Int} {Q : Int → zIm → Prop} {X : String → zSh → zIm → Prop} (hS : zDep S a an as av at_) (c_p1 : zc p1) (c_p2 : zc p2) (c_p3 : zc p3)
    (h : zCVx g yX7_checkBase M_X7_checkBase [.ref a, .int (zi p1)] S im (fun im1 => zCVx g yX7_checkItem M_X7_checkItem [.ref a, .int (zi p2)] S im1 (fun im3 => zCVx g yX7_checkRange M_X7_checkRange [.int (zi p3), .int (zi 0), .int (zi 100)] S im3 (fun im5 => zCI g yX7_cell M_X7_cell [.int (zi p1), .int (zi p2)] S im5 (fun r7 im8 => zCI g yX7_exchange M_X7_exchange [.ref (an + 11), .int (zi r7), .int (zi p3)] S im8 (fun r10 im11 => Q r10 im11))) X) X) X) :
    zCIx g yX7_setRate M_X7_setRate [.ref a, .int (zi p1), .int (zi p2), .int (zi p3)] S im Q X := by
  refine zC_of (by decide) rfl rfl rfl rfl (Nat.le_of_ble_eq_true rfl) ?_
  refine p_aload_n dX7_setRate_0 rfl (q := 0) rfl ?_
  refine p_iload_n dX7_setRate_1 rfl (q := 1) rfl ?_
  refine p_VVx G rfl k_RX7_64 (by decide) hS.1 rfl rfl (Nat.le_of_ble_eq_true rfl) ⟨by decide, by decide⟩ ⟨by decide, by decide⟩ dX7_setRate_2 h (fun im1 h => ?_)
  refine p_aload_n dX7_setRate_5 rfl (q := 0) rfl ?_
  refine p_iload_n dX7_setRate_6 rfl (q := 2) rfl ?_
  refine p_VVx G rfl k_RX7_83 (by decide) hS.1 rfl rfl (Nat.le_of_ble_eq_true rfl) ⟨by decide, by decide⟩ ⟨by decide, by decide⟩ dX7_setRate_7 h (fun im3 h => ?_)
  refine p_iload_n dX7_setRate_10 rfl (q := 3) rfl ?_
  refine p_iconst dX7_setRate_11 ?_
  refine p_bipush dX7_setRate_12 (by decide) ?_
  refine p_SVx G rfl k_RX7_30 rfl rfl (Nat.le_of_ble_eq_true rfl) ⟨by decide, by decide⟩ ⟨by decide, by decide⟩ dX7_setRate_14 h (fun im5 h => ?_)
  refine p_aload_n dX7_setRate_17 rfl (q := 0) rfl ?_
  refine p_getR G f_RX7_12 rfl hS.1 hS.2.1 dX7_setRate_18 ?_
  refine p_getR (b := (an + 3)) G f_RX7_34 rfl (hS.2.2.2.2.2.1 0 (by decide)).1 ((hS.2.2.2.2.2.1 0 (by decide)).2.2 3 (by decide)) dX7_setRate_21 ?_
  refine p_getR (b := (an + 11)) G f_RX7_111 rfl (hS.2.2.2.2.2.1 3 (by decide)).1 ((hS.2.2.2.2.2.1 3 (by decide)).2.2 10 (by decide)) dX7_setRate_24 ?_
  refine p_iload_n dX7_setRate_27 rfl (q := 1) rfl ?_
  refine p_iload_n dX7_setRate_28 rfl (q := 2) rfl ?_
  refine p_SI G k_RX7_86 rfl rfl (Nat.le_of_ble_eq_true rfl) ⟨by decide, by decide⟩ ⟨by decide, by decide⟩ dX7_setRate_29 h (fun r7 im8 c9 h => ?_)
  refine p_iload_n dX7_setRate_32 rfl (q := 3) rfl ?_
  refine p_SI G k_RX7_104 rfl rfl (Nat.le_of_ble_eq_true rfl) ⟨by decide, by decide⟩ ⟨by decide, by decide⟩ dX7_setRate_33 h (fun r10 im11 c12 h => ?_)
  exact p_iretI (by decide) (by decide) rfl (nf_r c12) dX7_setRate_36 h
set_option maxRecDepth 20000 in
set_option maxHeartbeats 4000000 in
theorem v_X7_setLateralLimit {g : zG} (G : zOK g) {S : zSh} {im : zIm} {a an as av at_ : Nat} {p1 : Int} {Q : Int → zIm → Prop} {X : String → zSh → zIm → Prop} (hS : zDep S a an as av at_) (c_p1 : zc p1)
    (h : zCVx g yX7_checkRange M_X7_checkRange [.int (zi p1), .int (zi 0), .int (zi 20)] S im (fun im1 => ∀ im4, im4 = zst im1 (an + 3) 2 p1 → Q (im1 (an + 3) 2) im4) X) :
    zCIx g yX7_setLateralLimit M_X7_setLateralLimit [.ref a, .int (zi p1)] S im Q X := by
  refine zC_of (by decide) rfl rfl rfl rfl (Nat.le_of_ble_eq_true rfl) ?_
  refine p_iload_n dX7_setLateralLimit_0 rfl (q := 1) rfl ?_
  refine p_iconst dX7_setLateralLimit_1 ?_
  refine p_bipush dX7_setLateralLimit_2 (by decide) ?_
  refine p_SVx G rfl k_RX7_30 rfl rfl (Nat.le_of_ble_eq_true rfl) ⟨by decide, by decide⟩ ⟨by decide, by decide⟩ dX7_setLateralLimit_4 h (fun im1 h => ?_)
  refine p_aload_n dX7_setLateralLimit_7 rfl (q := 0) rfl ?_
  refine p_getR G f_RX7_12 rfl hS.1 hS.2.1 dX7_setLateralLimit_8 ?_
  refine p_getR (b := (an + 3)) G f_RX7_34 rfl (hS.2.2.2.2.2.1 0 (by decide)).1 ((hS.2.2.2.2.2.1 0 (by decide)).2.2 3 (by decide)) dX7_setLateralLimit_11 ?_
  refine p_getI (j := 2) G f_RX7_114 rfl (hS.2.2.2.2.2.1 3 (by decide)).1 dX7_setLateralLimit_14 (fun c3 => ?_)
  refine p_istore_n (lv' := [(2, .int (zi (im1 (an + 3) 2))), (0, .ref a), (1, .int (zi p1))]) dX7_setLateralLimit_17 rfl (by decide) rfl ?_
  refine p_aload_n dX7_setLateralLimit_18 rfl (q := 1) rfl ?_
  refine p_getR G f_RX7_12 rfl hS.1 hS.2.1 dX7_setLateralLimit_19 ?_
  refine p_getR (b := (an + 3)) G f_RX7_34 rfl (hS.2.2.2.2.2.1 0 (by decide)).1 ((hS.2.2.2.2.2.1 0 (by decide)).2.2 3 (by decide)) dX7_setLateralLimit_22 ?_
  refine p_iload_n dX7_setLateralLimit_25 rfl (q := 2) rfl ?_
  refine p_putI (j := 2) G f_RX7_114 rfl rfl rfl (hS.2.2.2.2.2.1 3 (by decide)).1 (nf_r c_p1) dX7_setLateralLimit_26 ?_
  refine p_gen (fun im4 e5 => ?_)
  have h := h im4 e5
  refine p_iload_n dX7_setLateralLimit_29 rfl (q := 0) rfl ?_
  exact p_iretI (by decide) (by decide) rfl (nf_r c3) dX7_setLateralLimit_30 h
set_option maxRecDepth 20000 in
set_option maxHeartbeats 4000000 in
theorem v_X7_demand {g : zG} (G : zOK g) {S : zSh} {im : zIm} {a an as av at_ : Nat} {p1 : Int} {p2 : Int} {p3 : Int} {Q : Int → zIm → Prop} {X : String → zSh → zIm → Prop} (hS : zDep S a an as av at_) (c_p1 : zc p1) (c_p2 : zc p2) (c_p3 : zc p3)
    (h : zCVx g yX7_checkBase M_X7_checkBase [.ref a, .int (zi p1)] S im (fun im1 => zCVx g yX7_checkItem M_X7_checkItem [.ref a, .int (zi p2)] S im1 (fun im3 => zCVx g yX7_checkRange M_X7_checkRange [.int (zi p3), .int (zi 0), .int (zi 9)] S im3 (fun im5 => zCI g yX2_refuses M_X2_refuses [.ref an] S im5 (fun r7 im8 => ((r7 = 0 → zCI g yX2_occur M_X2_occur [.ref an, .int (zi p1), .int (zi p2), .int (zi p3)] S im8 (fun r10 im11 => ((r10 = 0 ∨ r10 = 1) ∧ Q r10 im11))) ∧ (¬ r7 = 0 → X "java/lang/IllegalStateException" (zpush S 14 0) im8)))) X) X) X) :
    zCIx g yX7_demand M_X7_demand [.ref a, .int (zi p1), .int (zi p2), .int (zi p3)] S im Q X := by
  refine zC_of (by decide) rfl rfl rfl rfl (Nat.le_of_ble_eq_true rfl) ?_
  refine p_aload_n dX7_demand_0 rfl (q := 0) rfl ?_
  refine p_iload_n dX7_demand_1 rfl (q := 1) rfl ?_
  refine p_VVx G rfl k_RX7_64 (by decide) hS.1 rfl rfl (Nat.le_of_ble_eq_true rfl) ⟨by decide, by decide⟩ ⟨by decide, by decide⟩ dX7_demand_2 h (fun im1 h => ?_)
  refine p_aload_n dX7_demand_5 rfl (q := 0) rfl ?_
  refine p_iload_n dX7_demand_6 rfl (q := 2) rfl ?_
  refine p_VVx G rfl k_RX7_83 (by decide) hS.1 rfl rfl (Nat.le_of_ble_eq_true rfl) ⟨by decide, by decide⟩ ⟨by decide, by decide⟩ dX7_demand_7 h (fun im3 h => ?_)
  refine p_iload_n dX7_demand_10 rfl (q := 3) rfl ?_
  refine p_iconst dX7_demand_11 ?_
  refine p_bipush dX7_demand_12 (by decide) ?_
  refine p_SVx G rfl k_RX7_30 rfl rfl (Nat.le_of_ble_eq_true rfl) ⟨by decide, by decide⟩ ⟨by decide, by decide⟩ dX7_demand_14 h (fun im5 h => ?_)
  refine p_aload_n dX7_demand_17 rfl (q := 0) rfl ?_
  refine p_getR G f_RX7_12 rfl hS.1 hS.2.1 dX7_demand_18 ?_
  refine p_VI G k_RX7_117 (by decide) (hS.2.2.2.2.2.1 0 (by decide)).1 rfl rfl (Nat.le_of_ble_eq_true rfl) ⟨by decide, by decide⟩ ⟨by decide, by decide⟩ dX7_demand_21 h (fun r7 im8 c9 h => ?_)
  refine p_if_eq (tgt := 37) dX7_demand_24 (by decide) (nf_r c9) (fun b10 => ?_) (fun b10 => ?_)
  · have h := h.1 b10
    refine p_aload_n dX7_demand_37 rfl (q := 0) rfl ?_
    refine p_getR G f_RX7_12 rfl hS.1 hS.2.1 dX7_demand_38 ?_
    refine p_iload_n dX7_demand_41 rfl (q := 1) rfl ?_
    refine p_iload_n dX7_demand_42 rfl (q := 2) rfl ?_
    refine p_iload_n dX7_demand_43 rfl (q := 3) rfl ?_
    refine p_VI G k_RX7_123 (by decide) (hS.2.2.2.2.2.1 0 (by decide)).1 rfl rfl (Nat.le_of_ble_eq_true rfl) ⟨by decide, by decide⟩ ⟨by decide, by decide⟩ dX7_demand_44 h (fun r10 im11 c12 h => ?_)
    exact p_zretI (by decide) (by decide) rfl (nf_r c12) h.1 dX7_demand_47 h.2
  · have h := h.2 b10
    exact p_throwS G tw_ISE q_4_19 rfl (by decide) (Nat.le_of_ble_eq_true rfl) (by decide) (by decide) dX7_demand_27 dX7_demand_30 dX7_demand_31 dX7_demand_33 dX7_demand_36 h
set_option maxRecDepth 20000 in
set_option maxHeartbeats 4000000 in
theorem v_X7_checkLastDay {g : zG} (G : zOK g) {S : zSh} {im : zIm} {a an as av at_ : Nat} {p1 : Int} {Q : zIm → Prop} {X : String → zSh → zIm → Prop} (hS : zDep S a an as av at_) (c_p1 : zc p1)
    (h : (((zw ((im an 0) + p1)) ≤ 9999 → Q im) ∧ (9999 < (zw ((im an 0) + p1)) → X "java/lang/IllegalStateException" (zpush S 14 0) im))) :
    zCVx g yX7_checkLastDay M_X7_checkLastDay [.ref a, .int (zi p1)] S im Q X := by
  refine zC_of (by decide) rfl rfl rfl rfl (Nat.le_of_ble_eq_true rfl) ?_
  refine p_aload_n dX7_checkLastDay_0 rfl (q := 0) rfl ?_
  refine p_getR G f_RX7_12 rfl hS.1 hS.2.1 dX7_checkLastDay_1 ?_
  refine p_getI (j := 0) G f_RX7_133 rfl (hS.2.2.2.2.2.1 0 (by decide)).1 dX7_checkLastDay_4 (fun c1 => ?_)
  refine p_iload_n dX7_checkLastDay_7 rfl (q := 1) rfl ?_
  refine p_iadd dX7_checkLastDay_8 ?_
  refine p_sipush dX7_checkLastDay_9 (by decide) ?_
  refine p_icmp_le (tgt := 26) dX7_checkLastDay_12 (by decide) (nf_w _) (nf_k (by decide)) (fun b2 => ?_) (fun b2 => ?_)
  · have h := h.1 b2
    exact p_retV (by decide) (by decide) rfl dX7_checkLastDay_26 h
  · have h := h.2 b2
    exact p_throwSW G tw_ISE q_4_63 rfl (by decide) (Nat.le_of_ble_eq_true rfl) (by decide) (by decide) dX7_checkLastDay_15 dX7_checkLastDay_18 dX7_checkLastDay_19 dX7_checkLastDay_22 dX7_checkLastDay_25 h
set_option maxRecDepth 20000 in
set_option maxHeartbeats 4000000 in
theorem v_X7_advance {g : zG} (G : zOK g) {S : zSh} {im : zIm} {a an as av at_ : Nat} {p1 : Int} {Q : Int → zIm → Prop} {X : String → zSh → zIm → Prop} (hS : zDep S a an as av at_) (c_p1 : zc p1)
    (h : zCVx g yX7_checkRange M_X7_checkRange [.int (zi p1), .int (zi 1), .int (zi 60)] S im (fun im1 => zCVx g yX7_checkLastDay M_X7_checkLastDay [.ref a, .int (zi p1)] S im1 (fun im3 => zPIx g M_X7_advance 2 12 14 [(0, .ref a), (1, .int (zi p1)), (2, .int (zi 0))] S im3 Q X) X) X) :
    zCIx g yX7_advance M_X7_advance [.ref a, .int (zi p1)] S im Q X := by
  refine zC_of (by decide) rfl rfl rfl rfl (Nat.le_of_ble_eq_true rfl) ?_
  refine p_iload_n dX7_advance_0 rfl (q := 1) rfl ?_
  refine p_iconst dX7_advance_1 ?_
  refine p_bipush dX7_advance_2 (by decide) ?_
  refine p_SVx G rfl k_RX7_30 rfl rfl (Nat.le_of_ble_eq_true rfl) ⟨by decide, by decide⟩ ⟨by decide, by decide⟩ dX7_advance_4 h (fun im1 h => ?_)
  refine p_aload_n dX7_advance_7 rfl (q := 0) rfl ?_
  refine p_iload_n dX7_advance_8 rfl (q := 1) rfl ?_
  refine p_VVx G rfl k_RX7_127 (by decide) hS.1 rfl rfl (Nat.le_of_ble_eq_true rfl) ⟨by decide, by decide⟩ ⟨by decide, by decide⟩ dX7_advance_9 h (fun im3 h => ?_)
  refine p_iconst dX7_advance_12 ?_
  refine p_istore_n (lv' := [(2, .int (zi 0)), (0, .ref a), (1, .int (zi p1))]) dX7_advance_13 rfl (by decide) rfl ?_
  refine p_sub (lv' := [(0, .ref a), (1, .int (zi p1)), (2, .int (zi 0))]) [1, 2, 0] rfl ?_
  exact h
set_option maxRecDepth 20000 in
set_option maxHeartbeats 4000000 in
theorem v_X7_advance_14 {g : zG} (G : zOK g) {S : zSh} {im : zIm} {a an as av at_ : Nat} {x1 : Int} {x2 : Int} {Q : Int → zIm → Prop} {X : String → zSh → zIm → Prop} (hS : zDep S a an as av at_) (c_x1 : zc x1) (c_x2 : zc x2)
    (h : ((x1 ≤ x2 → Q (im an 0) im) ∧ (x2 < x1 → zCV g yX2_beginDay M_X2_beginDay [.ref an] S im (fun im1 => zPIx g M_X7_advance 2 12 14 [(0, .ref a), (1, .int (zi x1)), (2, .int (zi (zw (x2 + 1))))] S im1 Q X)))) :
    zPIx g M_X7_advance 2 12 14 [(0, .ref a), (1, .int (zi x1)), (2, .int (zi x2))] S im Q X := by
  refine p_iload_n dX7_advance_14 rfl (q := 2) rfl ?_
  refine p_iload_n dX7_advance_15 rfl (q := 1) rfl ?_
  refine p_icmp_ge (tgt := 32) dX7_advance_16 (by decide) (nf_r c_x2) (nf_r c_x1) (fun b1 => ?_) (fun b1 => ?_)
  · have h := h.1 b1
    refine p_aload_n dX7_advance_32 rfl (q := 0) rfl ?_
    refine p_getR G f_RX7_12 rfl hS.1 hS.2.1 dX7_advance_33 ?_
    refine p_getI (j := 0) G f_RX7_133 rfl (hS.2.2.2.2.2.1 0 (by decide)).1 dX7_advance_36 (fun c1 => ?_)
    exact p_iretI (by decide) (by decide) rfl (nf_r c1) dX7_advance_39 h
  · have h := h.2 b1
    refine p_aload_n dX7_advance_19 rfl (q := 0) rfl ?_
    refine p_getR G f_RX7_12 rfl hS.1 hS.2.1 dX7_advance_20 ?_
    refine p_VV G k_RX7_130 (by decide) (hS.2.2.2.2.2.1 0 (by decide)).1 rfl rfl (Nat.le_of_ble_eq_true rfl) ⟨by decide, by decide⟩ ⟨by decide, by decide⟩ dX7_advance_23 h (fun im1 h => ?_)
    refine p_iinc (q := 2) (lv' := [(2, .int (zi (x2 + 1))), (0, .ref a), (1, .int (zi x1))]) dX7_advance_26 rfl (by decide) rfl ?_
    refine p_goto (tgt := 14) dX7_advance_29 (by decide) ?_
    refine p_sub (lv' := [(0, .ref a), (1, .int (zi x1)), (2, .int (zi (zw (x2 + 1))))]) [1, 2, 0] (by simp only [zi_zw, zl_zwl]; rfl) ?_
    exact h
set_option maxRecDepth 20000 in
set_option maxHeartbeats 4000000 in
theorem v_X7_run {g : zG} (G : zOK g) {S : zSh} {im : zIm} {a an as av at_ : Nat} {p1 : Int} {p2 : Int} {Q : Int → zIm → Prop} {X : String → zSh → zIm → Prop} (hS : zDep S a an as av at_) (c_p1 : zc p1) (c_p2 : zc p2)
    (h : zCVx g yX7_checkRange M_X7_checkRange [.int (zi p1), .int (zi 0), .int (zi 2147483647)] S im (fun im1 => zCVx g yX7_checkRange M_X7_checkRange [.int (zi p2), .int (zi 1), .int (zi 30)] S im1 (fun im3 => zCVx g yX7_checkLastDay M_X7_checkLastDay [.ref a, .int (zi p2)] S im3 (fun im5 => zCI g yX2_runDays M_X2_runDays [.ref an, .int (zi p1), .int (zi p2)] S im5 (fun r7 im8 => Q r7 im8)) X) X) X) :
    zCIx g yX7_run M_X7_run [.ref a, .int (zi p1), .int (zi p2)] S im Q X := by
  refine zC_of (by decide) rfl rfl rfl rfl (Nat.le_of_ble_eq_true rfl) ?_
  refine p_iload_n dX7_run_0 rfl (q := 1) rfl ?_
  refine p_iconst dX7_run_1 ?_
  refine p_ldc G q_4_95 (v := 2147483647) (by decide) dX7_run_2 ?_
  refine p_SVx G rfl k_RX7_30 rfl rfl (Nat.le_of_ble_eq_true rfl) ⟨by decide, by decide⟩ ⟨by decide, by decide⟩ dX7_run_4 h (fun im1 h => ?_)
  refine p_iload_n dX7_run_7 rfl (q := 2) rfl ?_
  refine p_iconst dX7_run_8 ?_
  refine p_bipush dX7_run_9 (by decide) ?_
  refine p_SVx G rfl k_RX7_30 rfl rfl (Nat.le_of_ble_eq_true rfl) ⟨by decide, by decide⟩ ⟨by decide, by decide⟩ dX7_run_11 h (fun im3 h => ?_)
  refine p_aload_n dX7_run_14 rfl (q := 0) rfl ?_
  refine p_iload_n dX7_run_15 rfl (q := 2) rfl ?_
  refine p_VVx G rfl k_RX7_127 (by decide) hS.1 rfl rfl (Nat.le_of_ble_eq_true rfl) ⟨by decide, by decide⟩ ⟨by decide, by decide⟩ dX7_run_16 h (fun im5 h => ?_)
  refine p_aload_n dX7_run_19 rfl (q := 0) rfl ?_
  refine p_getR G f_RX7_12 rfl hS.1 hS.2.1 dX7_run_20 ?_
  refine p_iload_n dX7_run_23 rfl (q := 1) rfl ?_
  refine p_iload_n dX7_run_24 rfl (q := 2) rfl ?_
  refine p_VI G k_RX7_137 (by decide) (hS.2.2.2.2.2.1 0 (by decide)).1 rfl rfl (Nat.le_of_ble_eq_true rfl) ⟨by decide, by decide⟩ ⟨by decide, by decide⟩ dX7_run_25 h (fun r7 im8 c9 h => ?_)
  exact p_iretI (by decide) (by decide) rfl (nf_r c9) dX7_run_28 h
set_option maxRecDepth 20000 in
set_option maxHeartbeats 4000000 in
theorem v_X7_level {g : zG} (G : zOK g) {S : zSh} {im : zIm} {a an as av at_ : Nat} {p1 : Int} {p2 : Int} {Q : Int → zIm → Prop} {X : String → zSh → zIm → Prop} (hS : zDep S a an as av at_) (c_p1 : zc p1) (c_p2 : zc p2)
    (h : zCVx g yX7_checkSite M_X7_checkSite [.ref a, .int (zi p1)] S im (fun im1 => zCVx g yX7_checkItem M_X7_checkItem [.ref a, .int (zi p2)] S im1 (fun im3 => zCI g yX7_cell M_X7_cell [.int (zi p1), .int (zi p2)] S im3 (fun r5 im6 => ((0 ≤ r5 ∧ r5 < 32) ∧ Q (im6 (an + 1) r5) im6))) X) X) :
    zCIx g yX7_level M_X7_level [.ref a, .int (zi p1), .int (zi p2)] S im Q X := by
  refine zC_of (by decide) rfl rfl rfl rfl (Nat.le_of_ble_eq_true rfl) ?_
  refine p_aload_n dX7_level_0 rfl (q := 0) rfl ?_
  refine p_iload_n dX7_level_1 rfl (q := 1) rfl ?_
  refine p_VVx G rfl k_RX7_80 (by decide) hS.1 rfl rfl (Nat.le_of_ble_eq_true rfl) ⟨by decide, by decide⟩ ⟨by decide, by decide⟩ dX7_level_2 h (fun im1 h => ?_)
  refine p_aload_n dX7_level_5 rfl (q := 0) rfl ?_
  refine p_iload_n dX7_level_6 rfl (q := 2) rfl ?_
  refine p_VVx G rfl k_RX7_83 (by decide) hS.1 rfl rfl (Nat.le_of_ble_eq_true rfl) ⟨by decide, by decide⟩ ⟨by decide, by decide⟩ dX7_level_7 h (fun im3 h => ?_)
  refine p_aload_n dX7_level_10 rfl (q := 0) rfl ?_
  refine p_getR G f_RX7_12 rfl hS.1 hS.2.1 dX7_level_11 ?_
  refine p_getR (b := (an + 1)) G f_RX7_89 rfl (hS.2.2.2.2.2.1 0 (by decide)).1 ((hS.2.2.2.2.2.1 0 (by decide)).2.2 1 (by decide)) dX7_level_14 ?_
  refine p_iload_n dX7_level_17 rfl (q := 1) rfl ?_
  refine p_iload_n dX7_level_18 rfl (q := 2) rfl ?_
  refine p_SI G k_RX7_86 rfl rfl (Nat.le_of_ble_eq_true rfl) ⟨by decide, by decide⟩ ⟨by decide, by decide⟩ dX7_level_19 h (fun r5 im6 c7 h => ?_)
  have g9 := h.1
  have h := h.2
  refine p_iald G (hS.2.2.2.2.2.1 1 (by decide)).1 (nf_r c7) g9.1 (zln_lt (hS.2.2.2.2.2.1 1 (by decide)).2.1 g9.2) dX7_level_22 (fun c8 => ?_)
  exact p_iretI (by decide) (by decide) rfl (nf_r c8) dX7_level_23 h
set_option maxRecDepth 20000 in
set_option maxHeartbeats 4000000 in
theorem v_X7_onHand {g : zG} (G : zOK g) {S : zSh} {im : zIm} {a an as av at_ : Nat} {p1 : Int} {p2 : Int} {Q : Int → zIm → Prop} {X : String → zSh → zIm → Prop} (hS : zDep S a an as av at_) (c_p1 : zc p1) (c_p2 : zc p2)
    (h : zCVx g yX7_checkSite M_X7_checkSite [.ref a, .int (zi p1)] S im (fun im1 => zCVx g yX7_checkItem M_X7_checkItem [.ref a, .int (zi p2)] S im1 (fun im3 => zCI g yX7_cell M_X7_cell [.int (zi p1), .int (zi p2)] S im3 (fun r5 im6 => ((0 ≤ r5 ∧ r5 < 32) ∧ Q (im6 (an + 2) r5) im6))) X) X) :
    zCIx g yX7_onHand M_X7_onHand [.ref a, .int (zi p1), .int (zi p2)] S im Q X := by
  refine zC_of (by decide) rfl rfl rfl rfl (Nat.le_of_ble_eq_true rfl) ?_
  refine p_aload_n dX7_onHand_0 rfl (q := 0) rfl ?_
  refine p_iload_n dX7_onHand_1 rfl (q := 1) rfl ?_
  refine p_VVx G rfl k_RX7_80 (by decide) hS.1 rfl rfl (Nat.le_of_ble_eq_true rfl) ⟨by decide, by decide⟩ ⟨by decide, by decide⟩ dX7_onHand_2 h (fun im1 h => ?_)
  refine p_aload_n dX7_onHand_5 rfl (q := 0) rfl ?_
  refine p_iload_n dX7_onHand_6 rfl (q := 2) rfl ?_
  refine p_VVx G rfl k_RX7_83 (by decide) hS.1 rfl rfl (Nat.le_of_ble_eq_true rfl) ⟨by decide, by decide⟩ ⟨by decide, by decide⟩ dX7_onHand_7 h (fun im3 h => ?_)
  refine p_aload_n dX7_onHand_10 rfl (q := 0) rfl ?_
  refine p_getR G f_RX7_12 rfl hS.1 hS.2.1 dX7_onHand_11 ?_
  refine p_getR (b := (an + 2)) G f_RX7_93 rfl (hS.2.2.2.2.2.1 0 (by decide)).1 ((hS.2.2.2.2.2.1 0 (by decide)).2.2 2 (by decide)) dX7_onHand_14 ?_
  refine p_iload_n dX7_onHand_17 rfl (q := 1) rfl ?_
  refine p_iload_n dX7_onHand_18 rfl (q := 2) rfl ?_
  refine p_SI G k_RX7_86 rfl rfl (Nat.le_of_ble_eq_true rfl) ⟨by decide, by decide⟩ ⟨by decide, by decide⟩ dX7_onHand_19 h (fun r5 im6 c7 h => ?_)
  have g9 := h.1
  have h := h.2
  refine p_iald G (hS.2.2.2.2.2.1 2 (by decide)).1 (nf_r c7) g9.1 (zln_lt (hS.2.2.2.2.2.1 2 (by decide)).2.1 g9.2) dX7_onHand_22 (fun c8 => ?_)
  exact p_iretI (by decide) (by decide) rfl (nf_r c8) dX7_onHand_23 h
set_option maxRecDepth 20000 in
set_option maxHeartbeats 4000000 in
theorem v_X7_waiting {g : zG} (G : zOK g) {S : zSh} {im : zIm} {a an as av at_ : Nat} {p1 : Int} {p2 : Int} {Q : Int → zIm → Prop} {X : String → zSh → zIm → Prop} (hS : zDep S a an as av at_) (c_p1 : zc p1) (c_p2 : zc p2)
    (h : zCVx g yX7_checkBase M_X7_checkBase [.ref a, .int (zi p1)] S im (fun im1 => zCVx g yX7_checkItem M_X7_checkItem [.ref a, .int (zi p2)] S im1 (fun im3 => zCI g yX3_countOf M_X3_countOf [.ref (an + 35), .int (zi p1), .int (zi p2)] S im3 (fun r5 im6 => Q r5 im6)) X) X) :
    zCIx g yX7_waiting M_X7_waiting [.ref a, .int (zi p1), .int (zi p2)] S im Q X := by
  refine zC_of (by decide) rfl rfl rfl rfl (Nat.le_of_ble_eq_true rfl) ?_
  refine p_aload_n dX7_waiting_0 rfl (q := 0) rfl ?_
  refine p_iload_n dX7_waiting_1 rfl (q := 1) rfl ?_
  refine p_VVx G rfl k_RX7_64 (by decide) hS.1 rfl rfl (Nat.le_of_ble_eq_true rfl) ⟨by decide, by decide⟩ ⟨by decide, by decide⟩ dX7_waiting_2 h (fun im1 h => ?_)
  refine p_aload_n dX7_waiting_5 rfl (q := 0) rfl ?_
  refine p_iload_n dX7_waiting_6 rfl (q := 2) rfl ?_
  refine p_VVx G rfl k_RX7_83 (by decide) hS.1 rfl rfl (Nat.le_of_ble_eq_true rfl) ⟨by decide, by decide⟩ ⟨by decide, by decide⟩ dX7_waiting_7 h (fun im3 h => ?_)
  refine p_aload_n dX7_waiting_10 rfl (q := 0) rfl ?_
  refine p_getR G f_RX7_12 rfl hS.1 hS.2.1 dX7_waiting_11 ?_
  refine p_getR (b := (an + 35)) G f_RX7_149 rfl (hS.2.2.2.2.2.1 0 (by decide)).1 ((hS.2.2.2.2.2.1 0 (by decide)).2.2 8 (by decide)) dX7_waiting_14 ?_
  refine p_iload_n dX7_waiting_17 rfl (q := 1) rfl ?_
  refine p_iload_n dX7_waiting_18 rfl (q := 2) rfl ?_
  refine p_VI G k_RX7_153 (by decide) (hS.2.2.2.2.2.1 35 (by decide)).1 rfl rfl (Nat.le_of_ble_eq_true rfl) ⟨by decide, by decide⟩ ⟨by decide, by decide⟩ dX7_waiting_19 h (fun r5 im6 c7 h => ?_)
  exact p_iretI (by decide) (by decide) rfl (nf_r c7) dX7_waiting_22 h
set_option maxRecDepth 20000 in
set_option maxHeartbeats 4000000 in
theorem v_X7_topPriority {g : zG} (G : zOK g) {S : zSh} {im : zIm} {a an as av at_ : Nat} {p1 : Int} {p2 : Int} {Q : Int → zIm → Prop} {X : String → zSh → zIm → Prop} (hS : zDep S a an as av at_) (c_p1 : zc p1) (c_p2 : zc p2)
    (h : zCVx g yX7_checkBase M_X7_checkBase [.ref a, .int (zi p1)] S im (fun im1 => zCVx g yX7_checkItem M_X7_checkItem [.ref a, .int (zi p2)] S im1 (fun im3 => zCI g yX3_firstOf M_X3_firstOf [.ref (an + 35), .int (zi p1), .int (zi p2)] S im3 (fun r5 im6 => ((¬ r5 = (-1) → ((0 ≤ r5 ∧ r5 < 300) ∧ Q (im6 (an + 38) r5) im6)) ∧ (r5 = (-1) → Q (-1) im6)))) X) X) :
    zCIx g yX7_topPriority M_X7_topPriority [.ref a, .int (zi p1), .int (zi p2)] S im Q X := by
  refine zC_of (by decide) rfl rfl rfl rfl (Nat.le_of_ble_eq_true rfl) ?_
  refine p_aload_n dX7_topPriority_0 rfl (q := 0) rfl ?_
  refine p_iload_n dX7_topPriority_1 rfl (q := 1) rfl ?_
  refine p_VVx G rfl k_RX7_64 (by decide) hS.1 rfl rfl (Nat.le_of_ble_eq_true rfl) ⟨by decide, by decide⟩ ⟨by decide, by decide⟩ dX7_topPriority_2 h (fun im1 h => ?_)
  refine p_aload_n dX7_topPriority_5 rfl (q := 0) rfl ?_
  refine p_iload_n dX7_topPriority_6 rfl (q := 2) rfl ?_
  refine p_VVx G rfl k_RX7_83 (by decide) hS.1 rfl rfl (Nat.le_of_ble_eq_true rfl) ⟨by decide, by decide⟩ ⟨by decide, by decide⟩ dX7_topPriority_7 h (fun im3 h => ?_)
  refine p_aload_n dX7_topPriority_10 rfl (q := 0) rfl ?_
  refine p_getR G f_RX7_12 rfl hS.1 hS.2.1 dX7_topPriority_11 ?_
  refine p_getR (b := (an + 35)) G f_RX7_149 rfl (hS.2.2.2.2.2.1 0 (by decide)).1 ((hS.2.2.2.2.2.1 0 (by decide)).2.2 8 (by decide)) dX7_topPriority_14 ?_
  refine p_iload_n dX7_topPriority_17 rfl (q := 1) rfl ?_
  refine p_iload_n dX7_topPriority_18 rfl (q := 2) rfl ?_
  refine p_VI G k_RX7_158 (by decide) (hS.2.2.2.2.2.1 35 (by decide)).1 rfl rfl (Nat.le_of_ble_eq_true rfl) ⟨by decide, by decide⟩ ⟨by decide, by decide⟩ dX7_topPriority_19 h (fun r5 im6 c7 h => ?_)
  refine p_istore_n (lv' := [(3, .int (zi r5)), (0, .ref a), (1, .int (zi p1)), (2, .int (zi p2))]) dX7_topPriority_22 rfl (by decide) rfl ?_
  refine p_iload_n dX7_topPriority_23 rfl (q := 0) rfl ?_
  refine p_iconst dX7_topPriority_24 ?_
  refine p_icmp_ne (tgt := 32) dX7_topPriority_25 (by decide) (nf_r c7) (nf_k (by decide)) (fun b8 => ?_) (fun b8 => ?_)
  · have h := h.1 b8
    refine p_aload_n dX7_topPriority_32 rfl (q := 1) rfl ?_
    refine p_getR G f_RX7_12 rfl hS.1 hS.2.1 dX7_topPriority_33 ?_
    refine p_getR (b := (an + 35)) G f_RX7_149 rfl (hS.2.2.2.2.2.1 0 (by decide)).1 ((hS.2.2.2.2.2.1 0 (by decide)).2.2 8 (by decide)) dX7_topPriority_36 ?_
    refine p_getR (b := (an + 38)) G f_RX7_161 rfl (hS.2.2.2.2.2.1 35 (by decide)).1 ((hS.2.2.2.2.2.1 35 (by decide)).2.2 3 (by decide)) dX7_topPriority_39 ?_
    refine p_iload_n dX7_topPriority_42 rfl (q := 0) rfl ?_
    have g9 := h.1
    have h := h.2
    refine p_iald G (hS.2.2.2.2.2.1 38 (by decide)).1 (nf_r c7) g9.1 (zln_lt (hS.2.2.2.2.2.1 38 (by decide)).2.1 g9.2) dX7_topPriority_43 (fun c8 => ?_)
    exact p_iretI (by decide) (by decide) rfl (nf_r c8) dX7_topPriority_44 h
  · have h := h.2 b8
    refine p_iconst dX7_topPriority_28 ?_
    refine p_goto (tgt := 44) dX7_topPriority_29 (by decide) ?_
    exact p_iretI (by decide) (by decide) rfl (nf_k (by decide)) dX7_topPriority_44 h
set_option maxRecDepth 20000 in
set_option maxHeartbeats 4000000 in
theorem v_X7_keptOrders {g : zG} (G : zOK g) {S : zSh} {im : zIm} {a an as av at_ : Nat} {p1 : Int} {Q : Int → zIm → Prop} {X : String → zSh → zIm → Prop} (hS : zDep S a an as av at_) (c_p1 : zc p1)
    (h : zCVx g yX7_checkItem M_X7_checkItem [.ref a, .int (zi p1)] S im (fun im1 => zCI g yX3_countOf M_X3_countOf [.ref (an + 30), .int (zi (-1)), .int (zi p1)] S im1 (fun r3 im4 => Q r3 im4)) X) :
    zCIx g yX7_keptOrders M_X7_keptOrders [.ref a, .int (zi p1)] S im Q X := by
  refine zC_of (by decide) rfl rfl rfl rfl (Nat.le_of_ble_eq_true rfl) ?_
  refine p_aload_n dX7_keptOrders_0 rfl (q := 0) rfl ?_
  refine p_iload_n dX7_keptOrders_1 rfl (q := 1) rfl ?_
  refine p_VVx G rfl k_RX7_83 (by decide) hS.1 rfl rfl (Nat.le_of_ble_eq_true rfl) ⟨by decide, by decide⟩ ⟨by decide, by decide⟩ dX7_keptOrders_2 h (fun im1 h => ?_)
  refine p_aload_n dX7_keptOrders_5 rfl (q := 0) rfl ?_
  refine p_getR G f_RX7_12 rfl hS.1 hS.2.1 dX7_keptOrders_6 ?_
  refine p_getR (b := (an + 30)) G f_RX7_164 rfl (hS.2.2.2.2.2.1 0 (by decide)).1 ((hS.2.2.2.2.2.1 0 (by decide)).2.2 7 (by decide)) dX7_keptOrders_9 ?_
  refine p_iconst dX7_keptOrders_12 ?_
  refine p_iload_n dX7_keptOrders_13 rfl (q := 1) rfl ?_
  refine p_VI G k_RX7_153 (by decide) (hS.2.2.2.2.2.1 30 (by decide)).1 rfl rfl (Nat.le_of_ble_eq_true rfl) ⟨by decide, by decide⟩ ⟨by decide, by decide⟩ dX7_keptOrders_14 h (fun r3 im4 c5 h => ?_)
  exact p_iretI (by decide) (by decide) rfl (nf_r c5) dX7_keptOrders_17 h
set_option maxRecDepth 20000 in
set_option maxHeartbeats 4000000 in
theorem v_X7_dueIn {g : zG} (G : zOK g) {S : zSh} {im : zIm} {a an as av at_ : Nat} {p1 : Int} {p2 : Int} {Q : Int → zIm → Prop} {X : String → zSh → zIm → Prop} (hS : zDep S a an as av at_) (c_p1 : zc p1) (c_p2 : zc p2)
    (h : zCVx g yX7_checkBase M_X7_checkBase [.ref a, .int (zi p1)] S im (fun im1 => zCVx g yX7_checkItem M_X7_checkItem [.ref a, .int (zi p2)] S im1 (fun im3 => zCI g yX2_expected M_X2_expected [.ref an, .int (zi p1), .int (zi p2)] S im3 (fun r5 im6 => Q r5 im6)) X) X) :
    zCIx g yX7_dueIn M_X7_dueIn [.ref a, .int (zi p1), .int (zi p2)] S im Q X := by
  refine zC_of (by decide) rfl rfl rfl rfl (Nat.le_of_ble_eq_true rfl) ?_
  refine p_aload_n dX7_dueIn_0 rfl (q := 0) rfl ?_
  refine p_iload_n dX7_dueIn_1 rfl (q := 1) rfl ?_
  refine p_VVx G rfl k_RX7_64 (by decide) hS.1 rfl rfl (Nat.le_of_ble_eq_true rfl) ⟨by decide, by decide⟩ ⟨by decide, by decide⟩ dX7_dueIn_2 h (fun im1 h => ?_)
  refine p_aload_n dX7_dueIn_5 rfl (q := 0) rfl ?_
  refine p_iload_n dX7_dueIn_6 rfl (q := 2) rfl ?_
  refine p_VVx G rfl k_RX7_83 (by decide) hS.1 rfl rfl (Nat.le_of_ble_eq_true rfl) ⟨by decide, by decide⟩ ⟨by decide, by decide⟩ dX7_dueIn_7 h (fun im3 h => ?_)
  refine p_aload_n dX7_dueIn_10 rfl (q := 0) rfl ?_
  refine p_getR G f_RX7_12 rfl hS.1 hS.2.1 dX7_dueIn_11 ?_
  refine p_iload_n dX7_dueIn_14 rfl (q := 1) rfl ?_
  refine p_iload_n dX7_dueIn_15 rfl (q := 2) rfl ?_
  refine p_VI G k_RX7_167 (by decide) (hS.2.2.2.2.2.1 0 (by decide)).1 rfl rfl (Nat.le_of_ble_eq_true rfl) ⟨by decide, by decide⟩ ⟨by decide, by decide⟩ dX7_dueIn_16 h (fun r5 im6 c7 h => ?_)
  exact p_iretI (by decide) (by decide) rfl (nf_r c7) dX7_dueIn_19 h
set_option maxRecDepth 20000 in
set_option maxHeartbeats 4000000 in
theorem v_X7_position {g : zG} (G : zOK g) {S : zSh} {im : zIm} {a an as av at_ : Nat} {p1 : Int} {p2 : Int} {Q : Int → zIm → Prop} {X : String → zSh → zIm → Prop} (hS : zDep S a an as av at_) (c_p1 : zc p1) (c_p2 : zc p2)
    (h : zCVx g yX7_checkBase M_X7_checkBase [.ref a, .int (zi p1)] S im (fun im1 => zCVx g yX7_checkItem M_X7_checkItem [.ref a, .int (zi p2)] S im1 (fun im3 => zCI g yX7_cell M_X7_cell [.int (zi p1), .int (zi p2)] S im3 (fun r5 im6 => ((0 ≤ r5 ∧ r5 < 32) ∧ zCI g yX2_expected M_X2_expected [.ref an, .int (zi p1), .int (zi p2)] S im6 (fun r10 im11 => zCI g yX3_countOf M_X3_countOf [.ref (an + 35), .int (zi p1), .int (zi p2)] S im11 (fun r13 im14 => Q (zw (((im6 (an + 2) r5) + r10) - r13)) im14))))) X) X) :
    zCIx g yX7_position M_X7_position [.ref a, .int (zi p1), .int (zi p2)] S im Q X := by
  refine zC_of (by decide) rfl rfl rfl rfl (Nat.le_of_ble_eq_true rfl) ?_
  refine p_aload_n dX7_position_0 rfl (q := 0) rfl ?_
  refine p_iload_n dX7_position_1 rfl (q := 1) rfl ?_
  refine p_VVx G rfl k_RX7_64 (by decide) hS.1 rfl rfl (Nat.le_of_ble_eq_true rfl) ⟨by decide, by decide⟩ ⟨by decide, by decide⟩ dX7_position_2 h (fun im1 h => ?_)
  refine p_aload_n dX7_position_5 rfl (q := 0) rfl ?_
  refine p_iload_n dX7_position_6 rfl (q := 2) rfl ?_
  refine p_VVx G rfl k_RX7_83 (by decide) hS.1 rfl rfl (Nat.le_of_ble_eq_true rfl) ⟨by decide, by decide⟩ ⟨by decide, by decide⟩ dX7_position_7 h (fun im3 h => ?_)
  refine p_aload_n dX7_position_10 rfl (q := 0) rfl ?_
  refine p_getR G f_RX7_12 rfl hS.1 hS.2.1 dX7_position_11 ?_
  refine p_getR (b := (an + 2)) G f_RX7_93 rfl (hS.2.2.2.2.2.1 0 (by decide)).1 ((hS.2.2.2.2.2.1 0 (by decide)).2.2 2 (by decide)) dX7_position_14 ?_
  refine p_iload_n dX7_position_17 rfl (q := 1) rfl ?_
  refine p_iload_n dX7_position_18 rfl (q := 2) rfl ?_
  refine p_SI G k_RX7_86 rfl rfl (Nat.le_of_ble_eq_true rfl) ⟨by decide, by decide⟩ ⟨by decide, by decide⟩ dX7_position_19 h (fun r5 im6 c7 h => ?_)
  have g9 := h.1
  have h := h.2
  refine p_iald G (hS.2.2.2.2.2.1 2 (by decide)).1 (nf_r c7) g9.1 (zln_lt (hS.2.2.2.2.2.1 2 (by decide)).2.1 g9.2) dX7_position_22 (fun c8 => ?_)
  refine p_aload_n dX7_position_23 rfl (q := 0) rfl ?_
  refine p_getR G f_RX7_12 rfl hS.1 hS.2.1 dX7_position_24 ?_
  refine p_iload_n dX7_position_27 rfl (q := 1) rfl ?_
  refine p_iload_n dX7_position_28 rfl (q := 2) rfl ?_
  refine p_VI G k_RX7_167 (by decide) (hS.2.2.2.2.2.1 0 (by decide)).1 rfl rfl (Nat.le_of_ble_eq_true rfl) ⟨by decide, by decide⟩ ⟨by decide, by decide⟩ dX7_position_29 h (fun r10 im11 c12 h => ?_)
  refine p_iadd dX7_position_32 ?_
  refine p_aload_n dX7_position_33 rfl (q := 0) rfl ?_
  refine p_getR G f_RX7_12 rfl hS.1 hS.2.1 dX7_position_34 ?_
  refine p_getR (b := (an + 35)) G f_RX7_149 rfl (hS.2.2.2.2.2.1 0 (by decide)).1 ((hS.2.2.2.2.2.1 0 (by decide)).2.2 8 (by decide)) dX7_position_37 ?_
  refine p_iload_n dX7_position_40 rfl (q := 1) rfl ?_
  refine p_iload_n dX7_position_41 rfl (q := 2) rfl ?_
  refine p_VI G k_RX7_153 (by decide) (hS.2.2.2.2.2.1 35 (by decide)).1 rfl rfl (Nat.le_of_ble_eq_true rfl) ⟨by decide, by decide⟩ ⟨by decide, by decide⟩ dX7_position_42 h (fun r13 im14 c15 h => ?_)
  refine p_isub dX7_position_45 ?_
  exact p_iretI (by decide) (by decide) rfl (nf_w _) dX7_position_46 h
set_option maxRecDepth 20000 in
set_option maxHeartbeats 4000000 in
theorem v_X7_underWay {g : zG} (G : zOK g) {S : zSh} {im : zIm} {a an as av at_ : Nat} {p1 : Int} {p2 : Int} {Q : Int → zIm → Prop} {X : String → zSh → zIm → Prop} (hS : zDep S a an as av at_) (c_p1 : zc p1) (c_p2 : zc p2)
    (h : zCVx g yX7_checkItem M_X7_checkItem [.ref a, .int (zi p1)] S im (fun im1 => zCVx g yX7_checkRange M_X7_checkRange [.int (zi p2), .int (zi 0), .int (zi 4)] S im1 (fun im3 => zCI g yX2_countKind M_X2_countKind [.ref an, .int (zi p1), .int (zi p2)] S im3 (fun r5 im6 => Q r5 im6)) X) X) :
    zCIx g yX7_underWay M_X7_underWay [.ref a, .int (zi p1), .int (zi p2)] S im Q X := by
  refine zC_of (by decide) rfl rfl rfl rfl (Nat.le_of_ble_eq_true rfl) ?_
  refine p_aload_n dX7_underWay_0 rfl (q := 0) rfl ?_
  refine p_iload_n dX7_underWay_1 rfl (q := 1) rfl ?_
  refine p_VVx G rfl k_RX7_83 (by decide) hS.1 rfl rfl (Nat.le_of_ble_eq_true rfl) ⟨by decide, by decide⟩ ⟨by decide, by decide⟩ dX7_underWay_2 h (fun im1 h => ?_)
  refine p_iload_n dX7_underWay_5 rfl (q := 2) rfl ?_
  refine p_iconst dX7_underWay_6 ?_
  refine p_iconst dX7_underWay_7 ?_
  refine p_SVx G rfl k_RX7_30 rfl rfl (Nat.le_of_ble_eq_true rfl) ⟨by decide, by decide⟩ ⟨by decide, by decide⟩ dX7_underWay_8 h (fun im3 h => ?_)
  refine p_aload_n dX7_underWay_11 rfl (q := 0) rfl ?_
  refine p_getR G f_RX7_12 rfl hS.1 hS.2.1 dX7_underWay_12 ?_
  refine p_iload_n dX7_underWay_15 rfl (q := 1) rfl ?_
  refine p_iload_n dX7_underWay_16 rfl (q := 2) rfl ?_
  refine p_VI G k_RX7_170 (by decide) (hS.2.2.2.2.2.1 0 (by decide)).1 rfl rfl (Nat.le_of_ble_eq_true rfl) ⟨by decide, by decide⟩ ⟨by decide, by decide⟩ dX7_underWay_17 h (fun r5 im6 c7 h => ?_)
  exact p_iretI (by decide) (by decide) rfl (nf_r c7) dX7_underWay_20 h
set_option maxRecDepth 20000 in
set_option maxHeartbeats 4000000 in
theorem v_X7_fleet {g : zG} (G : zOK g) {S : zSh} {im : zIm} {a an as av at_ : Nat} {p1 : Int} {Q : Int → zIm → Prop} {X : String → zSh → zIm → Prop} (hS : zDep S a an as av at_) (c_p1 : zc p1)
    (h : zCVx g yX7_checkItem M_X7_checkItem [.ref a, .int (zi p1)] S im (fun im1 => zPIx g M_X7_fleet 1 6 9 [(0, .ref a), (1, .int (zi p1)), (2, .int (zi 0)), (3, .int (zi 0))] S im1 Q X) X) :
    zCIx g yX7_fleet M_X7_fleet [.ref a, .int (zi p1)] S im Q X := by
  refine zC_of (by decide) rfl rfl rfl rfl (Nat.le_of_ble_eq_true rfl) ?_
  refine p_aload_n dX7_fleet_0 rfl (q := 0) rfl ?_
  refine p_iload_n dX7_fleet_1 rfl (q := 1) rfl ?_
  refine p_VVx G rfl k_RX7_83 (by decide) hS.1 rfl rfl (Nat.le_of_ble_eq_true rfl) ⟨by decide, by decide⟩ ⟨by decide, by decide⟩ dX7_fleet_2 h (fun im1 h => ?_)
  refine p_iconst dX7_fleet_5 ?_
  refine p_istore_n (lv' := [(2, .int (zi 0)), (0, .ref a), (1, .int (zi p1))]) dX7_fleet_6 rfl (by decide) rfl ?_
  refine p_iconst dX7_fleet_7 ?_
  refine p_istore_n (lv' := [(3, .int (zi 0)), (2, .int (zi 0)), (0, .ref a), (1, .int (zi p1))]) dX7_fleet_8 rfl (by decide) rfl ?_
  refine p_sub (lv' := [(0, .ref a), (1, .int (zi p1)), (2, .int (zi 0)), (3, .int (zi 0))]) [2, 3, 1, 0] rfl ?_
  exact h
set_option maxRecDepth 20000 in
set_option maxHeartbeats 4000000 in
theorem v_X7_fleet_9 {g : zG} (G : zOK g) {S : zSh} {im : zIm} {a an as av at_ : Nat} {x1 : Int} {x2 : Int} {x3 : Int} {Q : Int → zIm → Prop} {X : String → zSh → zIm → Prop} (hS : zDep S a an as av at_) (c_x1 : zc x1) (c_x2 : zc x2) (c_x3 : zc x3)
    (h : (((im (an + 3) 1) ≤ x3 → zPIx g M_X7_fleet 1 6 47 [(0, .ref a), (1, .int (zi x1)), (2, .int (zi x2)), (3, .int (zi 0))] S im Q X) ∧ (x3 < (im (an + 3) 1) → zCI g yX7_cell M_X7_cell [.int (zi x3), .int (zi x1)] S im (fun r2 im3 => ((0 ≤ r2 ∧ r2 < 32) ∧ zPIx g M_X7_fleet 1 6 9 [(0, .ref a), (1, .int (zi x1)), (2, .int (zi (zw (x2 + (im3 (an + 2) r2))))), (3, .int (zi (zw (x3 + 1))))] S im3 Q X))))) :
    zPIx g M_X7_fleet 1 6 9 [(0, .ref a), (1, .int (zi x1)), (2, .int (zi x2)), (3, .int (zi x3))] S im Q X := by
  refine p_iload_n dX7_fleet_9 rfl (q := 3) rfl ?_
  refine p_aload_n dX7_fleet_10 rfl (q := 0) rfl ?_
  refine p_getR G f_RX7_12 rfl hS.1 hS.2.1 dX7_fleet_11 ?_
  refine p_getR (b := (an + 3)) G f_RX7_34 rfl (hS.2.2.2.2.2.1 0 (by decide)).1 ((hS.2.2.2.2.2.1 0 (by decide)).2.2 3 (by decide)) dX7_fleet_14 ?_
  refine p_getI (j := 1) G f_RX7_55 rfl (hS.2.2.2.2.2.1 3 (by decide)).1 dX7_fleet_17 (fun c1 => ?_)
  refine p_icmp_ge (tgt := 45) dX7_fleet_20 (by decide) (nf_r c_x3) (nf_r c1) (fun b2 => ?_) (fun b2 => ?_)
  · have h := h.1 b2
    refine p_iconst dX7_fleet_45 ?_
    refine p_istore_n (lv' := [(3, .int (zi 0)), (0, .ref a), (1, .int (zi x1)), (2, .int (zi x2))]) dX7_fleet_46 rfl (by decide) rfl ?_
    refine p_sub (lv' := [(0, .ref a), (1, .int (zi x1)), (2, .int (zi x2)), (3, .int (zi 0))]) [1, 2, 3, 0] rfl ?_
    exact h
  · have h := h.2 b2
    refine p_iload_n dX7_fleet_23 rfl (q := 2) rfl ?_
    refine p_aload_n dX7_fleet_24 rfl (q := 0) rfl ?_
    refine p_getR G f_RX7_12 rfl hS.1 hS.2.1 dX7_fleet_25 ?_
    refine p_getR (b := (an + 2)) G f_RX7_93 rfl (hS.2.2.2.2.2.1 0 (by decide)).1 ((hS.2.2.2.2.2.1 0 (by decide)).2.2 2 (by decide)) dX7_fleet_28 ?_
    refine p_iload_n dX7_fleet_31 rfl (q := 3) rfl ?_
    refine p_iload_n dX7_fleet_32 rfl (q := 1) rfl ?_
    refine p_SI G k_RX7_86 rfl rfl (Nat.le_of_ble_eq_true rfl) ⟨by decide, by decide⟩ ⟨by decide, by decide⟩ dX7_fleet_33 h (fun r2 im3 c4 h => ?_)
    have g6 := h.1
    have h := h.2
    refine p_iald G (hS.2.2.2.2.2.1 2 (by decide)).1 (nf_r c4) g6.1 (zln_lt (hS.2.2.2.2.2.1 2 (by decide)).2.1 g6.2) dX7_fleet_36 (fun c5 => ?_)
    refine p_iadd dX7_fleet_37 ?_
    refine p_istore_n (lv' := [(2, .int (zi (x2 + (im3 (an + 2) r2)))), (0, .ref a), (1, .int (zi x1)), (3, .int (zi x3))]) dX7_fleet_38 rfl (by decide) rfl ?_
    refine p_iinc (q := 3) (lv' := [(3, .int (zi (x3 + 1))), (2, .int (zi (x2 + (im3 (an + 2) r2)))), (0, .ref a), (1, .int (zi x1))]) dX7_fleet_39 rfl (by decide) rfl ?_
    refine p_goto (tgt := 9) dX7_fleet_42 (by decide) ?_
    refine p_sub (lv' := [(0, .ref a), (1, .int (zi x1)), (2, .int (zi (zw (x2 + (im3 (an + 2) r2))))), (3, .int (zi (zw (x3 + 1))))]) [2, 3, 1, 0] (by simp only [zi_zw, zl_zwl]; rfl) ?_
    exact h
set_option maxRecDepth 20000 in
set_option maxHeartbeats 4000000 in
theorem v_X7_fleet_47 {g : zG} (G : zOK g) {S : zSh} {im : zIm} {a an as av at_ : Nat} {x1 : Int} {x2 : Int} {x3 : Int} {Q : Int → zIm → Prop} {X : String → zSh → zIm → Prop} (hS : zDep S a an as av at_) (c_x1 : zc x1) (c_x2 : zc x2) (c_x3 : zc x3)
    (h : ((4 < x3 → zCI g yX3_countOf M_X3_countOf [.ref (an + 35), .int (zi (-1)), .int (zi x1)] S im (fun r1 im2 => Q (zw (x2 - r1)) im2)) ∧ (x3 ≤ 4 → zCI g yX2_countKind M_X2_countKind [.ref an, .int (zi x1), .int (zi x3)] S im (fun r1 im2 => zPIx g M_X7_fleet 1 6 47 [(0, .ref a), (1, .int (zi x1)), (2, .int (zi (zw (x2 + r1)))), (3, .int (zi (zw (x3 + 1))))] S im2 Q X)))) :
    zPIx g M_X7_fleet 1 6 47 [(0, .ref a), (1, .int (zi x1)), (2, .int (zi x2)), (3, .int (zi x3))] S im Q X := by
  refine p_iload_n dX7_fleet_47 rfl (q := 3) rfl ?_
  refine p_iconst dX7_fleet_48 ?_
  refine p_icmp_gt (tgt := 70) dX7_fleet_49 (by decide) (nf_r c_x3) (nf_k (by decide)) (fun b1 => ?_) (fun b1 => ?_)
  · have h := h.1 b1
    refine p_iload_n dX7_fleet_70 rfl (q := 2) rfl ?_
    refine p_aload_n dX7_fleet_71 rfl (q := 0) rfl ?_
    refine p_getR G f_RX7_12 rfl hS.1 hS.2.1 dX7_fleet_72 ?_
    refine p_getR (b := (an + 35)) G f_RX7_149 rfl (hS.2.2.2.2.2.1 0 (by decide)).1 ((hS.2.2.2.2.2.1 0 (by decide)).2.2 8 (by decide)) dX7_fleet_75 ?_
    refine p_iconst dX7_fleet_78 ?_
    refine p_iload_n dX7_fleet_79 rfl (q := 1) rfl ?_
    refine p_VI G k_RX7_153 (by decide) (hS.2.2.2.2.2.1 35 (by decide)).1 rfl rfl (Nat.le_of_ble_eq_true rfl) ⟨by decide, by decide⟩ ⟨by decide, by decide⟩ dX7_fleet_80 h (fun r1 im2 c3 h => ?_)
    refine p_isub dX7_fleet_83 ?_
    exact p_iretI (by decide) (by decide) rfl (nf_w _) dX7_fleet_84 h
  · have h := h.2 b1
    refine p_iload_n dX7_fleet_52 rfl (q := 2) rfl ?_
    refine p_aload_n dX7_fleet_53 rfl (q := 0) rfl ?_
    refine p_getR G f_RX7_12 rfl hS.1 hS.2.1 dX7_fleet_54 ?_
    refine p_iload_n dX7_fleet_57 rfl (q := 1) rfl ?_
    refine p_iload_n dX7_fleet_58 rfl (q := 3) rfl ?_
    refine p_VI G k_RX7_170 (by decide) (hS.2.2.2.2.2.1 0 (by decide)).1 rfl rfl (Nat.le_of_ble_eq_true rfl) ⟨by decide, by decide⟩ ⟨by decide, by decide⟩ dX7_fleet_59 h (fun r1 im2 c3 h => ?_)
    refine p_iadd dX7_fleet_62 ?_
    refine p_istore_n (lv' := [(2, .int (zi (x2 + r1))), (0, .ref a), (1, .int (zi x1)), (3, .int (zi x3))]) dX7_fleet_63 rfl (by decide) rfl ?_
    refine p_iinc (q := 3) (lv' := [(3, .int (zi (x3 + 1))), (2, .int (zi (x2 + r1))), (0, .ref a), (1, .int (zi x1))]) dX7_fleet_64 rfl (by decide) rfl ?_
    refine p_goto (tgt := 47) dX7_fleet_67 (by decide) ?_
    refine p_sub (lv' := [(0, .ref a), (1, .int (zi x1)), (2, .int (zi (zw (x2 + r1)))), (3, .int (zi (zw (x3 + 1))))]) [2, 3, 1, 0] (by simp only [zi_zw, zl_zwl]; rfl) ?_
    exact h
set_option maxRecDepth 20000 in
set_option maxHeartbeats 4000000 in
theorem v_X7_nextArrival {g : zG} (G : zOK g) {S : zSh} {im : zIm} {a an as av at_ : Nat} {p1 : Int} {p2 : Int} {Q : Int → zIm → Prop} {X : String → zSh → zIm → Prop} (hS : zDep S a an as av at_) (c_p1 : zc p1) (c_p2 : zc p2)
    (h : zCVx g yX7_checkBase M_X7_checkBase [.ref a, .int (zi p1)] S im (fun im1 => zCVx g yX7_checkItem M_X7_checkItem [.ref a, .int (zi p2)] S im1 (fun im3 => zCI g yX6_firstArrival M_X6_firstArrival [.ref (an + 18), .int (zi p1), .int (zi p2)] S im3 (fun r5 im6 => ((¬ r5 = (-1) → ((0 ≤ r5 ∧ r5 < 300) ∧ Q (zw ((im6 (an + 19) r5) - (im6 an 0))) im6)) ∧ (r5 = (-1) → Q (-1) im6)))) X) X) :
    zCIx g yX7_nextArrival M_X7_nextArrival [.ref a, .int (zi p1), .int (zi p2)] S im Q X := by
  refine zC_of (by decide) rfl rfl rfl rfl (Nat.le_of_ble_eq_true rfl) ?_
  refine p_aload_n dX7_nextArrival_0 rfl (q := 0) rfl ?_
  refine p_iload_n dX7_nextArrival_1 rfl (q := 1) rfl ?_
  refine p_VVx G rfl k_RX7_64 (by decide) hS.1 rfl rfl (Nat.le_of_ble_eq_true rfl) ⟨by decide, by decide⟩ ⟨by decide, by decide⟩ dX7_nextArrival_2 h (fun im1 h => ?_)
  refine p_aload_n dX7_nextArrival_5 rfl (q := 0) rfl ?_
  refine p_iload_n dX7_nextArrival_6 rfl (q := 2) rfl ?_
  refine p_VVx G rfl k_RX7_83 (by decide) hS.1 rfl rfl (Nat.le_of_ble_eq_true rfl) ⟨by decide, by decide⟩ ⟨by decide, by decide⟩ dX7_nextArrival_7 h (fun im3 h => ?_)
  refine p_aload_n dX7_nextArrival_10 rfl (q := 0) rfl ?_
  refine p_getR G f_RX7_12 rfl hS.1 hS.2.1 dX7_nextArrival_11 ?_
  refine p_getR (b := (an + 18)) G f_RX7_173 rfl (hS.2.2.2.2.2.1 0 (by decide)).1 ((hS.2.2.2.2.2.1 0 (by decide)).2.2 5 (by decide)) dX7_nextArrival_14 ?_
  refine p_iload_n dX7_nextArrival_17 rfl (q := 1) rfl ?_
  refine p_iload_n dX7_nextArrival_18 rfl (q := 2) rfl ?_
  refine p_VI G k_RX7_177 (by decide) (hS.2.2.2.2.2.1 18 (by decide)).1 rfl rfl (Nat.le_of_ble_eq_true rfl) ⟨by decide, by decide⟩ ⟨by decide, by decide⟩ dX7_nextArrival_19 h (fun r5 im6 c7 h => ?_)
  refine p_istore_n (lv' := [(3, .int (zi r5)), (0, .ref a), (1, .int (zi p1)), (2, .int (zi p2))]) dX7_nextArrival_22 rfl (by decide) rfl ?_
  refine p_iload_n dX7_nextArrival_23 rfl (q := 0) rfl ?_
  refine p_iconst dX7_nextArrival_24 ?_
  refine p_icmp_ne (tgt := 32) dX7_nextArrival_25 (by decide) (nf_r c7) (nf_k (by decide)) (fun b8 => ?_) (fun b8 => ?_)
  · have h := h.1 b8
    refine p_aload_n dX7_nextArrival_32 rfl (q := 1) rfl ?_
    refine p_getR G f_RX7_12 rfl hS.1 hS.2.1 dX7_nextArrival_33 ?_
    refine p_getR (b := (an + 18)) G f_RX7_173 rfl (hS.2.2.2.2.2.1 0 (by decide)).1 ((hS.2.2.2.2.2.1 0 (by decide)).2.2 5 (by decide)) dX7_nextArrival_36 ?_
    refine p_getR (b := (an + 19)) G f_RX7_182 rfl (hS.2.2.2.2.2.1 18 (by decide)).1 ((hS.2.2.2.2.2.1 18 (by decide)).2.2 1 (by decide)) dX7_nextArrival_39 ?_
    refine p_iload_n dX7_nextArrival_42 rfl (q := 0) rfl ?_
    have g9 := h.1
    have h := h.2
    refine p_iald G (hS.2.2.2.2.2.1 19 (by decide)).1 (nf_r c7) g9.1 (zln_lt (hS.2.2.2.2.2.1 19 (by decide)).2.1 g9.2) dX7_nextArrival_43 (fun c8 => ?_)
    refine p_aload_n dX7_nextArrival_44 rfl (q := 1) rfl ?_
    refine p_getR G f_RX7_12 rfl hS.1 hS.2.1 dX7_nextArrival_45 ?_
    refine p_getI (j := 0) G f_RX7_133 rfl (hS.2.2.2.2.2.1 0 (by decide)).1 dX7_nextArrival_48 (fun c10 => ?_)
    refine p_isub dX7_nextArrival_51 ?_
    exact p_iretI (by decide) (by decide) rfl (nf_w _) dX7_nextArrival_52 h
  · have h := h.2 b8
    refine p_iconst dX7_nextArrival_28 ?_
    refine p_goto (tgt := 52) dX7_nextArrival_29 (by decide) ?_
    exact p_iretI (by decide) (by decide) rfl (nf_k (by decide)) dX7_nextArrival_52 h
set_option maxRecDepth 20000 in
set_option maxHeartbeats 4000000 in
theorem v_X7_checkUnit {g : zG} (G : zOK g) {S : zSh} {im : zIm} {a an as av at_ : Nat} {p1 : Int} {Q : zIm → Prop} {X : String → zSh → zIm → Prop} (hS : zDep S a an as av at_) (c_p1 : zc p1)
    (h : ((p1 < 0 → X "java/lang/IndexOutOfBoundsException" (zpush S 14 0) im) ∧ (0 ≤ p1 → ((p1 < (im (an + 18) 0) → Q im) ∧ ((im (an + 18) 0) ≤ p1 → X "java/lang/IndexOutOfBoundsException" (zpush S 14 0) im))))) :
    zCVx g yX7_checkUnit M_X7_checkUnit [.ref a, .int (zi p1)] S im Q X := by
  refine zC_of (by decide) rfl rfl rfl rfl (Nat.le_of_ble_eq_true rfl) ?_
  refine p_iload_n dX7_checkUnit_0 rfl (q := 1) rfl ?_
  refine p_if_lt (tgt := 18) dX7_checkUnit_1 (by decide) (nf_r c_p1) (fun b1 => ?_) (fun b1 => ?_)
  · have h := h.1 b1
    exact p_throwSW G tw_IOB q_4_226 rfl (by decide) (Nat.le_of_ble_eq_true rfl) (by decide) (by decide) dX7_checkUnit_18 dX7_checkUnit_21 dX7_checkUnit_22 dX7_checkUnit_25 dX7_checkUnit_28 h
  · have h := h.2 b1
    refine p_iload_n dX7_checkUnit_4 rfl (q := 1) rfl ?_
    refine p_aload_n dX7_checkUnit_5 rfl (q := 0) rfl ?_
    refine p_getR G f_RX7_12 rfl hS.1 hS.2.1 dX7_checkUnit_6 ?_
    refine p_getR (b := (an + 18)) G f_RX7_173 rfl (hS.2.2.2.2.2.1 0 (by decide)).1 ((hS.2.2.2.2.2.1 0 (by decide)).2.2 5 (by decide)) dX7_checkUnit_9 ?_
    refine p_getI (j := 0) G f_RX7_184 rfl (hS.2.2.2.2.2.1 18 (by decide)).1 dX7_checkUnit_12 (fun c1 => ?_)
    refine p_icmp_lt (tgt := 29) dX7_checkUnit_15 (by decide) (nf_r c_p1) (nf_r c1) (fun b2 => ?_) (fun b2 => ?_)
    · have h := h.1 b2
      exact p_retV (by decide) (by decide) rfl dX7_checkUnit_29 h
    · have h := h.2 b2
      exact p_throwSW G tw_IOB q_4_226 rfl (by decide) (Nat.le_of_ble_eq_true rfl) (by decide) (by decide) dX7_checkUnit_18 dX7_checkUnit_21 dX7_checkUnit_22 dX7_checkUnit_25 dX7_checkUnit_28 h
set_option maxRecDepth 20000 in
set_option maxHeartbeats 4000000 in
theorem v_X7_dueDay {g : zG} (G : zOK g) {S : zSh} {im : zIm} {a an as av at_ : Nat} {p1 : Int} {Q : Int → zIm → Prop} {X : String → zSh → zIm → Prop} (hS : zDep S a an as av at_) (c_p1 : zc p1)
    (h : zCVx g yX7_checkUnit M_X7_checkUnit [.ref a, .int (zi p1)] S im (fun im1 => ((0 ≤ p1 ∧ p1 < 300) ∧ Q (im1 (an + 19) p1) im1)) X) :
    zCIx g yX7_dueDay M_X7_dueDay [.ref a, .int (zi p1)] S im Q X := by
  refine zC_of (by decide) rfl rfl rfl rfl (Nat.le_of_ble_eq_true rfl) ?_
  refine p_aload_n dX7_dueDay_0 rfl (q := 0) rfl ?_
  refine p_iload_n dX7_dueDay_1 rfl (q := 1) rfl ?_
  refine p_VVx G rfl k_RX7_187 (by decide) hS.1 rfl rfl (Nat.le_of_ble_eq_true rfl) ⟨by decide, by decide⟩ ⟨by decide, by decide⟩ dX7_dueDay_2 h (fun im1 h => ?_)
  refine p_aload_n dX7_dueDay_5 rfl (q := 0) rfl ?_
  refine p_getR G f_RX7_12 rfl hS.1 hS.2.1 dX7_dueDay_6 ?_
  refine p_getR (b := (an + 18)) G f_RX7_173 rfl (hS.2.2.2.2.2.1 0 (by decide)).1 ((hS.2.2.2.2.2.1 0 (by decide)).2.2 5 (by decide)) dX7_dueDay_9 ?_
  refine p_getR (b := (an + 19)) G f_RX7_182 rfl (hS.2.2.2.2.2.1 18 (by decide)).1 ((hS.2.2.2.2.2.1 18 (by decide)).2.2 1 (by decide)) dX7_dueDay_12 ?_
  refine p_iload_n dX7_dueDay_15 rfl (q := 1) rfl ?_
  have g4 := h.1
  have h := h.2
  refine p_iald G (hS.2.2.2.2.2.1 19 (by decide)).1 (nf_r c_p1) g4.1 (zln_lt (hS.2.2.2.2.2.1 19 (by decide)).2.1 g4.2) dX7_dueDay_16 (fun c3 => ?_)
  exact p_iretI (by decide) (by decide) rfl (nf_r c3) dX7_dueDay_17 h
set_option maxRecDepth 20000 in
set_option maxHeartbeats 4000000 in
theorem v_X7_dueKind {g : zG} (G : zOK g) {S : zSh} {im : zIm} {a an as av at_ : Nat} {p1 : Int} {Q : Int → zIm → Prop} {X : String → zSh → zIm → Prop} (hS : zDep S a an as av at_) (c_p1 : zc p1)
    (h : zCVx g yX7_checkUnit M_X7_checkUnit [.ref a, .int (zi p1)] S im (fun im1 => ((0 ≤ p1 ∧ p1 < 300) ∧ Q (im1 (an + 20) p1) im1)) X) :
    zCIx g yX7_dueKind M_X7_dueKind [.ref a, .int (zi p1)] S im Q X := by
  refine zC_of (by decide) rfl rfl rfl rfl (Nat.le_of_ble_eq_true rfl) ?_
  refine p_aload_n dX7_dueKind_0 rfl (q := 0) rfl ?_
  refine p_iload_n dX7_dueKind_1 rfl (q := 1) rfl ?_
  refine p_VVx G rfl k_RX7_187 (by decide) hS.1 rfl rfl (Nat.le_of_ble_eq_true rfl) ⟨by decide, by decide⟩ ⟨by decide, by decide⟩ dX7_dueKind_2 h (fun im1 h => ?_)
  refine p_aload_n dX7_dueKind_5 rfl (q := 0) rfl ?_
  refine p_getR G f_RX7_12 rfl hS.1 hS.2.1 dX7_dueKind_6 ?_
  refine p_getR (b := (an + 18)) G f_RX7_173 rfl (hS.2.2.2.2.2.1 0 (by decide)).1 ((hS.2.2.2.2.2.1 0 (by decide)).2.2 5 (by decide)) dX7_dueKind_9 ?_
  refine p_getR (b := (an + 20)) G f_RX7_190 rfl (hS.2.2.2.2.2.1 18 (by decide)).1 ((hS.2.2.2.2.2.1 18 (by decide)).2.2 2 (by decide)) dX7_dueKind_12 ?_
  refine p_iload_n dX7_dueKind_15 rfl (q := 1) rfl ?_
  have g4 := h.1
  have h := h.2
  refine p_iald G (hS.2.2.2.2.2.1 20 (by decide)).1 (nf_r c_p1) g4.1 (zln_lt (hS.2.2.2.2.2.1 20 (by decide)).2.1 g4.2) dX7_dueKind_16 (fun c3 => ?_)
  exact p_iretI (by decide) (by decide) rfl (nf_r c3) dX7_dueKind_17 h
set_option maxRecDepth 20000 in
set_option maxHeartbeats 4000000 in
theorem v_X7_dueItem {g : zG} (G : zOK g) {S : zSh} {im : zIm} {a an as av at_ : Nat} {p1 : Int} {Q : Int → zIm → Prop} {X : String → zSh → zIm → Prop} (hS : zDep S a an as av at_) (c_p1 : zc p1)
    (h : zCVx g yX7_checkUnit M_X7_checkUnit [.ref a, .int (zi p1)] S im (fun im1 => ((0 ≤ p1 ∧ p1 < 300) ∧ Q (im1 (an + 21) p1) im1)) X) :
    zCIx g yX7_dueItem M_X7_dueItem [.ref a, .int (zi p1)] S im Q X := by
  refine zC_of (by decide) rfl rfl rfl rfl (Nat.le_of_ble_eq_true rfl) ?_
  refine p_aload_n dX7_dueItem_0 rfl (q := 0) rfl ?_
  refine p_iload_n dX7_dueItem_1 rfl (q := 1) rfl ?_
  refine p_VVx G rfl k_RX7_187 (by decide) hS.1 rfl rfl (Nat.le_of_ble_eq_true rfl) ⟨by decide, by decide⟩ ⟨by decide, by decide⟩ dX7_dueItem_2 h (fun im1 h => ?_)
  refine p_aload_n dX7_dueItem_5 rfl (q := 0) rfl ?_
  refine p_getR G f_RX7_12 rfl hS.1 hS.2.1 dX7_dueItem_6 ?_
  refine p_getR (b := (an + 18)) G f_RX7_173 rfl (hS.2.2.2.2.2.1 0 (by decide)).1 ((hS.2.2.2.2.2.1 0 (by decide)).2.2 5 (by decide)) dX7_dueItem_9 ?_
  refine p_getR (b := (an + 21)) G f_RX7_193 rfl (hS.2.2.2.2.2.1 18 (by decide)).1 ((hS.2.2.2.2.2.1 18 (by decide)).2.2 3 (by decide)) dX7_dueItem_12 ?_
  refine p_iload_n dX7_dueItem_15 rfl (q := 1) rfl ?_
  have g4 := h.1
  have h := h.2
  refine p_iald G (hS.2.2.2.2.2.1 21 (by decide)).1 (nf_r c_p1) g4.1 (zln_lt (hS.2.2.2.2.2.1 21 (by decide)).2.1 g4.2) dX7_dueItem_16 (fun c3 => ?_)
  exact p_iretI (by decide) (by decide) rfl (nf_r c3) dX7_dueItem_17 h
set_option maxRecDepth 20000 in
set_option maxHeartbeats 4000000 in
theorem v_X7_dueSite {g : zG} (G : zOK g) {S : zSh} {im : zIm} {a an as av at_ : Nat} {p1 : Int} {Q : Int → zIm → Prop} {X : String → zSh → zIm → Prop} (hS : zDep S a an as av at_) (c_p1 : zc p1)
    (h : zCVx g yX7_checkUnit M_X7_checkUnit [.ref a, .int (zi p1)] S im (fun im1 => ((0 ≤ p1 ∧ p1 < 300) ∧ Q (im1 (an + 22) p1) im1)) X) :
    zCIx g yX7_dueSite M_X7_dueSite [.ref a, .int (zi p1)] S im Q X := by
  refine zC_of (by decide) rfl rfl rfl rfl (Nat.le_of_ble_eq_true rfl) ?_
  refine p_aload_n dX7_dueSite_0 rfl (q := 0) rfl ?_
  refine p_iload_n dX7_dueSite_1 rfl (q := 1) rfl ?_
  refine p_VVx G rfl k_RX7_187 (by decide) hS.1 rfl rfl (Nat.le_of_ble_eq_true rfl) ⟨by decide, by decide⟩ ⟨by decide, by decide⟩ dX7_dueSite_2 h (fun im1 h => ?_)
  refine p_aload_n dX7_dueSite_5 rfl (q := 0) rfl ?_
  refine p_getR G f_RX7_12 rfl hS.1 hS.2.1 dX7_dueSite_6 ?_
  refine p_getR (b := (an + 18)) G f_RX7_173 rfl (hS.2.2.2.2.2.1 0 (by decide)).1 ((hS.2.2.2.2.2.1 0 (by decide)).2.2 5 (by decide)) dX7_dueSite_9 ?_
  refine p_getR (b := (an + 22)) G f_RX7_196 rfl (hS.2.2.2.2.2.1 18 (by decide)).1 ((hS.2.2.2.2.2.1 18 (by decide)).2.2 4 (by decide)) dX7_dueSite_12 ?_
  refine p_iload_n dX7_dueSite_15 rfl (q := 1) rfl ?_
  have g4 := h.1
  have h := h.2
  refine p_iald G (hS.2.2.2.2.2.1 22 (by decide)).1 (nf_r c_p1) g4.1 (zln_lt (hS.2.2.2.2.2.1 22 (by decide)).2.1 g4.2) dX7_dueSite_16 (fun c3 => ?_)
  exact p_iretI (by decide) (by decide) rfl (nf_r c3) dX7_dueSite_17 h
set_option maxRecDepth 20000 in
set_option maxHeartbeats 4000000 in
theorem v_X7_dueOwner {g : zG} (G : zOK g) {S : zSh} {im : zIm} {a an as av at_ : Nat} {p1 : Int} {Q : Int → zIm → Prop} {X : String → zSh → zIm → Prop} (hS : zDep S a an as av at_) (c_p1 : zc p1)
    (h : zCVx g yX7_checkUnit M_X7_checkUnit [.ref a, .int (zi p1)] S im (fun im1 => ((0 ≤ p1 ∧ p1 < 300) ∧ Q (im1 (an + 23) p1) im1)) X) :
    zCIx g yX7_dueOwner M_X7_dueOwner [.ref a, .int (zi p1)] S im Q X := by
  refine zC_of (by decide) rfl rfl rfl rfl (Nat.le_of_ble_eq_true rfl) ?_
  refine p_aload_n dX7_dueOwner_0 rfl (q := 0) rfl ?_
  refine p_iload_n dX7_dueOwner_1 rfl (q := 1) rfl ?_
  refine p_VVx G rfl k_RX7_187 (by decide) hS.1 rfl rfl (Nat.le_of_ble_eq_true rfl) ⟨by decide, by decide⟩ ⟨by decide, by decide⟩ dX7_dueOwner_2 h (fun im1 h => ?_)
  refine p_aload_n dX7_dueOwner_5 rfl (q := 0) rfl ?_
  refine p_getR G f_RX7_12 rfl hS.1 hS.2.1 dX7_dueOwner_6 ?_
  refine p_getR (b := (an + 18)) G f_RX7_173 rfl (hS.2.2.2.2.2.1 0 (by decide)).1 ((hS.2.2.2.2.2.1 0 (by decide)).2.2 5 (by decide)) dX7_dueOwner_9 ?_
  refine p_getR (b := (an + 23)) G f_RX7_199 rfl (hS.2.2.2.2.2.1 18 (by decide)).1 ((hS.2.2.2.2.2.1 18 (by decide)).2.2 5 (by decide)) dX7_dueOwner_12 ?_
  refine p_iload_n dX7_dueOwner_15 rfl (q := 1) rfl ?_
  have g4 := h.1
  have h := h.2
  refine p_iald G (hS.2.2.2.2.2.1 23 (by decide)).1 (nf_r c_p1) g4.1 (zln_lt (hS.2.2.2.2.2.1 23 (by decide)).2.1 g4.2) dX7_dueOwner_16 (fun c3 => ?_)
  exact p_iretI (by decide) (by decide) rfl (nf_r c3) dX7_dueOwner_17 h
set_option maxRecDepth 20000 in
set_option maxHeartbeats 4000000 in
theorem v_X7_checkFigure {g : zG} (G : zOK g) {S : zSh} {im : zIm} {a an as av at_ : Nat} {p1 : Int} {p2 : Int} {Q : zIm → Prop} {X : String → zSh → zIm → Prop} (hS : zDep S a an as av at_) (c_p1 : zc p1) (c_p2 : zc p2)
    (h : ((p1 = (-1) → ((p2 = (-1) → Q im) ∧ (¬ p2 = (-1) → zCVx g yX7_checkItem M_X7_checkItem [.ref a, .int (zi p2)] S im (fun im1 => Q im1) X))) ∧ (¬ p1 = (-1) → zCVx g yX7_checkBase M_X7_checkBase [.ref a, .int (zi p1)] S im (fun im1 => ((p2 = (-1) → Q im1) ∧ (¬ p2 = (-1) → zCVx g yX7_checkItem M_X7_checkItem [.ref a, .int (zi p2)] S im1 (fun im3 => Q im3) X))) X))) :
    zCVx g yX7_checkFigure M_X7_checkFigure [.ref a, .int (zi p1), .int (zi p2)] S im Q X := by
  refine zC_of (by decide) rfl rfl rfl rfl (Nat.le_of_ble_eq_true rfl) ?_
  refine p_iload_n dX7_checkFigure_0 rfl (q := 1) rfl ?_
  refine p_iconst dX7_checkFigure_1 ?_
  refine p_icmp_eq (tgt := 10) dX7_checkFigure_2 (by decide) (nf_r c_p1) (nf_k (by decide)) (fun b1 => ?_) (fun b1 => ?_)
  · have h := h.1 b1
    refine p_iload_n dX7_checkFigure_10 rfl (q := 2) rfl ?_
    refine p_iconst dX7_checkFigure_11 ?_
    refine p_icmp_eq (tgt := 20) dX7_checkFigure_12 (by decide) (nf_r c_p2) (nf_k (by decide)) (fun b1 => ?_) (fun b1 => ?_)
    · have h := h.1 b1
      exact p_retV (by decide) (by decide) rfl dX7_checkFigure_20 h
    · have h := h.2 b1
      refine p_aload_n dX7_checkFigure_15 rfl (q := 0) rfl ?_
      refine p_iload_n dX7_checkFigure_16 rfl (q := 2) rfl ?_
      refine p_VVx G rfl k_RX7_83 (by decide) hS.1 rfl rfl (Nat.le_of_ble_eq_true rfl) ⟨by decide, by decide⟩ ⟨by decide, by decide⟩ dX7_checkFigure_17 h (fun im1 h => ?_)
      exact p_retV (by decide) (by decide) rfl dX7_checkFigure_20 h
  · have h := h.2 b1
    refine p_aload_n dX7_checkFigure_5 rfl (q := 0) rfl ?_
    refine p_iload_n dX7_checkFigure_6 rfl (q := 1) rfl ?_
    refine p_VVx G rfl k_RX7_64 (by decide) hS.1 rfl rfl (Nat.le_of_ble_eq_true rfl) ⟨by decide, by decide⟩ ⟨by decide, by decide⟩ dX7_checkFigure_7 h (fun im1 h => ?_)
    refine p_iload_n dX7_checkFigure_10 rfl (q := 2) rfl ?_
    refine p_iconst dX7_checkFigure_11 ?_
    refine p_icmp_eq (tgt := 20) dX7_checkFigure_12 (by decide) (nf_r c_p2) (nf_k (by decide)) (fun b3 => ?_) (fun b3 => ?_)
    · have h := h.1 b3
      exact p_retV (by decide) (by decide) rfl dX7_checkFigure_20 h
    · have h := h.2 b3
      refine p_aload_n dX7_checkFigure_15 rfl (q := 0) rfl ?_
      refine p_iload_n dX7_checkFigure_16 rfl (q := 2) rfl ?_
      refine p_VVx G rfl k_RX7_83 (by decide) hS.1 rfl rfl (Nat.le_of_ble_eq_true rfl) ⟨by decide, by decide⟩ ⟨by decide, by decide⟩ dX7_checkFigure_17 h (fun im3 h => ?_)
      exact p_retV (by decide) (by decide) rfl dX7_checkFigure_20 h
set_option maxRecDepth 20000 in
set_option maxHeartbeats 4000000 in
theorem v_X7_demands {g : zG} (G : zOK g) {S : zSh} {im : zIm} {a an as av at_ : Nat} {p1 : Int} {p2 : Int} {Q : Int → zIm → Prop} {X : String → zSh → zIm → Prop} (hS : zDep S a an as av at_) (c_p1 : zc p1) (c_p2 : zc p2)
    (h : zCVx g yX7_checkFigure M_X7_checkFigure [.ref a, .int (zi p1), .int (zi p2)] S im (fun im1 => zCI g yX2_total M_X2_total [.ref an, .ref (an + 13), .int (zi p1), .int (zi p2)] S im1 (fun r3 im4 => Q r3 im4)) X) :
    zCIx g yX7_demands M_X7_demands [.ref a, .int (zi p1), .int (zi p2)] S im Q X := by
  refine zC_of (by decide) rfl rfl rfl rfl (Nat.le_of_ble_eq_true rfl) ?_
  refine p_aload_n dX7_demands_0 rfl (q := 0) rfl ?_
  refine p_iload_n dX7_demands_1 rfl (q := 1) rfl ?_
  refine p_iload_n dX7_demands_2 rfl (q := 2) rfl ?_
  refine p_VVx G rfl k_RX7_202 (by decide) hS.1 rfl rfl (Nat.le_of_ble_eq_true rfl) ⟨by decide, by decide⟩ ⟨by decide, by decide⟩ dX7_demands_3 h (fun im1 h => ?_)
  refine p_aload_n dX7_demands_6 rfl (q := 0) rfl ?_
  refine p_getR G f_RX7_12 rfl hS.1 hS.2.1 dX7_demands_7 ?_
  refine p_aload_n dX7_demands_10 rfl (q := 0) rfl ?_
  refine p_getR G f_RX7_12 rfl hS.1 hS.2.1 dX7_demands_11 ?_
  refine p_getR (b := (an + 12)) G f_RX7_140 rfl (hS.2.2.2.2.2.1 0 (by decide)).1 ((hS.2.2.2.2.2.1 0 (by decide)).2.2 4 (by decide)) dX7_demands_14 ?_
  refine p_getR (b := (an + 13)) G f_RX7_206 rfl (hS.2.2.2.2.2.1 12 (by decide)).1 ((hS.2.2.2.2.2.1 12 (by decide)).2.2 1 (by decide)) dX7_demands_17 ?_
  refine p_iload_n dX7_demands_20 rfl (q := 1) rfl ?_
  refine p_iload_n dX7_demands_21 rfl (q := 2) rfl ?_
  refine p_VI G k_RX7_209 (by decide) (hS.2.2.2.2.2.1 0 (by decide)).1 rfl rfl (Nat.le_of_ble_eq_true rfl) ⟨by decide, by decide⟩ ⟨by decide, by decide⟩ dX7_demands_22 h (fun r3 im4 c5 h => ?_)
  exact p_iretI (by decide) (by decide) rfl (nf_r c5) dX7_demands_25 h
set_option maxRecDepth 20000 in
set_option maxHeartbeats 4000000 in
theorem v_X7_fillNumerator {g : zG} (G : zOK g) {S : zSh} {im : zIm} {a an as av at_ : Nat} {p1 : Int} {p2 : Int} {Q : Int → zIm → Prop} {X : String → zSh → zIm → Prop} (hS : zDep S a an as av at_) (c_p1 : zc p1) (c_p2 : zc p2)
    (h : zCVx g yX7_checkFigure M_X7_checkFigure [.ref a, .int (zi p1), .int (zi p2)] S im (fun im1 => zCI g yX2_total M_X2_total [.ref an, .ref (an + 14), .int (zi p1), .int (zi p2)] S im1 (fun r3 im4 => ((¬ r3 = 0 → zCI g yX2_total M_X2_total [.ref an, .ref (an + 13), .int (zi p1), .int (zi p2)] S im4 (fun r6 im7 => zCI g yX7_commonDivisor M_X7_commonDivisor [.int (zi r6), .int (zi r3)] S im7 (fun r9 im10 => (¬ r9 = 0) ∧ Q (zw (Int.tdiv r3 r9)) im10))) ∧ (r3 = 0 → Q 0 im4)))) X) :
    zCIx g yX7_fillNumerator M_X7_fillNumerator [.ref a, .int (zi p1), .int (zi p2)] S im Q X := by
  refine zC_of (by decide) rfl rfl rfl rfl (Nat.le_of_ble_eq_true rfl) ?_
  refine p_aload_n dX7_fillNumerator_0 rfl (q := 0) rfl ?_
  refine p_iload_n dX7_fillNumerator_1 rfl (q := 1) rfl ?_
  refine p_iload_n dX7_fillNumerator_2 rfl (q := 2) rfl ?_
  refine p_VVx G rfl k_RX7_202 (by decide) hS.1 rfl rfl (Nat.le_of_ble_eq_true rfl) ⟨by decide, by decide⟩ ⟨by decide, by decide⟩ dX7_fillNumerator_3 h (fun im1 h => ?_)
  refine p_aload_n dX7_fillNumerator_6 rfl (q := 0) rfl ?_
  refine p_getR G f_RX7_12 rfl hS.1 hS.2.1 dX7_fillNumerator_7 ?_
  refine p_aload_n dX7_fillNumerator_10 rfl (q := 0) rfl ?_
  refine p_getR G f_RX7_12 rfl hS.1 hS.2.1 dX7_fillNumerator_11 ?_
  refine p_getR (b := (an + 12)) G f_RX7_140 rfl (hS.2.2.2.2.2.1 0 (by decide)).1 ((hS.2.2.2.2.2.1 0 (by decide)).2.2 4 (by decide)) dX7_fillNumerator_14 ?_
  refine p_getR (b := (an + 14)) G f_RX7_212 rfl (hS.2.2.2.2.2.1 12 (by decide)).1 ((hS.2.2.2.2.2.1 12 (by decide)).2.2 2 (by decide)) dX7_fillNumerator_17 ?_
  refine p_iload_n dX7_fillNumerator_20 rfl (q := 1) rfl ?_
  refine p_iload_n dX7_fillNumerator_21 rfl (q := 2) rfl ?_
  refine p_VI G k_RX7_209 (by decide) (hS.2.2.2.2.2.1 0 (by decide)).1 rfl rfl (Nat.le_of_ble_eq_true rfl) ⟨by decide, by decide⟩ ⟨by decide, by decide⟩ dX7_fillNumerator_22 h (fun r3 im4 c5 h => ?_)
  refine p_istore_n (lv' := [(3, .int (zi r3)), (0, .ref a), (1, .int (zi p1)), (2, .int (zi p2))]) dX7_fillNumerator_25 rfl (by decide) rfl ?_
  refine p_iload_n dX7_fillNumerator_26 rfl (q := 0) rfl ?_
  refine p_if_ne (tgt := 32) dX7_fillNumerator_27 (by decide) (nf_r c5) (fun b6 => ?_) (fun b6 => ?_)
  · have h := h.1 b6
    refine p_iload_n dX7_fillNumerator_32 rfl (q := 0) rfl ?_
    refine p_aload_n dX7_fillNumerator_33 rfl (q := 1) rfl ?_
    refine p_getR G f_RX7_12 rfl hS.1 hS.2.1 dX7_fillNumerator_34 ?_
    refine p_aload_n dX7_fillNumerator_37 rfl (q := 1) rfl ?_
    refine p_getR G f_RX7_12 rfl hS.1 hS.2.1 dX7_fillNumerator_38 ?_
    refine p_getR (b := (an + 12)) G f_RX7_140 rfl (hS.2.2.2.2.2.1 0 (by decide)).1 ((hS.2.2.2.2.2.1 0 (by decide)).2.2 4 (by decide)) dX7_fillNumerator_41 ?_
    refine p_getR (b := (an + 13)) G f_RX7_206 rfl (hS.2.2.2.2.2.1 12 (by decide)).1 ((hS.2.2.2.2.2.1 12 (by decide)).2.2 1 (by decide)) dX7_fillNumerator_44 ?_
    refine p_iload_n dX7_fillNumerator_47 rfl (q := 2) rfl ?_
    refine p_iload_n dX7_fillNumerator_48 rfl (q := 3) rfl ?_
    refine p_VI G k_RX7_209 (by decide) (hS.2.2.2.2.2.1 0 (by decide)).1 rfl rfl (Nat.le_of_ble_eq_true rfl) ⟨by decide, by decide⟩ ⟨by decide, by decide⟩ dX7_fillNumerator_49 h (fun r6 im7 c8 h => ?_)
    refine p_iload_n dX7_fillNumerator_52 rfl (q := 0) rfl ?_
    refine p_SI G k_RX7_215 rfl rfl (Nat.le_of_ble_eq_true rfl) ⟨by decide, by decide⟩ ⟨by decide, by decide⟩ dX7_fillNumerator_53 h (fun r9 im10 c11 h => ?_)
    have h0_56 := h.1
    have h := h.2
    refine p_idiv dX7_fillNumerator_56 (nf_r c5) (nf_r c11) h0_56 ?_
    exact p_iretI (by decide) (by decide) rfl (nf_w _) dX7_fillNumerator_57 h
  · have h := h.2 b6
    refine p_iconst dX7_fillNumerator_30 ?_
    exact p_iretI (by decide) (by decide) rfl (nf_k (by decide)) dX7_fillNumerator_31 h
set_option maxRecDepth 20000 in
set_option maxHeartbeats 4000000 in
theorem v_X7_fillDenominator {g : zG} (G : zOK g) {S : zSh} {im : zIm} {a an as av at_ : Nat} {p1 : Int} {p2 : Int} {Q : Int → zIm → Prop} {X : String → zSh → zIm → Prop} (hS : zDep S a an as av at_) (c_p1 : zc p1) (c_p2 : zc p2)
    (h : zCVx g yX7_checkFigure M_X7_checkFigure [.ref a, .int (zi p1), .int (zi p2)] S im (fun im1 => zCI g yX2_total M_X2_total [.ref an, .ref (an + 14), .int (zi p1), .int (zi p2)] S im1 (fun r3 im4 => ((¬ r3 = 0 → zCI g yX2_total M_X2_total [.ref an, .ref (an + 13), .int (zi p1), .int (zi p2)] S im4 (fun r6 im7 => zCI g yX7_commonDivisor M_X7_commonDivisor [.int (zi r6), .int (zi r3)] S im7 (fun r9 im10 => (¬ r9 = 0) ∧ Q (zw (Int.tdiv r6 r9)) im10))) ∧ (r3 = 0 → Q 1 im4)))) X) :
    zCIx g yX7_fillDenominator M_X7_fillDenominator [.ref a, .int (zi p1), .int (zi p2)] S im Q X := by
  refine zC_of (by decide) rfl rfl rfl rfl (Nat.le_of_ble_eq_true rfl) ?_
  refine p_aload_n dX7_fillDenominator_0 rfl (q := 0) rfl ?_
  refine p_iload_n dX7_fillDenominator_1 rfl (q := 1) rfl ?_
  refine p_iload_n dX7_fillDenominator_2 rfl (q := 2) rfl ?_
  refine p_VVx G rfl k_RX7_202 (by decide) hS.1 rfl rfl (Nat.le_of_ble_eq_true rfl) ⟨by decide, by decide⟩ ⟨by decide, by decide⟩ dX7_fillDenominator_3 h (fun im1 h => ?_)
  refine p_aload_n dX7_fillDenominator_6 rfl (q := 0) rfl ?_
  refine p_getR G f_RX7_12 rfl hS.1 hS.2.1 dX7_fillDenominator_7 ?_
  refine p_aload_n dX7_fillDenominator_10 rfl (q := 0) rfl ?_
  refine p_getR G f_RX7_12 rfl hS.1 hS.2.1 dX7_fillDenominator_11 ?_
  refine p_getR (b := (an + 12)) G f_RX7_140 rfl (hS.2.2.2.2.2.1 0 (by decide)).1 ((hS.2.2.2.2.2.1 0 (by decide)).2.2 4 (by decide)) dX7_fillDenominator_14 ?_
  refine p_getR (b := (an + 14)) G f_RX7_212 rfl (hS.2.2.2.2.2.1 12 (by decide)).1 ((hS.2.2.2.2.2.1 12 (by decide)).2.2 2 (by decide)) dX7_fillDenominator_17 ?_
  refine p_iload_n dX7_fillDenominator_20 rfl (q := 1) rfl ?_
  refine p_iload_n dX7_fillDenominator_21 rfl (q := 2) rfl ?_
  refine p_VI G k_RX7_209 (by decide) (hS.2.2.2.2.2.1 0 (by decide)).1 rfl rfl (Nat.le_of_ble_eq_true rfl) ⟨by decide, by decide⟩ ⟨by decide, by decide⟩ dX7_fillDenominator_22 h (fun r3 im4 c5 h => ?_)
  refine p_istore_n (lv' := [(3, .int (zi r3)), (0, .ref a), (1, .int (zi p1)), (2, .int (zi p2))]) dX7_fillDenominator_25 rfl (by decide) rfl ?_
  refine p_iload_n dX7_fillDenominator_26 rfl (q := 0) rfl ?_
  refine p_if_ne (tgt := 32) dX7_fillDenominator_27 (by decide) (nf_r c5) (fun b6 => ?_) (fun b6 => ?_)
  · have h := h.1 b6
    refine p_aload_n dX7_fillDenominator_32 rfl (q := 1) rfl ?_
    refine p_getR G f_RX7_12 rfl hS.1 hS.2.1 dX7_fillDenominator_33 ?_
    refine p_aload_n dX7_fillDenominator_36 rfl (q := 1) rfl ?_
    refine p_getR G f_RX7_12 rfl hS.1 hS.2.1 dX7_fillDenominator_37 ?_
    refine p_getR (b := (an + 12)) G f_RX7_140 rfl (hS.2.2.2.2.2.1 0 (by decide)).1 ((hS.2.2.2.2.2.1 0 (by decide)).2.2 4 (by decide)) dX7_fillDenominator_40 ?_
    refine p_getR (b := (an + 13)) G f_RX7_206 rfl (hS.2.2.2.2.2.1 12 (by decide)).1 ((hS.2.2.2.2.2.1 12 (by decide)).2.2 1 (by decide)) dX7_fillDenominator_43 ?_
    refine p_iload_n dX7_fillDenominator_46 rfl (q := 2) rfl ?_
    refine p_iload_n dX7_fillDenominator_47 rfl (q := 3) rfl ?_
    refine p_VI G k_RX7_209 (by decide) (hS.2.2.2.2.2.1 0 (by decide)).1 rfl rfl (Nat.le_of_ble_eq_true rfl) ⟨by decide, by decide⟩ ⟨by decide, by decide⟩ dX7_fillDenominator_48 h (fun r6 im7 c8 h => ?_)
    refine p_istore (lv' := [(4, .int (zi r6)), (3, .int (zi r3)), (0, .ref a), (1, .int (zi p1)), (2, .int (zi p2))]) dX7_fillDenominator_51 (by decide) rfl ?_
    refine p_iload dX7_fillDenominator_53 (q := 0) rfl ?_
    refine p_iload dX7_fillDenominator_55 (q := 0) rfl ?_
    refine p_iload_n dX7_fillDenominator_57 rfl (q := 1) rfl ?_
    refine p_SI G k_RX7_215 rfl rfl (Nat.le_of_ble_eq_true rfl) ⟨by decide, by decide⟩ ⟨by decide, by decide⟩ dX7_fillDenominator_58 h (fun r9 im10 c11 h => ?_)
    have h0_61 := h.1
    have h := h.2
    refine p_idiv dX7_fillDenominator_61 (nf_r c8) (nf_r c11) h0_61 ?_
    exact p_iretI (by decide) (by decide) rfl (nf_w _) dX7_fillDenominator_62 h
  · have h := h.2 b6
    refine p_iconst dX7_fillDenominator_30 ?_
    exact p_iretI (by decide) (by decide) rfl (nf_k (by decide)) dX7_fillDenominator_31 h
set_option maxRecDepth 20000 in
set_option maxHeartbeats 4000000 in
theorem v_X7_delays {g : zG} (G : zOK g) {S : zSh} {im : zIm} {a an as av at_ : Nat} {p1 : Int} {p2 : Int} {Q : Int → zIm → Prop} {X : String → zSh → zIm → Prop} (hS : zDep S a an as av at_) (c_p1 : zc p1) (c_p2 : zc p2)
    (h : zCVx g yX7_checkFigure M_X7_checkFigure [.ref a, .int (zi p1), .int (zi p2)] S im (fun im1 => zCI g yX2_total M_X2_total [.ref an, .ref (an + 15), .int (zi p1), .int (zi p2)] S im1 (fun r3 im4 => Q r3 im4)) X) :
    zCIx g yX7_delays M_X7_delays [.ref a, .int (zi p1), .int (zi p2)] S im Q X := by
  refine zC_of (by decide) rfl rfl rfl rfl (Nat.le_of_ble_eq_true rfl) ?_
  refine p_aload_n dX7_delays_0 rfl (q := 0) rfl ?_
  refine p_iload_n dX7_delays_1 rfl (q := 1) rfl ?_
  refine p_iload_n dX7_delays_2 rfl (q := 2) rfl ?_
  refine p_VVx G rfl k_RX7_202 (by decide) hS.1 rfl rfl (Nat.le_of_ble_eq_true rfl) ⟨by decide, by decide⟩ ⟨by decide, by decide⟩ dX7_delays_3 h (fun im1 h => ?_)
  refine p_aload_n dX7_delays_6 rfl (q := 0) rfl ?_
  refine p_getR G f_RX7_12 rfl hS.1 hS.2.1 dX7_delays_7 ?_
  refine p_aload_n dX7_delays_10 rfl (q := 0) rfl ?_
  refine p_getR G f_RX7_12 rfl hS.1 hS.2.1 dX7_delays_11 ?_
  refine p_getR (b := (an + 12)) G f_RX7_140 rfl (hS.2.2.2.2.2.1 0 (by decide)).1 ((hS.2.2.2.2.2.1 0 (by decide)).2.2 4 (by decide)) dX7_delays_14 ?_
  refine p_getR (b := (an + 15)) G f_RX7_218 rfl (hS.2.2.2.2.2.1 12 (by decide)).1 ((hS.2.2.2.2.2.1 12 (by decide)).2.2 3 (by decide)) dX7_delays_17 ?_
  refine p_iload_n dX7_delays_20 rfl (q := 1) rfl ?_
  refine p_iload_n dX7_delays_21 rfl (q := 2) rfl ?_
  refine p_VI G k_RX7_209 (by decide) (hS.2.2.2.2.2.1 0 (by decide)).1 rfl rfl (Nat.le_of_ble_eq_true rfl) ⟨by decide, by decide⟩ ⟨by decide, by decide⟩ dX7_delays_22 h (fun r3 im4 c5 h => ?_)
  exact p_iretI (by decide) (by decide) rfl (nf_r c5) dX7_delays_25 h
set_option maxRecDepth 20000 in
set_option maxHeartbeats 4000000 in
theorem v_X7_backorderDays {g : zG} (G : zOK g) {S : zSh} {im : zIm} {a an as av at_ : Nat} {p1 : Int} {p2 : Int} {Q : Int → zIm → Prop} {X : String → zSh → zIm → Prop} (hS : zDep S a an as av at_) (c_p1 : zc p1) (c_p2 : zc p2)
    (h : zCVx g yX7_checkFigure M_X7_checkFigure [.ref a, .int (zi p1), .int (zi p2)] S im (fun im1 => zCI g yX2_total M_X2_total [.ref an, .ref (an + 16), .int (zi p1), .int (zi p2)] S im1 (fun r3 im4 => Q r3 im4)) X) :
    zCIx g yX7_backorderDays M_X7_backorderDays [.ref a, .int (zi p1), .int (zi p2)] S im Q X := by
  refine zC_of (by decide) rfl rfl rfl rfl (Nat.le_of_ble_eq_true rfl) ?_
  refine p_aload_n dX7_backorderDays_0 rfl (q := 0) rfl ?_
  refine p_iload_n dX7_backorderDays_1 rfl (q := 1) rfl ?_
  refine p_iload_n dX7_backorderDays_2 rfl (q := 2) rfl ?_
  refine p_VVx G rfl k_RX7_202 (by decide) hS.1 rfl rfl (Nat.le_of_ble_eq_true rfl) ⟨by decide, by decide⟩ ⟨by decide, by decide⟩ dX7_backorderDays_3 h (fun im1 h => ?_)
  refine p_aload_n dX7_backorderDays_6 rfl (q := 0) rfl ?_
  refine p_getR G f_RX7_12 rfl hS.1 hS.2.1 dX7_backorderDays_7 ?_
  refine p_aload_n dX7_backorderDays_10 rfl (q := 0) rfl ?_
  refine p_getR G f_RX7_12 rfl hS.1 hS.2.1 dX7_backorderDays_11 ?_
  refine p_getR (b := (an + 12)) G f_RX7_140 rfl (hS.2.2.2.2.2.1 0 (by decide)).1 ((hS.2.2.2.2.2.1 0 (by decide)).2.2 4 (by decide)) dX7_backorderDays_14 ?_
  refine p_getR (b := (an + 16)) G f_RX7_221 rfl (hS.2.2.2.2.2.1 12 (by decide)).1 ((hS.2.2.2.2.2.1 12 (by decide)).2.2 4 (by decide)) dX7_backorderDays_17 ?_
  refine p_iload_n dX7_backorderDays_20 rfl (q := 1) rfl ?_
  refine p_iload_n dX7_backorderDays_21 rfl (q := 2) rfl ?_
  refine p_VI G k_RX7_209 (by decide) (hS.2.2.2.2.2.1 0 (by decide)).1 rfl rfl (Nat.le_of_ble_eq_true rfl) ⟨by decide, by decide⟩ ⟨by decide, by decide⟩ dX7_backorderDays_22 h (fun r3 im4 c5 h => ?_)
  exact p_iretI (by decide) (by decide) rfl (nf_r c5) dX7_backorderDays_25 h
set_option maxRecDepth 20000 in
set_option maxHeartbeats 4000000 in
theorem v_X7_helped {g : zG} (G : zOK g) {S : zSh} {im : zIm} {a an as av at_ : Nat} {p1 : Int} {p2 : Int} {Q : Int → zIm → Prop} {X : String → zSh → zIm → Prop} (hS : zDep S a an as av at_) (c_p1 : zc p1) (c_p2 : zc p2)
    (h : zCVx g yX7_checkFigure M_X7_checkFigure [.ref a, .int (zi p1), .int (zi p2)] S im (fun im1 => zCI g yX2_total M_X2_total [.ref an, .ref (an + 17), .int (zi p1), .int (zi p2)] S im1 (fun r3 im4 => Q r3 im4)) X) :
    zCIx g yX7_helped M_X7_helped [.ref a, .int (zi p1), .int (zi p2)] S im Q X := by
  refine zC_of (by decide) rfl rfl rfl rfl (Nat.le_of_ble_eq_true rfl) ?_
  refine p_aload_n dX7_helped_0 rfl (q := 0) rfl ?_
  refine p_iload_n dX7_helped_1 rfl (q := 1) rfl ?_
  refine p_iload_n dX7_helped_2 rfl (q := 2) rfl ?_
  refine p_VVx G rfl k_RX7_202 (by decide) hS.1 rfl rfl (Nat.le_of_ble_eq_true rfl) ⟨by decide, by decide⟩ ⟨by decide, by decide⟩ dX7_helped_3 h (fun im1 h => ?_)
  refine p_aload_n dX7_helped_6 rfl (q := 0) rfl ?_
  refine p_getR G f_RX7_12 rfl hS.1 hS.2.1 dX7_helped_7 ?_
  refine p_aload_n dX7_helped_10 rfl (q := 0) rfl ?_
  refine p_getR G f_RX7_12 rfl hS.1 hS.2.1 dX7_helped_11 ?_
  refine p_getR (b := (an + 12)) G f_RX7_140 rfl (hS.2.2.2.2.2.1 0 (by decide)).1 ((hS.2.2.2.2.2.1 0 (by decide)).2.2 4 (by decide)) dX7_helped_14 ?_
  refine p_getR (b := (an + 17)) G f_RX7_224 rfl (hS.2.2.2.2.2.1 12 (by decide)).1 ((hS.2.2.2.2.2.1 12 (by decide)).2.2 5 (by decide)) dX7_helped_17 ?_
  refine p_iload_n dX7_helped_20 rfl (q := 1) rfl ?_
  refine p_iload_n dX7_helped_21 rfl (q := 2) rfl ?_
  refine p_VI G k_RX7_209 (by decide) (hS.2.2.2.2.2.1 0 (by decide)).1 rfl rfl (Nat.le_of_ble_eq_true rfl) ⟨by decide, by decide⟩ ⟨by decide, by decide⟩ dX7_helped_22 h (fun r3 im4 c5 h => ?_)
  exact p_iretI (by decide) (by decide) rfl (nf_r c5) dX7_helped_25 h
set_option maxRecDepth 20000 in
set_option maxHeartbeats 4000000 in
theorem v_X7_bestSite {g : zG} (G : zOK g) {S : zSh} {im : zIm} {a an as av at_ : Nat} {p1 : Int} {p2 : Int} {p3 : Int} {Q : Int → zIm → Prop} {X : String → zSh → zIm → Prop} (hS : zDep S a an as av at_) (c_p1 : zc p1) (c_p2 : zc p2) (c_p3 : zc p3)
    (h : zCVx g yX7_checkItem M_X7_checkItem [.ref a, .int (zi p1)] S im (fun im1 => zCVx g yX7_checkRange M_X7_checkRange [.int (zi p2), .int (zi 0), .int (zi 2147483647)] S im1 (fun im3 => zCVx g yX7_checkRange M_X7_checkRange [.int (zi p3), .int (zi 1), .int (zi 10)] S im3 (fun im5 => zCVx g yX7_checkLastDay M_X7_checkLastDay [.ref a, .int (zi p3)] S im5 (fun im7 => zPIx g M_X7_bestSite 4 24 33 [(0, .ref a), (1, .int (zi p1)), (2, .int (zi p2)), (3, .int (zi p3)), (4, .int (zi (-1))), (5, .int (zi 0)), (6, .int (zi 0))] S im7 Q X) X) X) X) X) :
    zCIx g yX7_bestSite M_X7_bestSite [.ref a, .int (zi p1), .int (zi p2), .int (zi p3)] S im Q X := by
  refine zC_of (by decide) rfl rfl rfl rfl (Nat.le_of_ble_eq_true rfl) ?_
  refine p_aload_n dX7_bestSite_0 rfl (q := 0) rfl ?_
  refine p_iload_n dX7_bestSite_1 rfl (q := 1) rfl ?_
  refine p_VVx G rfl k_RX7_83 (by decide) hS.1 rfl rfl (Nat.le_of_ble_eq_true rfl) ⟨by decide, by decide⟩ ⟨by decide, by decide⟩ dX7_bestSite_2 h (fun im1 h => ?_)
  refine p_iload_n dX7_bestSite_5 rfl (q := 2) rfl ?_
  refine p_iconst dX7_bestSite_6 ?_
  refine p_ldc G q_4_95 (v := 2147483647) (by decide) dX7_bestSite_7 ?_
  refine p_SVx G rfl k_RX7_30 rfl rfl (Nat.le_of_ble_eq_true rfl) ⟨by decide, by decide⟩ ⟨by decide, by decide⟩ dX7_bestSite_9 h (fun im3 h => ?_)
  refine p_iload_n dX7_bestSite_12 rfl (q := 3) rfl ?_
  refine p_iconst dX7_bestSite_13 ?_
  refine p_bipush dX7_bestSite_14 (by decide) ?_
  refine p_SVx G rfl k_RX7_30 rfl rfl (Nat.le_of_ble_eq_true rfl) ⟨by decide, by decide⟩ ⟨by decide, by decide⟩ dX7_bestSite_16 h (fun im5 h => ?_)
  refine p_aload_n dX7_bestSite_19 rfl (q := 0) rfl ?_
  refine p_iload_n dX7_bestSite_20 rfl (q := 3) rfl ?_
  refine p_VVx G rfl k_RX7_127 (by decide) hS.1 rfl rfl (Nat.le_of_ble_eq_true rfl) ⟨by decide, by decide⟩ ⟨by decide, by decide⟩ dX7_bestSite_21 h (fun im7 h => ?_)
  refine p_iconst dX7_bestSite_24 ?_
  refine p_istore (lv' := [(4, .int (zi (-1))), (0, .ref a), (1, .int (zi p1)), (2, .int (zi p2)), (3, .int (zi p3))]) dX7_bestSite_25 (by decide) rfl ?_
  refine p_iconst dX7_bestSite_27 ?_
  refine p_istore (lv' := [(5, .int (zi 0)), (4, .int (zi (-1))), (0, .ref a), (1, .int (zi p1)), (2, .int (zi p2)), (3, .int (zi p3))]) dX7_bestSite_28 (by decide) rfl ?_
  refine p_iconst dX7_bestSite_30 ?_
  refine p_istore (lv' := [(6, .int (zi 0)), (5, .int (zi 0)), (4, .int (zi (-1))), (0, .ref a), (1, .int (zi p1)), (2, .int (zi p2)), (3, .int (zi p3))]) dX7_bestSite_31 (by decide) rfl ?_
  refine p_sub (lv' := [(0, .ref a), (1, .int (zi p1)), (2, .int (zi p2)), (3, .int (zi p3)), (4, .int (zi (-1))), (5, .int (zi 0)), (6, .int (zi 0))]) [3, 4, 5, 6, 2, 1, 0] rfl ?_
  exact h
set_option maxRecDepth 20000 in
set_option maxHeartbeats 4000000 in
theorem v_X7_bestSite_33 {g : zG} (G : zOK g) {S : zSh} {im : zIm} {a an as av at_ : Nat} {x1 : Int} {x2 : Int} {x3 : Int} {x4 : Int} {x5 : Int} {x6 : Int} {Q : Int → zIm → Prop} {X : String → zSh → zIm → Prop} (hS : zDep S a an as av at_) (c_x1 : zc x1) (c_x2 : zc x2) (c_x3 : zc x3) (c_x4 : zc x4) (c_x5 : zc x5) (c_x6 : zc x6)
    (h : (((im (an + 3) 1) ≤ x6 → Q x4 im) ∧ (x6 < (im (an + 3) 1) → zCI g yX7_cell M_X7_cell [.int (zi x6), .int (zi x1)] S im (fun r2 im3 => ((0 ≤ r2 ∧ r2 < 32) ∧ ((20 ≤ (im3 (an + 1) r2) → zPIx g M_X7_bestSite 4 24 33 [(0, .ref a), (1, .int (zi x1)), (2, .int (zi x2)), (3, .int (zi x3)), (4, .int (zi x4)), (5, .int (zi x5)), (6, .int (zi (zw (x6 + 1))))] S im3 Q X) ∧ ((im3 (an + 1) r2) < 20 → zCV g yX2_copyFrom M_X2_copyFrom [.ref as, .ref an] S im3 (fun im7 => zCI g yX7_cell M_X7_cell [.int (zi x6), .int (zi x1)] S im7 (fun r9 im10 => ((0 ≤ r9 ∧ r9 < 32) ∧ zCV g yX2_changeLevel M_X2_changeLevel [.ref as, .int (zi x6), .int (zi x1), .int (zi (zw ((im10 (as + 1) r9) + 1)))] S im10 (fun im14 => zCI g yX2_runDays M_X2_runDays [.ref as, .int (zi x2), .int (zi x3)] S im14 (fun r16 im17 => zCI g yX2_total M_X2_total [.ref as, .ref (as + 16), .int (zi (-1)), .int (zi (-1))] S im17 (fun r19 im20 => ((x4 = (-1) → zPIx g M_X7_bestSite 4 24 33 [(0, .ref a), (1, .int (zi x1)), (2, .int (zi x2)), (3, .int (zi x3)), (4, .int (zi x6)), (5, .int (zi r19)), (6, .int (zi (zw (x6 + 1))))] S im20 Q X) ∧ (¬ x4 = (-1) → ((x5 ≤ r19 → zPIx g M_X7_bestSite 4 24 33 [(0, .ref a), (1, .int (zi x1)), (2, .int (zi x2)), (3, .int (zi x3)), (4, .int (zi x4)), (5, .int (zi x5)), (6, .int (zi (zw (x6 + 1))))] S im20 Q X) ∧ (r19 < x5 → zPIx g M_X7_bestSite 4 24 33 [(0, .ref a), (1, .int (zi x1)), (2, .int (zi x2)), (3, .int (zi x3)), (4, .int (zi x6)), (5, .int (zi r19)), (6, .int (zi (zw (x6 + 1))))] S im20 Q X))))))))))))))))) :
    zPIx g M_X7_bestSite 4 24 33 [(0, .ref a), (1, .int (zi x1)), (2, .int (zi x2)), (3, .int (zi x3)), (4, .int (zi x4)), (5, .int (zi x5)), (6, .int (zi x6))] S im Q X := by
  refine p_iload dX7_bestSite_33 (q := 6) rfl ?_
  refine p_aload_n dX7_bestSite_35 rfl (q := 0) rfl ?_
  refine p_getR G f_RX7_12 rfl hS.1 hS.2.1 dX7_bestSite_36 ?_
  refine p_getR (b := (an + 3)) G f_RX7_34 rfl (hS.2.2.2.2.2.1 0 (by decide)).1 ((hS.2.2.2.2.2.1 0 (by decide)).2.2 3 (by decide)) dX7_bestSite_39 ?_
  refine p_getI (j := 1) G f_RX7_55 rfl (hS.2.2.2.2.2.1 3 (by decide)).1 dX7_bestSite_42 (fun c1 => ?_)
  refine p_icmp_ge (tgt := 162) dX7_bestSite_45 (by decide) (nf_r c_x6) (nf_r c1) (fun b2 => ?_) (fun b2 => ?_)
  · have h := h.1 b2
    refine p_iload dX7_bestSite_162 (q := 4) rfl ?_
    exact p_iretI (by decide) (by decide) rfl (nf_r c_x4) dX7_bestSite_164 h
  · have h := h.2 b2
    refine p_aload_n dX7_bestSite_48 rfl (q := 0) rfl ?_
    refine p_getR G f_RX7_12 rfl hS.1 hS.2.1 dX7_bestSite_49 ?_
    refine p_getR (b := (an + 1)) G f_RX7_89 rfl (hS.2.2.2.2.2.1 0 (by decide)).1 ((hS.2.2.2.2.2.1 0 (by decide)).2.2 1 (by decide)) dX7_bestSite_52 ?_
    refine p_iload dX7_bestSite_55 (q := 6) rfl ?_
    refine p_iload_n dX7_bestSite_57 rfl (q := 1) rfl ?_
    refine p_SI G k_RX7_86 rfl rfl (Nat.le_of_ble_eq_true rfl) ⟨by decide, by decide⟩ ⟨by decide, by decide⟩ dX7_bestSite_58 h (fun r2 im3 c4 h => ?_)
    have g6 := h.1
    have h := h.2
    refine p_iald G (hS.2.2.2.2.2.1 1 (by decide)).1 (nf_r c4) g6.1 (zln_lt (hS.2.2.2.2.2.1 1 (by decide)).2.1 g6.2) dX7_bestSite_61 (fun c5 => ?_)
    refine p_bipush dX7_bestSite_62 (by decide) ?_
    refine p_icmp_ge (tgt := 156) dX7_bestSite_64 (by decide) (nf_r c5) (nf_k (by decide)) (fun b7 => ?_) (fun b7 => ?_)
    · have h := h.1 b7
      refine p_iinc (q := 6) (lv' := [(6, .int (zi (x6 + 1))), (0, .ref a), (1, .int (zi x1)), (2, .int (zi x2)), (3, .int (zi x3)), (4, .int (zi x4)), (5, .int (zi x5))]) dX7_bestSite_156 rfl (by decide) rfl ?_
      refine p_goto (tgt := 33) dX7_bestSite_159 (by decide) ?_
      refine p_sub (lv' := [(0, .ref a), (1, .int (zi x1)), (2, .int (zi x2)), (3, .int (zi x3)), (4, .int (zi x4)), (5, .int (zi x5)), (6, .int (zi (zw (x6 + 1))))]) [1, 2, 3, 4, 5, 6, 0] (by simp only [zi_zw, zl_zwl]; rfl) ?_
      exact h
    · have h := h.2 b7
      refine p_aload_n dX7_bestSite_67 rfl (q := 0) rfl ?_
      refine p_getR G f_RX7_16 rfl hS.1 hS.2.2.1 dX7_bestSite_68 ?_
      refine p_aload_n dX7_bestSite_71 rfl (q := 0) rfl ?_
      refine p_getR G f_RX7_12 rfl hS.1 hS.2.1 dX7_bestSite_72 ?_
      refine p_VV G k_RX7_227 (by decide) (hS.2.2.2.2.2.2.1 0 (by decide)).1 rfl rfl (Nat.le_of_ble_eq_true rfl) ⟨by decide, by decide⟩ ⟨by decide, by decide⟩ dX7_bestSite_75 h (fun im7 h => ?_)
      refine p_aload_n dX7_bestSite_78 rfl (q := 0) rfl ?_
      refine p_getR G f_RX7_16 rfl hS.1 hS.2.2.1 dX7_bestSite_79 ?_
      refine p_iload dX7_bestSite_82 (q := 6) rfl ?_
      refine p_iload_n dX7_bestSite_84 rfl (q := 1) rfl ?_
      refine p_aload_n dX7_bestSite_85 rfl (q := 0) rfl ?_
      refine p_getR G f_RX7_16 rfl hS.1 hS.2.2.1 dX7_bestSite_86 ?_
      refine p_getR (b := (as + 1)) G f_RX7_89 rfl (hS.2.2.2.2.2.2.1 0 (by decide)).1 ((hS.2.2.2.2.2.2.1 0 (by decide)).2.2 1 (by decide)) dX7_bestSite_89 ?_
      refine p_iload dX7_bestSite_92 (q := 6) rfl ?_
      refine p_iload_n dX7_bestSite_94 rfl (q := 1) rfl ?_
      refine p_SI G k_RX7_86 rfl rfl (Nat.le_of_ble_eq_true rfl) ⟨by decide, by decide⟩ ⟨by decide, by decide⟩ dX7_bestSite_95 h (fun r9 im10 c11 h => ?_)
      have g13 := h.1
      have h := h.2
      refine p_iald G (hS.2.2.2.2.2.2.1 1 (by decide)).1 (nf_r c11) g13.1 (zln_lt (hS.2.2.2.2.2.2.1 1 (by decide)).2.1 g13.2) dX7_bestSite_98 (fun c12 => ?_)
      refine p_iconst dX7_bestSite_99 ?_
      refine p_iadd dX7_bestSite_100 ?_
      refine p_VV G k_RX7_98 (by decide) (hS.2.2.2.2.2.2.1 0 (by decide)).1 rfl (by simp only [zi_zw]; rfl) (Nat.le_of_ble_eq_true rfl) ⟨by decide, by decide⟩ ⟨by decide, by decide⟩ dX7_bestSite_101 h (fun im14 h => ?_)
      refine p_aload_n dX7_bestSite_104 rfl (q := 0) rfl ?_
      refine p_getR G f_RX7_16 rfl hS.1 hS.2.2.1 dX7_bestSite_105 ?_
      refine p_iload_n dX7_bestSite_108 rfl (q := 2) rfl ?_
      refine p_iload_n dX7_bestSite_109 rfl (q := 3) rfl ?_
      refine p_VI G k_RX7_137 (by decide) (hS.2.2.2.2.2.2.1 0 (by decide)).1 rfl rfl (Nat.le_of_ble_eq_true rfl) ⟨by decide, by decide⟩ ⟨by decide, by decide⟩ dX7_bestSite_110 h (fun r16 im17 c18 h => ?_)
      refine p_pop dX7_bestSite_113 rfl ?_
      refine p_aload_n dX7_bestSite_114 rfl (q := 0) rfl ?_
      refine p_getR G f_RX7_16 rfl hS.1 hS.2.2.1 dX7_bestSite_115 ?_
      refine p_aload_n dX7_bestSite_118 rfl (q := 0) rfl ?_
      refine p_getR G f_RX7_16 rfl hS.1 hS.2.2.1 dX7_bestSite_119 ?_
      refine p_getR (b := (as + 12)) G f_RX7_140 rfl (hS.2.2.2.2.2.2.1 0 (by decide)).1 ((hS.2.2.2.2.2.2.1 0 (by decide)).2.2 4 (by decide)) dX7_bestSite_122 ?_
      refine p_getR (b := (as + 16)) G f_RX7_221 rfl (hS.2.2.2.2.2.2.1 12 (by decide)).1 ((hS.2.2.2.2.2.2.1 12 (by decide)).2.2 4 (by decide)) dX7_bestSite_125 ?_
      refine p_iconst dX7_bestSite_128 ?_
      refine p_iconst dX7_bestSite_129 ?_
      refine p_VI G k_RX7_209 (by decide) (hS.2.2.2.2.2.2.1 0 (by decide)).1 rfl rfl (Nat.le_of_ble_eq_true rfl) ⟨by decide, by decide⟩ ⟨by decide, by decide⟩ dX7_bestSite_130 h (fun r19 im20 c21 h => ?_)
      refine p_istore (lv' := [(7, .int (zi r19)), (0, .ref a), (1, .int (zi x1)), (2, .int (zi x2)), (3, .int (zi x3)), (4, .int (zi x4)), (5, .int (zi x5)), (6, .int (zi x6))]) dX7_bestSite_133 (by decide) rfl ?_
      refine p_iload dX7_bestSite_135 (q := 5) rfl ?_
      refine p_iconst dX7_bestSite_137 ?_
      refine p_icmp_eq (tgt := 148) dX7_bestSite_138 (by decide) (nf_r c_x4) (nf_k (by decide)) (fun b22 => ?_) (fun b22 => ?_)
      · have h := h.1 b22
        refine p_iload dX7_bestSite_148 (q := 7) rfl ?_
        refine p_istore (lv' := [(4, .int (zi x6)), (7, .int (zi r19)), (0, .ref a), (1, .int (zi x1)), (2, .int (zi x2)), (3, .int (zi x3)), (5, .int (zi x5)), (6, .int (zi x6))]) dX7_bestSite_150 (by decide) rfl ?_
        refine p_iload dX7_bestSite_152 (q := 1) rfl ?_
        refine p_istore (lv' := [(5, .int (zi r19)), (4, .int (zi x6)), (7, .int (zi r19)), (0, .ref a), (1, .int (zi x1)), (2, .int (zi x2)), (3, .int (zi x3)), (6, .int (zi x6))]) dX7_bestSite_154 (by decide) rfl ?_
        refine p_iinc (q := 7) (lv' := [(6, .int (zi (x6 + 1))), (5, .int (zi r19)), (4, .int (zi x6)), (7, .int (zi r19)), (0, .ref a), (1, .int (zi x1)), (2, .int (zi x2)), (3, .int (zi x3))]) dX7_bestSite_156 rfl (by decide) rfl ?_
        refine p_goto (tgt := 33) dX7_bestSite_159 (by decide) ?_
        refine p_sub (lv' := [(0, .ref a), (1, .int (zi x1)), (2, .int (zi x2)), (3, .int (zi x3)), (4, .int (zi x6)), (5, .int (zi r19)), (6, .int (zi (zw (x6 + 1))))]) [4, 5, 6, 7, 2, 1, 0] (by simp only [zi_zw, zl_zwl]; rfl) ?_
        exact h
      · have h := h.2 b22
        refine p_iload dX7_bestSite_141 (q := 0) rfl ?_
        refine p_iload dX7_bestSite_143 (q := 6) rfl ?_
        refine p_icmp_ge (tgt := 156) dX7_bestSite_145 (by decide) (nf_r c21) (nf_r c_x5) (fun b22 => ?_) (fun b22 => ?_)
        · have h := h.1 b22
          refine p_iinc (q := 7) (lv' := [(6, .int (zi (x6 + 1))), (7, .int (zi r19)), (0, .ref a), (1, .int (zi x1)), (2, .int (zi x2)), (3, .int (zi x3)), (4, .int (zi x4)), (5, .int (zi x5))]) dX7_bestSite_156 rfl (by decide) rfl ?_
          refine p_goto (tgt := 33) dX7_bestSite_159 (by decide) ?_
          refine p_sub (lv' := [(0, .ref a), (1, .int (zi x1)), (2, .int (zi x2)), (3, .int (zi x3)), (4, .int (zi x4)), (5, .int (zi x5)), (6, .int (zi (zw (x6 + 1))))]) [2, 3, 4, 5, 6, 7, 0] (by simp only [zi_zw, zl_zwl]; rfl) ?_
          exact h
        · have h := h.2 b22
          refine p_iload dX7_bestSite_148 (q := 7) rfl ?_
          refine p_istore (lv' := [(4, .int (zi x6)), (7, .int (zi r19)), (0, .ref a), (1, .int (zi x1)), (2, .int (zi x2)), (3, .int (zi x3)), (5, .int (zi x5)), (6, .int (zi x6))]) dX7_bestSite_150 (by decide) rfl ?_
          refine p_iload dX7_bestSite_152 (q := 1) rfl ?_
          refine p_istore (lv' := [(5, .int (zi r19)), (4, .int (zi x6)), (7, .int (zi r19)), (0, .ref a), (1, .int (zi x1)), (2, .int (zi x2)), (3, .int (zi x3)), (6, .int (zi x6))]) dX7_bestSite_154 (by decide) rfl ?_
          refine p_iinc (q := 7) (lv' := [(6, .int (zi (x6 + 1))), (5, .int (zi r19)), (4, .int (zi x6)), (7, .int (zi r19)), (0, .ref a), (1, .int (zi x1)), (2, .int (zi x2)), (3, .int (zi x3))]) dX7_bestSite_156 rfl (by decide) rfl ?_
          refine p_goto (tgt := 33) dX7_bestSite_159 (by decide) ?_
          refine p_sub (lv' := [(0, .ref a), (1, .int (zi x1)), (2, .int (zi x2)), (3, .int (zi x3)), (4, .int (zi x6)), (5, .int (zi r19)), (6, .int (zi (zw (x6 + 1))))]) [4, 5, 6, 7, 2, 1, 0] (by simp only [zi_zw, zl_zwl]; rfl) ?_
          exact h
set_option maxRecDepth 20000 in
set_option maxHeartbeats 4000000 in
theorem v_X7_appendText {g : zG} (G : zOK g) {S : zSh} {im : zIm} {a an as av at_ : Nat} {p1 : Int} {Q : Int → zIm → Prop} {X : String → zSh → zIm → Prop} (hS : zDep S a an as av at_) (c_p1 : zc p1)
    (h : zCI g yX5_isFull M_X5_isFull [.ref at_] S im (fun r1 im2 => ((r1 = 0 → zCV g yX5_append M_X5_append [.ref at_, .int (zi p1)] S im2 (fun im4 => Q (im4 at_ 0) im4)) ∧ (¬ r1 = 0 → X "java/lang/IllegalStateException" (zpush S 14 0) im2)))) :
    zCIx g yX7_appendText M_X7_appendText [.ref a, .int (zi p1)] S im Q X := by
  refine zC_of (by decide) rfl rfl rfl rfl (Nat.le_of_ble_eq_true rfl) ?_
  refine p_aload_n dX7_appendText_0 rfl (q := 0) rfl ?_
  refine p_getR G f_RX7_26 rfl hS.1 hS.2.2.2.2.1 dX7_appendText_1 ?_
  refine p_VI G k_RX7_231 (by decide) (hS.2.2.2.2.2.2.2.1 0 (by decide)).1 rfl rfl (Nat.le_of_ble_eq_true rfl) ⟨by decide, by decide⟩ ⟨by decide, by decide⟩ dX7_appendText_4 h (fun r1 im2 c3 h => ?_)
  refine p_if_eq (tgt := 20) dX7_appendText_7 (by decide) (nf_r c3) (fun b4 => ?_) (fun b4 => ?_)
  · have h := h.1 b4
    refine p_aload_n dX7_appendText_20 rfl (q := 0) rfl ?_
    refine p_getR G f_RX7_26 rfl hS.1 hS.2.2.2.2.1 dX7_appendText_21 ?_
    refine p_iload_n dX7_appendText_24 rfl (q := 1) rfl ?_
    refine p_VV G k_RX7_236 (by decide) (hS.2.2.2.2.2.2.2.1 0 (by decide)).1 rfl rfl (Nat.le_of_ble_eq_true rfl) ⟨by decide, by decide⟩ ⟨by decide, by decide⟩ dX7_appendText_25 h (fun im4 h => ?_)
    refine p_aload_n dX7_appendText_28 rfl (q := 0) rfl ?_
    refine p_getR G f_RX7_26 rfl hS.1 hS.2.2.2.2.1 dX7_appendText_29 ?_
    refine p_getI (j := 0) G f_RX7_239 rfl (hS.2.2.2.2.2.2.2.1 0 (by decide)).1 dX7_appendText_32 (fun c6 => ?_)
    exact p_iretI (by decide) (by decide) rfl (nf_r c6) dX7_appendText_35 h
  · have h := h.2 b4
    exact p_throwS G tw_ISE q_5_116 rfl (by decide) (Nat.le_of_ble_eq_true rfl) (by decide) (by decide) dX7_appendText_10 dX7_appendText_13 dX7_appendText_14 dX7_appendText_16 dX7_appendText_19 h
set_option maxRecDepth 20000 in
set_option maxHeartbeats 4000000 in
theorem v_X7_truncateText {g : zG} (G : zOK g) {S : zSh} {im : zIm} {a an as av at_ : Nat} {p1 : Int} {Q : Int → zIm → Prop} {X : String → zSh → zIm → Prop} (hS : zDep S a an as av at_) (c_p1 : zc p1)
    (h : zCVx g yX7_checkRange M_X7_checkRange [.int (zi p1), .int (zi 0), .int (zi (im at_ 0))] S im (fun im2 => ∀ im4, im4 = zst im2 at_ 0 p1 → Q p1 im4) X) :
    zCIx g yX7_truncateText M_X7_truncateText [.ref a, .int (zi p1)] S im Q X := by
  refine zC_of (by decide) rfl rfl rfl rfl (Nat.le_of_ble_eq_true rfl) ?_
  refine p_iload_n dX7_truncateText_0 rfl (q := 1) rfl ?_
  refine p_iconst dX7_truncateText_1 ?_
  refine p_aload_n dX7_truncateText_2 rfl (q := 0) rfl ?_
  refine p_getR G f_RX7_26 rfl hS.1 hS.2.2.2.2.1 dX7_truncateText_3 ?_
  refine p_getI (j := 0) G f_RX7_239 rfl (hS.2.2.2.2.2.2.2.1 0 (by decide)).1 dX7_truncateText_6 (fun c1 => ?_)
  refine p_SVx G rfl k_RX7_30 rfl rfl (Nat.le_of_ble_eq_true rfl) ⟨by decide, by decide⟩ ⟨by decide, by decide⟩ dX7_truncateText_9 h (fun im2 h => ?_)
  refine p_aload_n dX7_truncateText_12 rfl (q := 0) rfl ?_
  refine p_getR G f_RX7_26 rfl hS.1 hS.2.2.2.2.1 dX7_truncateText_13 ?_
  refine p_iload_n dX7_truncateText_16 rfl (q := 1) rfl ?_
  refine p_putI (j := 0) G f_RX7_239 rfl rfl rfl (hS.2.2.2.2.2.2.2.1 0 (by decide)).1 (nf_r c_p1) dX7_truncateText_17 ?_
  refine p_gen (fun im4 e5 => ?_)
  have h := h im4 e5
  refine p_iload_n dX7_truncateText_20 rfl (q := 1) rfl ?_
  exact p_iretI (by decide) (by decide) rfl (nf_r c_p1) dX7_truncateText_21 h
set_option maxRecDepth 20000 in
set_option maxHeartbeats 4000000 in
theorem v_X7_save {g : zG} (G : zOK g) {S : zSh} {im : zIm} {a : Nat} {p1 : Int} {Q : Option Value → zSh → zIm → Prop} {X : String → zSh → zIm → Prop} (c_p1 : zc p1)
    (h : zCVx g yX7_checkRange M_X7_checkRange [.int (zi p1), .int (zi 0), .int (zi 1)] S im (fun im1 => (zkd S a = 7 ∧ (∃ b4, zrf S a 2 = some b4 ∧ (zkd S b4 = 13 ∧ ((0 ≤ (p1 : Int) ∧ (p1 : Int) < (zln S b4 : Int)) ∧ ((zrf S b4 (p1).toNat = none → ∀ o9, o9 = ztop S → ∀ S11, S11 = zpush S 2 0 → ∀ im13, im13 = zsr im1 o9 (fun _ => 0) → zC g yX2_init M_X2_init [.ref o9] S11 im13 (fun v17 S16 im15 => v17 = none ∧ (zkd S16 a = 7 ∧ (∃ b19, zrf S16 a 2 = some b19 ∧ (zkd S16 b19 = 13 ∧ (zkd S16 o9 = 2 ∧ ((0 ≤ (p1 : Int) ∧ (p1 : Int) < (zln S16 b19 : Int)) ∧ ∀ S23, S23 = zsf S16 b19 (p1).toNat (some o9) → (zkd S23 a = 7 ∧ (∃ b26, zrf S23 a 0 = some b26 ∧ (zkd S23 o9 = 2 ∧ zCV g yX2_copyFrom M_X2_copyFrom [.ref o9, .ref b26] S23 im15 (fun im29 => Q none S23 im29)))))))))) zX0) ∧ (∀ b7, zrf S b4 (p1).toNat = some b7 → (∃ b9, zrf S a 0 = some b9 ∧ (zkd S b7 = 2 ∧ zCV g yX2_copyFrom M_X2_copyFrom [.ref b7, .ref b9] S im1 (fun im12 => Q none S im12)))))))))) X) :
    zC g yX7_save M_X7_save [.ref a, .int (zi p1)] S im Q X := by
  refine zC_of (by decide) rfl rfl rfl rfl (Nat.le_of_ble_eq_true rfl) ?_
  refine p_iload_n dX7_save_0 rfl (q := 1) rfl ?_
  refine p_iconst dX7_save_1 ?_
  refine p_iconst dX7_save_2 ?_
  refine p_SVx G rfl k_RX7_30 rfl rfl (Nat.le_of_ble_eq_true rfl) ⟨by decide, by decide⟩ ⟨by decide, by decide⟩ dX7_save_3 h (fun im1 h => ?_)
  refine p_aload_n dX7_save_6 rfl (q := 0) rfl ?_
  have k3 := h.1
  have h := h.2
  obtain ⟨b4, h5, h⟩ := h
  refine p_getR (b := b4) G f_RX7_19 rfl k3 h5 dX7_save_7 ?_
  refine p_iload_n dX7_save_10 rfl (q := 1) rfl ?_
  have k6 := h.1
  have h := h.2
  refine p_aald G k6 (nf_r c_p1) h.1.1 h.1.2 dX7_save_11 ?_
  have h := h.2
  cases h8 : zrf S b4 (p1).toNat with
  | none =>
    have h := h.1 h8
    refine p_astore_nN (lv' := [(2, .null), (0, .ref a), (1, .int (zi p1))]) dX7_save_12 rfl (by decide) rfl ?_
    refine p_aload_nN dX7_save_13 rfl (q := 0) rfl ?_
    refine p_ifnonnullN dX7_save_14 ?_
    refine p_new G (q := 2) (by decide) q_1_31 q_1_32 q_1_2 (by decide) (by decide) dX7_save_17 (zdef (by decide)) ?_
    obtain ⟨o9, e10⟩ : ∃ o, o = ztop S := ⟨_, rfl⟩
    rw [← e10]
    have h := h o9 e10
    refine p_genS (fun S11 e12 => ?_)
    have h := h S11 e12
    refine p_gen (fun im13 e14 => ?_)
    have h := h im13 e14
    refine p_dup dX7_save_20 rfl ?_
    refine p_I G k_RX7_11 rfl rfl (Nat.le_of_ble_eq_true rfl) ⟨by decide, by decide⟩ ⟨by decide, by decide⟩ dX7_save_21 h (fun v17 S16 im15 h => ?_)
    obtain ⟨rfl, h⟩ := h
    refine p_astore_n (lv' := [(2, .ref o9), (0, .ref a), (1, .int (zi p1))]) dX7_save_24 rfl (by decide) rfl ?_
    refine p_aload_n dX7_save_25 rfl (q := 1) rfl ?_
    have k18 := h.1
    have h := h.2
    obtain ⟨b19, h20, h⟩ := h
    refine p_getR (b := b19) G f_RX7_19 rfl k18 h20 dX7_save_26 ?_
    refine p_iload_n dX7_save_29 rfl (q := 2) rfl ?_
    refine p_aload_n dX7_save_30 rfl (q := 0) rfl ?_
    have k21 := h.1
    have h := h.2
    have k22 := h.1
    have h := h.2
    refine p_aast G k21 k22 (nf_r c_p1) h.1.1 h.1.2 dX7_save_31 ?_
    have h := h.2
    refine p_genS (fun S23 e24 => ?_)
    have h := h S23 e24
    refine p_aload_n dX7_save_32 rfl (q := 0) rfl ?_
    refine p_aload_n dX7_save_33 rfl (q := 1) rfl ?_
    have k25 := h.1
    have h := h.2
    obtain ⟨b26, h27, h⟩ := h
    refine p_getR (b := b26) G f_RX7_12 rfl k25 h27 dX7_save_34 ?_
    have k28 := h.1
    have h := h.2
    refine p_VV G k_RX7_227 (by decide) k28 rfl rfl (Nat.le_of_ble_eq_true rfl) ⟨by decide, by decide⟩ ⟨by decide, by decide⟩ dX7_save_37 h (fun im29 h => ?_)
    exact p_return (by decide) (by decide) rfl dX7_save_40 h
  | some b7 =>
    have h := h.2 b7 h8
    refine p_astore_n (lv' := [(2, .ref b7), (0, .ref a), (1, .int (zi p1))]) dX7_save_12 rfl (by decide) rfl ?_
    refine p_aload_n dX7_save_13 rfl (q := 0) rfl ?_
    refine p_ifnonnull (tgt := 32) dX7_save_14 (by decide) ?_
    refine p_aload_n dX7_save_32 rfl (q := 0) rfl ?_
    refine p_aload_n dX7_save_33 rfl (q := 1) rfl ?_
    obtain ⟨b9, h10, h⟩ := h
    refine p_getR (b := b9) G f_RX7_12 rfl k3 h10 dX7_save_34 ?_
    have k11 := h.1
    have h := h.2
    refine p_VV G k_RX7_227 (by decide) k11 rfl rfl (Nat.le_of_ble_eq_true rfl) ⟨by decide, by decide⟩ ⟨by decide, by decide⟩ dX7_save_37 h (fun im12 h => ?_)
    exact p_return (by decide) (by decide) rfl dX7_save_40 h
set_option maxRecDepth 20000 in
set_option maxHeartbeats 4000000 in
theorem v_X7_restore {g : zG} (G : zOK g) {S : zSh} {im : zIm} {a : Nat} {p1 : Int} {Q : Option Value → zSh → zIm → Prop} {X : String → zSh → zIm → Prop} (c_p1 : zc p1)
    (h : zCVx g yX7_checkRange M_X7_checkRange [.int (zi p1), .int (zi 0), .int (zi 1)] S im (fun im1 => (zkd S a = 7 ∧ (∃ b4, zrf S a 2 = some b4 ∧ (zkd S b4 = 13 ∧ ((0 ≤ (p1 : Int) ∧ (p1 : Int) < (zln S b4 : Int)) ∧ ((zrf S b4 (p1).toNat = none → X "java/lang/IllegalStateException" (zpush S 14 0) im1) ∧ (∀ b7, zrf S b4 (p1).toNat = some b7 → (∃ b9, zrf S a 0 = some b9 ∧ (zkd S b9 = 2 ∧ zCV g yX2_copyFrom M_X2_copyFrom [.ref b9, .ref b7] S im1 (fun im12 => Q none S im12)))))))))) X) :
    zC g yX7_restore M_X7_restore [.ref a, .int (zi p1)] S im Q X := by
  refine zC_of (by decide) rfl rfl rfl rfl (Nat.le_of_ble_eq_true rfl) ?_
  refine p_iload_n dX7_restore_0 rfl (q := 1) rfl ?_
  refine p_iconst dX7_restore_1 ?_
  refine p_iconst dX7_restore_2 ?_
  refine p_SVx G rfl k_RX7_30 rfl rfl (Nat.le_of_ble_eq_true rfl) ⟨by decide, by decide⟩ ⟨by decide, by decide⟩ dX7_restore_3 h (fun im1 h => ?_)
  refine p_aload_n dX7_restore_6 rfl (q := 0) rfl ?_
  have k3 := h.1
  have h := h.2
  obtain ⟨b4, h5, h⟩ := h
  refine p_getR (b := b4) G f_RX7_19 rfl k3 h5 dX7_restore_7 ?_
  refine p_iload_n dX7_restore_10 rfl (q := 1) rfl ?_
  have k6 := h.1
  have h := h.2
  refine p_aald G k6 (nf_r c_p1) h.1.1 h.1.2 dX7_restore_11 ?_
  have h := h.2
  cases h8 : zrf S b4 (p1).toNat with
  | none =>
    have h := h.1 h8
    refine p_astore_nN (lv' := [(2, .null), (0, .ref a), (1, .int (zi p1))]) dX7_restore_12 rfl (by decide) rfl ?_
    refine p_aload_nN dX7_restore_13 rfl (q := 0) rfl ?_
    refine p_ifnonnullN dX7_restore_14 ?_
    exact p_throwS G tw_ISE q_5_143 rfl (by decide) (Nat.le_of_ble_eq_true rfl) (by decide) (by decide) dX7_restore_17 dX7_restore_20 dX7_restore_21 dX7_restore_23 dX7_restore_26 h
  | some b7 =>
    have h := h.2 b7 h8
    refine p_astore_n (lv' := [(2, .ref b7), (0, .ref a), (1, .int (zi p1))]) dX7_restore_12 rfl (by decide) rfl ?_
    refine p_aload_n dX7_restore_13 rfl (q := 0) rfl ?_
    refine p_ifnonnull (tgt := 27) dX7_restore_14 (by decide) ?_
    refine p_aload_n dX7_restore_27 rfl (q := 1) rfl ?_
    obtain ⟨b9, h10, h⟩ := h
    refine p_getR (b := b9) G f_RX7_12 rfl k3 h10 dX7_restore_28 ?_
    refine p_aload_n dX7_restore_31 rfl (q := 0) rfl ?_
    have k11 := h.1
    have h := h.2
    refine p_VV G k_RX7_227 (by decide) k11 rfl rfl (Nat.le_of_ble_eq_true rfl) ⟨by decide, by decide⟩ ⟨by decide, by decide⟩ dX7_restore_32 h (fun im12 h => ?_)
    exact p_return (by decide) (by decide) rfl dX7_restore_35 h
