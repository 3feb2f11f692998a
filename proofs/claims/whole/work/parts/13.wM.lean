set_option maxRecDepth 20000 in
set_option maxHeartbeats 4000000 in
theorem v_X8_init {g : zG} (G : zOK g) {S : zSh} {im : zIm} {a : Nat} {Q : Option Value → zSh → zIm → Prop}  
    (h : ∀ o1, o1 = ztop S → ∀ S3, S3 = zpush S 9 7692 → ∀ im5, im5 = zsr im o1 (fun _ => 0) → (zkd S3 a = 8 ∧ ∀ S8, S8 = zsf S3 a 0 (some o1) → ∀ o10, o10 = ztop S8 → ∀ S12, S12 = zpush S8 9 7692 → ∀ im14, im14 = zsr im5 o10 (fun _ => 0) → (zkd S12 a = 8 ∧ ∀ S17, S17 = zsf S12 a 1 (some o10) → ∀ o19, o19 = ztop S17 → ∀ S21, S21 = zpush S17 9 15384 → ∀ im23, im23 = zsr im14 o19 (fun _ => 0) → (zkd S21 a = 8 ∧ ∀ S26, S26 = zsf S21 a 2 (some o19) → ∀ o28, o28 = ztop S26 → ∀ S30, S30 = zpush S26 11 2 → ∀ im32, im32 = zsr im23 o28 (fun _ => 0) → (zkd S30 a = 8 ∧ ∀ S35, S35 = zsf S30 a 3 (some o28) → ∀ o37, o37 = ztop S35 → ∀ S39, S39 = zpush S35 9 500 → ∀ im41, im41 = zsr im32 o37 (fun _ => 0) → (zkd S39 a = 8 ∧ ∀ S44, S44 = zsf S39 a 6 (some o37) → (zkd S44 a = 8 ∧ ∀ im47, im47 = zst im41 a 14 (-1) → (∃ b49, zrf S44 a 0 = some b49 ∧ (zkd S44 b49 = 9 ∧ ((0 ≤ (3 : Int) ∧ (3 : Int) < (zln S44 b49 : Int)) ∧ ∀ im52, im52 = zst im47 b49 3 1 → Q none S44 im52)))))))))) :
    zC g yX8_init M_X8_init [.ref a] S im Q zX0 := by
  refine zC_of (by decide) rfl rfl rfl rfl (Nat.le_of_ble_eq_true rfl) ?_
  refine p_aload_n dX8_init_0 rfl (q := 0) rfl ?_
  refine p_objInit G q_5_149 q_1_29 q_1_30 (by decide) (Nat.le_of_ble_eq_true rfl) dX8_init_1 ?_
  refine p_aload_n dX8_init_4 rfl (q := 0) rfl ?_
  refine p_sipush dX8_init_5 (by decide) ?_
  refine p_newI G (N := 7692) (nf_k (by decide)) (by decide) (Nat.le_of_ble_eq_true rfl) (by decide) (by decide) dX8_init_8 ?_
  obtain ⟨o1, e2⟩ : ∃ o, o = ztop S := ⟨_, rfl⟩
  rw [← e2]
  have h := h o1 e2
  refine p_genS (fun S3 e4 => ?_)
  have h := h S3 e4
  refine p_gen (fun im5 e6 => ?_)
  have h := h im5 e6
  have k7 := h.1
  have h := h.2
  refine p_putF (b := o1) (j := 0) G f_RX8_7 rfl rfl rfl rfl k7 rfl rfl dX8_init_10 ?_
  refine p_genS (fun S8 e9 => ?_)
  have h := h S8 e9
  refine p_aload_n dX8_init_13 rfl (q := 0) rfl ?_
  refine p_sipush dX8_init_14 (by decide) ?_
  refine p_newI G (N := 7692) (nf_k (by decide)) (by decide) (Nat.le_of_ble_eq_true rfl) (by decide) (by decide) dX8_init_17 ?_
  obtain ⟨o10, e11⟩ : ∃ o, o = ztop S8 := ⟨_, rfl⟩
  rw [← e11]
  have h := h o10 e11
  refine p_genS (fun S12 e13 => ?_)
  have h := h S12 e13
  refine p_gen (fun im14 e15 => ?_)
  have h := h im14 e15
  have k16 := h.1
  have h := h.2
  refine p_putF (b := o10) (j := 1) G f_RX8_13 rfl rfl rfl rfl k16 rfl rfl dX8_init_19 ?_
  refine p_genS (fun S17 e18 => ?_)
  have h := h S17 e18
  refine p_aload_n dX8_init_22 rfl (q := 0) rfl ?_
  refine p_sipush dX8_init_23 (by decide) ?_
  refine p_newI G (N := 15384) (nf_k (by decide)) (by decide) (Nat.le_of_ble_eq_true rfl) (by decide) (by decide) dX8_init_26 ?_
  obtain ⟨o19, e20⟩ : ∃ o, o = ztop S17 := ⟨_, rfl⟩
  rw [← e20]
  have h := h o19 e20
  refine p_genS (fun S21 e22 => ?_)
  have h := h S21 e22
  refine p_gen (fun im23 e24 => ?_)
  have h := h im23 e24
  have k25 := h.1
  have h := h.2
  refine p_putF (b := o19) (j := 2) G f_RX8_16 rfl rfl rfl rfl k25 rfl rfl dX8_init_28 ?_
  refine p_genS (fun S26 e27 => ?_)
  have h := h S26 e27
  refine p_aload_n dX8_init_31 rfl (q := 0) rfl ?_
  refine p_iconst dX8_init_32 ?_
  refine p_newZ G (N := 2) (nf_k (by decide)) (by decide) (Nat.le_of_ble_eq_true rfl) (by decide) (by decide) dX8_init_33 ?_
  obtain ⟨o28, e29⟩ : ∃ o, o = ztop S26 := ⟨_, rfl⟩
  rw [← e29]
  have h := h o28 e29
  refine p_genS (fun S30 e31 => ?_)
  have h := h S30 e31
  refine p_gen (fun im32 e33 => ?_)
  have h := h im32 e33
  have k34 := h.1
  have h := h.2
  refine p_putF (b := o28) (j := 3) G f_RX8_19 rfl rfl rfl rfl k34 rfl rfl dX8_init_35 ?_
  refine p_genS (fun S35 e36 => ?_)
  have h := h S35 e36
  refine p_aload_n dX8_init_38 rfl (q := 0) rfl ?_
  refine p_sipush dX8_init_39 (by decide) ?_
  refine p_newI G (N := 500) (nf_k (by decide)) (by decide) (Nat.le_of_ble_eq_true rfl) (by decide) (by decide) dX8_init_42 ?_
  obtain ⟨o37, e38⟩ : ∃ o, o = ztop S35 := ⟨_, rfl⟩
  rw [← e38]
  have h := h o37 e38
  refine p_genS (fun S39 e40 => ?_)
  have h := h S39 e40
  refine p_gen (fun im41 e42 => ?_)
  have h := h im41 e42
  have k43 := h.1
  have h := h.2
  refine p_putF (b := o37) (j := 6) G f_RX8_23 rfl rfl rfl rfl k43 rfl rfl dX8_init_44 ?_
  refine p_genS (fun S44 e45 => ?_)
  have h := h S44 e45
  refine p_aload_n dX8_init_47 rfl (q := 0) rfl ?_
  refine p_iconst dX8_init_48 ?_
  have k46 := h.1
  have h := h.2
  refine p_putI (j := 14) G f_RX8_26 rfl rfl rfl k46 (nf_k (by decide)) dX8_init_49 ?_
  refine p_gen (fun im47 e48 => ?_)
  have h := h im47 e48
  refine p_aload_n dX8_init_52 rfl (q := 0) rfl ?_
  obtain ⟨b49, h50, h⟩ := h
  refine p_getR (b := b49) G f_RX8_7 rfl k46 h50 dX8_init_53 ?_
  refine p_iconst dX8_init_56 ?_
  refine p_iconst dX8_init_57 ?_
  have k51 := h.1
  have h := h.2
  refine p_iast G k51 (nf_k (by decide)) h.1.1 h.1.2 (nf_k (by decide)) dX8_init_58 ?_
  have h := h.2
  refine p_gen (fun im52 e53 => ?_)
  have h := h im52 e53
  exact p_return (by decide) (by decide) rfl dX8_init_59 h
set_option maxRecDepth 20000 in
set_option maxHeartbeats 4000000 in
theorem v_X8_thrown {g : zG} (G : zOK g) {S : zSh} {im : zIm} {a : Nat} {Q : Int → zIm → Prop} (hS : zS_M S a)
    (h : Q (im a 4) im) :
    zCI g yX8_thrown M_X8_thrown [.ref a] S im Q := by
  refine zC_of (by decide) rfl rfl rfl rfl (Nat.le_of_ble_eq_true rfl) ?_
  refine p_aload_n dX8_thrown_0 rfl (q := 0) rfl ?_
  refine p_getI (j := 4) G f_RX8_30 rfl (hS 0 (by decide)).1 dX8_thrown_1 (fun c1 => ?_)
  exact p_iretI (by decide) (by decide) rfl (nf_r c1) dX8_thrown_4 h
set_option maxRecDepth 20000 in
set_option maxHeartbeats 4000000 in
theorem v_X8_isBetween {g : zG} (G : zOK g) {S : zSh} {im : zIm} {p1 : Int} {p2 : Int} {p3 : Int} {Q : Int → zIm → Prop} (c_p1 : zc p1) (c_p2 : zc p2) (c_p3 : zc p3)
    (h : ((p1 < p2 → Q 0 im) ∧ (p2 ≤ p1 → ((p3 < p1 → Q 0 im) ∧ (p1 ≤ p3 → Q 1 im))))) :
    zCI g yX8_isBetween M_X8_isBetween [.int (zi p1), .int (zi p2), .int (zi p3)] S im Q := by
  refine zC_of (by decide) rfl rfl rfl rfl (Nat.le_of_ble_eq_true rfl) ?_
  refine p_iload_n dX8_isBetween_0 rfl (q := 0) rfl ?_
  refine p_iload_n dX8_isBetween_1 rfl (q := 1) rfl ?_
  refine p_icmp_lt (tgt := 14) dX8_isBetween_2 (by decide) (nf_r c_p1) (nf_r c_p2) (fun b1 => ?_) (fun b1 => ?_)
  · have h := h.1 b1
    refine p_iconst dX8_isBetween_14 ?_
    exact p_zretI (by decide) (by decide) rfl (nf_k (by decide)) (by decide) dX8_isBetween_15 h
  · have h := h.2 b1
    refine p_iload_n dX8_isBetween_5 rfl (q := 0) rfl ?_
    refine p_iload_n dX8_isBetween_6 rfl (q := 2) rfl ?_
    refine p_icmp_gt (tgt := 14) dX8_isBetween_7 (by decide) (nf_r c_p1) (nf_r c_p3) (fun b1 => ?_) (fun b1 => ?_)
    · have h := h.1 b1
      refine p_iconst dX8_isBetween_14 ?_
      exact p_zretI (by decide) (by decide) rfl (nf_k (by decide)) (by decide) dX8_isBetween_15 h
    · have h := h.2 b1
      refine p_iconst dX8_isBetween_10 ?_
      refine p_goto (tgt := 15) dX8_isBetween_11 (by decide) ?_
      exact p_zretI (by decide) (by decide) rfl (nf_k (by decide)) (by decide) dX8_isBetween_15 h
set_option maxRecDepth 20000 in
set_option maxHeartbeats 4000000 in
theorem v_X8_fail {g : zG} (G : zOK g) {S : zSh} {im : zIm} {a : Nat} {p1 : Int} {Q : Int → zIm → Prop} (hS : zS_M S a) (c_p1 : zc p1)
    (h : ∀ im1, im1 = zst im a 4 p1 → Q 0 im1) :
    zCI g yX8_fail M_X8_fail [.ref a, .int (zi p1)] S im Q := by
  refine zC_of (by decide) rfl rfl rfl rfl (Nat.le_of_ble_eq_true rfl) ?_
  refine p_aload_n dX8_fail_0 rfl (q := 0) rfl ?_
  refine p_iload_n dX8_fail_1 rfl (q := 1) rfl ?_
  refine p_putI (j := 4) G f_RX8_30 rfl rfl rfl (hS 0 (by decide)).1 (nf_r c_p1) dX8_fail_2 ?_
  refine p_gen (fun im1 e2 => ?_)
  have h := h im1 e2
  refine p_iconst dX8_fail_5 ?_
  exact p_iretI (by decide) (by decide) rfl (nf_k (by decide)) dX8_fail_6 h
set_option maxRecDepth 20000 in
set_option maxHeartbeats 4000000 in
theorem v_X8_append {g : zG} (G : zOK g) {S : zSh} {im : zIm} {a : Nat} {p1 : Int} {p2 : Int} {p3 : Int} {Q : Int → zIm → Prop} (hS : zS_M S a) (c_p1 : zc p1) (c_p2 : zc p2) (c_p3 : zc p3)
    (h : ((0 ≤ p1 ∧ p1 < 7692) ∧ ∀ im3, im3 = zst im (a + 1) p1 (zw ((im (a + 1) p1) + 1)) → Q (zw (p2 + (p3 * ((im3 (a + 1) p1) - 1)))) im3)) :
    zCI g yX8_append M_X8_append [.ref a, .int (zi p1), .int (zi p2), .int (zi p3)] S im Q := by
  refine zC_of (by decide) rfl rfl rfl rfl (Nat.le_of_ble_eq_true rfl) ?_
  refine p_aload_n dX8_append_0 rfl (q := 0) rfl ?_
  refine p_getR (b := (a + 1)) G f_RX8_7 rfl (hS 0 (by decide)).1 ((hS 0 (by decide)).2.2 0 (by decide)) dX8_append_1 ?_
  refine p_iload_n dX8_append_4 rfl (q := 1) rfl ?_
  refine p_dup2 dX8_append_5 rfl rfl ?_
  have g2 := h.1
  have h := h.2
  refine p_iald G (hS 1 (by decide)).1 (nf_r c_p1) g2.1 (zln_lt (hS 1 (by decide)).2.1 g2.2) dX8_append_6 (fun c1 => ?_)
  refine p_iconst dX8_append_7 ?_
  refine p_iadd dX8_append_8 ?_
  refine p_iast G (hS 1 (by decide)).1 (nf_r c_p1) g2.1 (zln_lt (hS 1 (by decide)).2.1 g2.2) (nf_w _) dX8_append_9 ?_
  refine p_gen (fun im3 e4 => ?_)
  have h := h im3 e4
  refine p_iload_n dX8_append_10 rfl (q := 2) rfl ?_
  refine p_iload_n dX8_append_11 rfl (q := 3) rfl ?_
  refine p_aload_n dX8_append_12 rfl (q := 0) rfl ?_
  refine p_getR (b := (a + 1)) G f_RX8_7 rfl (hS 0 (by decide)).1 ((hS 0 (by decide)).2.2 0 (by decide)) dX8_append_13 ?_
  refine p_iload_n dX8_append_16 rfl (q := 1) rfl ?_
  refine p_iald G (hS 1 (by decide)).1 (nf_r c_p1) g2.1 (zln_lt (hS 1 (by decide)).2.1 g2.2) dX8_append_17 (fun c5 => ?_)
  refine p_iconst dX8_append_18 ?_
  refine p_isub dX8_append_19 ?_
  refine p_imul dX8_append_20 ?_
  refine p_iadd dX8_append_21 ?_
  exact p_iretI (by decide) (by decide) rfl (nf_w _) dX8_append_22 h
set_option maxRecDepth 20000 in
set_option maxHeartbeats 4000000 in
theorem v_X8_appendItem {g : zG} (G : zOK g) {S : zSh} {im : zIm} {a : Nat} {p1 : Int} {p2 : Int} {p3 : Int} {Q : Int → zIm → Prop} (hS : zS_M S a) (c_p1 : zc p1) (c_p2 : zc p2) (c_p3 : zc p3)
    (h : zCI g yX8_append M_X8_append [.ref a, .int (zi 2), .int (zi 8), .int (zi 3)] S im (fun r1 im2 => ((0 ≤ (zw (r1 + 0)) ∧ (zw (r1 + 0)) < 7692) ∧ ∀ im4, im4 = zst im2 (a + 1) (zw (r1 + 0)) p1 → ((0 ≤ (zw (r1 + 1)) ∧ (zw (r1 + 1)) < 7692) ∧ ∀ im7, im7 = zst im4 (a + 1) (zw (r1 + 1)) p2 → ((0 ≤ (zw (r1 + 2)) ∧ (zw (r1 + 2)) < 7692) ∧ ∀ im10, im10 = zst im7 (a + 1) (zw (r1 + 2)) p3 → Q (zw ((im10 (a + 1) 2) - 1)) im10))))) :
    zCI g yX8_appendItem M_X8_appendItem [.ref a, .int (zi p1), .int (zi p2), .int (zi p3)] S im Q := by
  refine zC_of (by decide) rfl rfl rfl rfl (Nat.le_of_ble_eq_true rfl) ?_
  refine p_aload_n dX8_appendItem_0 rfl (q := 0) rfl ?_
  refine p_iconst dX8_appendItem_1 ?_
  refine p_bipush dX8_appendItem_2 (by decide) ?_
  refine p_iconst dX8_appendItem_4 ?_
  refine p_VI G k_RX8_37 (by decide) (hS 0 (by decide)).1 rfl rfl (Nat.le_of_ble_eq_true rfl) ⟨by decide, by decide⟩ ⟨by decide, by decide⟩ dX8_appendItem_5 h (fun r1 im2 c3 h => ?_)
  refine p_istore (lv' := [(4, .int (zi r1)), (0, .ref a), (1, .int (zi p1)), (2, .int (zi p2)), (3, .int (zi p3))]) dX8_appendItem_8 (by decide) rfl ?_
  refine p_aload_n dX8_appendItem_10 rfl (q := 1) rfl ?_
  refine p_getR (b := (a + 1)) G f_RX8_7 rfl (hS 0 (by decide)).1 ((hS 0 (by decide)).2.2 0 (by decide)) dX8_appendItem_11 ?_
  refine p_iload dX8_appendItem_14 (q := 0) rfl ?_
  refine p_iconst dX8_appendItem_16 ?_
  refine p_iadd dX8_appendItem_17 ?_
  refine p_iload_n dX8_appendItem_18 rfl (q := 2) rfl ?_
  have g6 := h.1
  have h := h.2
  refine p_iast G (hS 1 (by decide)).1 (nf_w _) g6.1 (zln_lt (hS 1 (by decide)).2.1 g6.2) (nf_r c_p1) dX8_appendItem_19 ?_
  refine p_gen (fun im4 e5 => ?_)
  have h := h im4 e5
  refine p_aload_n dX8_appendItem_20 rfl (q := 1) rfl ?_
  refine p_getR (b := (a + 1)) G f_RX8_7 rfl (hS 0 (by decide)).1 ((hS 0 (by decide)).2.2 0 (by decide)) dX8_appendItem_21 ?_
  refine p_iload dX8_appendItem_24 (q := 0) rfl ?_
  refine p_iconst dX8_appendItem_26 ?_
  refine p_iadd dX8_appendItem_27 ?_
  refine p_iload_n dX8_appendItem_28 rfl (q := 3) rfl ?_
  have g9 := h.1
  have h := h.2
  refine p_iast G (hS 1 (by decide)).1 (nf_w _) g9.1 (zln_lt (hS 1 (by decide)).2.1 g9.2) (nf_r c_p2) dX8_appendItem_29 ?_
  refine p_gen (fun im7 e8 => ?_)
  have h := h im7 e8
  refine p_aload_n dX8_appendItem_30 rfl (q := 1) rfl ?_
  refine p_getR (b := (a + 1)) G f_RX8_7 rfl (hS 0 (by decide)).1 ((hS 0 (by decide)).2.2 0 (by decide)) dX8_appendItem_31 ?_
  refine p_iload dX8_appendItem_34 (q := 0) rfl ?_
  refine p_iconst dX8_appendItem_36 ?_
  refine p_iadd dX8_appendItem_37 ?_
  refine p_iload_n dX8_appendItem_38 rfl (q := 4) rfl ?_
  have g12 := h.1
  have h := h.2
  refine p_iast G (hS 1 (by decide)).1 (nf_w _) g12.1 (zln_lt (hS 1 (by decide)).2.1 g12.2) (nf_r c_p3) dX8_appendItem_39 ?_
  refine p_gen (fun im10 e11 => ?_)
  have h := h im10 e11
  refine p_aload_n dX8_appendItem_40 rfl (q := 1) rfl ?_
  refine p_getR (b := (a + 1)) G f_RX8_7 rfl (hS 0 (by decide)).1 ((hS 0 (by decide)).2.2 0 (by decide)) dX8_appendItem_41 ?_
  refine p_iconst dX8_appendItem_44 ?_
  refine p_iald G (hS 1 (by decide)).1 (nf_k (by decide)) (by decide) (zln_lt (hS 1 (by decide)).2.1 (by decide)) dX8_appendItem_45 (fun c13 => ?_)
  refine p_iconst dX8_appendItem_46 ?_
  refine p_isub dX8_appendItem_47 ?_
  exact p_iretI (by decide) (by decide) rfl (nf_w _) dX8_appendItem_48 h
set_option maxRecDepth 20000 in
set_option maxHeartbeats 4000000 in
theorem v_X8_addItem {g : zG} (G : zOK g) {S : zSh} {im : zIm} {a : Nat} {p1 : Int} {p2 : Int} {p3 : Int} {Q : Int → zIm → Prop} (hS : zS_M S a) (c_p1 : zc p1) (c_p2 : zc p2) (c_p3 : zc p3)
    (h : ∀ im1, im1 = zst im a 4 0 → zCI g yX8_isBetween M_X8_isBetween [.int (zi p1), .int (zi 1), .int (zi 30)] S im1 (fun r3 im4 => ((r3 = 0 → zCI g yX8_fail M_X8_fail [.ref a, .int (zi 1)] S im4 (fun r6 im7 => Q r6 im7)) ∧ (¬ r3 = 0 → zCI g yX8_isBetween M_X8_isBetween [.int (zi p2), .int (zi 1), .int (zi 5)] S im4 (fun r6 im7 => ((r6 = 0 → zCI g yX8_fail M_X8_fail [.ref a, .int (zi 1)] S im7 (fun r9 im10 => Q r9 im10)) ∧ (¬ r6 = 0 → zCI g yX8_isBetween M_X8_isBetween [.int (zi p3), .int (zi 1), .int (zi 30)] S im7 (fun r9 im10 => ((¬ r9 = 0 → ((¬ (im10 (a + 1) 2) = 4 → zCI g yX8_appendItem M_X8_appendItem [.ref a, .int (zi p1), .int (zi p2), .int (zi p3)] S im10 (fun r13 im14 => Q r13 im14)) ∧ ((im10 (a + 1) 2) = 4 → zCI g yX8_fail M_X8_fail [.ref a, .int (zi 2)] S im10 (fun r13 im14 => Q r13 im14)))) ∧ (r9 = 0 → zCI g yX8_fail M_X8_fail [.ref a, .int (zi 1)] S im10 (fun r12 im13 => Q r12 im13))))))))))) :
    zCI g yX8_addItem M_X8_addItem [.ref a, .int (zi p1), .int (zi p2), .int (zi p3)] S im Q := by
  refine zC_of (by decide) rfl rfl rfl rfl (Nat.le_of_ble_eq_true rfl) ?_
  refine p_aload_n dX8_addItem_0 rfl (q := 0) rfl ?_
  refine p_iconst dX8_addItem_1 ?_
  refine p_putI (j := 4) G f_RX8_30 rfl rfl rfl (hS 0 (by decide)).1 (nf_k (by decide)) dX8_addItem_2 ?_
  refine p_gen (fun im1 e2 => ?_)
  have h := h im1 e2
  refine p_iload_n dX8_addItem_5 rfl (q := 1) rfl ?_
  refine p_iconst dX8_addItem_6 ?_
  refine p_bipush dX8_addItem_7 (by decide) ?_
  refine p_SI G k_RX8_33 rfl rfl (Nat.le_of_ble_eq_true rfl) ⟨by decide, by decide⟩ ⟨by decide, by decide⟩ dX8_addItem_9 h (fun r3 im4 c5 h => ?_)
  refine p_if_eq (tgt := 34) dX8_addItem_12 (by decide) (nf_r c5) (fun b6 => ?_) (fun b6 => ?_)
  · have h := h.1 b6
    refine p_aload_n dX8_addItem_34 rfl (q := 0) rfl ?_
    refine p_iconst dX8_addItem_35 ?_
    refine p_VI G k_RX8_41 (by decide) (hS 0 (by decide)).1 rfl rfl (Nat.le_of_ble_eq_true rfl) ⟨by decide, by decide⟩ ⟨by decide, by decide⟩ dX8_addItem_36 h (fun r6 im7 c8 h => ?_)
    exact p_iretI (by decide) (by decide) rfl (nf_r c8) dX8_addItem_39 h
  · have h := h.2 b6
    refine p_iload_n dX8_addItem_15 rfl (q := 2) rfl ?_
    refine p_iconst dX8_addItem_16 ?_
    refine p_iconst dX8_addItem_17 ?_
    refine p_SI G k_RX8_33 rfl rfl (Nat.le_of_ble_eq_true rfl) ⟨by decide, by decide⟩ ⟨by decide, by decide⟩ dX8_addItem_18 h (fun r6 im7 c8 h => ?_)
    refine p_if_eq (tgt := 34) dX8_addItem_21 (by decide) (nf_r c8) (fun b9 => ?_) (fun b9 => ?_)
    · have h := h.1 b9
      refine p_aload_n dX8_addItem_34 rfl (q := 0) rfl ?_
      refine p_iconst dX8_addItem_35 ?_
      refine p_VI G k_RX8_41 (by decide) (hS 0 (by decide)).1 rfl rfl (Nat.le_of_ble_eq_true rfl) ⟨by decide, by decide⟩ ⟨by decide, by decide⟩ dX8_addItem_36 h (fun r9 im10 c11 h => ?_)
      exact p_iretI (by decide) (by decide) rfl (nf_r c11) dX8_addItem_39 h
    · have h := h.2 b9
      refine p_iload_n dX8_addItem_24 rfl (q := 3) rfl ?_
      refine p_iconst dX8_addItem_25 ?_
      refine p_bipush dX8_addItem_26 (by decide) ?_
      refine p_SI G k_RX8_33 rfl rfl (Nat.le_of_ble_eq_true rfl) ⟨by decide, by decide⟩ ⟨by decide, by decide⟩ dX8_addItem_28 h (fun r9 im10 c11 h => ?_)
      refine p_if_ne (tgt := 40) dX8_addItem_31 (by decide) (nf_r c11) (fun b12 => ?_) (fun b12 => ?_)
      · have h := h.1 b12
        refine p_aload_n dX8_addItem_40 rfl (q := 0) rfl ?_
        refine p_getR (b := (a + 1)) G f_RX8_7 rfl (hS 0 (by decide)).1 ((hS 0 (by decide)).2.2 0 (by decide)) dX8_addItem_41 ?_
        refine p_iconst dX8_addItem_44 ?_
        refine p_iald G (hS 1 (by decide)).1 (nf_k (by decide)) (by decide) (zln_lt (hS 1 (by decide)).2.1 (by decide)) dX8_addItem_45 (fun c12 => ?_)
        refine p_iconst dX8_addItem_46 ?_
        refine p_icmp_ne (tgt := 58) dX8_addItem_47 (by decide) (nf_r c12) (nf_k (by decide)) (fun b13 => ?_) (fun b13 => ?_)
        · have h := h.1 b13
          refine p_aload_n dX8_addItem_58 rfl (q := 0) rfl ?_
          refine p_iload_n dX8_addItem_59 rfl (q := 1) rfl ?_
          refine p_iload_n dX8_addItem_60 rfl (q := 2) rfl ?_
          refine p_iload_n dX8_addItem_61 rfl (q := 3) rfl ?_
          refine p_VI G k_RX8_45 (by decide) (hS 0 (by decide)).1 rfl rfl (Nat.le_of_ble_eq_true rfl) ⟨by decide, by decide⟩ ⟨by decide, by decide⟩ dX8_addItem_62 h (fun r13 im14 c15 h => ?_)
          exact p_iretI (by decide) (by decide) rfl (nf_r c15) dX8_addItem_65 h
        · have h := h.2 b13
          refine p_aload_n dX8_addItem_50 rfl (q := 0) rfl ?_
          refine p_iconst dX8_addItem_51 ?_
          refine p_VI G k_RX8_41 (by decide) (hS 0 (by decide)).1 rfl rfl (Nat.le_of_ble_eq_true rfl) ⟨by decide, by decide⟩ ⟨by decide, by decide⟩ dX8_addItem_52 h (fun r13 im14 c15 h => ?_)
          refine p_goto (tgt := 65) dX8_addItem_55 (by decide) ?_
          exact p_iretI (by decide) (by decide) rfl (nf_r c15) dX8_addItem_65 h
      · have h := h.2 b12
        refine p_aload_n dX8_addItem_34 rfl (q := 0) rfl ?_
        refine p_iconst dX8_addItem_35 ?_
        refine p_VI G k_RX8_41 (by decide) (hS 0 (by decide)).1 rfl rfl (Nat.le_of_ble_eq_true rfl) ⟨by decide, by decide⟩ ⟨by decide, by decide⟩ dX8_addItem_36 h (fun r12 im13 c14 h => ?_)
        exact p_iretI (by decide) (by decide) rfl (nf_r c14) dX8_addItem_39 h
set_option maxRecDepth 20000 in
set_option maxHeartbeats 4000000 in
theorem v_X8_appendBase {g : zG} (G : zOK g) {S : zSh} {im : zIm} {a : Nat} {p1 : Int} {Q : Int → zIm → Prop} (hS : zS_M S a) (c_p1 : zc p1)
    (h : ((0 ≤ (zw (20 + (im (a + 1) 3))) ∧ (zw (20 + (im (a + 1) 3))) < 7692) ∧ ∀ im2, im2 = zst im (a + 1) (zw (20 + (im (a + 1) 3))) p1 → ∀ im6, im6 = zst im2 (a + 1) 3 (zw ((im2 (a + 1) 3) + 1)) → Q (zw ((im6 (a + 1) 3) - 1)) im6)) :
    zCI g yX8_appendBase M_X8_appendBase [.ref a, .int (zi p1)] S im Q := by
  refine zC_of (by decide) rfl rfl rfl rfl (Nat.le_of_ble_eq_true rfl) ?_
  refine p_aload_n dX8_appendBase_0 rfl (q := 0) rfl ?_
  refine p_getR (b := (a + 1)) G f_RX8_7 rfl (hS 0 (by decide)).1 ((hS 0 (by decide)).2.2 0 (by decide)) dX8_appendBase_1 ?_
  refine p_bipush dX8_appendBase_4 (by decide) ?_
  refine p_aload_n dX8_appendBase_6 rfl (q := 0) rfl ?_
  refine p_getR (b := (a + 1)) G f_RX8_7 rfl (hS 0 (by decide)).1 ((hS 0 (by decide)).2.2 0 (by decide)) dX8_appendBase_7 ?_
  refine p_iconst dX8_appendBase_10 ?_
  refine p_iald G (hS 1 (by decide)).1 (nf_k (by decide)) (by decide) (zln_lt (hS 1 (by decide)).2.1 (by decide)) dX8_appendBase_11 (fun c1 => ?_)
  refine p_iadd dX8_appendBase_12 ?_
  refine p_iload_n dX8_appendBase_13 rfl (q := 1) rfl ?_
  have g4 := h.1
  have h := h.2
  refine p_iast G (hS 1 (by decide)).1 (nf_w _) g4.1 (zln_lt (hS 1 (by decide)).2.1 g4.2) (nf_r c_p1) dX8_appendBase_14 ?_
  refine p_gen (fun im2 e3 => ?_)
  have h := h im2 e3
  refine p_aload_n dX8_appendBase_15 rfl (q := 0) rfl ?_
  refine p_getR (b := (a + 1)) G f_RX8_7 rfl (hS 0 (by decide)).1 ((hS 0 (by decide)).2.2 0 (by decide)) dX8_appendBase_16 ?_
  refine p_iconst dX8_appendBase_19 ?_
  refine p_dup2 dX8_appendBase_20 rfl rfl ?_
  refine p_iald G (hS 1 (by decide)).1 (nf_k (by decide)) (by decide) (zln_lt (hS 1 (by decide)).2.1 (by decide)) dX8_appendBase_21 (fun c5 => ?_)
  refine p_iconst dX8_appendBase_22 ?_
  refine p_iadd dX8_appendBase_23 ?_
  refine p_iast G (hS 1 (by decide)).1 (nf_k (by decide)) (by decide) (zln_lt (hS 1 (by decide)).2.1 (by decide)) (nf_w _) dX8_appendBase_24 ?_
  refine p_gen (fun im6 e7 => ?_)
  have h := h im6 e7
  refine p_aload_n dX8_appendBase_25 rfl (q := 0) rfl ?_
  refine p_getR (b := (a + 1)) G f_RX8_7 rfl (hS 0 (by decide)).1 ((hS 0 (by decide)).2.2 0 (by decide)) dX8_appendBase_26 ?_
  refine p_iconst dX8_appendBase_29 ?_
  refine p_iald G (hS 1 (by decide)).1 (nf_k (by decide)) (by decide) (zln_lt (hS 1 (by decide)).2.1 (by decide)) dX8_appendBase_30 (fun c8 => ?_)
  refine p_iconst dX8_appendBase_31 ?_
  refine p_isub dX8_appendBase_32 ?_
  exact p_iretI (by decide) (by decide) rfl (nf_w _) dX8_appendBase_33 h
set_option maxRecDepth 20000 in
set_option maxHeartbeats 4000000 in
theorem v_X8_addBase {g : zG} (G : zOK g) {S : zSh} {im : zIm} {a : Nat} {p1 : Int} {Q : Int → zIm → Prop} (hS : zS_M S a) (c_p1 : zc p1)
    (h : ∀ im1, im1 = zst im a 4 0 → zCI g yX8_isBetween M_X8_isBetween [.int (zi p1), .int (zi 1), .int (zi 20)] S im1 (fun r3 im4 => ((¬ r3 = 0 → ((¬ (im4 (a + 1) 3) = 8 → zCI g yX8_appendBase M_X8_appendBase [.ref a, .int (zi p1)] S im4 (fun r7 im8 => Q r7 im8)) ∧ ((im4 (a + 1) 3) = 8 → zCI g yX8_fail M_X8_fail [.ref a, .int (zi 2)] S im4 (fun r7 im8 => Q r7 im8)))) ∧ (r3 = 0 → zCI g yX8_fail M_X8_fail [.ref a, .int (zi 1)] S im4 (fun r6 im7 => Q r6 im7))))) :
    zCI g yX8_addBase M_X8_addBase [.ref a, .int (zi p1)] S im Q := by
  refine zC_of (by decide) rfl rfl rfl rfl (Nat.le_of_ble_eq_true rfl) ?_
  refine p_aload_n dX8_addBase_0 rfl (q := 0) rfl ?_
  refine p_iconst dX8_addBase_1 ?_
  refine p_putI (j := 4) G f_RX8_30 rfl rfl rfl (hS 0 (by decide)).1 (nf_k (by decide)) dX8_addBase_2 ?_
  refine p_gen (fun im1 e2 => ?_)
  have h := h im1 e2
  refine p_iload_n dX8_addBase_5 rfl (q := 1) rfl ?_
  refine p_iconst dX8_addBase_6 ?_
  refine p_bipush dX8_addBase_7 (by decide) ?_
  refine p_SI G k_RX8_33 rfl rfl (Nat.le_of_ble_eq_true rfl) ⟨by decide, by decide⟩ ⟨by decide, by decide⟩ dX8_addBase_9 h (fun r3 im4 c5 h => ?_)
  refine p_if_ne (tgt := 21) dX8_addBase_12 (by decide) (nf_r c5) (fun b6 => ?_) (fun b6 => ?_)
  · have h := h.1 b6
    refine p_aload_n dX8_addBase_21 rfl (q := 0) rfl ?_
    refine p_getR (b := (a + 1)) G f_RX8_7 rfl (hS 0 (by decide)).1 ((hS 0 (by decide)).2.2 0 (by decide)) dX8_addBase_22 ?_
    refine p_iconst dX8_addBase_25 ?_
    refine p_iald G (hS 1 (by decide)).1 (nf_k (by decide)) (by decide) (zln_lt (hS 1 (by decide)).2.1 (by decide)) dX8_addBase_26 (fun c6 => ?_)
    refine p_bipush dX8_addBase_27 (by decide) ?_
    refine p_icmp_ne (tgt := 40) dX8_addBase_29 (by decide) (nf_r c6) (nf_k (by decide)) (fun b7 => ?_) (fun b7 => ?_)
    · have h := h.1 b7
      refine p_aload_n dX8_addBase_40 rfl (q := 0) rfl ?_
      refine p_iload_n dX8_addBase_41 rfl (q := 1) rfl ?_
      refine p_VI G k_RX8_48 (by decide) (hS 0 (by decide)).1 rfl rfl (Nat.le_of_ble_eq_true rfl) ⟨by decide, by decide⟩ ⟨by decide, by decide⟩ dX8_addBase_42 h (fun r7 im8 c9 h => ?_)
      exact p_iretI (by decide) (by decide) rfl (nf_r c9) dX8_addBase_45 h
    · have h := h.2 b7
      refine p_aload_n dX8_addBase_32 rfl (q := 0) rfl ?_
      refine p_iconst dX8_addBase_33 ?_
      refine p_VI G k_RX8_41 (by decide) (hS 0 (by decide)).1 rfl rfl (Nat.le_of_ble_eq_true rfl) ⟨by decide, by decide⟩ ⟨by decide, by decide⟩ dX8_addBase_34 h (fun r7 im8 c9 h => ?_)
      refine p_goto (tgt := 45) dX8_addBase_37 (by decide) ?_
      exact p_iretI (by decide) (by decide) rfl (nf_r c9) dX8_addBase_45 h
  · have h := h.2 b6
    refine p_aload_n dX8_addBase_15 rfl (q := 0) rfl ?_
    refine p_iconst dX8_addBase_16 ?_
    refine p_VI G k_RX8_41 (by decide) (hS 0 (by decide)).1 rfl rfl (Nat.le_of_ble_eq_true rfl) ⟨by decide, by decide⟩ ⟨by decide, by decide⟩ dX8_addBase_17 h (fun r6 im7 c8 h => ?_)
    exact p_iretI (by decide) (by decide) rfl (nf_r c8) dX8_addBase_20 h
set_option maxRecDepth 20000 in
set_option maxHeartbeats 4000000 in
theorem v_X8_itemCount {g : zG} (G : zOK g) {S : zSh} {im : zIm} {a : Nat} {Q : Int → zIm → Prop} (hS : zS_M S a)
    (h : ∀ im1, im1 = zst im a 4 0 → Q (im1 (a + 1) 2) im1) :
    zCI g yX8_itemCount M_X8_itemCount [.ref a] S im Q := by
  refine zC_of (by decide) rfl rfl rfl rfl (Nat.le_of_ble_eq_true rfl) ?_
  refine p_aload_n dX8_itemCount_0 rfl (q := 0) rfl ?_
  refine p_iconst dX8_itemCount_1 ?_
  refine p_putI (j := 4) G f_RX8_30 rfl rfl rfl (hS 0 (by decide)).1 (nf_k (by decide)) dX8_itemCount_2 ?_
  refine p_gen (fun im1 e2 => ?_)
  have h := h im1 e2
  refine p_aload_n dX8_itemCount_5 rfl (q := 0) rfl ?_
  refine p_getR (b := (a + 1)) G f_RX8_7 rfl (hS 0 (by decide)).1 ((hS 0 (by decide)).2.2 0 (by decide)) dX8_itemCount_6 ?_
  refine p_iconst dX8_itemCount_9 ?_
  refine p_iald G (hS 1 (by decide)).1 (nf_k (by decide)) (by decide) (zln_lt (hS 1 (by decide)).2.1 (by decide)) dX8_itemCount_10 (fun c3 => ?_)
  exact p_iretI (by decide) (by decide) rfl (nf_r c3) dX8_itemCount_11 h
set_option maxRecDepth 20000 in
set_option maxHeartbeats 4000000 in
theorem v_X8_siteCount {g : zG} (G : zOK g) {S : zSh} {im : zIm} {a : Nat} {Q : Int → zIm → Prop} (hS : zS_M S a)
    (h : ∀ im1, im1 = zst im a 4 0 → Q (im1 (a + 1) 3) im1) :
    zCI g yX8_siteCount M_X8_siteCount [.ref a] S im Q := by
  refine zC_of (by decide) rfl rfl rfl rfl (Nat.le_of_ble_eq_true rfl) ?_
  refine p_aload_n dX8_siteCount_0 rfl (q := 0) rfl ?_
  refine p_iconst dX8_siteCount_1 ?_
  refine p_putI (j := 4) G f_RX8_30 rfl rfl rfl (hS 0 (by decide)).1 (nf_k (by decide)) dX8_siteCount_2 ?_
  refine p_gen (fun im1 e2 => ?_)
  have h := h im1 e2
  refine p_aload_n dX8_siteCount_5 rfl (q := 0) rfl ?_
  refine p_getR (b := (a + 1)) G f_RX8_7 rfl (hS 0 (by decide)).1 ((hS 0 (by decide)).2.2 0 (by decide)) dX8_siteCount_6 ?_
  refine p_iconst dX8_siteCount_9 ?_
  refine p_iald G (hS 1 (by decide)).1 (nf_k (by decide)) (by decide) (zln_lt (hS 1 (by decide)).2.1 (by decide)) dX8_siteCount_10 (fun c3 => ?_)
  exact p_iretI (by decide) (by decide) rfl (nf_r c3) dX8_siteCount_11 h
set_option maxRecDepth 20000 in
set_option maxHeartbeats 4000000 in
theorem v_X8_isBase {g : zG} (G : zOK g) {S : zSh} {im : zIm} {a : Nat} {p1 : Int} {Q : Int → zIm → Prop} (hS : zS_M S a) (c_p1 : zc p1)
    (h : zCI g yX8_isBetween M_X8_isBetween [.int (zi p1), .int (zi 1), .int (zi (zw ((im (a + 1) 3) - 1)))] S im (fun r2 im3 => ((r2 = 0 ∨ r2 = 1) ∧ Q r2 im3))) :
    zCI g yX8_isBase M_X8_isBase [.ref a, .int (zi p1)] S im Q := by
  refine zC_of (by decide) rfl rfl rfl rfl (Nat.le_of_ble_eq_true rfl) ?_
  refine p_iload_n dX8_isBase_0 rfl (q := 1) rfl ?_
  refine p_iconst dX8_isBase_1 ?_
  refine p_aload_n dX8_isBase_2 rfl (q := 0) rfl ?_
  refine p_getR (b := (a + 1)) G f_RX8_7 rfl (hS 0 (by decide)).1 ((hS 0 (by decide)).2.2 0 (by decide)) dX8_isBase_3 ?_
  refine p_iconst dX8_isBase_6 ?_
  refine p_iald G (hS 1 (by decide)).1 (nf_k (by decide)) (by decide) (zln_lt (hS 1 (by decide)).2.1 (by decide)) dX8_isBase_7 (fun c1 => ?_)
  refine p_iconst dX8_isBase_8 ?_
  refine p_isub dX8_isBase_9 ?_
  refine p_SI G k_RX8_33 rfl (by simp only [zi_zw]; rfl) (Nat.le_of_ble_eq_true rfl) ⟨by decide, by decide⟩ ⟨by decide, by decide⟩ dX8_isBase_10 h (fun r2 im3 c4 h => ?_)
  exact p_zretI (by decide) (by decide) rfl (nf_r c4) h.1 dX8_isBase_13 h.2
set_option maxRecDepth 20000 in
set_option maxHeartbeats 4000000 in
theorem v_X8_link {g : zG} (G : zOK g) {S : zSh} {im : zIm} {a : Nat} {p1 : Int} {p2 : Int} {Q : Int → zIm → Prop} (hS : zS_M S a) (c_p1 : zc p1) (c_p2 : zc p2)
    (h : ((0 ≤ (zw ((28 + (8 * p1)) + p2)) ∧ (zw ((28 + (8 * p1)) + p2)) < 7692) ∧ Q (im (a + 1) (zw ((28 + (8 * p1)) + p2))) im)) :
    zCI g yX8_link M_X8_link [.ref a, .int (zi p1), .int (zi p2)] S im Q := by
  refine zC_of (by decide) rfl rfl rfl rfl (Nat.le_of_ble_eq_true rfl) ?_
  refine p_aload_n dX8_link_0 rfl (q := 0) rfl ?_
  refine p_getR (b := (a + 1)) G f_RX8_7 rfl (hS 0 (by decide)).1 ((hS 0 (by decide)).2.2 0 (by decide)) dX8_link_1 ?_
  refine p_bipush dX8_link_4 (by decide) ?_
  refine p_bipush dX8_link_6 (by decide) ?_
  refine p_iload_n dX8_link_8 rfl (q := 1) rfl ?_
  refine p_imul dX8_link_9 ?_
  refine p_iadd dX8_link_10 ?_
  refine p_iload_n dX8_link_11 rfl (q := 2) rfl ?_
  refine p_iadd dX8_link_12 ?_
  have g2 := h.1
  have h := h.2
  refine p_iald G (hS 1 (by decide)).1 (nf_w _) g2.1 (zln_lt (hS 1 (by decide)).2.1 g2.2) dX8_link_13 (fun c1 => ?_)
  exact p_iretI (by decide) (by decide) rfl (nf_r c1) dX8_link_14 h
set_option maxRecDepth 20000 in
set_option maxHeartbeats 4000000 in
theorem v_X8_putLink {g : zG} (G : zOK g) {S : zSh} {im : zIm} {a : Nat} {p1 : Int} {p2 : Int} {p3 : Int} {Q : Int → zIm → Prop} (hS : zS_M S a) (c_p1 : zc p1) (c_p2 : zc p2) (c_p3 : zc p3)
    (h : zCI g yX8_link M_X8_link [.ref a, .int (zi p1), .int (zi p2)] S im (fun r1 im2 => ((0 ≤ (zw ((28 + (8 * p1)) + p2)) ∧ (zw ((28 + (8 * p1)) + p2)) < 7692) ∧ ∀ im4, im4 = zst im2 (a + 1) (zw ((28 + (8 * p1)) + p2)) p3 → ((0 ≤ (zw ((28 + (8 * p2)) + p1)) ∧ (zw ((28 + (8 * p2)) + p1)) < 7692) ∧ ∀ im7, im7 = zst im4 (a + 1) (zw ((28 + (8 * p2)) + p1)) p3 → Q r1 im7)))) :
    zCI g yX8_putLink M_X8_putLink [.ref a, .int (zi p1), .int (zi p2), .int (zi p3)] S im Q := by
  refine zC_of (by decide) rfl rfl rfl rfl (Nat.le_of_ble_eq_true rfl) ?_
  refine p_aload_n dX8_putLink_0 rfl (q := 0) rfl ?_
  refine p_iload_n dX8_putLink_1 rfl (q := 1) rfl ?_
  refine p_iload_n dX8_putLink_2 rfl (q := 2) rfl ?_
  refine p_VI G k_RX8_51 (by decide) (hS 0 (by decide)).1 rfl rfl (Nat.le_of_ble_eq_true rfl) ⟨by decide, by decide⟩ ⟨by decide, by decide⟩ dX8_putLink_3 h (fun r1 im2 c3 h => ?_)
  refine p_istore (lv' := [(4, .int (zi r1)), (0, .ref a), (1, .int (zi p1)), (2, .int (zi p2)), (3, .int (zi p3))]) dX8_putLink_6 (by decide) rfl ?_
  refine p_aload_n dX8_putLink_8 rfl (q := 1) rfl ?_
  refine p_getR (b := (a + 1)) G f_RX8_7 rfl (hS 0 (by decide)).1 ((hS 0 (by decide)).2.2 0 (by decide)) dX8_putLink_9 ?_
  refine p_bipush dX8_putLink_12 (by decide) ?_
  refine p_bipush dX8_putLink_14 (by decide) ?_
  refine p_iload_n dX8_putLink_16 rfl (q := 2) rfl ?_
  refine p_imul dX8_putLink_17 ?_
  refine p_iadd dX8_putLink_18 ?_
  refine p_iload_n dX8_putLink_19 rfl (q := 3) rfl ?_
  refine p_iadd dX8_putLink_20 ?_
  refine p_iload_n dX8_putLink_21 rfl (q := 4) rfl ?_
  have g6 := h.1
  have h := h.2
  refine p_iast G (hS 1 (by decide)).1 (nf_w _) g6.1 (zln_lt (hS 1 (by decide)).2.1 g6.2) (nf_r c_p3) dX8_putLink_22 ?_
  refine p_gen (fun im4 e5 => ?_)
  have h := h im4 e5
  refine p_aload_n dX8_putLink_23 rfl (q := 1) rfl ?_
  refine p_getR (b := (a + 1)) G f_RX8_7 rfl (hS 0 (by decide)).1 ((hS 0 (by decide)).2.2 0 (by decide)) dX8_putLink_24 ?_
  refine p_bipush dX8_putLink_27 (by decide) ?_
  refine p_bipush dX8_putLink_29 (by decide) ?_
  refine p_iload_n dX8_putLink_31 rfl (q := 3) rfl ?_
  refine p_imul dX8_putLink_32 ?_
  refine p_iadd dX8_putLink_33 ?_
  refine p_iload_n dX8_putLink_34 rfl (q := 2) rfl ?_
  refine p_iadd dX8_putLink_35 ?_
  refine p_iload_n dX8_putLink_36 rfl (q := 4) rfl ?_
  have g9 := h.1
  have h := h.2
  refine p_iast G (hS 1 (by decide)).1 (nf_w _) g9.1 (zln_lt (hS 1 (by decide)).2.1 g9.2) (nf_r c_p3) dX8_putLink_37 ?_
  refine p_gen (fun im7 e8 => ?_)
  have h := h im7 e8
  refine p_iload dX8_putLink_38 (q := 0) rfl ?_
  exact p_iretI (by decide) (by decide) rfl (nf_r c3) dX8_putLink_40 h
set_option maxRecDepth 20000 in
set_option maxHeartbeats 4000000 in
theorem v_X8_setLink {g : zG} (G : zOK g) {S : zSh} {im : zIm} {a : Nat} {p1 : Int} {p2 : Int} {p3 : Int} {Q : Int → zIm → Prop} (hS : zS_M S a) (c_p1 : zc p1) (c_p2 : zc p2) (c_p3 : zc p3)
    (h : ∀ im1, im1 = zst im a 4 0 → zCI g yX8_isBase M_X8_isBase [.ref a, .int (zi p1)] S im1 (fun r3 im4 => ((r3 = 0 → zCI g yX8_fail M_X8_fail [.ref a, .int (zi 1)] S im4 (fun r6 im7 => Q r6 im7)) ∧ (¬ r3 = 0 → zCI g yX8_isBase M_X8_isBase [.ref a, .int (zi p2)] S im4 (fun r6 im7 => ((¬ r6 = 0 → ((p1 = p2 → zCI g yX8_fail M_X8_fail [.ref a, .int (zi 2)] S im7 (fun r9 im10 => Q r9 im10)) ∧ (¬ p1 = p2 → zCI g yX8_isBetween M_X8_isBetween [.int (zi p3), .int (zi 0), .int (zi 20)] S im7 (fun r9 im10 => ((¬ r9 = 0 → zCI g yX8_putLink M_X8_putLink [.ref a, .int (zi p1), .int (zi p2), .int (zi p3)] S im10 (fun r12 im13 => Q r12 im13)) ∧ (r9 = 0 → zCI g yX8_fail M_X8_fail [.ref a, .int (zi 2)] S im10 (fun r12 im13 => Q r12 im13))))))) ∧ (r6 = 0 → zCI g yX8_fail M_X8_fail [.ref a, .int (zi 1)] S im7 (fun r9 im10 => Q r9 im10)))))))) :
    zCI g yX8_setLink M_X8_setLink [.ref a, .int (zi p1), .int (zi p2), .int (zi p3)] S im Q := by
  refine zC_of (by decide) rfl rfl rfl rfl (Nat.le_of_ble_eq_true rfl) ?_
  refine p_aload_n dX8_setLink_0 rfl (q := 0) rfl ?_
  refine p_iconst dX8_setLink_1 ?_
  refine p_putI (j := 4) G f_RX8_30 rfl rfl rfl (hS 0 (by decide)).1 (nf_k (by decide)) dX8_setLink_2 ?_
  refine p_gen (fun im1 e2 => ?_)
  have h := h im1 e2
  refine p_aload_n dX8_setLink_5 rfl (q := 0) rfl ?_
  refine p_iload_n dX8_setLink_6 rfl (q := 1) rfl ?_
  refine p_VI G k_RX8_55 (by decide) (hS 0 (by decide)).1 rfl rfl (Nat.le_of_ble_eq_true rfl) ⟨by decide, by decide⟩ ⟨by decide, by decide⟩ dX8_setLink_7 h (fun r3 im4 c5 h => ?_)
  refine p_if_eq (tgt := 21) dX8_setLink_10 (by decide) (nf_r c5) (fun b6 => ?_) (fun b6 => ?_)
  · have h := h.1 b6
    refine p_aload_n dX8_setLink_21 rfl (q := 0) rfl ?_
    refine p_iconst dX8_setLink_22 ?_
    refine p_VI G k_RX8_41 (by decide) (hS 0 (by decide)).1 rfl rfl (Nat.le_of_ble_eq_true rfl) ⟨by decide, by decide⟩ ⟨by decide, by decide⟩ dX8_setLink_23 h (fun r6 im7 c8 h => ?_)
    exact p_iretI (by decide) (by decide) rfl (nf_r c8) dX8_setLink_26 h
  · have h := h.2 b6
    refine p_aload_n dX8_setLink_13 rfl (q := 0) rfl ?_
    refine p_iload_n dX8_setLink_14 rfl (q := 2) rfl ?_
    refine p_VI G k_RX8_55 (by decide) (hS 0 (by decide)).1 rfl rfl (Nat.le_of_ble_eq_true rfl) ⟨by decide, by decide⟩ ⟨by decide, by decide⟩ dX8_setLink_15 h (fun r6 im7 c8 h => ?_)
    refine p_if_ne (tgt := 27) dX8_setLink_18 (by decide) (nf_r c8) (fun b9 => ?_) (fun b9 => ?_)
    · have h := h.1 b9
      refine p_iload_n dX8_setLink_27 rfl (q := 1) rfl ?_
      refine p_iload_n dX8_setLink_28 rfl (q := 2) rfl ?_
      refine p_icmp_eq (tgt := 42) dX8_setLink_29 (by decide) (nf_r c_p1) (nf_r c_p2) (fun b9 => ?_) (fun b9 => ?_)
      · have h := h.1 b9
        refine p_aload_n dX8_setLink_42 rfl (q := 0) rfl ?_
        refine p_iconst dX8_setLink_43 ?_
        refine p_VI G k_RX8_41 (by decide) (hS 0 (by decide)).1 rfl rfl (Nat.le_of_ble_eq_true rfl) ⟨by decide, by decide⟩ ⟨by decide, by decide⟩ dX8_setLink_44 h (fun r9 im10 c11 h => ?_)
        exact p_iretI (by decide) (by decide) rfl (nf_r c11) dX8_setLink_47 h
      · have h := h.2 b9
        refine p_iload_n dX8_setLink_32 rfl (q := 3) rfl ?_
        refine p_iconst dX8_setLink_33 ?_
        refine p_bipush dX8_setLink_34 (by decide) ?_
        refine p_SI G k_RX8_33 rfl rfl (Nat.le_of_ble_eq_true rfl) ⟨by decide, by decide⟩ ⟨by decide, by decide⟩ dX8_setLink_36 h (fun r9 im10 c11 h => ?_)
        refine p_if_ne (tgt := 48) dX8_setLink_39 (by decide) (nf_r c11) (fun b12 => ?_) (fun b12 => ?_)
        · have h := h.1 b12
          refine p_aload_n dX8_setLink_48 rfl (q := 0) rfl ?_
          refine p_iload_n dX8_setLink_49 rfl (q := 1) rfl ?_
          refine p_iload_n dX8_setLink_50 rfl (q := 2) rfl ?_
          refine p_iload_n dX8_setLink_51 rfl (q := 3) rfl ?_
          refine p_VI G k_RX8_59 (by decide) (hS 0 (by decide)).1 rfl rfl (Nat.le_of_ble_eq_true rfl) ⟨by decide, by decide⟩ ⟨by decide, by decide⟩ dX8_setLink_52 h (fun r12 im13 c14 h => ?_)
          exact p_iretI (by decide) (by decide) rfl (nf_r c14) dX8_setLink_55 h
        · have h := h.2 b12
          refine p_aload_n dX8_setLink_42 rfl (q := 0) rfl ?_
          refine p_iconst dX8_setLink_43 ?_
          refine p_VI G k_RX8_41 (by decide) (hS 0 (by decide)).1 rfl rfl (Nat.le_of_ble_eq_true rfl) ⟨by decide, by decide⟩ ⟨by decide, by decide⟩ dX8_setLink_44 h (fun r12 im13 c14 h => ?_)
          exact p_iretI (by decide) (by decide) rfl (nf_r c14) dX8_setLink_47 h
    · have h := h.2 b9
      refine p_aload_n dX8_setLink_21 rfl (q := 0) rfl ?_
      refine p_iconst dX8_setLink_22 ?_
      refine p_VI G k_RX8_41 (by decide) (hS 0 (by decide)).1 rfl rfl (Nat.le_of_ble_eq_true rfl) ⟨by decide, by decide⟩ ⟨by decide, by decide⟩ dX8_setLink_23 h (fun r9 im10 c11 h => ?_)
      exact p_iretI (by decide) (by decide) rfl (nf_r c11) dX8_setLink_26 h
set_option maxRecDepth 20000 in
set_option maxHeartbeats 4000000 in
theorem v_X8_isSite {g : zG} (G : zOK g) {S : zSh} {im : zIm} {a : Nat} {p1 : Int} {Q : Int → zIm → Prop} (hS : zS_M S a) (c_p1 : zc p1)
    (h : zCI g yX8_isBetween M_X8_isBetween [.int (zi p1), .int (zi 0), .int (zi (zw ((im (a + 1) 3) - 1)))] S im (fun r2 im3 => ((r2 = 0 ∨ r2 = 1) ∧ Q r2 im3))) :
    zCI g yX8_isSite M_X8_isSite [.ref a, .int (zi p1)] S im Q := by
  refine zC_of (by decide) rfl rfl rfl rfl (Nat.le_of_ble_eq_true rfl) ?_
  refine p_iload_n dX8_isSite_0 rfl (q := 1) rfl ?_
  refine p_iconst dX8_isSite_1 ?_
  refine p_aload_n dX8_isSite_2 rfl (q := 0) rfl ?_
  refine p_getR (b := (a + 1)) G f_RX8_7 rfl (hS 0 (by decide)).1 ((hS 0 (by decide)).2.2 0 (by decide)) dX8_isSite_3 ?_
  refine p_iconst dX8_isSite_6 ?_
  refine p_iald G (hS 1 (by decide)).1 (nf_k (by decide)) (by decide) (zln_lt (hS 1 (by decide)).2.1 (by decide)) dX8_isSite_7 (fun c1 => ?_)
  refine p_iconst dX8_isSite_8 ?_
  refine p_isub dX8_isSite_9 ?_
  refine p_SI G k_RX8_33 rfl (by simp only [zi_zw]; rfl) (Nat.le_of_ble_eq_true rfl) ⟨by decide, by decide⟩ ⟨by decide, by decide⟩ dX8_isSite_10 h (fun r2 im3 c4 h => ?_)
  exact p_zretI (by decide) (by decide) rfl (nf_r c4) h.1 dX8_isSite_13 h.2
set_option maxRecDepth 20000 in
set_option maxHeartbeats 4000000 in
theorem v_X8_isItem {g : zG} (G : zOK g) {S : zSh} {im : zIm} {a : Nat} {p1 : Int} {Q : Int → zIm → Prop} (hS : zS_M S a) (c_p1 : zc p1)
    (h : zCI g yX8_isBetween M_X8_isBetween [.int (zi p1), .int (zi 0), .int (zi (zw ((im (a + 1) 2) - 1)))] S im (fun r2 im3 => ((r2 = 0 ∨ r2 = 1) ∧ Q r2 im3))) :
    zCI g yX8_isItem M_X8_isItem [.ref a, .int (zi p1)] S im Q := by
  refine zC_of (by decide) rfl rfl rfl rfl (Nat.le_of_ble_eq_true rfl) ?_
  refine p_iload_n dX8_isItem_0 rfl (q := 1) rfl ?_
  refine p_iconst dX8_isItem_1 ?_
  refine p_aload_n dX8_isItem_2 rfl (q := 0) rfl ?_
  refine p_getR (b := (a + 1)) G f_RX8_7 rfl (hS 0 (by decide)).1 ((hS 0 (by decide)).2.2 0 (by decide)) dX8_isItem_3 ?_
  refine p_iconst dX8_isItem_6 ?_
  refine p_iald G (hS 1 (by decide)).1 (nf_k (by decide)) (by decide) (zln_lt (hS 1 (by decide)).2.1 (by decide)) dX8_isItem_7 (fun c1 => ?_)
  refine p_iconst dX8_isItem_8 ?_
  refine p_isub dX8_isItem_9 ?_
  refine p_SI G k_RX8_33 rfl (by simp only [zi_zw]; rfl) (Nat.le_of_ble_eq_true rfl) ⟨by decide, by decide⟩ ⟨by decide, by decide⟩ dX8_isItem_10 h (fun r2 im3 c4 h => ?_)
  exact p_zretI (by decide) (by decide) rfl (nf_r c4) h.1 dX8_isItem_13 h.2
set_option maxRecDepth 20000 in
set_option maxHeartbeats 4000000 in
theorem v_X8_at {g : zG} (G : zOK g) {S : zSh} {im : zIm} {p1 : Int} {p2 : Int} {p3 : Int} {Q : Int → zIm → Prop} (c_p1 : zc p1) (c_p2 : zc p2) (c_p3 : zc p3)
    (h : Q (zw ((p1 + (4 * p2)) + p3)) im) :
    zCI g yX8_at M_X8_at [.int (zi p1), .int (zi p2), .int (zi p3)] S im Q := by
  refine zC_of (by decide) rfl rfl rfl rfl (Nat.le_of_ble_eq_true rfl) ?_
  refine p_iload_n dX8_at_0 rfl (q := 0) rfl ?_
  refine p_iconst dX8_at_1 ?_
  refine p_iload_n dX8_at_2 rfl (q := 1) rfl ?_
  refine p_imul dX8_at_3 ?_
  refine p_iadd dX8_at_4 ?_
  refine p_iload_n dX8_at_5 rfl (q := 2) rfl ?_
  refine p_iadd dX8_at_6 ?_
  exact p_iretI (by decide) (by decide) rfl (nf_w _) dX8_at_7 h
set_option maxRecDepth 20000 in
set_option maxHeartbeats 4000000 in
theorem v_X8_order {g : zG} (G : zOK g) {S : zSh} {im : zIm} {a : Nat} {p1 : Int} {p2 : Int} {Q : Int → zIm → Prop} (hS : zS_M S a) (c_p1 : zc p1) (c_p2 : zc p2)
    (h : ((0 ≤ (zw ((5412 + (3 * p1)) + p2)) ∧ (zw ((5412 + (3 * p1)) + p2)) < 7692) ∧ Q (im (a + 1) (zw ((5412 + (3 * p1)) + p2))) im)) :
    zCI g yX8_order M_X8_order [.ref a, .int (zi p1), .int (zi p2)] S im Q := by
  refine zC_of (by decide) rfl rfl rfl rfl (Nat.le_of_ble_eq_true rfl) ?_
  refine p_aload_n dX8_order_0 rfl (q := 0) rfl ?_
  refine p_getR (b := (a + 1)) G f_RX8_7 rfl (hS 0 (by decide)).1 ((hS 0 (by decide)).2.2 0 (by decide)) dX8_order_1 ?_
  refine p_sipush dX8_order_4 (by decide) ?_
  refine p_iconst dX8_order_7 ?_
  refine p_iload_n dX8_order_8 rfl (q := 1) rfl ?_
  refine p_imul dX8_order_9 ?_
  refine p_iadd dX8_order_10 ?_
  refine p_iload_n dX8_order_11 rfl (q := 2) rfl ?_
  refine p_iadd dX8_order_12 ?_
  have g2 := h.1
  have h := h.2
  refine p_iald G (hS 1 (by decide)).1 (nf_w _) g2.1 (zln_lt (hS 1 (by decide)).2.1 g2.2) dX8_order_13 (fun c1 => ?_)
  exact p_iretI (by decide) (by decide) rfl (nf_r c1) dX8_order_14 h
set_option maxRecDepth 20000 in
set_option maxHeartbeats 4000000 in
theorem v_X8_remove {g : zG} (G : zOK g) {S : zSh} {im : zIm} {a : Nat} {p1 : Int} {p2 : Int} {p3 : Int} {p4 : Int} {Q : zIm → Prop} (hS : zS_M S a) (c_p1 : zc p1) (c_p2 : zc p2) (c_p3 : zc p3) (c_p4 : zc p4)
    (h : ((0 ≤ p1 ∧ p1 < 7692) ∧ ∀ im3, im3 = zst im (a + 1) p1 (zw ((im (a + 1) p1) - 1)) → zPV g M_X8_remove 18 [(0, .ref a), (1, .int (zi p1)), (2, .int (zi p2)), (3, .int (zi p3)), (5, .int (zi (zw (p2 + (p3 * p4)))))] S im3 Q)) :
    zCV g yX8_remove M_X8_remove [.ref a, .int (zi p1), .int (zi p2), .int (zi p3), .int (zi p4)] S im Q := by
  refine zC_of (by decide) rfl rfl rfl rfl (Nat.le_of_ble_eq_true rfl) ?_
  refine p_aload_n dX8_remove_0 rfl (q := 0) rfl ?_
  refine p_getR (b := (a + 1)) G f_RX8_7 rfl (hS 0 (by decide)).1 ((hS 0 (by decide)).2.2 0 (by decide)) dX8_remove_1 ?_
  refine p_iload_n dX8_remove_4 rfl (q := 1) rfl ?_
  refine p_dup2 dX8_remove_5 rfl rfl ?_
  have g2 := h.1
  have h := h.2
  refine p_iald G (hS 1 (by decide)).1 (nf_r c_p1) g2.1 (zln_lt (hS 1 (by decide)).2.1 g2.2) dX8_remove_6 (fun c1 => ?_)
  refine p_iconst dX8_remove_7 ?_
  refine p_isub dX8_remove_8 ?_
  refine p_iast G (hS 1 (by decide)).1 (nf_r c_p1) g2.1 (zln_lt (hS 1 (by decide)).2.1 g2.2) (nf_w _) dX8_remove_9 ?_
  refine p_gen (fun im3 e4 => ?_)
  have h := h im3 e4
  refine p_iload_n dX8_remove_10 rfl (q := 2) rfl ?_
  refine p_iload_n dX8_remove_11 rfl (q := 3) rfl ?_
  refine p_iload dX8_remove_12 (q := 4) rfl ?_
  refine p_imul dX8_remove_14 ?_
  refine p_iadd dX8_remove_15 ?_
  refine p_istore (lv' := [(5, .int (zi (p2 + (p3 * p4)))), (0, .ref a), (1, .int (zi p1)), (2, .int (zi p2)), (3, .int (zi p3)), (4, .int (zi p4))]) dX8_remove_16 (by decide) rfl ?_
  refine p_sub (lv' := [(0, .ref a), (1, .int (zi p1)), (2, .int (zi p2)), (3, .int (zi p3)), (5, .int (zi (zw (p2 + (p3 * p4)))))]) [1, 2, 3, 4, 0] (by simp only [zi_zw, zl_zwl]; rfl) ?_
  exact h
set_option maxRecDepth 20000 in
set_option maxHeartbeats 4000000 in
theorem v_X8_remove_18 {g : zG} (G : zOK g) {S : zSh} {im : zIm} {a : Nat} {x1 : Int} {x2 : Int} {x3 : Int} {x5 : Int} {Q : zIm → Prop} (hS : zS_M S a) (c_x1 : zc x1) (c_x2 : zc x2) (c_x3 : zc x3) (c_x5 : zc x5)
    (h : ((0 ≤ x1 ∧ x1 < 7692) ∧ (((zw (x2 + (x3 * (im (a + 1) x1)))) ≤ x5 → Q im) ∧ (x5 < (zw (x2 + (x3 * (im (a + 1) x1)))) → ((0 ≤ (zw (x5 + x3)) ∧ (zw (x5 + x3)) < 7692) ∧ ((0 ≤ x5 ∧ x5 < 7692) ∧ ∀ im5, im5 = zst im (a + 1) x5 (im (a + 1) (zw (x5 + x3))) → zPV g M_X8_remove 18 [(0, .ref a), (1, .int (zi x1)), (2, .int (zi x2)), (3, .int (zi x3)), (5, .int (zi (zw (x5 + 1))))] S im5 Q)))))) :
    zPV g M_X8_remove 18 [(0, .ref a), (1, .int (zi x1)), (2, .int (zi x2)), (3, .int (zi x3)), (5, .int (zi x5))] S im Q := by
  refine p_iload dX8_remove_18 (q := 4) rfl ?_
  refine p_iload_n dX8_remove_20 rfl (q := 2) rfl ?_
  refine p_iload_n dX8_remove_21 rfl (q := 3) rfl ?_
  refine p_aload_n dX8_remove_22 rfl (q := 0) rfl ?_
  refine p_getR (b := (a + 1)) G f_RX8_7 rfl (hS 0 (by decide)).1 ((hS 0 (by decide)).2.2 0 (by decide)) dX8_remove_23 ?_
  refine p_iload_n dX8_remove_26 rfl (q := 1) rfl ?_
  have g2 := h.1
  have h := h.2
  refine p_iald G (hS 1 (by decide)).1 (nf_r c_x1) g2.1 (zln_lt (hS 1 (by decide)).2.1 g2.2) dX8_remove_27 (fun c1 => ?_)
  refine p_imul dX8_remove_28 ?_
  refine p_iadd dX8_remove_29 ?_
  refine p_icmp_ge (tgt := 55) dX8_remove_30 (by decide) (nf_r c_x5) (nf_w _) (fun b3 => ?_) (fun b3 => ?_)
  · have h := h.1 b3
    exact p_retV (by decide) (by decide) rfl dX8_remove_55 h
  · have h := h.2 b3
    refine p_aload_n dX8_remove_33 rfl (q := 0) rfl ?_
    refine p_getR (b := (a + 1)) G f_RX8_7 rfl (hS 0 (by decide)).1 ((hS 0 (by decide)).2.2 0 (by decide)) dX8_remove_34 ?_
    refine p_iload dX8_remove_37 (q := 4) rfl ?_
    refine p_aload_n dX8_remove_39 rfl (q := 0) rfl ?_
    refine p_getR (b := (a + 1)) G f_RX8_7 rfl (hS 0 (by decide)).1 ((hS 0 (by decide)).2.2 0 (by decide)) dX8_remove_40 ?_
    refine p_iload dX8_remove_43 (q := 4) rfl ?_
    refine p_iload_n dX8_remove_45 rfl (q := 3) rfl ?_
    refine p_iadd dX8_remove_46 ?_
    have g4 := h.1
    have h := h.2
    refine p_iald G (hS 1 (by decide)).1 (nf_w _) g4.1 (zln_lt (hS 1 (by decide)).2.1 g4.2) dX8_remove_47 (fun c3 => ?_)
    have g7 := h.1
    have h := h.2
    refine p_iast G (hS 1 (by decide)).1 (nf_r c_x5) g7.1 (zln_lt (hS 1 (by decide)).2.1 g7.2) (nf_r c3) dX8_remove_48 ?_
    refine p_gen (fun im5 e6 => ?_)
    have h := h im5 e6
    refine p_iinc (q := 4) (lv' := [(5, .int (zi (x5 + 1))), (0, .ref a), (1, .int (zi x1)), (2, .int (zi x2)), (3, .int (zi x3))]) dX8_remove_49 rfl (by decide) rfl ?_
    refine p_goto (tgt := 18) dX8_remove_52 (by decide) ?_
    refine p_sub (lv' := [(0, .ref a), (1, .int (zi x1)), (2, .int (zi x2)), (3, .int (zi x3)), (5, .int (zi (zw (x5 + 1))))]) [1, 2, 3, 4, 0] (by simp only [zi_zw, zl_zwl]; rfl) ?_
    exact h
set_option maxRecDepth 20000 in
set_option maxHeartbeats 4000000 in
theorem v_X8_appendUnit {g : zG} (G : zOK g) {S : zSh} {im : zIm} {a : Nat} {p1 : Int} {p2 : Int} {p3 : Int} {p4 : Int} {p5 : Int} {p6 : Int} {Q : zIm → Prop} (hS : zS_M S a) (c_p1 : zc p1) (c_p2 : zc p2) (c_p3 : zc p3) (c_p4 : zc p4) (c_p5 : zc p5) (c_p6 : zc p6)
    (h : zCI g yX8_append M_X8_append [.ref a, .int (zi 4), .int (zi 412), .int (zi 6)] S im (fun r1 im2 => ((0 ≤ (zw (r1 + 0)) ∧ (zw (r1 + 0)) < 7692) ∧ ∀ im4, im4 = zst im2 (a + 1) (zw (r1 + 0)) p1 → ((0 ≤ (zw (r1 + 1)) ∧ (zw (r1 + 1)) < 7692) ∧ ∀ im7, im7 = zst im4 (a + 1) (zw (r1 + 1)) p2 → ((0 ≤ (zw (r1 + 2)) ∧ (zw (r1 + 2)) < 7692) ∧ ∀ im10, im10 = zst im7 (a + 1) (zw (r1 + 2)) p3 → ((0 ≤ (zw (r1 + 3)) ∧ (zw (r1 + 3)) < 7692) ∧ ∀ im13, im13 = zst im10 (a + 1) (zw (r1 + 3)) p4 → ((0 ≤ (zw (r1 + 4)) ∧ (zw (r1 + 4)) < 7692) ∧ ∀ im16, im16 = zst im13 (a + 1) (zw (r1 + 4)) p5 → ((0 ≤ (zw (r1 + 5)) ∧ (zw (r1 + 5)) < 7692) ∧ ∀ im19, im19 = zst im16 (a + 1) (zw (r1 + 5)) p6 → Q im19)))))))) :
    zCV g yX8_appendUnit M_X8_appendUnit [.ref a, .int (zi p1), .int (zi p2), .int (zi p3), .int (zi p4), .int (zi p5), .int (zi p6)] S im Q := by
  refine zC_of (by decide) rfl rfl rfl rfl (Nat.le_of_ble_eq_true rfl) ?_
  refine p_aload_n dX8_appendUnit_0 rfl (q := 0) rfl ?_
  refine p_iconst dX8_appendUnit_1 ?_
  refine p_sipush dX8_appendUnit_2 (by decide) ?_
  refine p_bipush dX8_appendUnit_5 (by decide) ?_
  refine p_VI G k_RX8_37 (by decide) (hS 0 (by decide)).1 rfl rfl (Nat.le_of_ble_eq_true rfl) ⟨by decide, by decide⟩ ⟨by decide, by decide⟩ dX8_appendUnit_7 h (fun r1 im2 c3 h => ?_)
  refine p_istore (lv' := [(7, .int (zi r1)), (0, .ref a), (1, .int (zi p1)), (2, .int (zi p2)), (3, .int (zi p3)), (4, .int (zi p4)), (5, .int (zi p5)), (6, .int (zi p6))]) dX8_appendUnit_10 (by decide) rfl ?_
  refine p_aload_n dX8_appendUnit_12 rfl (q := 1) rfl ?_
  refine p_getR (b := (a + 1)) G f_RX8_7 rfl (hS 0 (by decide)).1 ((hS 0 (by decide)).2.2 0 (by decide)) dX8_appendUnit_13 ?_
  refine p_iload dX8_appendUnit_16 (q := 0) rfl ?_
  refine p_iconst dX8_appendUnit_18 ?_
  refine p_iadd dX8_appendUnit_19 ?_
  refine p_iload_n dX8_appendUnit_20 rfl (q := 2) rfl ?_
  have g6 := h.1
  have h := h.2
  refine p_iast G (hS 1 (by decide)).1 (nf_w _) g6.1 (zln_lt (hS 1 (by decide)).2.1 g6.2) (nf_r c_p1) dX8_appendUnit_21 ?_
  refine p_gen (fun im4 e5 => ?_)
  have h := h im4 e5
  refine p_aload_n dX8_appendUnit_22 rfl (q := 1) rfl ?_
  refine p_getR (b := (a + 1)) G f_RX8_7 rfl (hS 0 (by decide)).1 ((hS 0 (by decide)).2.2 0 (by decide)) dX8_appendUnit_23 ?_
  refine p_iload dX8_appendUnit_26 (q := 0) rfl ?_
  refine p_iconst dX8_appendUnit_28 ?_
  refine p_iadd dX8_appendUnit_29 ?_
  refine p_iload_n dX8_appendUnit_30 rfl (q := 3) rfl ?_
  have g9 := h.1
  have h := h.2
  refine p_iast G (hS 1 (by decide)).1 (nf_w _) g9.1 (zln_lt (hS 1 (by decide)).2.1 g9.2) (nf_r c_p2) dX8_appendUnit_31 ?_
  refine p_gen (fun im7 e8 => ?_)
  have h := h im7 e8
  refine p_aload_n dX8_appendUnit_32 rfl (q := 1) rfl ?_
  refine p_getR (b := (a + 1)) G f_RX8_7 rfl (hS 0 (by decide)).1 ((hS 0 (by decide)).2.2 0 (by decide)) dX8_appendUnit_33 ?_
  refine p_iload dX8_appendUnit_36 (q := 0) rfl ?_
  refine p_iconst dX8_appendUnit_38 ?_
  refine p_iadd dX8_appendUnit_39 ?_
  refine p_iload_n dX8_appendUnit_40 rfl (q := 4) rfl ?_
  have g12 := h.1
  have h := h.2
  refine p_iast G (hS 1 (by decide)).1 (nf_w _) g12.1 (zln_lt (hS 1 (by decide)).2.1 g12.2) (nf_r c_p3) dX8_appendUnit_41 ?_
  refine p_gen (fun im10 e11 => ?_)
  have h := h im10 e11
  refine p_aload_n dX8_appendUnit_42 rfl (q := 1) rfl ?_
  refine p_getR (b := (a + 1)) G f_RX8_7 rfl (hS 0 (by decide)).1 ((hS 0 (by decide)).2.2 0 (by decide)) dX8_appendUnit_43 ?_
  refine p_iload dX8_appendUnit_46 (q := 0) rfl ?_
  refine p_iconst dX8_appendUnit_48 ?_
  refine p_iadd dX8_appendUnit_49 ?_
  refine p_iload dX8_appendUnit_50 (q := 5) rfl ?_
  have g15 := h.1
  have h := h.2
  refine p_iast G (hS 1 (by decide)).1 (nf_w _) g15.1 (zln_lt (hS 1 (by decide)).2.1 g15.2) (nf_r c_p4) dX8_appendUnit_52 ?_
  refine p_gen (fun im13 e14 => ?_)
  have h := h im13 e14
  refine p_aload_n dX8_appendUnit_53 rfl (q := 1) rfl ?_
  refine p_getR (b := (a + 1)) G f_RX8_7 rfl (hS 0 (by decide)).1 ((hS 0 (by decide)).2.2 0 (by decide)) dX8_appendUnit_54 ?_
  refine p_iload dX8_appendUnit_57 (q := 0) rfl ?_
  refine p_iconst dX8_appendUnit_59 ?_
  refine p_iadd dX8_appendUnit_60 ?_
  refine p_iload dX8_appendUnit_61 (q := 6) rfl ?_
  have g18 := h.1
  have h := h.2
  refine p_iast G (hS 1 (by decide)).1 (nf_w _) g18.1 (zln_lt (hS 1 (by decide)).2.1 g18.2) (nf_r c_p5) dX8_appendUnit_63 ?_
  refine p_gen (fun im16 e17 => ?_)
  have h := h im16 e17
  refine p_aload_n dX8_appendUnit_64 rfl (q := 1) rfl ?_
  refine p_getR (b := (a + 1)) G f_RX8_7 rfl (hS 0 (by decide)).1 ((hS 0 (by decide)).2.2 0 (by decide)) dX8_appendUnit_65 ?_
  refine p_iload dX8_appendUnit_68 (q := 0) rfl ?_
  refine p_iconst dX8_appendUnit_70 ?_
  refine p_iadd dX8_appendUnit_71 ?_
  refine p_iload dX8_appendUnit_72 (q := 7) rfl ?_
  have g21 := h.1
  have h := h.2
  refine p_iast G (hS 1 (by decide)).1 (nf_w _) g21.1 (zln_lt (hS 1 (by decide)).2.1 g21.2) (nf_r c_p6) dX8_appendUnit_74 ?_
  refine p_gen (fun im19 e20 => ?_)
  have h := h im19 e20
  exact p_retV (by decide) (by decide) rfl dX8_appendUnit_75 h
set_option maxRecDepth 20000 in
set_option maxHeartbeats 4000000 in
theorem v_X8_supply {g : zG} (G : zOK g) {S : zSh} {im : zIm} {a : Nat} {p1 : Int} {p2 : Int} {Q : zIm → Prop} (hS : zS_M S a) (c_p1 : zc p1) (c_p2 : zc p2)
    (h : ((0 ≤ (zw (20 + p1)) ∧ (zw (20 + p1)) < 7692) ∧ zCV g yX8_appendUnit M_X8_appendUnit [.ref a, .int (zi 2), .int (zi p2), .int (zi p1), .int (zi p1), .int (zi (zw ((im (a + 1) 0) + (im (a + 1) (zw (20 + p1)))))), .int (zi 0)] S im (fun im4 => Q im4))) :
    zCV g yX8_supply M_X8_supply [.ref a, .int (zi p1), .int (zi p2)] S im Q := by
  refine zC_of (by decide) rfl rfl rfl rfl (Nat.le_of_ble_eq_true rfl) ?_
  refine p_aload_n dX8_supply_0 rfl (q := 0) rfl ?_
  refine p_iconst dX8_supply_1 ?_
  refine p_iload_n dX8_supply_2 rfl (q := 2) rfl ?_
  refine p_iload_n dX8_supply_3 rfl (q := 1) rfl ?_
  refine p_iload_n dX8_supply_4 rfl (q := 1) rfl ?_
  refine p_aload_n dX8_supply_5 rfl (q := 0) rfl ?_
  refine p_getR (b := (a + 1)) G f_RX8_7 rfl (hS 0 (by decide)).1 ((hS 0 (by decide)).2.2 0 (by decide)) dX8_supply_6 ?_
  refine p_iconst dX8_supply_9 ?_
  refine p_iald G (hS 1 (by decide)).1 (nf_k (by decide)) (by decide) (zln_lt (hS 1 (by decide)).2.1 (by decide)) dX8_supply_10 (fun c1 => ?_)
  refine p_aload_n dX8_supply_11 rfl (q := 0) rfl ?_
  refine p_getR (b := (a + 1)) G f_RX8_7 rfl (hS 0 (by decide)).1 ((hS 0 (by decide)).2.2 0 (by decide)) dX8_supply_12 ?_
  refine p_bipush dX8_supply_15 (by decide) ?_
  refine p_iload_n dX8_supply_17 rfl (q := 1) rfl ?_
  refine p_iadd dX8_supply_18 ?_
  have g3 := h.1
  have h := h.2
  refine p_iald G (hS 1 (by decide)).1 (nf_w _) g3.1 (zln_lt (hS 1 (by decide)).2.1 g3.2) dX8_supply_19 (fun c2 => ?_)
  refine p_iadd dX8_supply_20 ?_
  refine p_iconst dX8_supply_21 ?_
  refine p_VV G k_RX8_92 (by decide) (hS 0 (by decide)).1 rfl (by simp only [zi_zw]; rfl) (Nat.le_of_ble_eq_true rfl) ⟨by decide, by decide⟩ ⟨by decide, by decide⟩ dX8_supply_22 h (fun im4 h => ?_)
  exact p_retV (by decide) (by decide) rfl dX8_supply_25 h
set_option maxRecDepth 20000 in
set_option maxHeartbeats 4000000 in
theorem v_X8_fillOrder {g : zG} (G : zOK g) {S : zSh} {im : zIm} {a : Nat} {p1 : Int} {Q : zIm → Prop} (hS : zS_M S a) (c_p1 : zc p1)
    (h : zPV g M_X8_fillOrder 4 [(0, .ref a), (1, .int (zi p1)), (2, .int (zi (-1))), (3, .int (zi 0))] S im Q) :
    zCV g yX8_fillOrder M_X8_fillOrder [.ref a, .int (zi p1)] S im Q := by
  refine zC_of (by decide) rfl rfl rfl rfl (Nat.le_of_ble_eq_true rfl) ?_
  refine p_iconst dX8_fillOrder_0 ?_
  refine p_istore_n (lv' := [(2, .int (zi (-1))), (0, .ref a), (1, .int (zi p1))]) dX8_fillOrder_1 rfl (by decide) rfl ?_
  refine p_iconst dX8_fillOrder_2 ?_
  refine p_istore_n (lv' := [(3, .int (zi 0)), (2, .int (zi (-1))), (0, .ref a), (1, .int (zi p1))]) dX8_fillOrder_3 rfl (by decide) rfl ?_
  refine p_sub (lv' := [(0, .ref a), (1, .int (zi p1)), (2, .int (zi (-1))), (3, .int (zi 0))]) [2, 3, 1, 0] rfl ?_
  exact h
set_option maxRecDepth 20000 in
set_option maxHeartbeats 4000000 in
theorem v_X8_fillOrder_4 {g : zG} (G : zOK g) {S : zSh} {im : zIm} {a : Nat} {x1 : Int} {x2 : Int} {x3 : Int} {Q : zIm → Prop} (hS : zS_M S a) (c_x1 : zc x1) (c_x2 : zc x2) (c_x3 : zc x3)
    (h : (((im (a + 1) 6) ≤ x3 → ((¬ x2 = (-1) → zCI g yX8_order M_X8_order [.ref a, .int (zi x2), .int (zi 1)] S im (fun r2 im3 => zCV g yX8_remove M_X8_remove [.ref a, .int (zi 6), .int (zi 5412), .int (zi 3), .int (zi x2)] S im3 (fun im5 => zCV g yX8_supply M_X8_supply [.ref a, .int (zi r2), .int (zi x1)] S im5 (fun im7 => Q im7)))) ∧ (x2 = (-1) → zCI g yX8_at M_X8_at [.int (zi 124), .int (zi 0), .int (zi x1)] S im (fun r2 im3 => ((0 ≤ r2 ∧ r2 < 7692) ∧ ∀ im7, im7 = zst im3 (a + 1) r2 (zw ((im3 (a + 1) r2) + 1)) → Q im7))))) ∧ (x3 < (im (a + 1) 6) → zCI g yX8_order M_X8_order [.ref a, .int (zi x3), .int (zi 0)] S im (fun r2 im3 => ((¬ r2 = x1 → zPV g M_X8_fillOrder 4 [(0, .ref a), (1, .int (zi x1)), (2, .int (zi x2)), (3, .int (zi (zw (x3 + 1))))] S im3 Q) ∧ (r2 = x1 → ((x2 = (-1) → zPV g M_X8_fillOrder 4 [(0, .ref a), (1, .int (zi x1)), (2, .int (zi x3)), (3, .int (zi (zw (x3 + 1))))] S im3 Q) ∧ (¬ x2 = (-1) → zCI g yX8_order M_X8_order [.ref a, .int (zi x3), .int (zi 2)] S im3 (fun r5 im6 => zCI g yX8_order M_X8_order [.ref a, .int (zi x2), .int (zi 2)] S im6 (fun r8 im9 => ((r5 ≤ r8 → zPV g M_X8_fillOrder 4 [(0, .ref a), (1, .int (zi x1)), (2, .int (zi x2)), (3, .int (zi (zw (x3 + 1))))] S im9 Q) ∧ (r8 < r5 → zPV g M_X8_fillOrder 4 [(0, .ref a), (1, .int (zi x1)), (2, .int (zi x3)), (3, .int (zi (zw (x3 + 1))))] S im9 Q)))))))))))) :
    zPV g M_X8_fillOrder 4 [(0, .ref a), (1, .int (zi x1)), (2, .int (zi x2)), (3, .int (zi x3))] S im Q := by
  refine p_iload_n dX8_fillOrder_4 rfl (q := 3) rfl ?_
  refine p_aload_n dX8_fillOrder_5 rfl (q := 0) rfl ?_
  refine p_getR (b := (a + 1)) G f_RX8_7 rfl (hS 0 (by decide)).1 ((hS 0 (by decide)).2.2 0 (by decide)) dX8_fillOrder_6 ?_
  refine p_bipush dX8_fillOrder_9 (by decide) ?_
  refine p_iald G (hS 1 (by decide)).1 (nf_k (by decide)) (by decide) (zln_lt (hS 1 (by decide)).2.1 (by decide)) dX8_fillOrder_11 (fun c1 => ?_)
  refine p_icmp_ge (tgt := 69) dX8_fillOrder_12 (by decide) (nf_r c_x3) (nf_r c1) (fun b2 => ?_) (fun b2 => ?_)
  · have h := h.1 b2
    refine p_iload_n dX8_fillOrder_69 rfl (q := 2) rfl ?_
    refine p_iconst dX8_fillOrder_70 ?_
    refine p_icmp_ne (tgt := 91) dX8_fillOrder_71 (by decide) (nf_r c_x2) (nf_k (by decide)) (fun b2 => ?_) (fun b2 => ?_)
    · have h := h.1 b2
      refine p_aload_n dX8_fillOrder_91 rfl (q := 0) rfl ?_
      refine p_iload_n dX8_fillOrder_92 rfl (q := 2) rfl ?_
      refine p_iconst dX8_fillOrder_93 ?_
      refine p_VI G k_RX8_96 (by decide) (hS 0 (by decide)).1 rfl rfl (Nat.le_of_ble_eq_true rfl) ⟨by decide, by decide⟩ ⟨by decide, by decide⟩ dX8_fillOrder_94 h (fun r2 im3 c4 h => ?_)
      refine p_istore_n (lv' := [(3, .int (zi r2)), (0, .ref a), (1, .int (zi x1)), (2, .int (zi x2))]) dX8_fillOrder_97 rfl (by decide) rfl ?_
      refine p_aload_n dX8_fillOrder_98 rfl (q := 1) rfl ?_
      refine p_bipush dX8_fillOrder_99 (by decide) ?_
      refine p_sipush dX8_fillOrder_101 (by decide) ?_
      refine p_iconst dX8_fillOrder_104 ?_
      refine p_iload_n dX8_fillOrder_105 rfl (q := 3) rfl ?_
      refine p_VV G k_RX8_99 (by decide) (hS 0 (by decide)).1 rfl rfl (Nat.le_of_ble_eq_true rfl) ⟨by decide, by decide⟩ ⟨by decide, by decide⟩ dX8_fillOrder_106 h (fun im5 h => ?_)
      refine p_aload_n dX8_fillOrder_109 rfl (q := 1) rfl ?_
      refine p_iload_n dX8_fillOrder_110 rfl (q := 0) rfl ?_
      refine p_iload_n dX8_fillOrder_111 rfl (q := 2) rfl ?_
      refine p_VV G k_RX8_103 (by decide) (hS 0 (by decide)).1 rfl rfl (Nat.le_of_ble_eq_true rfl) ⟨by decide, by decide⟩ ⟨by decide, by decide⟩ dX8_fillOrder_112 h (fun im7 h => ?_)
      exact p_retV (by decide) (by decide) rfl dX8_fillOrder_115 h
    · have h := h.2 b2
      refine p_aload_n dX8_fillOrder_74 rfl (q := 0) rfl ?_
      refine p_getR (b := (a + 1)) G f_RX8_7 rfl (hS 0 (by decide)).1 ((hS 0 (by decide)).2.2 0 (by decide)) dX8_fillOrder_75 ?_
      refine p_bipush dX8_fillOrder_78 (by decide) ?_
      refine p_iconst dX8_fillOrder_80 ?_
      refine p_iload_n dX8_fillOrder_81 rfl (q := 1) rfl ?_
      refine p_SI G k_RX8_62 rfl rfl (Nat.le_of_ble_eq_true rfl) ⟨by decide, by decide⟩ ⟨by decide, by decide⟩ dX8_fillOrder_82 h (fun r2 im3 c4 h => ?_)
      refine p_dup2 dX8_fillOrder_85 rfl rfl ?_
      have g6 := h.1
      have h := h.2
      refine p_iald G (hS 1 (by decide)).1 (nf_r c4) g6.1 (zln_lt (hS 1 (by decide)).2.1 g6.2) dX8_fillOrder_86 (fun c5 => ?_)
      refine p_iconst dX8_fillOrder_87 ?_
      refine p_iadd dX8_fillOrder_88 ?_
      refine p_iast G (hS 1 (by decide)).1 (nf_r c4) g6.1 (zln_lt (hS 1 (by decide)).2.1 g6.2) (nf_w _) dX8_fillOrder_89 ?_
      refine p_gen (fun im7 e8 => ?_)
      have h := h im7 e8
      exact p_retV (by decide) (by decide) rfl dX8_fillOrder_90 h
  · have h := h.2 b2
    refine p_aload_n dX8_fillOrder_15 rfl (q := 0) rfl ?_
    refine p_iload_n dX8_fillOrder_16 rfl (q := 3) rfl ?_
    refine p_iconst dX8_fillOrder_17 ?_
    refine p_VI G k_RX8_96 (by decide) (hS 0 (by decide)).1 rfl rfl (Nat.le_of_ble_eq_true rfl) ⟨by decide, by decide⟩ ⟨by decide, by decide⟩ dX8_fillOrder_18 h (fun r2 im3 c4 h => ?_)
    refine p_iload_n dX8_fillOrder_21 rfl (q := 1) rfl ?_
    refine p_icmp_ne (tgt := 49) dX8_fillOrder_22 (by decide) (nf_r c4) (nf_r c_x1) (fun b5 => ?_) (fun b5 => ?_)
    · have h := h.1 b5
      refine p_iconst dX8_fillOrder_49 ?_
      refine p_istore (lv' := [(4, .int (zi 0)), (0, .ref a), (1, .int (zi x1)), (2, .int (zi x2)), (3, .int (zi x3))]) dX8_fillOrder_50 (by decide) rfl ?_
      refine p_iload dX8_fillOrder_52 (q := 0) rfl ?_
      refine p_if_eq (tgt := 61) dX8_fillOrder_54 (by decide) (nf_k (by decide)) (fun _ => ?_) (fun h9 => absurd h9 (by decide))
      refine p_iload_n dX8_fillOrder_61 rfl (q := 3) rfl ?_
      refine p_istore_n (lv' := [(2, .int (zi x2)), (4, .int (zi 0)), (0, .ref a), (1, .int (zi x1)), (3, .int (zi x3))]) dX8_fillOrder_62 rfl (by decide) rfl ?_
      refine p_iinc (q := 4) (lv' := [(3, .int (zi (x3 + 1))), (2, .int (zi x2)), (4, .int (zi 0)), (0, .ref a), (1, .int (zi x1))]) dX8_fillOrder_63 rfl (by decide) rfl ?_
      refine p_goto (tgt := 4) dX8_fillOrder_66 (by decide) ?_
      refine p_sub (lv' := [(0, .ref a), (1, .int (zi x1)), (2, .int (zi x2)), (3, .int (zi (zw (x3 + 1))))]) [3, 4, 1, 0] (by simp only [zi_zw, zl_zwl]; rfl) ?_
      exact h
    · have h := h.2 b5
      refine p_iload_n dX8_fillOrder_25 rfl (q := 2) rfl ?_
      refine p_iconst dX8_fillOrder_26 ?_
      refine p_icmp_eq (tgt := 45) dX8_fillOrder_27 (by decide) (nf_r c_x2) (nf_k (by decide)) (fun b5 => ?_) (fun b5 => ?_)
      · have h := h.1 b5
        refine p_iconst dX8_fillOrder_45 ?_
        refine p_goto (tgt := 50) dX8_fillOrder_46 (by decide) ?_
        refine p_istore (lv' := [(4, .int (zi 1)), (0, .ref a), (1, .int (zi x1)), (2, .int (zi x2)), (3, .int (zi x3))]) dX8_fillOrder_50 (by decide) rfl ?_
        refine p_iload dX8_fillOrder_52 (q := 0) rfl ?_
        refine p_if_eq (tgt := 61) dX8_fillOrder_54 (by decide) (nf_k (by decide)) (fun h9 => absurd h9 (by decide)) (fun _ => ?_)
        refine p_iload_n dX8_fillOrder_57 rfl (q := 4) rfl ?_
        refine p_goto (tgt := 62) dX8_fillOrder_58 (by decide) ?_
        refine p_istore_n (lv' := [(2, .int (zi x3)), (4, .int (zi 1)), (0, .ref a), (1, .int (zi x1)), (3, .int (zi x3))]) dX8_fillOrder_62 rfl (by decide) rfl ?_
        refine p_iinc (q := 4) (lv' := [(3, .int (zi (x3 + 1))), (2, .int (zi x3)), (4, .int (zi 1)), (0, .ref a), (1, .int (zi x1))]) dX8_fillOrder_63 rfl (by decide) rfl ?_
        refine p_goto (tgt := 4) dX8_fillOrder_66 (by decide) ?_
        refine p_sub (lv' := [(0, .ref a), (1, .int (zi x1)), (2, .int (zi x3)), (3, .int (zi (zw (x3 + 1))))]) [3, 4, 1, 0] (by simp only [zi_zw, zl_zwl]; rfl) ?_
        exact h
      · have h := h.2 b5
        refine p_aload_n dX8_fillOrder_30 rfl (q := 0) rfl ?_
        refine p_iload_n dX8_fillOrder_31 rfl (q := 3) rfl ?_
        refine p_iconst dX8_fillOrder_32 ?_
        refine p_VI G k_RX8_96 (by decide) (hS 0 (by decide)).1 rfl rfl (Nat.le_of_ble_eq_true rfl) ⟨by decide, by decide⟩ ⟨by decide, by decide⟩ dX8_fillOrder_33 h (fun r5 im6 c7 h => ?_)
        refine p_aload_n dX8_fillOrder_36 rfl (q := 0) rfl ?_
        refine p_iload_n dX8_fillOrder_37 rfl (q := 2) rfl ?_
        refine p_iconst dX8_fillOrder_38 ?_
        refine p_VI G k_RX8_96 (by decide) (hS 0 (by decide)).1 rfl rfl (Nat.le_of_ble_eq_true rfl) ⟨by decide, by decide⟩ ⟨by decide, by decide⟩ dX8_fillOrder_39 h (fun r8 im9 c10 h => ?_)
        refine p_icmp_le (tgt := 49) dX8_fillOrder_42 (by decide) (nf_r c7) (nf_r c10) (fun b11 => ?_) (fun b11 => ?_)
        · have h := h.1 b11
          refine p_iconst dX8_fillOrder_49 ?_
          refine p_istore (lv' := [(4, .int (zi 0)), (0, .ref a), (1, .int (zi x1)), (2, .int (zi x2)), (3, .int (zi x3))]) dX8_fillOrder_50 (by decide) rfl ?_
          refine p_iload dX8_fillOrder_52 (q := 0) rfl ?_
          refine p_if_eq (tgt := 61) dX8_fillOrder_54 (by decide) (nf_k (by decide)) (fun _ => ?_) (fun h9 => absurd h9 (by decide))
          refine p_iload_n dX8_fillOrder_61 rfl (q := 3) rfl ?_
          refine p_istore_n (lv' := [(2, .int (zi x2)), (4, .int (zi 0)), (0, .ref a), (1, .int (zi x1)), (3, .int (zi x3))]) dX8_fillOrder_62 rfl (by decide) rfl ?_
          refine p_iinc (q := 4) (lv' := [(3, .int (zi (x3 + 1))), (2, .int (zi x2)), (4, .int (zi 0)), (0, .ref a), (1, .int (zi x1))]) dX8_fillOrder_63 rfl (by decide) rfl ?_
          refine p_goto (tgt := 4) dX8_fillOrder_66 (by decide) ?_
          refine p_sub (lv' := [(0, .ref a), (1, .int (zi x1)), (2, .int (zi x2)), (3, .int (zi (zw (x3 + 1))))]) [3, 4, 1, 0] (by simp only [zi_zw, zl_zwl]; rfl) ?_
          exact h
        · have h := h.2 b11
          refine p_iconst dX8_fillOrder_45 ?_
          refine p_goto (tgt := 50) dX8_fillOrder_46 (by decide) ?_
          refine p_istore (lv' := [(4, .int (zi 1)), (0, .ref a), (1, .int (zi x1)), (2, .int (zi x2)), (3, .int (zi x3))]) dX8_fillOrder_50 (by decide) rfl ?_
          refine p_iload dX8_fillOrder_52 (q := 0) rfl ?_
          refine p_if_eq (tgt := 61) dX8_fillOrder_54 (by decide) (nf_k (by decide)) (fun h9 => absurd h9 (by decide)) (fun _ => ?_)
          refine p_iload_n dX8_fillOrder_57 rfl (q := 4) rfl ?_
          refine p_goto (tgt := 62) dX8_fillOrder_58 (by decide) ?_
          refine p_istore_n (lv' := [(2, .int (zi x3)), (4, .int (zi 1)), (0, .ref a), (1, .int (zi x1)), (3, .int (zi x3))]) dX8_fillOrder_62 rfl (by decide) rfl ?_
          refine p_iinc (q := 4) (lv' := [(3, .int (zi (x3 + 1))), (2, .int (zi x3)), (4, .int (zi 1)), (0, .ref a), (1, .int (zi x1))]) dX8_fillOrder_63 rfl (by decide) rfl ?_
          refine p_goto (tgt := 4) dX8_fillOrder_66 (by decide) ?_
          refine p_sub (lv' := [(0, .ref a), (1, .int (zi x1)), (2, .int (zi x3)), (3, .int (zi (zw (x3 + 1))))]) [3, 4, 1, 0] (by simp only [zi_zw, zl_zwl]; rfl) ?_
          exact h
set_option maxRecDepth 20000 in
set_option maxHeartbeats 4000000 in
theorem v_X8_customer {g : zG} (G : zOK g) {S : zSh} {im : zIm} {a : Nat} {p1 : Int} {p2 : Int} {Q : Int → zIm → Prop} (hS : zS_M S a) (c_p1 : zc p1) (c_p2 : zc p2)
    (h : ((0 ≤ (zw ((4972 + (4 * p1)) + p2)) ∧ (zw ((4972 + (4 * p1)) + p2)) < 7692) ∧ Q (im (a + 1) (zw ((4972 + (4 * p1)) + p2))) im)) :
    zCI g yX8_customer M_X8_customer [.ref a, .int (zi p1), .int (zi p2)] S im Q := by
  refine zC_of (by decide) rfl rfl rfl rfl (Nat.le_of_ble_eq_true rfl) ?_
  refine p_aload_n dX8_customer_0 rfl (q := 0) rfl ?_
  refine p_getR (b := (a + 1)) G f_RX8_7 rfl (hS 0 (by decide)).1 ((hS 0 (by decide)).2.2 0 (by decide)) dX8_customer_1 ?_
  refine p_sipush dX8_customer_4 (by decide) ?_
  refine p_iconst dX8_customer_7 ?_
  refine p_iload_n dX8_customer_8 rfl (q := 1) rfl ?_
  refine p_imul dX8_customer_9 ?_
  refine p_iadd dX8_customer_10 ?_
  refine p_iload_n dX8_customer_11 rfl (q := 2) rfl ?_
  refine p_iadd dX8_customer_12 ?_
  have g2 := h.1
  have h := h.2
  refine p_iald G (hS 1 (by decide)).1 (nf_w _) g2.1 (zln_lt (hS 1 (by decide)).2.1 g2.2) dX8_customer_13 (fun c1 => ?_)
  exact p_iretI (by decide) (by decide) rfl (nf_r c1) dX8_customer_14 h
set_option maxRecDepth 20000 in
set_option maxHeartbeats 4000000 in
theorem v_X8_isCustomer {g : zG} (G : zOK g) {S : zSh} {im : zIm} {a : Nat} {p1 : Int} {p2 : Int} {p3 : Int} {Q : Int → zIm → Prop} (hS : zS_M S a) (c_p1 : zc p1) (c_p2 : zc p2) (c_p3 : zc p3)
    (h : zCI g yX8_customer M_X8_customer [.ref a, .int (zi p1), .int (zi 0)] S im (fun r1 im2 => ((¬ r1 = p2 → Q 0 im2) ∧ (r1 = p2 → zCI g yX8_customer M_X8_customer [.ref a, .int (zi p1), .int (zi 1)] S im2 (fun r4 im5 => ((¬ r4 = p3 → Q 0 im5) ∧ (r4 = p3 → Q 1 im5))))))) :
    zCI g yX8_isCustomer M_X8_isCustomer [.ref a, .int (zi p1), .int (zi p2), .int (zi p3)] S im Q := by
  refine zC_of (by decide) rfl rfl rfl rfl (Nat.le_of_ble_eq_true rfl) ?_
  refine p_aload_n dX8_isCustomer_0 rfl (q := 0) rfl ?_
  refine p_iload_n dX8_isCustomer_1 rfl (q := 1) rfl ?_
  refine p_iconst dX8_isCustomer_2 ?_
  refine p_VI G k_RX8_106 (by decide) (hS 0 (by decide)).1 rfl rfl (Nat.le_of_ble_eq_true rfl) ⟨by decide, by decide⟩ ⟨by decide, by decide⟩ dX8_isCustomer_3 h (fun r1 im2 c3 h => ?_)
  refine p_iload_n dX8_isCustomer_6 rfl (q := 2) rfl ?_
  refine p_icmp_ne (tgt := 24) dX8_isCustomer_7 (by decide) (nf_r c3) (nf_r c_p2) (fun b4 => ?_) (fun b4 => ?_)
  · have h := h.1 b4
    refine p_iconst dX8_isCustomer_24 ?_
    exact p_zretI (by decide) (by decide) rfl (nf_k (by decide)) (by decide) dX8_isCustomer_25 h
  · have h := h.2 b4
    refine p_aload_n dX8_isCustomer_10 rfl (q := 0) rfl ?_
    refine p_iload_n dX8_isCustomer_11 rfl (q := 1) rfl ?_
    refine p_iconst dX8_isCustomer_12 ?_
    refine p_VI G k_RX8_106 (by decide) (hS 0 (by decide)).1 rfl rfl (Nat.le_of_ble_eq_true rfl) ⟨by decide, by decide⟩ ⟨by decide, by decide⟩ dX8_isCustomer_13 h (fun r4 im5 c6 h => ?_)
    refine p_iload_n dX8_isCustomer_16 rfl (q := 3) rfl ?_
    refine p_icmp_ne (tgt := 24) dX8_isCustomer_17 (by decide) (nf_r c6) (nf_r c_p3) (fun b7 => ?_) (fun b7 => ?_)
    · have h := h.1 b7
      refine p_iconst dX8_isCustomer_24 ?_
      exact p_zretI (by decide) (by decide) rfl (nf_k (by decide)) (by decide) dX8_isCustomer_25 h
    · have h := h.2 b7
      refine p_iconst dX8_isCustomer_20 ?_
      refine p_goto (tgt := 25) dX8_isCustomer_21 (by decide) ?_
      exact p_zretI (by decide) (by decide) rfl (nf_k (by decide)) (by decide) dX8_isCustomer_25 h
set_option maxRecDepth 20000 in
set_option maxHeartbeats 4000000 in
theorem v_X8_bestCustomer {g : zG} (G : zOK g) {S : zSh} {im : zIm} {a : Nat} {p1 : Int} {p2 : Int} {Q : Int → zIm → Prop} (hS : zS_M S a) (c_p1 : zc p1) (c_p2 : zc p2)
    (h : zPI g M_X8_bestCustomer 5 [(0, .ref a), (1, .int (zi p1)), (2, .int (zi p2)), (3, .int (zi (-1))), (4, .int (zi 0))] S im Q) :
    zCI g yX8_bestCustomer M_X8_bestCustomer [.ref a, .int (zi p1), .int (zi p2)] S im Q := by
  refine zC_of (by decide) rfl rfl rfl rfl (Nat.le_of_ble_eq_true rfl) ?_
  refine p_iconst dX8_bestCustomer_0 ?_
  refine p_istore_n (lv' := [(3, .int (zi (-1))), (0, .ref a), (1, .int (zi p1)), (2, .int (zi p2))]) dX8_bestCustomer_1 rfl (by decide) rfl ?_
  refine p_iconst dX8_bestCustomer_2 ?_
  refine p_istore (lv' := [(4, .int (zi 0)), (3, .int (zi (-1))), (0, .ref a), (1, .int (zi p1)), (2, .int (zi p2))]) dX8_bestCustomer_3 (by decide) rfl ?_
  refine p_sub (lv' := [(0, .ref a), (1, .int (zi p1)), (2, .int (zi p2)), (3, .int (zi (-1))), (4, .int (zi 0))]) [2, 3, 4, 1, 0] rfl ?_
  exact h
set_option maxRecDepth 20000 in
set_option maxHeartbeats 4000000 in
theorem v_X8_bestCustomer_5 {g : zG} (G : zOK g) {S : zSh} {im : zIm} {a : Nat} {x1 : Int} {x2 : Int} {x3 : Int} {x4 : Int} {Q : Int → zIm → Prop} (hS : zS_M S a) (c_x1 : zc x1) (c_x2 : zc x2) (c_x3 : zc x3) (c_x4 : zc x4)
    (h : (((im (a + 1) 5) ≤ x4 → Q x3 im) ∧ (x4 < (im (a + 1) 5) → zCI g yX8_isCustomer M_X8_isCustomer [.ref a, .int (zi x4), .int (zi x1), .int (zi x2)] S im (fun r2 im3 => ((r2 = 0 → zPI g M_X8_bestCustomer 5 [(0, .ref a), (1, .int (zi x1)), (2, .int (zi x2)), (3, .int (zi x3)), (4, .int (zi (zw (x4 + 1))))] S im3 Q) ∧ (¬ r2 = 0 → ((x3 = (-1) → zPI g M_X8_bestCustomer 5 [(0, .ref a), (1, .int (zi x1)), (2, .int (zi x2)), (3, .int (zi x4)), (4, .int (zi (zw (x4 + 1))))] S im3 Q) ∧ (¬ x3 = (-1) → zCI g yX8_customer M_X8_customer [.ref a, .int (zi x4), .int (zi 2)] S im3 (fun r5 im6 => zCI g yX8_customer M_X8_customer [.ref a, .int (zi x3), .int (zi 2)] S im6 (fun r8 im9 => ((r5 ≤ r8 → zPI g M_X8_bestCustomer 5 [(0, .ref a), (1, .int (zi x1)), (2, .int (zi x2)), (3, .int (zi x3)), (4, .int (zi (zw (x4 + 1))))] S im9 Q) ∧ (r8 < r5 → zPI g M_X8_bestCustomer 5 [(0, .ref a), (1, .int (zi x1)), (2, .int (zi x2)), (3, .int (zi x4)), (4, .int (zi (zw (x4 + 1))))] S im9 Q)))))))))))) :
    zPI g M_X8_bestCustomer 5 [(0, .ref a), (1, .int (zi x1)), (2, .int (zi x2)), (3, .int (zi x3)), (4, .int (zi x4))] S im Q := by
  refine p_iload dX8_bestCustomer_5 (q := 4) rfl ?_
  refine p_aload_n dX8_bestCustomer_7 rfl (q := 0) rfl ?_
  refine p_getR (b := (a + 1)) G f_RX8_7 rfl (hS 0 (by decide)).1 ((hS 0 (by decide)).2.2 0 (by decide)) dX8_bestCustomer_8 ?_
  refine p_iconst dX8_bestCustomer_11 ?_
  refine p_iald G (hS 1 (by decide)).1 (nf_k (by decide)) (by decide) (zln_lt (hS 1 (by decide)).2.1 (by decide)) dX8_bestCustomer_12 (fun c1 => ?_)
  refine p_icmp_ge (tgt := 73) dX8_bestCustomer_13 (by decide) (nf_r c_x4) (nf_r c1) (fun b2 => ?_) (fun b2 => ?_)
  · have h := h.1 b2
    refine p_iload_n dX8_bestCustomer_73 rfl (q := 3) rfl ?_
    exact p_iretI (by decide) (by decide) rfl (nf_r c_x3) dX8_bestCustomer_74 h
  · have h := h.2 b2
    refine p_aload_n dX8_bestCustomer_16 rfl (q := 0) rfl ?_
    refine p_iload dX8_bestCustomer_17 (q := 4) rfl ?_
    refine p_iload_n dX8_bestCustomer_19 rfl (q := 1) rfl ?_
    refine p_iload_n dX8_bestCustomer_20 rfl (q := 2) rfl ?_
    refine p_VI G k_RX8_109 (by decide) (hS 0 (by decide)).1 rfl rfl (Nat.le_of_ble_eq_true rfl) ⟨by decide, by decide⟩ ⟨by decide, by decide⟩ dX8_bestCustomer_21 h (fun r2 im3 c4 h => ?_)
    refine p_if_eq (tgt := 52) dX8_bestCustomer_24 (by decide) (nf_r c4) (fun b5 => ?_) (fun b5 => ?_)
    · have h := h.1 b5
      refine p_iconst dX8_bestCustomer_52 ?_
      refine p_istore (lv' := [(5, .int (zi 0)), (0, .ref a), (1, .int (zi x1)), (2, .int (zi x2)), (3, .int (zi x3)), (4, .int (zi x4))]) dX8_bestCustomer_53 (by decide) rfl ?_
      refine p_iload dX8_bestCustomer_55 (q := 0) rfl ?_
      refine p_if_eq (tgt := 65) dX8_bestCustomer_57 (by decide) (nf_k (by decide)) (fun _ => ?_) (fun h9 => absurd h9 (by decide))
      refine p_iload_n dX8_bestCustomer_65 rfl (q := 4) rfl ?_
      refine p_istore_n (lv' := [(3, .int (zi x3)), (5, .int (zi 0)), (0, .ref a), (1, .int (zi x1)), (2, .int (zi x2)), (4, .int (zi x4))]) dX8_bestCustomer_66 rfl (by decide) rfl ?_
      refine p_iinc (q := 5) (lv' := [(4, .int (zi (x4 + 1))), (3, .int (zi x3)), (5, .int (zi 0)), (0, .ref a), (1, .int (zi x1)), (2, .int (zi x2))]) dX8_bestCustomer_67 rfl (by decide) rfl ?_
      refine p_goto (tgt := 5) dX8_bestCustomer_70 (by decide) ?_
      refine p_sub (lv' := [(0, .ref a), (1, .int (zi x1)), (2, .int (zi x2)), (3, .int (zi x3)), (4, .int (zi (zw (x4 + 1))))]) [3, 4, 5, 1, 0] (by simp only [zi_zw, zl_zwl]; rfl) ?_
      exact h
    · have h := h.2 b5
      refine p_iload_n dX8_bestCustomer_27 rfl (q := 3) rfl ?_
      refine p_iconst dX8_bestCustomer_28 ?_
      refine p_icmp_eq (tgt := 48) dX8_bestCustomer_29 (by decide) (nf_r c_x3) (nf_k (by decide)) (fun b5 => ?_) (fun b5 => ?_)
      · have h := h.1 b5
        refine p_iconst dX8_bestCustomer_48 ?_
        refine p_goto (tgt := 53) dX8_bestCustomer_49 (by decide) ?_
        refine p_istore (lv' := [(5, .int (zi 1)), (0, .ref a), (1, .int (zi x1)), (2, .int (zi x2)), (3, .int (zi x3)), (4, .int (zi x4))]) dX8_bestCustomer_53 (by decide) rfl ?_
        refine p_iload dX8_bestCustomer_55 (q := 0) rfl ?_
        refine p_if_eq (tgt := 65) dX8_bestCustomer_57 (by decide) (nf_k (by decide)) (fun h9 => absurd h9 (by decide)) (fun _ => ?_)
        refine p_iload dX8_bestCustomer_60 (q := 5) rfl ?_
        refine p_goto (tgt := 66) dX8_bestCustomer_62 (by decide) ?_
        refine p_istore_n (lv' := [(3, .int (zi x4)), (5, .int (zi 1)), (0, .ref a), (1, .int (zi x1)), (2, .int (zi x2)), (4, .int (zi x4))]) dX8_bestCustomer_66 rfl (by decide) rfl ?_
        refine p_iinc (q := 5) (lv' := [(4, .int (zi (x4 + 1))), (3, .int (zi x4)), (5, .int (zi 1)), (0, .ref a), (1, .int (zi x1)), (2, .int (zi x2))]) dX8_bestCustomer_67 rfl (by decide) rfl ?_
        refine p_goto (tgt := 5) dX8_bestCustomer_70 (by decide) ?_
        refine p_sub (lv' := [(0, .ref a), (1, .int (zi x1)), (2, .int (zi x2)), (3, .int (zi x4)), (4, .int (zi (zw (x4 + 1))))]) [3, 4, 5, 1, 0] (by simp only [zi_zw, zl_zwl]; rfl) ?_
        exact h
      · have h := h.2 b5
        refine p_aload_n dX8_bestCustomer_32 rfl (q := 0) rfl ?_
        refine p_iload dX8_bestCustomer_33 (q := 4) rfl ?_
        refine p_iconst dX8_bestCustomer_35 ?_
        refine p_VI G k_RX8_106 (by decide) (hS 0 (by decide)).1 rfl rfl (Nat.le_of_ble_eq_true rfl) ⟨by decide, by decide⟩ ⟨by decide, by decide⟩ dX8_bestCustomer_36 h (fun r5 im6 c7 h => ?_)
        refine p_aload_n dX8_bestCustomer_39 rfl (q := 0) rfl ?_
        refine p_iload_n dX8_bestCustomer_40 rfl (q := 3) rfl ?_
        refine p_iconst dX8_bestCustomer_41 ?_
        refine p_VI G k_RX8_106 (by decide) (hS 0 (by decide)).1 rfl rfl (Nat.le_of_ble_eq_true rfl) ⟨by decide, by decide⟩ ⟨by decide, by decide⟩ dX8_bestCustomer_42 h (fun r8 im9 c10 h => ?_)
        refine p_icmp_le (tgt := 52) dX8_bestCustomer_45 (by decide) (nf_r c7) (nf_r c10) (fun b11 => ?_) (fun b11 => ?_)
        · have h := h.1 b11
          refine p_iconst dX8_bestCustomer_52 ?_
          refine p_istore (lv' := [(5, .int (zi 0)), (0, .ref a), (1, .int (zi x1)), (2, .int (zi x2)), (3, .int (zi x3)), (4, .int (zi x4))]) dX8_bestCustomer_53 (by decide) rfl ?_
          refine p_iload dX8_bestCustomer_55 (q := 0) rfl ?_
          refine p_if_eq (tgt := 65) dX8_bestCustomer_57 (by decide) (nf_k (by decide)) (fun _ => ?_) (fun h9 => absurd h9 (by decide))
          refine p_iload_n dX8_bestCustomer_65 rfl (q := 4) rfl ?_
          refine p_istore_n (lv' := [(3, .int (zi x3)), (5, .int (zi 0)), (0, .ref a), (1, .int (zi x1)), (2, .int (zi x2)), (4, .int (zi x4))]) dX8_bestCustomer_66 rfl (by decide) rfl ?_
          refine p_iinc (q := 5) (lv' := [(4, .int (zi (x4 + 1))), (3, .int (zi x3)), (5, .int (zi 0)), (0, .ref a), (1, .int (zi x1)), (2, .int (zi x2))]) dX8_bestCustomer_67 rfl (by decide) rfl ?_
          refine p_goto (tgt := 5) dX8_bestCustomer_70 (by decide) ?_
          refine p_sub (lv' := [(0, .ref a), (1, .int (zi x1)), (2, .int (zi x2)), (3, .int (zi x3)), (4, .int (zi (zw (x4 + 1))))]) [3, 4, 5, 1, 0] (by simp only [zi_zw, zl_zwl]; rfl) ?_
          exact h
        · have h := h.2 b11
          refine p_iconst dX8_bestCustomer_48 ?_
          refine p_goto (tgt := 53) dX8_bestCustomer_49 (by decide) ?_
          refine p_istore (lv' := [(5, .int (zi 1)), (0, .ref a), (1, .int (zi x1)), (2, .int (zi x2)), (3, .int (zi x3)), (4, .int (zi x4))]) dX8_bestCustomer_53 (by decide) rfl ?_
          refine p_iload dX8_bestCustomer_55 (q := 0) rfl ?_
          refine p_if_eq (tgt := 65) dX8_bestCustomer_57 (by decide) (nf_k (by decide)) (fun h9 => absurd h9 (by decide)) (fun _ => ?_)
          refine p_iload dX8_bestCustomer_60 (q := 5) rfl ?_
          refine p_goto (tgt := 66) dX8_bestCustomer_62 (by decide) ?_
          refine p_istore_n (lv' := [(3, .int (zi x4)), (5, .int (zi 1)), (0, .ref a), (1, .int (zi x1)), (2, .int (zi x2)), (4, .int (zi x4))]) dX8_bestCustomer_66 rfl (by decide) rfl ?_
          refine p_iinc (q := 5) (lv' := [(4, .int (zi (x4 + 1))), (3, .int (zi x4)), (5, .int (zi 1)), (0, .ref a), (1, .int (zi x1)), (2, .int (zi x2))]) dX8_bestCustomer_67 rfl (by decide) rfl ?_
          refine p_goto (tgt := 5) dX8_bestCustomer_70 (by decide) ?_
          refine p_sub (lv' := [(0, .ref a), (1, .int (zi x1)), (2, .int (zi x2)), (3, .int (zi x4)), (4, .int (zi (zw (x4 + 1))))]) [3, 4, 5, 1, 0] (by simp only [zi_zw, zl_zwl]; rfl) ?_
          exact h
set_option maxRecDepth 20000 in
set_option maxHeartbeats 4000000 in
theorem v_X8_comeToBase {g : zG} (G : zOK g) {S : zSh} {im : zIm} {a : Nat} {p1 : Int} {p2 : Int} {Q : zIm → Prop} (hS : zS_M S a) (c_p1 : zc p1) (c_p2 : zc p2)
    (h : zCI g yX8_bestCustomer M_X8_bestCustomer [.ref a, .int (zi p1), .int (zi p2)] S im (fun r1 im2 => ((¬ r1 = (-1) → zCI g yX8_at M_X8_at [.int (zi 316), .int (zi p1), .int (zi p2)] S im2 (fun r4 im5 => ((0 ≤ r4 ∧ r4 < 7692) ∧ zCI g yX8_customer M_X8_customer [.ref a, .int (zi r1), .int (zi 3)] S im5 (fun r10 im11 => ∀ im13, im13 = zst im11 (a + 1) r4 (zw ((im5 (a + 1) r4) + ((im5 (a + 1) 0) - r10))) → zCV g yX8_remove M_X8_remove [.ref a, .int (zi 5), .int (zi 4972), .int (zi 4), .int (zi r1)] S im13 (fun im15 => Q im15))))) ∧ (r1 = (-1) → zCI g yX8_at M_X8_at [.int (zi 124), .int (zi p1), .int (zi p2)] S im2 (fun r4 im5 => ((0 ≤ r4 ∧ r4 < 7692) ∧ ∀ im9, im9 = zst im5 (a + 1) r4 (zw ((im5 (a + 1) r4) + 1)) → Q im9)))))) :
    zCV g yX8_comeToBase M_X8_comeToBase [.ref a, .int (zi p1), .int (zi p2)] S im Q := by
  refine zC_of (by decide) rfl rfl rfl rfl (Nat.le_of_ble_eq_true rfl) ?_
  refine p_aload_n dX8_comeToBase_0 rfl (q := 0) rfl ?_
  refine p_iload_n dX8_comeToBase_1 rfl (q := 1) rfl ?_
  refine p_iload_n dX8_comeToBase_2 rfl (q := 2) rfl ?_
  refine p_VI G k_RX8_112 (by decide) (hS 0 (by decide)).1 rfl rfl (Nat.le_of_ble_eq_true rfl) ⟨by decide, by decide⟩ ⟨by decide, by decide⟩ dX8_comeToBase_3 h (fun r1 im2 c3 h => ?_)
  refine p_istore_n (lv' := [(3, .int (zi r1)), (0, .ref a), (1, .int (zi p1)), (2, .int (zi p2))]) dX8_comeToBase_6 rfl (by decide) rfl ?_
  refine p_iload_n dX8_comeToBase_7 rfl (q := 0) rfl ?_
  refine p_iconst dX8_comeToBase_8 ?_
  refine p_icmp_ne (tgt := 29) dX8_comeToBase_9 (by decide) (nf_r c3) (nf_k (by decide)) (fun b4 => ?_) (fun b4 => ?_)
  · have h := h.1 b4
    refine p_aload_n dX8_comeToBase_29 rfl (q := 1) rfl ?_
    refine p_getR (b := (a + 1)) G f_RX8_7 rfl (hS 0 (by decide)).1 ((hS 0 (by decide)).2.2 0 (by decide)) dX8_comeToBase_30 ?_
    refine p_sipush dX8_comeToBase_33 (by decide) ?_
    refine p_iload_n dX8_comeToBase_36 rfl (q := 2) rfl ?_
    refine p_iload_n dX8_comeToBase_37 rfl (q := 3) rfl ?_
    refine p_SI G k_RX8_62 rfl rfl (Nat.le_of_ble_eq_true rfl) ⟨by decide, by decide⟩ ⟨by decide, by decide⟩ dX8_comeToBase_38 h (fun r4 im5 c6 h => ?_)
    refine p_dup2 dX8_comeToBase_41 rfl rfl ?_
    have g8 := h.1
    have h := h.2
    refine p_iald G (hS 1 (by decide)).1 (nf_r c6) g8.1 (zln_lt (hS 1 (by decide)).2.1 g8.2) dX8_comeToBase_42 (fun c7 => ?_)
    refine p_aload_n dX8_comeToBase_43 rfl (q := 1) rfl ?_
    refine p_getR (b := (a + 1)) G f_RX8_7 rfl (hS 0 (by decide)).1 ((hS 0 (by decide)).2.2 0 (by decide)) dX8_comeToBase_44 ?_
    refine p_iconst dX8_comeToBase_47 ?_
    refine p_iald G (hS 1 (by decide)).1 (nf_k (by decide)) (by decide) (zln_lt (hS 1 (by decide)).2.1 (by decide)) dX8_comeToBase_48 (fun c9 => ?_)
    refine p_aload_n dX8_comeToBase_49 rfl (q := 1) rfl ?_
    refine p_iload_n dX8_comeToBase_50 rfl (q := 0) rfl ?_
    refine p_iconst dX8_comeToBase_51 ?_
    refine p_VI G k_RX8_106 (by decide) (hS 0 (by decide)).1 rfl rfl (Nat.le_of_ble_eq_true rfl) ⟨by decide, by decide⟩ ⟨by decide, by decide⟩ dX8_comeToBase_52 h (fun r10 im11 c12 h => ?_)
    refine p_isub dX8_comeToBase_55 ?_
    refine p_iadd dX8_comeToBase_56 ?_
    refine p_iast G (hS 1 (by decide)).1 (nf_r c6) g8.1 (zln_lt (hS 1 (by decide)).2.1 g8.2) (nf_w _) dX8_comeToBase_57 ?_
    refine p_gen (fun im13 e14 => ?_)
    have h := h im13 e14
    refine p_aload_n dX8_comeToBase_58 rfl (q := 1) rfl ?_
    refine p_iconst dX8_comeToBase_59 ?_
    refine p_sipush dX8_comeToBase_60 (by decide) ?_
    refine p_iconst dX8_comeToBase_63 ?_
    refine p_iload_n dX8_comeToBase_64 rfl (q := 0) rfl ?_
    refine p_VV G k_RX8_99 (by decide) (hS 0 (by decide)).1 rfl rfl (Nat.le_of_ble_eq_true rfl) ⟨by decide, by decide⟩ ⟨by decide, by decide⟩ dX8_comeToBase_65 h (fun im15 h => ?_)
    exact p_retV (by decide) (by decide) rfl dX8_comeToBase_68 h
  · have h := h.2 b4
    refine p_aload_n dX8_comeToBase_12 rfl (q := 1) rfl ?_
    refine p_getR (b := (a + 1)) G f_RX8_7 rfl (hS 0 (by decide)).1 ((hS 0 (by decide)).2.2 0 (by decide)) dX8_comeToBase_13 ?_
    refine p_bipush dX8_comeToBase_16 (by decide) ?_
    refine p_iload_n dX8_comeToBase_18 rfl (q := 2) rfl ?_
    refine p_iload_n dX8_comeToBase_19 rfl (q := 3) rfl ?_
    refine p_SI G k_RX8_62 rfl rfl (Nat.le_of_ble_eq_true rfl) ⟨by decide, by decide⟩ ⟨by decide, by decide⟩ dX8_comeToBase_20 h (fun r4 im5 c6 h => ?_)
    refine p_dup2 dX8_comeToBase_23 rfl rfl ?_
    have g8 := h.1
    have h := h.2
    refine p_iald G (hS 1 (by decide)).1 (nf_r c6) g8.1 (zln_lt (hS 1 (by decide)).2.1 g8.2) dX8_comeToBase_24 (fun c7 => ?_)
    refine p_iconst dX8_comeToBase_25 ?_
    refine p_iadd dX8_comeToBase_26 ?_
    refine p_iast G (hS 1 (by decide)).1 (nf_r c6) g8.1 (zln_lt (hS 1 (by decide)).2.1 g8.2) (nf_w _) dX8_comeToBase_27 ?_
    refine p_gen (fun im9 e10 => ?_)
    have h := h im9 e10
    exact p_retV (by decide) (by decide) rfl dX8_comeToBase_28 h
set_option maxRecDepth 20000 in
set_option maxHeartbeats 4000000 in
theorem v_X8_putLevel {g : zG} (G : zOK g) {S : zSh} {im : zIm} {a : Nat} {p1 : Int} {p2 : Int} {p3 : Int} {Q : zIm → Prop} (hS : zS_M S a) (c_p1 : zc p1) (c_p2 : zc p2) (c_p3 : zc p3)
    (h : zCI g yX8_at M_X8_at [.int (zi 92), .int (zi p1), .int (zi p2)] S im (fun r1 im2 => ((0 ≤ r1 ∧ r1 < 7692) ∧ zCI g yX8_at M_X8_at [.int (zi 92), .int (zi p1), .int (zi p2)] S im2 (fun r6 im7 => ((0 ≤ r6 ∧ r6 < 7692) ∧ ∀ im9, im9 = zst im7 (a + 1) r6 p3 → zPV g M_X8_putLevel 32 [(0, .ref a), (1, .int (zi p1)), (2, .int (zi p2)), (4, .int (zi (zw (p3 - (im2 (a + 1) r1))))), (5, .int (zi 0))] S im9 Q))))) :
    zCV g yX8_putLevel M_X8_putLevel [.ref a, .int (zi p1), .int (zi p2), .int (zi p3)] S im Q := by
  refine zC_of (by decide) rfl rfl rfl rfl (Nat.le_of_ble_eq_true rfl) ?_
  refine p_iload_n dX8_putLevel_0 rfl (q := 3) rfl ?_
  refine p_aload_n dX8_putLevel_1 rfl (q := 0) rfl ?_
  refine p_getR (b := (a + 1)) G f_RX8_7 rfl (hS 0 (by decide)).1 ((hS 0 (by decide)).2.2 0 (by decide)) dX8_putLevel_2 ?_
  refine p_bipush dX8_putLevel_5 (by decide) ?_
  refine p_iload_n dX8_putLevel_7 rfl (q := 1) rfl ?_
  refine p_iload_n dX8_putLevel_8 rfl (q := 2) rfl ?_
  refine p_SI G k_RX8_62 rfl rfl (Nat.le_of_ble_eq_true rfl) ⟨by decide, by decide⟩ ⟨by decide, by decide⟩ dX8_putLevel_9 h (fun r1 im2 c3 h => ?_)
  have g5 := h.1
  have h := h.2
  refine p_iald G (hS 1 (by decide)).1 (nf_r c3) g5.1 (zln_lt (hS 1 (by decide)).2.1 g5.2) dX8_putLevel_12 (fun c4 => ?_)
  refine p_isub dX8_putLevel_13 ?_
  refine p_istore (lv' := [(4, .int (zi (p3 - (im2 (a + 1) r1)))), (0, .ref a), (1, .int (zi p1)), (2, .int (zi p2)), (3, .int (zi p3))]) dX8_putLevel_14 (by decide) rfl ?_
  refine p_aload_n dX8_putLevel_16 rfl (q := 1) rfl ?_
  refine p_getR (b := (a + 1)) G f_RX8_7 rfl (hS 0 (by decide)).1 ((hS 0 (by decide)).2.2 0 (by decide)) dX8_putLevel_17 ?_
  refine p_bipush dX8_putLevel_20 (by decide) ?_
  refine p_iload_n dX8_putLevel_22 rfl (q := 2) rfl ?_
  refine p_iload_n dX8_putLevel_23 rfl (q := 3) rfl ?_
  refine p_SI G k_RX8_62 rfl rfl (Nat.le_of_ble_eq_true rfl) ⟨by decide, by decide⟩ ⟨by decide, by decide⟩ dX8_putLevel_24 h (fun r6 im7 c8 h => ?_)
  refine p_iload_n dX8_putLevel_27 rfl (q := 4) rfl ?_
  have g11 := h.1
  have h := h.2
  refine p_iast G (hS 1 (by decide)).1 (nf_r c8) g11.1 (zln_lt (hS 1 (by decide)).2.1 g11.2) (nf_r c_p3) dX8_putLevel_28 ?_
  refine p_gen (fun im9 e10 => ?_)
  have h := h im9 e10
  refine p_iconst dX8_putLevel_29 ?_
  refine p_istore (lv' := [(5, .int (zi 0)), (4, .int (zi (p3 - (im2 (a + 1) r1)))), (0, .ref a), (1, .int (zi p1)), (2, .int (zi p2)), (3, .int (zi p3))]) dX8_putLevel_30 (by decide) rfl ?_
  refine p_sub (lv' := [(0, .ref a), (1, .int (zi p1)), (2, .int (zi p2)), (4, .int (zi (zw (p3 - (im2 (a + 1) r1))))), (5, .int (zi 0))]) [2, 3, 4, 1, 0] (by simp only [zi_zw, zl_zwl]; rfl) ?_
  exact h
set_option maxRecDepth 20000 in
set_option maxHeartbeats 4000000 in
theorem v_X8_putLevel_32 {g : zG} (G : zOK g) {S : zSh} {im : zIm} {a : Nat} {x1 : Int} {x2 : Int} {x4 : Int} {x5 : Int} {Q : zIm → Prop} (hS : zS_M S a) (c_x1 : zc x1) (c_x2 : zc x2) (c_x4 : zc x4) (c_x5 : zc x5)
    (h : ((x4 ≤ x5 → zCI g yX8_at M_X8_at [.int (zi 124), .int (zi x1), .int (zi x2)] S im (fun r1 im2 => ((0 ≤ r1 ∧ r1 < 7692) ∧ ∀ im6, im6 = zst im2 (a + 1) r1 (zw ((im2 (a + 1) r1) + (min x4 0))) → Q im6))) ∧ (x5 < x4 → ((¬ x1 = 0 → zCV g yX8_comeToBase M_X8_comeToBase [.ref a, .int (zi x1), .int (zi x2)] S im (fun im1 => zPV g M_X8_putLevel 32 [(0, .ref a), (1, .int (zi x1)), (2, .int (zi x2)), (4, .int (zi x4)), (5, .int (zi (zw (x5 + 1))))] S im1 Q)) ∧ (x1 = 0 → zCV g yX8_fillOrder M_X8_fillOrder [.ref a, .int (zi x2)] S im (fun im1 => zPV g M_X8_putLevel 32 [(0, .ref a), (1, .int (zi x1)), (2, .int (zi x2)), (4, .int (zi x4)), (5, .int (zi (zw (x5 + 1))))] S im1 Q)))))) :
    zPV g M_X8_putLevel 32 [(0, .ref a), (1, .int (zi x1)), (2, .int (zi x2)), (4, .int (zi x4)), (5, .int (zi x5))] S im Q := by
  refine p_iload dX8_putLevel_32 (q := 4) rfl ?_
  refine p_iload dX8_putLevel_34 (q := 3) rfl ?_
  refine p_icmp_ge (tgt := 63) dX8_putLevel_36 (by decide) (nf_r c_x5) (nf_r c_x4) (fun b1 => ?_) (fun b1 => ?_)
  · have h := h.1 b1
    refine p_aload_n dX8_putLevel_63 rfl (q := 0) rfl ?_
    refine p_getR (b := (a + 1)) G f_RX8_7 rfl (hS 0 (by decide)).1 ((hS 0 (by decide)).2.2 0 (by decide)) dX8_putLevel_64 ?_
    refine p_bipush dX8_putLevel_67 (by decide) ?_
    refine p_iload_n dX8_putLevel_69 rfl (q := 1) rfl ?_
    refine p_iload_n dX8_putLevel_70 rfl (q := 2) rfl ?_
    refine p_SI G k_RX8_62 rfl rfl (Nat.le_of_ble_eq_true rfl) ⟨by decide, by decide⟩ ⟨by decide, by decide⟩ dX8_putLevel_71 h (fun r1 im2 c3 h => ?_)
    refine p_dup2 dX8_putLevel_74 rfl rfl ?_
    have g5 := h.1
    have h := h.2
    refine p_iald G (hS 1 (by decide)).1 (nf_r c3) g5.1 (zln_lt (hS 1 (by decide)).2.1 g5.2) dX8_putLevel_75 (fun c4 => ?_)
    refine p_iload dX8_putLevel_76 (q := 3) rfl ?_
    refine p_iconst dX8_putLevel_78 ?_
    refine p_min G q_6_70 q_2_134 q_1_16 q_2_135 dX8_putLevel_79 (by decide) (Nat.le_of_ble_eq_true rfl) (by decide) (by decide) (nf_r c_x4) (nf_k (by decide)) ?_
    refine p_iadd dX8_putLevel_82 ?_
    refine p_iast G (hS 1 (by decide)).1 (nf_r c3) g5.1 (zln_lt (hS 1 (by decide)).2.1 g5.2) (nf_w _) dX8_putLevel_83 ?_
    refine p_gen (fun im6 e7 => ?_)
    have h := h im6 e7
    exact p_retV (by decide) (by decide) rfl dX8_putLevel_84 h
  · have h := h.2 b1
    refine p_iload_n dX8_putLevel_39 rfl (q := 1) rfl ?_
    refine p_if_ne (tgt := 51) dX8_putLevel_40 (by decide) (nf_r c_x1) (fun b1 => ?_) (fun b1 => ?_)
    · have h := h.1 b1
      refine p_aload_n dX8_putLevel_51 rfl (q := 0) rfl ?_
      refine p_iload_n dX8_putLevel_52 rfl (q := 1) rfl ?_
      refine p_iload_n dX8_putLevel_53 rfl (q := 2) rfl ?_
      refine p_VV G k_RX8_69 (by decide) (hS 0 (by decide)).1 rfl rfl (Nat.le_of_ble_eq_true rfl) ⟨by decide, by decide⟩ ⟨by decide, by decide⟩ dX8_putLevel_54 h (fun im1 h => ?_)
      refine p_iinc (q := 4) (lv' := [(5, .int (zi (x5 + 1))), (0, .ref a), (1, .int (zi x1)), (2, .int (zi x2)), (4, .int (zi x4))]) dX8_putLevel_57 rfl (by decide) rfl ?_
      refine p_goto (tgt := 32) dX8_putLevel_60 (by decide) ?_
      refine p_sub (lv' := [(0, .ref a), (1, .int (zi x1)), (2, .int (zi x2)), (4, .int (zi x4)), (5, .int (zi (zw (x5 + 1))))]) [1, 2, 3, 4, 0] (by simp only [zi_zw, zl_zwl]; rfl) ?_
      exact h
    · have h := h.2 b1
      refine p_aload_n dX8_putLevel_43 rfl (q := 0) rfl ?_
      refine p_iload_n dX8_putLevel_44 rfl (q := 2) rfl ?_
      refine p_VV G k_RX8_65 (by decide) (hS 0 (by decide)).1 rfl rfl (Nat.le_of_ble_eq_true rfl) ⟨by decide, by decide⟩ ⟨by decide, by decide⟩ dX8_putLevel_45 h (fun im1 h => ?_)
      refine p_goto (tgt := 57) dX8_putLevel_48 (by decide) ?_
      refine p_iinc (q := 4) (lv' := [(5, .int (zi (x5 + 1))), (0, .ref a), (1, .int (zi x1)), (2, .int (zi x2)), (4, .int (zi x4))]) dX8_putLevel_57 rfl (by decide) rfl ?_
      refine p_goto (tgt := 32) dX8_putLevel_60 (by decide) ?_
      refine p_sub (lv' := [(0, .ref a), (1, .int (zi x1)), (2, .int (zi x2)), (4, .int (zi x4)), (5, .int (zi (zw (x5 + 1))))]) [1, 2, 3, 4, 0] (by simp only [zi_zw, zl_zwl]; rfl) ?_
      exact h
set_option maxRecDepth 20000 in
set_option maxHeartbeats 4000000 in
theorem v_X8_setLevel {g : zG} (G : zOK g) {S : zSh} {im : zIm} {a : Nat} {p1 : Int} {p2 : Int} {p3 : Int} {Q : Int → zIm → Prop} (hS : zS_M S a) (c_p1 : zc p1) (c_p2 : zc p2) (c_p3 : zc p3)
    (h : ∀ im1, im1 = zst im a 4 0 → zCI g yX8_isSite M_X8_isSite [.ref a, .int (zi p1)] S im1 (fun r3 im4 => ((r3 = 0 → zCI g yX8_fail M_X8_fail [.ref a, .int (zi 1)] S im4 (fun r6 im7 => Q r6 im7)) ∧ (¬ r3 = 0 → zCI g yX8_isItem M_X8_isItem [.ref a, .int (zi p2)] S im4 (fun r6 im7 => ((¬ r6 = 0 → zCI g yX8_isBetween M_X8_isBetween [.int (zi p3), .int (zi 0), .int (zi 20)] S im7 (fun r9 im10 => ((¬ r9 = 0 → zCI g yX8_at M_X8_at [.int (zi 92), .int (zi p1), .int (zi p2)] S im10 (fun r12 im13 => ((0 ≤ r12 ∧ r12 < 7692) ∧ zCI g yX8_at M_X8_at [.int (zi 124), .int (zi p1), .int (zi p2)] S im13 (fun r17 im18 => ((0 ≤ r17 ∧ r17 < 7692) ∧ (((zw ((im13 (a + 1) r12) - p3)) ≤ (im18 (a + 1) r17) → zCV g yX8_putLevel M_X8_putLevel [.ref a, .int (zi p1), .int (zi p2), .int (zi p3)] S im18 (fun im22 => Q (im13 (a + 1) r12) im22)) ∧ ((im18 (a + 1) r17) < (zw ((im13 (a + 1) r12) - p3)) → zCI g yX8_fail M_X8_fail [.ref a, .int (zi 3)] S im18 (fun r22 im23 => Q r22 im23)))))))) ∧ (r9 = 0 → zCI g yX8_fail M_X8_fail [.ref a, .int (zi 2)] S im10 (fun r12 im13 => Q r12 im13))))) ∧ (r6 = 0 → zCI g yX8_fail M_X8_fail [.ref a, .int (zi 1)] S im7 (fun r9 im10 => Q r9 im10)))))))) :
    zCI g yX8_setLevel M_X8_setLevel [.ref a, .int (zi p1), .int (zi p2), .int (zi p3)] S im Q := by
  refine zC_of (by decide) rfl rfl rfl rfl (Nat.le_of_ble_eq_true rfl) ?_
  refine p_aload_n dX8_setLevel_0 rfl (q := 0) rfl ?_
  refine p_iconst dX8_setLevel_1 ?_
  refine p_putI (j := 4) G f_RX8_30 rfl rfl rfl (hS 0 (by decide)).1 (nf_k (by decide)) dX8_setLevel_2 ?_
  refine p_gen (fun im1 e2 => ?_)
  have h := h im1 e2
  refine p_aload_n dX8_setLevel_5 rfl (q := 0) rfl ?_
  refine p_iload_n dX8_setLevel_6 rfl (q := 1) rfl ?_
  refine p_VI G k_RX8_78 (by decide) (hS 0 (by decide)).1 rfl rfl (Nat.le_of_ble_eq_true rfl) ⟨by decide, by decide⟩ ⟨by decide, by decide⟩ dX8_setLevel_7 h (fun r3 im4 c5 h => ?_)
  refine p_if_eq (tgt := 21) dX8_setLevel_10 (by decide) (nf_r c5) (fun b6 => ?_) (fun b6 => ?_)
  · have h := h.1 b6
    refine p_aload_n dX8_setLevel_21 rfl (q := 0) rfl ?_
    refine p_iconst dX8_setLevel_22 ?_
    refine p_VI G k_RX8_41 (by decide) (hS 0 (by decide)).1 rfl rfl (Nat.le_of_ble_eq_true rfl) ⟨by decide, by decide⟩ ⟨by decide, by decide⟩ dX8_setLevel_23 h (fun r6 im7 c8 h => ?_)
    exact p_iretI (by decide) (by decide) rfl (nf_r c8) dX8_setLevel_26 h
  · have h := h.2 b6
    refine p_aload_n dX8_setLevel_13 rfl (q := 0) rfl ?_
    refine p_iload_n dX8_setLevel_14 rfl (q := 2) rfl ?_
    refine p_VI G k_RX8_81 (by decide) (hS 0 (by decide)).1 rfl rfl (Nat.le_of_ble_eq_true rfl) ⟨by decide, by decide⟩ ⟨by decide, by decide⟩ dX8_setLevel_15 h (fun r6 im7 c8 h => ?_)
    refine p_if_ne (tgt := 27) dX8_setLevel_18 (by decide) (nf_r c8) (fun b9 => ?_) (fun b9 => ?_)
    · have h := h.1 b9
      refine p_iload_n dX8_setLevel_27 rfl (q := 3) rfl ?_
      refine p_iconst dX8_setLevel_28 ?_
      refine p_bipush dX8_setLevel_29 (by decide) ?_
      refine p_SI G k_RX8_33 rfl rfl (Nat.le_of_ble_eq_true rfl) ⟨by decide, by decide⟩ ⟨by decide, by decide⟩ dX8_setLevel_31 h (fun r9 im10 c11 h => ?_)
      refine p_if_ne (tgt := 43) dX8_setLevel_34 (by decide) (nf_r c11) (fun b12 => ?_) (fun b12 => ?_)
      · have h := h.1 b12
        refine p_aload_n dX8_setLevel_43 rfl (q := 0) rfl ?_
        refine p_getR (b := (a + 1)) G f_RX8_7 rfl (hS 0 (by decide)).1 ((hS 0 (by decide)).2.2 0 (by decide)) dX8_setLevel_44 ?_
        refine p_bipush dX8_setLevel_47 (by decide) ?_
        refine p_iload_n dX8_setLevel_49 rfl (q := 1) rfl ?_
        refine p_iload_n dX8_setLevel_50 rfl (q := 2) rfl ?_
        refine p_SI G k_RX8_62 rfl rfl (Nat.le_of_ble_eq_true rfl) ⟨by decide, by decide⟩ ⟨by decide, by decide⟩ dX8_setLevel_51 h (fun r12 im13 c14 h => ?_)
        have g16 := h.1
        have h := h.2
        refine p_iald G (hS 1 (by decide)).1 (nf_r c14) g16.1 (zln_lt (hS 1 (by decide)).2.1 g16.2) dX8_setLevel_54 (fun c15 => ?_)
        refine p_istore (lv' := [(4, .int (zi (im13 (a + 1) r12))), (0, .ref a), (1, .int (zi p1)), (2, .int (zi p2)), (3, .int (zi p3))]) dX8_setLevel_55 (by decide) rfl ?_
        refine p_iload dX8_setLevel_57 (q := 0) rfl ?_
        refine p_iload_n dX8_setLevel_59 rfl (q := 4) rfl ?_
        refine p_isub dX8_setLevel_60 ?_
        refine p_aload_n dX8_setLevel_61 rfl (q := 1) rfl ?_
        refine p_getR (b := (a + 1)) G f_RX8_7 rfl (hS 0 (by decide)).1 ((hS 0 (by decide)).2.2 0 (by decide)) dX8_setLevel_62 ?_
        refine p_bipush dX8_setLevel_65 (by decide) ?_
        refine p_iload_n dX8_setLevel_67 rfl (q := 2) rfl ?_
        refine p_iload_n dX8_setLevel_68 rfl (q := 3) rfl ?_
        refine p_SI G k_RX8_62 rfl rfl (Nat.le_of_ble_eq_true rfl) ⟨by decide, by decide⟩ ⟨by decide, by decide⟩ dX8_setLevel_69 h (fun r17 im18 c19 h => ?_)
        have g21 := h.1
        have h := h.2
        refine p_iald G (hS 1 (by decide)).1 (nf_r c19) g21.1 (zln_lt (hS 1 (by decide)).2.1 g21.2) dX8_setLevel_72 (fun c20 => ?_)
        refine p_icmp_le (tgt := 82) dX8_setLevel_73 (by decide) (nf_w _) (nf_r c20) (fun b22 => ?_) (fun b22 => ?_)
        · have h := h.1 b22
          refine p_aload_n dX8_setLevel_82 rfl (q := 1) rfl ?_
          refine p_iload_n dX8_setLevel_83 rfl (q := 2) rfl ?_
          refine p_iload_n dX8_setLevel_84 rfl (q := 3) rfl ?_
          refine p_iload_n dX8_setLevel_85 rfl (q := 4) rfl ?_
          refine p_VV G k_RX8_84 (by decide) (hS 0 (by decide)).1 rfl rfl (Nat.le_of_ble_eq_true rfl) ⟨by decide, by decide⟩ ⟨by decide, by decide⟩ dX8_setLevel_86 h (fun im22 h => ?_)
          refine p_iload dX8_setLevel_89 (q := 0) rfl ?_
          exact p_iretI (by decide) (by decide) rfl (nf_r c15) dX8_setLevel_91 h
        · have h := h.2 b22
          refine p_aload_n dX8_setLevel_76 rfl (q := 1) rfl ?_
          refine p_iconst dX8_setLevel_77 ?_
          refine p_VI G k_RX8_41 (by decide) (hS 0 (by decide)).1 rfl rfl (Nat.le_of_ble_eq_true rfl) ⟨by decide, by decide⟩ ⟨by decide, by decide⟩ dX8_setLevel_78 h (fun r22 im23 c24 h => ?_)
          exact p_iretI (by decide) (by decide) rfl (nf_r c24) dX8_setLevel_81 h
      · have h := h.2 b12
        refine p_aload_n dX8_setLevel_37 rfl (q := 0) rfl ?_
        refine p_iconst dX8_setLevel_38 ?_
        refine p_VI G k_RX8_41 (by decide) (hS 0 (by decide)).1 rfl rfl (Nat.le_of_ble_eq_true rfl) ⟨by decide, by decide⟩ ⟨by decide, by decide⟩ dX8_setLevel_39 h (fun r12 im13 c14 h => ?_)
        exact p_iretI (by decide) (by decide) rfl (nf_r c14) dX8_setLevel_42 h
    · have h := h.2 b9
      refine p_aload_n dX8_setLevel_21 rfl (q := 0) rfl ?_
      refine p_iconst dX8_setLevel_22 ?_
      refine p_VI G k_RX8_41 (by decide) (hS 0 (by decide)).1 rfl rfl (Nat.le_of_ble_eq_true rfl) ⟨by decide, by decide⟩ ⟨by decide, by decide⟩ dX8_setLevel_23 h (fun r9 im10 c11 h => ?_)
      exact p_iretI (by decide) (by decide) rfl (nf_r c11) dX8_setLevel_26 h
set_option maxRecDepth 20000 in
set_option maxHeartbeats 4000000 in
theorem v_X8_setNumber {g : zG} (G : zOK g) {S : zSh} {im : zIm} {a : Nat} {p1 : Int} {p2 : Int} {p3 : Int} {p4 : Int} {p5 : Int} {Q : Int → zIm → Prop} (hS : zS_M S a) (c_p1 : zc p1) (c_p2 : zc p2) (c_p3 : zc p3) (c_p4 : zc p4) (c_p5 : zc p5)
    (h : ∀ im1, im1 = zst im a 4 0 → zCI g yX8_isBase M_X8_isBase [.ref a, .int (zi p2)] S im1 (fun r3 im4 => ((r3 = 0 → zCI g yX8_fail M_X8_fail [.ref a, .int (zi 1)] S im4 (fun r6 im7 => Q r6 im7)) ∧ (¬ r3 = 0 → zCI g yX8_isItem M_X8_isItem [.ref a, .int (zi p3)] S im4 (fun r6 im7 => ((¬ r6 = 0 → zCI g yX8_isBetween M_X8_isBetween [.int (zi p4), .int (zi 0), .int (zi p5)] S im7 (fun r9 im10 => ((¬ r9 = 0 → zCI g yX8_at M_X8_at [.int (zi p1), .int (zi p2), .int (zi p3)] S im10 (fun r12 im13 => ((0 ≤ r12 ∧ r12 < 7692) ∧ zCI g yX8_at M_X8_at [.int (zi p1), .int (zi p2), .int (zi p3)] S im13 (fun r17 im18 => ((0 ≤ r17 ∧ r17 < 7692) ∧ ∀ im20, im20 = zst im18 (a + 1) r17 p4 → Q (im13 (a + 1) r12) im20))))) ∧ (r9 = 0 → zCI g yX8_fail M_X8_fail [.ref a, .int (zi 2)] S im10 (fun r12 im13 => Q r12 im13))))) ∧ (r6 = 0 → zCI g yX8_fail M_X8_fail [.ref a, .int (zi 1)] S im7 (fun r9 im10 => Q r9 im10)))))))) :
    zCI g yX8_setNumber M_X8_setNumber [.ref a, .int (zi p1), .int (zi p2), .int (zi p3), .int (zi p4), .int (zi p5)] S im Q := by
  refine zC_of (by decide) rfl rfl rfl rfl (Nat.le_of_ble_eq_true rfl) ?_
  refine p_aload_n dX8_setNumber_0 rfl (q := 0) rfl ?_
  refine p_iconst dX8_setNumber_1 ?_
  refine p_putI (j := 4) G f_RX8_30 rfl rfl rfl (hS 0 (by decide)).1 (nf_k (by decide)) dX8_setNumber_2 ?_
  refine p_gen (fun im1 e2 => ?_)
  have h := h im1 e2
  refine p_aload_n dX8_setNumber_5 rfl (q := 0) rfl ?_
  refine p_iload_n dX8_setNumber_6 rfl (q := 2) rfl ?_
  refine p_VI G k_RX8_55 (by decide) (hS 0 (by decide)).1 rfl rfl (Nat.le_of_ble_eq_true rfl) ⟨by decide, by decide⟩ ⟨by decide, by decide⟩ dX8_setNumber_7 h (fun r3 im4 c5 h => ?_)
  refine p_if_eq (tgt := 21) dX8_setNumber_10 (by decide) (nf_r c5) (fun b6 => ?_) (fun b6 => ?_)
  · have h := h.1 b6
    refine p_aload_n dX8_setNumber_21 rfl (q := 0) rfl ?_
    refine p_iconst dX8_setNumber_22 ?_
    refine p_VI G k_RX8_41 (by decide) (hS 0 (by decide)).1 rfl rfl (Nat.le_of_ble_eq_true rfl) ⟨by decide, by decide⟩ ⟨by decide, by decide⟩ dX8_setNumber_23 h (fun r6 im7 c8 h => ?_)
    exact p_iretI (by decide) (by decide) rfl (nf_r c8) dX8_setNumber_26 h
  · have h := h.2 b6
    refine p_aload_n dX8_setNumber_13 rfl (q := 0) rfl ?_
    refine p_iload_n dX8_setNumber_14 rfl (q := 3) rfl ?_
    refine p_VI G k_RX8_81 (by decide) (hS 0 (by decide)).1 rfl rfl (Nat.le_of_ble_eq_true rfl) ⟨by decide, by decide⟩ ⟨by decide, by decide⟩ dX8_setNumber_15 h (fun r6 im7 c8 h => ?_)
    refine p_if_ne (tgt := 27) dX8_setNumber_18 (by decide) (nf_r c8) (fun b9 => ?_) (fun b9 => ?_)
    · have h := h.1 b9
      refine p_iload dX8_setNumber_27 (q := 4) rfl ?_
      refine p_iconst dX8_setNumber_29 ?_
      refine p_iload dX8_setNumber_30 (q := 5) rfl ?_
      refine p_SI G k_RX8_33 rfl rfl (Nat.le_of_ble_eq_true rfl) ⟨by decide, by decide⟩ ⟨by decide, by decide⟩ dX8_setNumber_32 h (fun r9 im10 c11 h => ?_)
      refine p_if_ne (tgt := 44) dX8_setNumber_35 (by decide) (nf_r c11) (fun b12 => ?_) (fun b12 => ?_)
      · have h := h.1 b12
        refine p_aload_n dX8_setNumber_44 rfl (q := 0) rfl ?_
        refine p_getR (b := (a + 1)) G f_RX8_7 rfl (hS 0 (by decide)).1 ((hS 0 (by decide)).2.2 0 (by decide)) dX8_setNumber_45 ?_
        refine p_iload_n dX8_setNumber_48 rfl (q := 1) rfl ?_
        refine p_iload_n dX8_setNumber_49 rfl (q := 2) rfl ?_
        refine p_iload_n dX8_setNumber_50 rfl (q := 3) rfl ?_
        refine p_SI G k_RX8_62 rfl rfl (Nat.le_of_ble_eq_true rfl) ⟨by decide, by decide⟩ ⟨by decide, by decide⟩ dX8_setNumber_51 h (fun r12 im13 c14 h => ?_)
        have g16 := h.1
        have h := h.2
        refine p_iald G (hS 1 (by decide)).1 (nf_r c14) g16.1 (zln_lt (hS 1 (by decide)).2.1 g16.2) dX8_setNumber_54 (fun c15 => ?_)
        refine p_istore (lv' := [(6, .int (zi (im13 (a + 1) r12))), (0, .ref a), (1, .int (zi p1)), (2, .int (zi p2)), (3, .int (zi p3)), (4, .int (zi p4)), (5, .int (zi p5))]) dX8_setNumber_55 (by decide) rfl ?_
        refine p_aload_n dX8_setNumber_57 rfl (q := 1) rfl ?_
        refine p_getR (b := (a + 1)) G f_RX8_7 rfl (hS 0 (by decide)).1 ((hS 0 (by decide)).2.2 0 (by decide)) dX8_setNumber_58 ?_
        refine p_iload_n dX8_setNumber_61 rfl (q := 2) rfl ?_
        refine p_iload_n dX8_setNumber_62 rfl (q := 3) rfl ?_
        refine p_iload_n dX8_setNumber_63 rfl (q := 4) rfl ?_
        refine p_SI G k_RX8_62 rfl rfl (Nat.le_of_ble_eq_true rfl) ⟨by decide, by decide⟩ ⟨by decide, by decide⟩ dX8_setNumber_64 h (fun r17 im18 c19 h => ?_)
        refine p_iload dX8_setNumber_67 (q := 5) rfl ?_
        have g22 := h.1
        have h := h.2
        refine p_iast G (hS 1 (by decide)).1 (nf_r c19) g22.1 (zln_lt (hS 1 (by decide)).2.1 g22.2) (nf_r c_p4) dX8_setNumber_69 ?_
        refine p_gen (fun im20 e21 => ?_)
        have h := h im20 e21
        refine p_iload dX8_setNumber_70 (q := 0) rfl ?_
        exact p_iretI (by decide) (by decide) rfl (nf_r c15) dX8_setNumber_72 h
      · have h := h.2 b12
        refine p_aload_n dX8_setNumber_38 rfl (q := 0) rfl ?_
        refine p_iconst dX8_setNumber_39 ?_
        refine p_VI G k_RX8_41 (by decide) (hS 0 (by decide)).1 rfl rfl (Nat.le_of_ble_eq_true rfl) ⟨by decide, by decide⟩ ⟨by decide, by decide⟩ dX8_setNumber_40 h (fun r12 im13 c14 h => ?_)
        exact p_iretI (by decide) (by decide) rfl (nf_r c14) dX8_setNumber_43 h
    · have h := h.2 b9
      refine p_aload_n dX8_setNumber_21 rfl (q := 0) rfl ?_
      refine p_iconst dX8_setNumber_22 ?_
      refine p_VI G k_RX8_41 (by decide) (hS 0 (by decide)).1 rfl rfl (Nat.le_of_ble_eq_true rfl) ⟨by decide, by decide⟩ ⟨by decide, by decide⟩ dX8_setNumber_23 h (fun r9 im10 c11 h => ?_)
      exact p_iretI (by decide) (by decide) rfl (nf_r c11) dX8_setNumber_26 h
set_option maxRecDepth 20000 in
set_option maxHeartbeats 4000000 in
theorem v_X8_setShare {g : zG} (G : zOK g) {S : zSh} {im : zIm} {a : Nat} {p1 : Int} {p2 : Int} {p3 : Int} {Q : Int → zIm → Prop} (hS : zS_M S a) (c_p1 : zc p1) (c_p2 : zc p2) (c_p3 : zc p3)
    (h : zCI g yX8_setNumber M_X8_setNumber [.ref a, .int (zi 188), .int (zi p1), .int (zi p2), .int (zi p3), .int (zi 10)] S im (fun r1 im2 => Q r1 im2)) :
    zCI g yX8_setShare M_X8_setShare [.ref a, .int (zi p1), .int (zi p2), .int (zi p3)] S im Q := by
  refine zC_of (by decide) rfl rfl rfl rfl (Nat.le_of_ble_eq_true rfl) ?_
  refine p_aload_n dX8_setShare_0 rfl (q := 0) rfl ?_
  refine p_sipush dX8_setShare_1 (by decide) ?_
  refine p_iload_n dX8_setShare_4 rfl (q := 1) rfl ?_
  refine p_iload_n dX8_setShare_5 rfl (q := 2) rfl ?_
  refine p_iload_n dX8_setShare_6 rfl (q := 3) rfl ?_
  refine p_bipush dX8_setShare_7 (by decide) ?_
  refine p_VI G k_RX8_88 (by decide) (hS 0 (by decide)).1 rfl rfl (Nat.le_of_ble_eq_true rfl) ⟨by decide, by decide⟩ ⟨by decide, by decide⟩ dX8_setShare_9 h (fun r1 im2 c3 h => ?_)
  exact p_iretI (by decide) (by decide) rfl (nf_r c3) dX8_setShare_12 h
set_option maxRecDepth 20000 in
set_option maxHeartbeats 4000000 in
theorem v_X8_setReserve {g : zG} (G : zOK g) {S : zSh} {im : zIm} {a : Nat} {p1 : Int} {p2 : Int} {p3 : Int} {Q : Int → zIm → Prop} (hS : zS_M S a) (c_p1 : zc p1) (c_p2 : zc p2) (c_p3 : zc p3)
    (h : zCI g yX8_setNumber M_X8_setNumber [.ref a, .int (zi 156), .int (zi p1), .int (zi p2), .int (zi p3), .int (zi 20)] S im (fun r1 im2 => Q r1 im2)) :
    zCI g yX8_setReserve M_X8_setReserve [.ref a, .int (zi p1), .int (zi p2), .int (zi p3)] S im Q := by
  refine zC_of (by decide) rfl rfl rfl rfl (Nat.le_of_ble_eq_true rfl) ?_
  refine p_aload_n dX8_setReserve_0 rfl (q := 0) rfl ?_
  refine p_sipush dX8_setReserve_1 (by decide) ?_
  refine p_iload_n dX8_setReserve_4 rfl (q := 1) rfl ?_
  refine p_iload_n dX8_setReserve_5 rfl (q := 2) rfl ?_
  refine p_iload_n dX8_setReserve_6 rfl (q := 3) rfl ?_
  refine p_bipush dX8_setReserve_7 (by decide) ?_
  refine p_VI G k_RX8_88 (by decide) (hS 0 (by decide)).1 rfl rfl (Nat.le_of_ble_eq_true rfl) ⟨by decide, by decide⟩ ⟨by decide, by decide⟩ dX8_setReserve_9 h (fun r1 im2 c3 h => ?_)
  exact p_iretI (by decide) (by decide) rfl (nf_r c3) dX8_setReserve_12 h
set_option maxRecDepth 20000 in
set_option maxHeartbeats 4000000 in
theorem v_X8_setRate {g : zG} (G : zOK g) {S : zSh} {im : zIm} {a : Nat} {p1 : Int} {p2 : Int} {p3 : Int} {Q : Int → zIm → Prop} (hS : zS_M S a) (c_p1 : zc p1) (c_p2 : zc p2) (c_p3 : zc p3)
    (h : zCI g yX8_setNumber M_X8_setNumber [.ref a, .int (zi 220), .int (zi p1), .int (zi p2), .int (zi p3), .int (zi 100)] S im (fun r1 im2 => Q r1 im2)) :
    zCI g yX8_setRate M_X8_setRate [.ref a, .int (zi p1), .int (zi p2), .int (zi p3)] S im Q := by
  refine zC_of (by decide) rfl rfl rfl rfl (Nat.le_of_ble_eq_true rfl) ?_
  refine p_aload_n dX8_setRate_0 rfl (q := 0) rfl ?_
  refine p_sipush dX8_setRate_1 (by decide) ?_
  refine p_iload_n dX8_setRate_4 rfl (q := 1) rfl ?_
  refine p_iload_n dX8_setRate_5 rfl (q := 2) rfl ?_
  refine p_iload_n dX8_setRate_6 rfl (q := 3) rfl ?_
  refine p_bipush dX8_setRate_7 (by decide) ?_
  refine p_VI G k_RX8_88 (by decide) (hS 0 (by decide)).1 rfl rfl (Nat.le_of_ble_eq_true rfl) ⟨by decide, by decide⟩ ⟨by decide, by decide⟩ dX8_setRate_9 h (fun r1 im2 c3 h => ?_)
  exact p_iretI (by decide) (by decide) rfl (nf_r c3) dX8_setRate_12 h
set_option maxRecDepth 20000 in
set_option maxHeartbeats 4000000 in
theorem v_X8_setLateralLimit {g : zG} (G : zOK g) {S : zSh} {im : zIm} {a : Nat} {p1 : Int} {Q : Int → zIm → Prop} (hS : zS_M S a) (c_p1 : zc p1)
    (h : ∀ im1, im1 = zst im a 4 0 → zCI g yX8_isBetween M_X8_isBetween [.int (zi p1), .int (zi 0), .int (zi 20)] S im1 (fun r3 im4 => ((¬ r3 = 0 → ∀ im7, im7 = zst im4 (a + 1) 1 p1 → Q (im4 (a + 1) 1) im7) ∧ (r3 = 0 → zCI g yX8_fail M_X8_fail [.ref a, .int (zi 1)] S im4 (fun r6 im7 => Q r6 im7))))) :
    zCI g yX8_setLateralLimit M_X8_setLateralLimit [.ref a, .int (zi p1)] S im Q := by
  refine zC_of (by decide) rfl rfl rfl rfl (Nat.le_of_ble_eq_true rfl) ?_
  refine p_aload_n dX8_setLateralLimit_0 rfl (q := 0) rfl ?_
  refine p_iconst dX8_setLateralLimit_1 ?_
  refine p_putI (j := 4) G f_RX8_30 rfl rfl rfl (hS 0 (by decide)).1 (nf_k (by decide)) dX8_setLateralLimit_2 ?_
  refine p_gen (fun im1 e2 => ?_)
  have h := h im1 e2
  refine p_iload_n dX8_setLateralLimit_5 rfl (q := 1) rfl ?_
  refine p_iconst dX8_setLateralLimit_6 ?_
  refine p_bipush dX8_setLateralLimit_7 (by decide) ?_
  refine p_SI G k_RX8_33 rfl rfl (Nat.le_of_ble_eq_true rfl) ⟨by decide, by decide⟩ ⟨by decide, by decide⟩ dX8_setLateralLimit_9 h (fun r3 im4 c5 h => ?_)
  refine p_if_ne (tgt := 21) dX8_setLateralLimit_12 (by decide) (nf_r c5) (fun b6 => ?_) (fun b6 => ?_)
  · have h := h.1 b6
    refine p_aload_n dX8_setLateralLimit_21 rfl (q := 0) rfl ?_
    refine p_getR (b := (a + 1)) G f_RX8_7 rfl (hS 0 (by decide)).1 ((hS 0 (by decide)).2.2 0 (by decide)) dX8_setLateralLimit_22 ?_
    refine p_iconst dX8_setLateralLimit_25 ?_
    refine p_iald G (hS 1 (by decide)).1 (nf_k (by decide)) (by decide) (zln_lt (hS 1 (by decide)).2.1 (by decide)) dX8_setLateralLimit_26 (fun c6 => ?_)
    refine p_istore_n (lv' := [(2, .int (zi (im4 (a + 1) 1))), (0, .ref a), (1, .int (zi p1))]) dX8_setLateralLimit_27 rfl (by decide) rfl ?_
    refine p_aload_n dX8_setLateralLimit_28 rfl (q := 1) rfl ?_
    refine p_getR (b := (a + 1)) G f_RX8_7 rfl (hS 0 (by decide)).1 ((hS 0 (by decide)).2.2 0 (by decide)) dX8_setLateralLimit_29 ?_
    refine p_iconst dX8_setLateralLimit_32 ?_
    refine p_iload_n dX8_setLateralLimit_33 rfl (q := 2) rfl ?_
    refine p_iast G (hS 1 (by decide)).1 (nf_k (by decide)) (by decide) (zln_lt (hS 1 (by decide)).2.1 (by decide)) (nf_r c_p1) dX8_setLateralLimit_34 ?_
    refine p_gen (fun im7 e8 => ?_)
    have h := h im7 e8
    refine p_iload_n dX8_setLateralLimit_35 rfl (q := 0) rfl ?_
    exact p_iretI (by decide) (by decide) rfl (nf_r c6) dX8_setLateralLimit_36 h
  · have h := h.2 b6
    refine p_aload_n dX8_setLateralLimit_15 rfl (q := 0) rfl ?_
    refine p_iconst dX8_setLateralLimit_16 ?_
    refine p_VI G k_RX8_41 (by decide) (hS 0 (by decide)).1 rfl rfl (Nat.le_of_ble_eq_true rfl) ⟨by decide, by decide⟩ ⟨by decide, by decide⟩ dX8_setLateralLimit_17 h (fun r6 im7 c8 h => ?_)
    exact p_iretI (by decide) (by decide) rfl (nf_r c8) dX8_setLateralLimit_20 h
set_option maxRecDepth 20000 in
set_option maxHeartbeats 4000000 in
theorem v_X8_isRefused {g : zG} (G : zOK g) {S : zSh} {im : zIm} {a : Nat} {Q : Int → zIm → Prop} (hS : zS_M S a)
    (h : ((200 ≤ (im (a + 1) 4) → Q 1 im) ∧ ((im (a + 1) 4) < 200 → (((im (a + 1) 5) < 100 → Q 0 im) ∧ (100 ≤ (im (a + 1) 5) → Q 1 im))))) :
    zCI g yX8_isRefused M_X8_isRefused [.ref a] S im Q := by
  refine zC_of (by decide) rfl rfl rfl rfl (Nat.le_of_ble_eq_true rfl) ?_
  refine p_aload_n dX8_isRefused_0 rfl (q := 0) rfl ?_
  refine p_getR (b := (a + 1)) G f_RX8_7 rfl (hS 0 (by decide)).1 ((hS 0 (by decide)).2.2 0 (by decide)) dX8_isRefused_1 ?_
  refine p_iconst dX8_isRefused_4 ?_
  refine p_iald G (hS 1 (by decide)).1 (nf_k (by decide)) (by decide) (zln_lt (hS 1 (by decide)).2.1 (by decide)) dX8_isRefused_5 (fun c1 => ?_)
  refine p_sipush dX8_isRefused_6 (by decide) ?_
  refine p_icmp_ge (tgt := 23) dX8_isRefused_9 (by decide) (nf_r c1) (nf_k (by decide)) (fun b2 => ?_) (fun b2 => ?_)
  · have h := h.1 b2
    refine p_iconst dX8_isRefused_23 ?_
    refine p_goto (tgt := 28) dX8_isRefused_24 (by decide) ?_
    exact p_zretI (by decide) (by decide) rfl (nf_k (by decide)) (by decide) dX8_isRefused_28 h
  · have h := h.2 b2
    refine p_aload_n dX8_isRefused_12 rfl (q := 0) rfl ?_
    refine p_getR (b := (a + 1)) G f_RX8_7 rfl (hS 0 (by decide)).1 ((hS 0 (by decide)).2.2 0 (by decide)) dX8_isRefused_13 ?_
    refine p_iconst dX8_isRefused_16 ?_
    refine p_iald G (hS 1 (by decide)).1 (nf_k (by decide)) (by decide) (zln_lt (hS 1 (by decide)).2.1 (by decide)) dX8_isRefused_17 (fun c2 => ?_)
    refine p_bipush dX8_isRefused_18 (by decide) ?_
    refine p_icmp_lt (tgt := 27) dX8_isRefused_20 (by decide) (nf_r c2) (nf_k (by decide)) (fun b3 => ?_) (fun b3 => ?_)
    · have h := h.1 b3
      refine p_iconst dX8_isRefused_27 ?_
      exact p_zretI (by decide) (by decide) rfl (nf_k (by decide)) (by decide) dX8_isRefused_28 h
    · have h := h.2 b3
      refine p_iconst dX8_isRefused_23 ?_
      refine p_goto (tgt := 28) dX8_isRefused_24 (by decide) ?_
      exact p_zretI (by decide) (by decide) rfl (nf_k (by decide)) (by decide) dX8_isRefused_28 h
set_option maxRecDepth 20000 in
set_option maxHeartbeats 4000000 in
theorem v_X8_appendCustomer {g : zG} (G : zOK g) {S : zSh} {im : zIm} {a : Nat} {p1 : Int} {p2 : Int} {p3 : Int} {Q : zIm → Prop} (hS : zS_M S a) (c_p1 : zc p1) (c_p2 : zc p2) (c_p3 : zc p3)
    (h : zCI g yX8_append M_X8_append [.ref a, .int (zi 5), .int (zi 4972), .int (zi 4)] S im (fun r1 im2 => ((0 ≤ (zw (r1 + 0)) ∧ (zw (r1 + 0)) < 7692) ∧ ∀ im4, im4 = zst im2 (a + 1) (zw (r1 + 0)) p1 → ((0 ≤ (zw (r1 + 1)) ∧ (zw (r1 + 1)) < 7692) ∧ ∀ im7, im7 = zst im4 (a + 1) (zw (r1 + 1)) p2 → ((0 ≤ (zw (r1 + 2)) ∧ (zw (r1 + 2)) < 7692) ∧ ∀ im10, im10 = zst im7 (a + 1) (zw (r1 + 2)) p3 → ((0 ≤ (zw (r1 + 3)) ∧ (zw (r1 + 3)) < 7692) ∧ ∀ im14, im14 = zst im10 (a + 1) (zw (r1 + 3)) (im10 (a + 1) 0) → Q im14)))))) :
    zCV g yX8_appendCustomer M_X8_appendCustomer [.ref a, .int (zi p1), .int (zi p2), .int (zi p3)] S im Q := by
  refine zC_of (by decide) rfl rfl rfl rfl (Nat.le_of_ble_eq_true rfl) ?_
  refine p_aload_n dX8_appendCustomer_0 rfl (q := 0) rfl ?_
  refine p_iconst dX8_appendCustomer_1 ?_
  refine p_sipush dX8_appendCustomer_2 (by decide) ?_
  refine p_iconst dX8_appendCustomer_5 ?_
  refine p_VI G k_RX8_37 (by decide) (hS 0 (by decide)).1 rfl rfl (Nat.le_of_ble_eq_true rfl) ⟨by decide, by decide⟩ ⟨by decide, by decide⟩ dX8_appendCustomer_6 h (fun r1 im2 c3 h => ?_)
  refine p_istore (lv' := [(4, .int (zi r1)), (0, .ref a), (1, .int (zi p1)), (2, .int (zi p2)), (3, .int (zi p3))]) dX8_appendCustomer_9 (by decide) rfl ?_
  refine p_aload_n dX8_appendCustomer_11 rfl (q := 1) rfl ?_
  refine p_getR (b := (a + 1)) G f_RX8_7 rfl (hS 0 (by decide)).1 ((hS 0 (by decide)).2.2 0 (by decide)) dX8_appendCustomer_12 ?_
  refine p_iload dX8_appendCustomer_15 (q := 0) rfl ?_
  refine p_iconst dX8_appendCustomer_17 ?_
  refine p_iadd dX8_appendCustomer_18 ?_
  refine p_iload_n dX8_appendCustomer_19 rfl (q := 2) rfl ?_
  have g6 := h.1
  have h := h.2
  refine p_iast G (hS 1 (by decide)).1 (nf_w _) g6.1 (zln_lt (hS 1 (by decide)).2.1 g6.2) (nf_r c_p1) dX8_appendCustomer_20 ?_
  refine p_gen (fun im4 e5 => ?_)
  have h := h im4 e5
  refine p_aload_n dX8_appendCustomer_21 rfl (q := 1) rfl ?_
  refine p_getR (b := (a + 1)) G f_RX8_7 rfl (hS 0 (by decide)).1 ((hS 0 (by decide)).2.2 0 (by decide)) dX8_appendCustomer_22 ?_
  refine p_iload dX8_appendCustomer_25 (q := 0) rfl ?_
  refine p_iconst dX8_appendCustomer_27 ?_
  refine p_iadd dX8_appendCustomer_28 ?_
  refine p_iload_n dX8_appendCustomer_29 rfl (q := 3) rfl ?_
  have g9 := h.1
  have h := h.2
  refine p_iast G (hS 1 (by decide)).1 (nf_w _) g9.1 (zln_lt (hS 1 (by decide)).2.1 g9.2) (nf_r c_p2) dX8_appendCustomer_30 ?_
  refine p_gen (fun im7 e8 => ?_)
  have h := h im7 e8
  refine p_aload_n dX8_appendCustomer_31 rfl (q := 1) rfl ?_
  refine p_getR (b := (a + 1)) G f_RX8_7 rfl (hS 0 (by decide)).1 ((hS 0 (by decide)).2.2 0 (by decide)) dX8_appendCustomer_32 ?_
  refine p_iload dX8_appendCustomer_35 (q := 0) rfl ?_
  refine p_iconst dX8_appendCustomer_37 ?_
  refine p_iadd dX8_appendCustomer_38 ?_
  refine p_iload_n dX8_appendCustomer_39 rfl (q := 4) rfl ?_
  have g12 := h.1
  have h := h.2
  refine p_iast G (hS 1 (by decide)).1 (nf_w _) g12.1 (zln_lt (hS 1 (by decide)).2.1 g12.2) (nf_r c_p3) dX8_appendCustomer_40 ?_
  refine p_gen (fun im10 e11 => ?_)
  have h := h im10 e11
  refine p_aload_n dX8_appendCustomer_41 rfl (q := 1) rfl ?_
  refine p_getR (b := (a + 1)) G f_RX8_7 rfl (hS 0 (by decide)).1 ((hS 0 (by decide)).2.2 0 (by decide)) dX8_appendCustomer_42 ?_
  refine p_iload dX8_appendCustomer_45 (q := 0) rfl ?_
  refine p_iconst dX8_appendCustomer_47 ?_
  refine p_iadd dX8_appendCustomer_48 ?_
  refine p_aload_n dX8_appendCustomer_49 rfl (q := 1) rfl ?_
  refine p_getR (b := (a + 1)) G f_RX8_7 rfl (hS 0 (by decide)).1 ((hS 0 (by decide)).2.2 0 (by decide)) dX8_appendCustomer_50 ?_
  refine p_iconst dX8_appendCustomer_53 ?_
  refine p_iald G (hS 1 (by decide)).1 (nf_k (by decide)) (by decide) (zln_lt (hS 1 (by decide)).2.1 (by decide)) dX8_appendCustomer_54 (fun c13 => ?_)
  have g16 := h.1
  have h := h.2
  refine p_iast G (hS 1 (by decide)).1 (nf_w _) g16.1 (zln_lt (hS 1 (by decide)).2.1 g16.2) (nf_r c13) dX8_appendCustomer_55 ?_
  refine p_gen (fun im14 e15 => ?_)
  have h := h im14 e15
  exact p_retV (by decide) (by decide) rfl dX8_appendCustomer_56 h
set_option maxRecDepth 20000 in
set_option maxHeartbeats 4000000 in
theorem v_X8_findHelper {g : zG} (G : zOK g) {S : zSh} {im : zIm} {a : Nat} {p1 : Int} {p2 : Int} {Q : Int → zIm → Prop} (hS : zS_M S a) (c_p1 : zc p1) (c_p2 : zc p2)
    (h : zPI g M_X8_findHelper 5 [(0, .ref a), (1, .int (zi p1)), (2, .int (zi p2)), (3, .int (zi (-1))), (4, .int (zi 1))] S im Q) :
    zCI g yX8_findHelper M_X8_findHelper [.ref a, .int (zi p1), .int (zi p2)] S im Q := by
  refine zC_of (by decide) rfl rfl rfl rfl (Nat.le_of_ble_eq_true rfl) ?_
  refine p_iconst dX8_findHelper_0 ?_
  refine p_istore_n (lv' := [(3, .int (zi (-1))), (0, .ref a), (1, .int (zi p1)), (2, .int (zi p2))]) dX8_findHelper_1 rfl (by decide) rfl ?_
  refine p_iconst dX8_findHelper_2 ?_
  refine p_istore (lv' := [(4, .int (zi 1)), (3, .int (zi (-1))), (0, .ref a), (1, .int (zi p1)), (2, .int (zi p2))]) dX8_findHelper_3 (by decide) rfl ?_
  refine p_sub (lv' := [(0, .ref a), (1, .int (zi p1)), (2, .int (zi p2)), (3, .int (zi (-1))), (4, .int (zi 1))]) [2, 3, 4, 1, 0] rfl ?_
  exact h
set_option maxRecDepth 20000 in
set_option maxHeartbeats 4000000 in
theorem v_X8_findHelper_5 {g : zG} (G : zOK g) {S : zSh} {im : zIm} {a : Nat} {x1 : Int} {x2 : Int} {x3 : Int} {x4 : Int} {Q : Int → zIm → Prop} (hS : zS_M S a) (c_x1 : zc x1) (c_x2 : zc x2) (c_x3 : zc x3) (c_x4 : zc x4)
    (h : (((im (a + 1) 3) ≤ x4 → Q x3 im) ∧ (x4 < (im (a + 1) 3) → zCI g yX8_link M_X8_link [.ref a, .int (zi x1), .int (zi x4)] S im (fun r2 im3 => zCI g yX8_at M_X8_at [.int (zi 124), .int (zi x4), .int (zi x2)] S im3 (fun r5 im6 => ((0 ≤ r5 ∧ r5 < 7692) ∧ ((x4 = x1 → zPI g M_X8_findHelper 5 [(0, .ref a), (1, .int (zi x1)), (2, .int (zi x2)), (3, .int (zi x3)), (4, .int (zi (zw (x4 + 1))))] S im6 Q) ∧ (¬ x4 = x1 → zCI g yX8_isBetween M_X8_isBetween [.int (zi r2), .int (zi 1), .int (zi (im6 (a + 1) 1))] S im6 (fun r11 im12 => ((r11 = 0 → zPI g M_X8_findHelper 5 [(0, .ref a), (1, .int (zi x1)), (2, .int (zi x2)), (3, .int (zi x3)), (4, .int (zi (zw (x4 + 1))))] S im12 Q) ∧ (¬ r11 = 0 → zCI g yX8_at M_X8_at [.int (zi 156), .int (zi x4), .int (zi x2)] S im12 (fun r14 im15 => ((0 ≤ r14 ∧ r14 < 7692) ∧ (((im6 (a + 1) r5) ≤ (im15 (a + 1) r14) → zPI g M_X8_findHelper 5 [(0, .ref a), (1, .int (zi x1)), (2, .int (zi x2)), (3, .int (zi x3)), (4, .int (zi (zw (x4 + 1))))] S im15 Q) ∧ ((im15 (a + 1) r14) < (im6 (a + 1) r5) → ((x3 = (-1) → zPI g M_X8_findHelper 5 [(0, .ref a), (1, .int (zi x1)), (2, .int (zi x2)), (3, .int (zi x4)), (4, .int (zi (zw (x4 + 1))))] S im15 Q) ∧ (¬ x3 = (-1) → zCI g yX8_link M_X8_link [.ref a, .int (zi x1), .int (zi x3)] S im15 (fun r19 im20 => ((r2 < r19 → zPI g M_X8_findHelper 5 [(0, .ref a), (1, .int (zi x1)), (2, .int (zi x2)), (3, .int (zi x4)), (4, .int (zi (zw (x4 + 1))))] S im20 Q) ∧ (r19 ≤ r2 → zCI g yX8_link M_X8_link [.ref a, .int (zi x1), .int (zi x3)] S im20 (fun r22 im23 => ((¬ r2 = r22 → zPI g M_X8_findHelper 5 [(0, .ref a), (1, .int (zi x1)), (2, .int (zi x2)), (3, .int (zi x3)), (4, .int (zi (zw (x4 + 1))))] S im23 Q) ∧ (r2 = r22 → zCI g yX8_at M_X8_at [.int (zi 124), .int (zi x3), .int (zi x2)] S im23 (fun r25 im26 => ((0 ≤ r25 ∧ r25 < 7692) ∧ (((im6 (a + 1) r5) ≤ (im26 (a + 1) r25) → zPI g M_X8_findHelper 5 [(0, .ref a), (1, .int (zi x1)), (2, .int (zi x2)), (3, .int (zi x3)), (4, .int (zi (zw (x4 + 1))))] S im26 Q) ∧ ((im26 (a + 1) r25) < (im6 (a + 1) r5) → zPI g M_X8_findHelper 5 [(0, .ref a), (1, .int (zi x1)), (2, .int (zi x2)), (3, .int (zi x4)), (4, .int (zi (zw (x4 + 1))))] S im26 Q))))))))))))))))))))))))))) :
    zPI g M_X8_findHelper 5 [(0, .ref a), (1, .int (zi x1)), (2, .int (zi x2)), (3, .int (zi x3)), (4, .int (zi x4))] S im Q := by
  refine p_iload dX8_findHelper_5 (q := 4) rfl ?_
  refine p_aload_n dX8_findHelper_7 rfl (q := 0) rfl ?_
  refine p_getR (b := (a + 1)) G f_RX8_7 rfl (hS 0 (by decide)).1 ((hS 0 (by decide)).2.2 0 (by decide)) dX8_findHelper_8 ?_
  refine p_iconst dX8_findHelper_11 ?_
  refine p_iald G (hS 1 (by decide)).1 (nf_k (by decide)) (by decide) (zln_lt (hS 1 (by decide)).2.1 (by decide)) dX8_findHelper_12 (fun c1 => ?_)
  refine p_icmp_ge (tgt := 145) dX8_findHelper_13 (by decide) (nf_r c_x4) (nf_r c1) (fun b2 => ?_) (fun b2 => ?_)
  · have h := h.1 b2
    refine p_iload_n dX8_findHelper_145 rfl (q := 3) rfl ?_
    exact p_iretI (by decide) (by decide) rfl (nf_r c_x3) dX8_findHelper_146 h
  · have h := h.2 b2
    refine p_aload_n dX8_findHelper_16 rfl (q := 0) rfl ?_
    refine p_iload_n dX8_findHelper_17 rfl (q := 1) rfl ?_
    refine p_iload dX8_findHelper_18 (q := 4) rfl ?_
    refine p_VI G k_RX8_51 (by decide) (hS 0 (by decide)).1 rfl rfl (Nat.le_of_ble_eq_true rfl) ⟨by decide, by decide⟩ ⟨by decide, by decide⟩ dX8_findHelper_20 h (fun r2 im3 c4 h => ?_)
    refine p_istore (lv' := [(5, .int (zi r2)), (0, .ref a), (1, .int (zi x1)), (2, .int (zi x2)), (3, .int (zi x3)), (4, .int (zi x4))]) dX8_findHelper_23 (by decide) rfl ?_
    refine p_aload_n dX8_findHelper_25 rfl (q := 1) rfl ?_
    refine p_getR (b := (a + 1)) G f_RX8_7 rfl (hS 0 (by decide)).1 ((hS 0 (by decide)).2.2 0 (by decide)) dX8_findHelper_26 ?_
    refine p_bipush dX8_findHelper_29 (by decide) ?_
    refine p_iload dX8_findHelper_31 (q := 5) rfl ?_
    refine p_iload_n dX8_findHelper_33 rfl (q := 3) rfl ?_
    refine p_SI G k_RX8_62 rfl rfl (Nat.le_of_ble_eq_true rfl) ⟨by decide, by decide⟩ ⟨by decide, by decide⟩ dX8_findHelper_34 h (fun r5 im6 c7 h => ?_)
    have g9 := h.1
    have h := h.2
    refine p_iald G (hS 1 (by decide)).1 (nf_r c7) g9.1 (zln_lt (hS 1 (by decide)).2.1 g9.2) dX8_findHelper_37 (fun c8 => ?_)
    refine p_istore (lv' := [(6, .int (zi (im6 (a + 1) r5))), (5, .int (zi r2)), (0, .ref a), (1, .int (zi x1)), (2, .int (zi x2)), (3, .int (zi x3)), (4, .int (zi x4))]) dX8_findHelper_38 (by decide) rfl ?_
    refine p_iload dX8_findHelper_40 (q := 6) rfl ?_
    refine p_iload_n dX8_findHelper_42 rfl (q := 3) rfl ?_
    refine p_icmp_eq (tgt := 84) dX8_findHelper_43 (by decide) (nf_r c_x4) (nf_r c_x1) (fun b10 => ?_) (fun b10 => ?_)
    · have h := h.1 b10
      refine p_iconst dX8_findHelper_84 ?_
      refine p_istore (lv' := [(7, .int (zi 0)), (6, .int (zi (im6 (a + 1) r5))), (5, .int (zi r2)), (0, .ref a), (1, .int (zi x1)), (2, .int (zi x2)), (3, .int (zi x3)), (4, .int (zi x4))]) dX8_findHelper_85 (by decide) rfl ?_
      refine p_iload dX8_findHelper_87 (q := 0) rfl ?_
      refine p_if_eq (tgt := 139) dX8_findHelper_89 (by decide) (nf_k (by decide)) (fun _ => ?_) (fun h9 => absurd h9 (by decide))
      refine p_iinc (q := 7) (lv' := [(4, .int (zi (x4 + 1))), (7, .int (zi 0)), (6, .int (zi (im6 (a + 1) r5))), (5, .int (zi r2)), (0, .ref a), (1, .int (zi x1)), (2, .int (zi x2)), (3, .int (zi x3))]) dX8_findHelper_139 rfl (by decide) rfl ?_
      refine p_goto (tgt := 5) dX8_findHelper_142 (by decide) ?_
      refine p_sub (lv' := [(0, .ref a), (1, .int (zi x1)), (2, .int (zi x2)), (3, .int (zi x3)), (4, .int (zi (zw (x4 + 1))))]) [4, 5, 6, 7, 0] (by simp only [zi_zw, zl_zwl]; rfl) ?_
      exact h
    · have h := h.2 b10
      refine p_iload dX8_findHelper_46 (q := 1) rfl ?_
      refine p_iconst dX8_findHelper_48 ?_
      refine p_aload_n dX8_findHelper_49 rfl (q := 2) rfl ?_
      refine p_getR (b := (a + 1)) G f_RX8_7 rfl (hS 0 (by decide)).1 ((hS 0 (by decide)).2.2 0 (by decide)) dX8_findHelper_50 ?_
      refine p_iconst dX8_findHelper_53 ?_
      refine p_iald G (hS 1 (by decide)).1 (nf_k (by decide)) (by decide) (zln_lt (hS 1 (by decide)).2.1 (by decide)) dX8_findHelper_54 (fun c10 => ?_)
      refine p_SI G k_RX8_33 rfl rfl (Nat.le_of_ble_eq_true rfl) ⟨by decide, by decide⟩ ⟨by decide, by decide⟩ dX8_findHelper_55 h (fun r11 im12 c13 h => ?_)
      refine p_if_eq (tgt := 84) dX8_findHelper_58 (by decide) (nf_r c13) (fun b14 => ?_) (fun b14 => ?_)
      · have h := h.1 b14
        refine p_iconst dX8_findHelper_84 ?_
        refine p_istore (lv' := [(7, .int (zi 0)), (6, .int (zi (im6 (a + 1) r5))), (5, .int (zi r2)), (0, .ref a), (1, .int (zi x1)), (2, .int (zi x2)), (3, .int (zi x3)), (4, .int (zi x4))]) dX8_findHelper_85 (by decide) rfl ?_
        refine p_iload dX8_findHelper_87 (q := 0) rfl ?_
        refine p_if_eq (tgt := 139) dX8_findHelper_89 (by decide) (nf_k (by decide)) (fun _ => ?_) (fun h9 => absurd h9 (by decide))
        refine p_iinc (q := 7) (lv' := [(4, .int (zi (x4 + 1))), (7, .int (zi 0)), (6, .int (zi (im6 (a + 1) r5))), (5, .int (zi r2)), (0, .ref a), (1, .int (zi x1)), (2, .int (zi x2)), (3, .int (zi x3))]) dX8_findHelper_139 rfl (by decide) rfl ?_
        refine p_goto (tgt := 5) dX8_findHelper_142 (by decide) ?_
        refine p_sub (lv' := [(0, .ref a), (1, .int (zi x1)), (2, .int (zi x2)), (3, .int (zi x3)), (4, .int (zi (zw (x4 + 1))))]) [4, 5, 6, 7, 0] (by simp only [zi_zw, zl_zwl]; rfl) ?_
        exact h
      · have h := h.2 b14
        refine p_iload dX8_findHelper_61 (q := 0) rfl ?_
        refine p_aload_n dX8_findHelper_63 rfl (q := 2) rfl ?_
        refine p_getR (b := (a + 1)) G f_RX8_7 rfl (hS 0 (by decide)).1 ((hS 0 (by decide)).2.2 0 (by decide)) dX8_findHelper_64 ?_
        refine p_sipush dX8_findHelper_67 (by decide) ?_
        refine p_iload dX8_findHelper_70 (q := 6) rfl ?_
        refine p_iload_n dX8_findHelper_72 rfl (q := 4) rfl ?_
        refine p_SI G k_RX8_62 rfl rfl (Nat.le_of_ble_eq_true rfl) ⟨by decide, by decide⟩ ⟨by decide, by decide⟩ dX8_findHelper_73 h (fun r14 im15 c16 h => ?_)
        have g18 := h.1
        have h := h.2
        refine p_iald G (hS 1 (by decide)).1 (nf_r c16) g18.1 (zln_lt (hS 1 (by decide)).2.1 g18.2) dX8_findHelper_76 (fun c17 => ?_)
        refine p_icmp_le (tgt := 84) dX8_findHelper_77 (by decide) (nf_r c8) (nf_r c17) (fun b19 => ?_) (fun b19 => ?_)
        · have h := h.1 b19
          refine p_iconst dX8_findHelper_84 ?_
          refine p_istore (lv' := [(7, .int (zi 0)), (6, .int (zi (im6 (a + 1) r5))), (5, .int (zi r2)), (0, .ref a), (1, .int (zi x1)), (2, .int (zi x2)), (3, .int (zi x3)), (4, .int (zi x4))]) dX8_findHelper_85 (by decide) rfl ?_
          refine p_iload dX8_findHelper_87 (q := 0) rfl ?_
          refine p_if_eq (tgt := 139) dX8_findHelper_89 (by decide) (nf_k (by decide)) (fun _ => ?_) (fun h9 => absurd h9 (by decide))
          refine p_iinc (q := 7) (lv' := [(4, .int (zi (x4 + 1))), (7, .int (zi 0)), (6, .int (zi (im6 (a + 1) r5))), (5, .int (zi r2)), (0, .ref a), (1, .int (zi x1)), (2, .int (zi x2)), (3, .int (zi x3))]) dX8_findHelper_139 rfl (by decide) rfl ?_
          refine p_goto (tgt := 5) dX8_findHelper_142 (by decide) ?_
          refine p_sub (lv' := [(0, .ref a), (1, .int (zi x1)), (2, .int (zi x2)), (3, .int (zi x3)), (4, .int (zi (zw (x4 + 1))))]) [4, 5, 6, 7, 0] (by simp only [zi_zw, zl_zwl]; rfl) ?_
          exact h
        · have h := h.2 b19
          refine p_iconst dX8_findHelper_80 ?_
          refine p_goto (tgt := 85) dX8_findHelper_81 (by decide) ?_
          refine p_istore (lv' := [(7, .int (zi 1)), (6, .int (zi (im6 (a + 1) r5))), (5, .int (zi r2)), (0, .ref a), (1, .int (zi x1)), (2, .int (zi x2)), (3, .int (zi x3)), (4, .int (zi x4))]) dX8_findHelper_85 (by decide) rfl ?_
          refine p_iload dX8_findHelper_87 (q := 0) rfl ?_
          refine p_if_eq (tgt := 139) dX8_findHelper_89 (by decide) (nf_k (by decide)) (fun h9 => absurd h9 (by decide)) (fun _ => ?_)
          refine p_iload_n dX8_findHelper_92 rfl (q := 6) rfl ?_
          refine p_iconst dX8_findHelper_93 ?_
          refine p_icmp_eq (tgt := 136) dX8_findHelper_94 (by decide) (nf_r c_x3) (nf_k (by decide)) (fun b19 => ?_) (fun b19 => ?_)
          · have h := h.1 b19
            refine p_iload dX8_findHelper_136 (q := 7) rfl ?_
            refine p_istore_n (lv' := [(3, .int (zi x4)), (7, .int (zi 1)), (6, .int (zi (im6 (a + 1) r5))), (5, .int (zi r2)), (0, .ref a), (1, .int (zi x1)), (2, .int (zi x2)), (4, .int (zi x4))]) dX8_findHelper_138 rfl (by decide) rfl ?_
            refine p_iinc (q := 7) (lv' := [(4, .int (zi (x4 + 1))), (3, .int (zi x4)), (7, .int (zi 1)), (6, .int (zi (im6 (a + 1) r5))), (5, .int (zi r2)), (0, .ref a), (1, .int (zi x1)), (2, .int (zi x2))]) dX8_findHelper_139 rfl (by decide) rfl ?_
            refine p_goto (tgt := 5) dX8_findHelper_142 (by decide) ?_
            refine p_sub (lv' := [(0, .ref a), (1, .int (zi x1)), (2, .int (zi x2)), (3, .int (zi x4)), (4, .int (zi (zw (x4 + 1))))]) [5, 6, 7, 1, 0] (by simp only [zi_zw, zl_zwl]; rfl) ?_
            exact h
          · have h := h.2 b19
            refine p_iload dX8_findHelper_97 (q := 2) rfl ?_
            refine p_aload_n dX8_findHelper_99 rfl (q := 3) rfl ?_
            refine p_iload_n dX8_findHelper_100 rfl (q := 4) rfl ?_
            refine p_iload_n dX8_findHelper_101 rfl (q := 6) rfl ?_
            refine p_VI G k_RX8_51 (by decide) (hS 0 (by decide)).1 rfl rfl (Nat.le_of_ble_eq_true rfl) ⟨by decide, by decide⟩ ⟨by decide, by decide⟩ dX8_findHelper_102 h (fun r19 im20 c21 h => ?_)
            refine p_icmp_lt (tgt := 136) dX8_findHelper_105 (by decide) (nf_r c4) (nf_r c21) (fun b22 => ?_) (fun b22 => ?_)
            · have h := h.1 b22
              refine p_iload dX8_findHelper_136 (q := 7) rfl ?_
              refine p_istore_n (lv' := [(3, .int (zi x4)), (7, .int (zi 1)), (6, .int (zi (im6 (a + 1) r5))), (5, .int (zi r2)), (0, .ref a), (1, .int (zi x1)), (2, .int (zi x2)), (4, .int (zi x4))]) dX8_findHelper_138 rfl (by decide) rfl ?_
              refine p_iinc (q := 7) (lv' := [(4, .int (zi (x4 + 1))), (3, .int (zi x4)), (7, .int (zi 1)), (6, .int (zi (im6 (a + 1) r5))), (5, .int (zi r2)), (0, .ref a), (1, .int (zi x1)), (2, .int (zi x2))]) dX8_findHelper_139 rfl (by decide) rfl ?_
              refine p_goto (tgt := 5) dX8_findHelper_142 (by decide) ?_
              refine p_sub (lv' := [(0, .ref a), (1, .int (zi x1)), (2, .int (zi x2)), (3, .int (zi x4)), (4, .int (zi (zw (x4 + 1))))]) [5, 6, 7, 1, 0] (by simp only [zi_zw, zl_zwl]; rfl) ?_
              exact h
            · have h := h.2 b22
              refine p_iload dX8_findHelper_108 (q := 2) rfl ?_
              refine p_aload_n dX8_findHelper_110 rfl (q := 3) rfl ?_
              refine p_iload_n dX8_findHelper_111 rfl (q := 4) rfl ?_
              refine p_iload_n dX8_findHelper_112 rfl (q := 6) rfl ?_
              refine p_VI G k_RX8_51 (by decide) (hS 0 (by decide)).1 rfl rfl (Nat.le_of_ble_eq_true rfl) ⟨by decide, by decide⟩ ⟨by decide, by decide⟩ dX8_findHelper_113 h (fun r22 im23 c24 h => ?_)
              refine p_icmp_ne (tgt := 139) dX8_findHelper_116 (by decide) (nf_r c4) (nf_r c24) (fun b25 => ?_) (fun b25 => ?_)
              · have h := h.1 b25
                refine p_iinc (q := 7) (lv' := [(4, .int (zi (x4 + 1))), (7, .int (zi 1)), (6, .int (zi (im6 (a + 1) r5))), (5, .int (zi r2)), (0, .ref a), (1, .int (zi x1)), (2, .int (zi x2)), (3, .int (zi x3))]) dX8_findHelper_139 rfl (by decide) rfl ?_
                refine p_goto (tgt := 5) dX8_findHelper_142 (by decide) ?_
                refine p_sub (lv' := [(0, .ref a), (1, .int (zi x1)), (2, .int (zi x2)), (3, .int (zi x3)), (4, .int (zi (zw (x4 + 1))))]) [4, 5, 6, 7, 0] (by simp only [zi_zw, zl_zwl]; rfl) ?_
                exact h
              · have h := h.2 b25
                refine p_iload dX8_findHelper_119 (q := 1) rfl ?_
                refine p_aload_n dX8_findHelper_121 rfl (q := 3) rfl ?_
                refine p_getR (b := (a + 1)) G f_RX8_7 rfl (hS 0 (by decide)).1 ((hS 0 (by decide)).2.2 0 (by decide)) dX8_findHelper_122 ?_
                refine p_bipush dX8_findHelper_125 (by decide) ?_
                refine p_iload_n dX8_findHelper_127 rfl (q := 6) rfl ?_
                refine p_iload_n dX8_findHelper_128 rfl (q := 5) rfl ?_
                refine p_SI G k_RX8_62 rfl rfl (Nat.le_of_ble_eq_true rfl) ⟨by decide, by decide⟩ ⟨by decide, by decide⟩ dX8_findHelper_129 h (fun r25 im26 c27 h => ?_)
                have g29 := h.1
                have h := h.2
                refine p_iald G (hS 1 (by decide)).1 (nf_r c27) g29.1 (zln_lt (hS 1 (by decide)).2.1 g29.2) dX8_findHelper_132 (fun c28 => ?_)
                refine p_icmp_le (tgt := 139) dX8_findHelper_133 (by decide) (nf_r c8) (nf_r c28) (fun b30 => ?_) (fun b30 => ?_)
                · have h := h.1 b30
                  refine p_iinc (q := 7) (lv' := [(4, .int (zi (x4 + 1))), (7, .int (zi 1)), (6, .int (zi (im6 (a + 1) r5))), (5, .int (zi r2)), (0, .ref a), (1, .int (zi x1)), (2, .int (zi x2)), (3, .int (zi x3))]) dX8_findHelper_139 rfl (by decide) rfl ?_
                  refine p_goto (tgt := 5) dX8_findHelper_142 (by decide) ?_
                  refine p_sub (lv' := [(0, .ref a), (1, .int (zi x1)), (2, .int (zi x2)), (3, .int (zi x3)), (4, .int (zi (zw (x4 + 1))))]) [4, 5, 6, 7, 0] (by simp only [zi_zw, zl_zwl]; rfl) ?_
                  exact h
                · have h := h.2 b30
                  refine p_iload dX8_findHelper_136 (q := 7) rfl ?_
                  refine p_istore_n (lv' := [(3, .int (zi x4)), (7, .int (zi 1)), (6, .int (zi (im6 (a + 1) r5))), (5, .int (zi r2)), (0, .ref a), (1, .int (zi x1)), (2, .int (zi x2)), (4, .int (zi x4))]) dX8_findHelper_138 rfl (by decide) rfl ?_
                  refine p_iinc (q := 7) (lv' := [(4, .int (zi (x4 + 1))), (3, .int (zi x4)), (7, .int (zi 1)), (6, .int (zi (im6 (a + 1) r5))), (5, .int (zi r2)), (0, .ref a), (1, .int (zi x1)), (2, .int (zi x2))]) dX8_findHelper_139 rfl (by decide) rfl ?_
                  refine p_goto (tgt := 5) dX8_findHelper_142 (by decide) ?_
                  refine p_sub (lv' := [(0, .ref a), (1, .int (zi x1)), (2, .int (zi x2)), (3, .int (zi x4)), (4, .int (zi (zw (x4 + 1))))]) [5, 6, 7, 1, 0] (by simp only [zi_zw, zl_zwl]; rfl) ?_
                  exact h
set_option maxRecDepth 20000 in
set_option maxHeartbeats 4000000 in
theorem v_X8_findBuyer {g : zG} (G : zOK g) {S : zSh} {im : zIm} {a : Nat} {p1 : Int} {p2 : Int} {Q : Int → zIm → Prop} (hS : zS_M S a) (c_p1 : zc p1) (c_p2 : zc p2)
    (h : zCI g yX8_findHelper M_X8_findHelper [.ref a, .int (zi p1), .int (zi p2)] S im (fun r1 im2 => ((¬ r1 = (-1) → zCI g yX8_at M_X8_at [.int (zi 124), .int (zi r1), .int (zi p2)] S im2 (fun r4 im5 => ((0 ≤ r4 ∧ r4 < 7692) ∧ ∀ im9, im9 = zst im5 (a + 1) r4 (zw ((im5 (a + 1) r4) - 1)) → zCI g yX8_at M_X8_at [.int (zi 380), .int (zi r1), .int (zi p2)] S im9 (fun r11 im12 => ((0 ≤ r11 ∧ r11 < 7692) ∧ ∀ im16, im16 = zst im12 (a + 1) r11 (zw ((im12 (a + 1) r11) + 1)) → zCI g yX8_link M_X8_link [.ref a, .int (zi p1), .int (zi r1)] S im16 (fun r19 im20 => zCV g yX8_appendUnit M_X8_appendUnit [.ref a, .int (zi 3), .int (zi p2), .int (zi p1), .int (zi p1), .int (zi (zw ((im16 (a + 1) 0) + r19))), .int (zi 0)] S im20 (fun im22 => Q r1 im22))))))) ∧ (r1 = (-1) → Q p1 im2)))) :
    zCI g yX8_findBuyer M_X8_findBuyer [.ref a, .int (zi p1), .int (zi p2)] S im Q := by
  refine zC_of (by decide) rfl rfl rfl rfl (Nat.le_of_ble_eq_true rfl) ?_
  refine p_aload_n dX8_findBuyer_0 rfl (q := 0) rfl ?_
  refine p_iload_n dX8_findBuyer_1 rfl (q := 1) rfl ?_
  refine p_iload_n dX8_findBuyer_2 rfl (q := 2) rfl ?_
  refine p_VI G k_RX8_115 (by decide) (hS 0 (by decide)).1 rfl rfl (Nat.le_of_ble_eq_true rfl) ⟨by decide, by decide⟩ ⟨by decide, by decide⟩ dX8_findBuyer_3 h (fun r1 im2 c3 h => ?_)
  refine p_istore_n (lv' := [(3, .int (zi r1)), (0, .ref a), (1, .int (zi p1)), (2, .int (zi p2))]) dX8_findBuyer_6 rfl (by decide) rfl ?_
  refine p_iload_n dX8_findBuyer_7 rfl (q := 0) rfl ?_
  refine p_iconst dX8_findBuyer_8 ?_
  refine p_icmp_ne (tgt := 14) dX8_findBuyer_9 (by decide) (nf_r c3) (nf_k (by decide)) (fun b4 => ?_) (fun b4 => ?_)
  · have h := h.1 b4
    refine p_aload_n dX8_findBuyer_14 rfl (q := 1) rfl ?_
    refine p_getR (b := (a + 1)) G f_RX8_7 rfl (hS 0 (by decide)).1 ((hS 0 (by decide)).2.2 0 (by decide)) dX8_findBuyer_15 ?_
    refine p_bipush dX8_findBuyer_18 (by decide) ?_
    refine p_iload_n dX8_findBuyer_20 rfl (q := 0) rfl ?_
    refine p_iload_n dX8_findBuyer_21 rfl (q := 3) rfl ?_
    refine p_SI G k_RX8_62 rfl rfl (Nat.le_of_ble_eq_true rfl) ⟨by decide, by decide⟩ ⟨by decide, by decide⟩ dX8_findBuyer_22 h (fun r4 im5 c6 h => ?_)
    refine p_dup2 dX8_findBuyer_25 rfl rfl ?_
    have g8 := h.1
    have h := h.2
    refine p_iald G (hS 1 (by decide)).1 (nf_r c6) g8.1 (zln_lt (hS 1 (by decide)).2.1 g8.2) dX8_findBuyer_26 (fun c7 => ?_)
    refine p_iconst dX8_findBuyer_27 ?_
    refine p_isub dX8_findBuyer_28 ?_
    refine p_iast G (hS 1 (by decide)).1 (nf_r c6) g8.1 (zln_lt (hS 1 (by decide)).2.1 g8.2) (nf_w _) dX8_findBuyer_29 ?_
    refine p_gen (fun im9 e10 => ?_)
    have h := h im9 e10
    refine p_aload_n dX8_findBuyer_30 rfl (q := 1) rfl ?_
    refine p_getR (b := (a + 1)) G f_RX8_7 rfl (hS 0 (by decide)).1 ((hS 0 (by decide)).2.2 0 (by decide)) dX8_findBuyer_31 ?_
    refine p_sipush dX8_findBuyer_34 (by decide) ?_
    refine p_iload_n dX8_findBuyer_37 rfl (q := 0) rfl ?_
    refine p_iload_n dX8_findBuyer_38 rfl (q := 3) rfl ?_
    refine p_SI G k_RX8_62 rfl rfl (Nat.le_of_ble_eq_true rfl) ⟨by decide, by decide⟩ ⟨by decide, by decide⟩ dX8_findBuyer_39 h (fun r11 im12 c13 h => ?_)
    refine p_dup2 dX8_findBuyer_42 rfl rfl ?_
    have g15 := h.1
    have h := h.2
    refine p_iald G (hS 1 (by decide)).1 (nf_r c13) g15.1 (zln_lt (hS 1 (by decide)).2.1 g15.2) dX8_findBuyer_43 (fun c14 => ?_)
    refine p_iconst dX8_findBuyer_44 ?_
    refine p_iadd dX8_findBuyer_45 ?_
    refine p_iast G (hS 1 (by decide)).1 (nf_r c13) g15.1 (zln_lt (hS 1 (by decide)).2.1 g15.2) (nf_w _) dX8_findBuyer_46 ?_
    refine p_gen (fun im16 e17 => ?_)
    have h := h im16 e17
    refine p_aload_n dX8_findBuyer_47 rfl (q := 1) rfl ?_
    refine p_iconst dX8_findBuyer_48 ?_
    refine p_iload_n dX8_findBuyer_49 rfl (q := 3) rfl ?_
    refine p_iload_n dX8_findBuyer_50 rfl (q := 2) rfl ?_
    refine p_iload_n dX8_findBuyer_51 rfl (q := 2) rfl ?_
    refine p_aload_n dX8_findBuyer_52 rfl (q := 1) rfl ?_
    refine p_getR (b := (a + 1)) G f_RX8_7 rfl (hS 0 (by decide)).1 ((hS 0 (by decide)).2.2 0 (by decide)) dX8_findBuyer_53 ?_
    refine p_iconst dX8_findBuyer_56 ?_
    refine p_iald G (hS 1 (by decide)).1 (nf_k (by decide)) (by decide) (zln_lt (hS 1 (by decide)).2.1 (by decide)) dX8_findBuyer_57 (fun c18 => ?_)
    refine p_aload_n dX8_findBuyer_58 rfl (q := 1) rfl ?_
    refine p_iload_n dX8_findBuyer_59 rfl (q := 2) rfl ?_
    refine p_iload_n dX8_findBuyer_60 rfl (q := 0) rfl ?_
    refine p_VI G k_RX8_51 (by decide) (hS 0 (by decide)).1 rfl rfl (Nat.le_of_ble_eq_true rfl) ⟨by decide, by decide⟩ ⟨by decide, by decide⟩ dX8_findBuyer_61 h (fun r19 im20 c21 h => ?_)
    refine p_iadd dX8_findBuyer_64 ?_
    refine p_iconst dX8_findBuyer_65 ?_
    refine p_VV G k_RX8_92 (by decide) (hS 0 (by decide)).1 rfl (by simp only [zi_zw]; rfl) (Nat.le_of_ble_eq_true rfl) ⟨by decide, by decide⟩ ⟨by decide, by decide⟩ dX8_findBuyer_66 h (fun im22 h => ?_)
    refine p_iload_n dX8_findBuyer_69 rfl (q := 0) rfl ?_
    exact p_iretI (by decide) (by decide) rfl (nf_r c3) dX8_findBuyer_70 h
  · have h := h.2 b4
    refine p_iload_n dX8_findBuyer_12 rfl (q := 2) rfl ?_
    exact p_iretI (by decide) (by decide) rfl (nf_r c_p1) dX8_findBuyer_13 h
set_option maxRecDepth 20000 in
set_option maxHeartbeats 4000000 in
theorem v_X8_item {g : zG} (G : zOK g) {S : zSh} {im : zIm} {a : Nat} {p1 : Int} {p2 : Int} {Q : Int → zIm → Prop} (hS : zS_M S a) (c_p1 : zc p1) (c_p2 : zc p2)
    (h : ((0 ≤ (zw ((8 + (3 * p1)) + p2)) ∧ (zw ((8 + (3 * p1)) + p2)) < 7692) ∧ Q (im (a + 1) (zw ((8 + (3 * p1)) + p2))) im)) :
    zCI g yX8_item M_X8_item [.ref a, .int (zi p1), .int (zi p2)] S im Q := by
  refine zC_of (by decide) rfl rfl rfl rfl (Nat.le_of_ble_eq_true rfl) ?_
  refine p_aload_n dX8_item_0 rfl (q := 0) rfl ?_
  refine p_getR (b := (a + 1)) G f_RX8_7 rfl (hS 0 (by decide)).1 ((hS 0 (by decide)).2.2 0 (by decide)) dX8_item_1 ?_
  refine p_bipush dX8_item_4 (by decide) ?_
  refine p_iconst dX8_item_6 ?_
  refine p_iload_n dX8_item_7 rfl (q := 1) rfl ?_
  refine p_imul dX8_item_8 ?_
  refine p_iadd dX8_item_9 ?_
  refine p_iload_n dX8_item_10 rfl (q := 2) rfl ?_
  refine p_iadd dX8_item_11 ?_
  have g2 := h.1
  have h := h.2
  refine p_iald G (hS 1 (by decide)).1 (nf_w _) g2.1 (zln_lt (hS 1 (by decide)).2.1 g2.2) dX8_item_12 (fun c1 => ?_)
  exact p_iretI (by decide) (by decide) rfl (nf_r c1) dX8_item_13 h
set_option maxRecDepth 20000 in
set_option maxHeartbeats 4000000 in
theorem v_X8_placeOrder {g : zG} (G : zOK g) {S : zSh} {im : zIm} {a : Nat} {p1 : Int} {p2 : Int} {p3 : Int} {Q : zIm → Prop} (hS : zS_M S a) (c_p1 : zc p1) (c_p2 : zc p2) (c_p3 : zc p3)
    (h : zCI g yX8_at M_X8_at [.int (zi 124), .int (zi 0), .int (zi p2)] S im (fun r1 im2 => ((0 ≤ r1 ∧ r1 < 7692) ∧ (((im2 (a + 1) r1) ≤ 0 → zCI g yX8_append M_X8_append [.ref a, .int (zi 6), .int (zi 5412), .int (zi 3)] S im2 (fun r6 im7 => ((0 ≤ (zw (r6 + 0)) ∧ (zw (r6 + 0)) < 7692) ∧ ∀ im9, im9 = zst im7 (a + 1) (zw (r6 + 0)) p2 → ((0 ≤ (zw (r6 + 1)) ∧ (zw (r6 + 1)) < 7692) ∧ ∀ im12, im12 = zst im9 (a + 1) (zw (r6 + 1)) p1 → ((0 ≤ (zw (r6 + 2)) ∧ (zw (r6 + 2)) < 7692) ∧ ∀ im15, im15 = zst im12 (a + 1) (zw (r6 + 2)) p3 → Q im15))))) ∧ (0 < (im2 (a + 1) r1) → zCI g yX8_at M_X8_at [.int (zi 124), .int (zi 0), .int (zi p2)] S im2 (fun r6 im7 => ((0 ≤ r6 ∧ r6 < 7692) ∧ ∀ im11, im11 = zst im7 (a + 1) r6 (zw ((im7 (a + 1) r6) - 1)) → zCV g yX8_supply M_X8_supply [.ref a, .int (zi p1), .int (zi p2)] S im11 (fun im13 => Q im13)))))))) :
    zCV g yX8_placeOrder M_X8_placeOrder [.ref a, .int (zi p1), .int (zi p2), .int (zi p3)] S im Q := by
  refine zC_of (by decide) rfl rfl rfl rfl (Nat.le_of_ble_eq_true rfl) ?_
  refine p_aload_n dX8_placeOrder_0 rfl (q := 0) rfl ?_
  refine p_getR (b := (a + 1)) G f_RX8_7 rfl (hS 0 (by decide)).1 ((hS 0 (by decide)).2.2 0 (by decide)) dX8_placeOrder_1 ?_
  refine p_bipush dX8_placeOrder_4 (by decide) ?_
  refine p_iconst dX8_placeOrder_6 ?_
  refine p_iload_n dX8_placeOrder_7 rfl (q := 2) rfl ?_
  refine p_SI G k_RX8_62 rfl rfl (Nat.le_of_ble_eq_true rfl) ⟨by decide, by decide⟩ ⟨by decide, by decide⟩ dX8_placeOrder_8 h (fun r1 im2 c3 h => ?_)
  have g5 := h.1
  have h := h.2
  refine p_iald G (hS 1 (by decide)).1 (nf_r c3) g5.1 (zln_lt (hS 1 (by decide)).2.1 g5.2) dX8_placeOrder_11 (fun c4 => ?_)
  refine p_if_le (tgt := 38) dX8_placeOrder_12 (by decide) (nf_r c4) (fun b6 => ?_) (fun b6 => ?_)
  · have h := h.1 b6
    refine p_aload_n dX8_placeOrder_38 rfl (q := 0) rfl ?_
    refine p_bipush dX8_placeOrder_39 (by decide) ?_
    refine p_sipush dX8_placeOrder_41 (by decide) ?_
    refine p_iconst dX8_placeOrder_44 ?_
    refine p_VI G k_RX8_37 (by decide) (hS 0 (by decide)).1 rfl rfl (Nat.le_of_ble_eq_true rfl) ⟨by decide, by decide⟩ ⟨by decide, by decide⟩ dX8_placeOrder_45 h (fun r6 im7 c8 h => ?_)
    refine p_istore (lv' := [(4, .int (zi r6)), (0, .ref a), (1, .int (zi p1)), (2, .int (zi p2)), (3, .int (zi p3))]) dX8_placeOrder_48 (by decide) rfl ?_
    refine p_aload_n dX8_placeOrder_50 rfl (q := 1) rfl ?_
    refine p_getR (b := (a + 1)) G f_RX8_7 rfl (hS 0 (by decide)).1 ((hS 0 (by decide)).2.2 0 (by decide)) dX8_placeOrder_51 ?_
    refine p_iload dX8_placeOrder_54 (q := 0) rfl ?_
    refine p_iconst dX8_placeOrder_56 ?_
    refine p_iadd dX8_placeOrder_57 ?_
    refine p_iload_n dX8_placeOrder_58 rfl (q := 3) rfl ?_
    have g11 := h.1
    have h := h.2
    refine p_iast G (hS 1 (by decide)).1 (nf_w _) g11.1 (zln_lt (hS 1 (by decide)).2.1 g11.2) (nf_r c_p2) dX8_placeOrder_59 ?_
    refine p_gen (fun im9 e10 => ?_)
    have h := h im9 e10
    refine p_aload_n dX8_placeOrder_60 rfl (q := 1) rfl ?_
    refine p_getR (b := (a + 1)) G f_RX8_7 rfl (hS 0 (by decide)).1 ((hS 0 (by decide)).2.2 0 (by decide)) dX8_placeOrder_61 ?_
    refine p_iload dX8_placeOrder_64 (q := 0) rfl ?_
    refine p_iconst dX8_placeOrder_66 ?_
    refine p_iadd dX8_placeOrder_67 ?_
    refine p_iload_n dX8_placeOrder_68 rfl (q := 2) rfl ?_
    have g14 := h.1
    have h := h.2
    refine p_iast G (hS 1 (by decide)).1 (nf_w _) g14.1 (zln_lt (hS 1 (by decide)).2.1 g14.2) (nf_r c_p1) dX8_placeOrder_69 ?_
    refine p_gen (fun im12 e13 => ?_)
    have h := h im12 e13
    refine p_aload_n dX8_placeOrder_70 rfl (q := 1) rfl ?_
    refine p_getR (b := (a + 1)) G f_RX8_7 rfl (hS 0 (by decide)).1 ((hS 0 (by decide)).2.2 0 (by decide)) dX8_placeOrder_71 ?_
    refine p_iload dX8_placeOrder_74 (q := 0) rfl ?_
    refine p_iconst dX8_placeOrder_76 ?_
    refine p_iadd dX8_placeOrder_77 ?_
    refine p_iload_n dX8_placeOrder_78 rfl (q := 4) rfl ?_
    have g17 := h.1
    have h := h.2
    refine p_iast G (hS 1 (by decide)).1 (nf_w _) g17.1 (zln_lt (hS 1 (by decide)).2.1 g17.2) (nf_r c_p3) dX8_placeOrder_79 ?_
    refine p_gen (fun im15 e16 => ?_)
    have h := h im15 e16
    exact p_retV (by decide) (by decide) rfl dX8_placeOrder_80 h
  · have h := h.2 b6
    refine p_aload_n dX8_placeOrder_15 rfl (q := 0) rfl ?_
    refine p_getR (b := (a + 1)) G f_RX8_7 rfl (hS 0 (by decide)).1 ((hS 0 (by decide)).2.2 0 (by decide)) dX8_placeOrder_16 ?_
    refine p_bipush dX8_placeOrder_19 (by decide) ?_
    refine p_iconst dX8_placeOrder_21 ?_
    refine p_iload_n dX8_placeOrder_22 rfl (q := 2) rfl ?_
    refine p_SI G k_RX8_62 rfl rfl (Nat.le_of_ble_eq_true rfl) ⟨by decide, by decide⟩ ⟨by decide, by decide⟩ dX8_placeOrder_23 h (fun r6 im7 c8 h => ?_)
    refine p_dup2 dX8_placeOrder_26 rfl rfl ?_
    have g10 := h.1
    have h := h.2
    refine p_iald G (hS 1 (by decide)).1 (nf_r c8) g10.1 (zln_lt (hS 1 (by decide)).2.1 g10.2) dX8_placeOrder_27 (fun c9 => ?_)
    refine p_iconst dX8_placeOrder_28 ?_
    refine p_isub dX8_placeOrder_29 ?_
    refine p_iast G (hS 1 (by decide)).1 (nf_r c8) g10.1 (zln_lt (hS 1 (by decide)).2.1 g10.2) (nf_w _) dX8_placeOrder_30 ?_
    refine p_gen (fun im11 e12 => ?_)
    have h := h im11 e12
    refine p_aload_n dX8_placeOrder_31 rfl (q := 0) rfl ?_
    refine p_iload_n dX8_placeOrder_32 rfl (q := 1) rfl ?_
    refine p_iload_n dX8_placeOrder_33 rfl (q := 2) rfl ?_
    refine p_VV G k_RX8_103 (by decide) (hS 0 (by decide)).1 rfl rfl (Nat.le_of_ble_eq_true rfl) ⟨by decide, by decide⟩ ⟨by decide, by decide⟩ dX8_placeOrder_34 h (fun im13 h => ?_)
    exact p_retV (by decide) (by decide) rfl dX8_placeOrder_37 h
set_option maxRecDepth 20000 in
set_option maxHeartbeats 4000000 in
theorem v_X8_occur {g : zG} (G : zOK g) {S : zSh} {im : zIm} {a : Nat} {p1 : Int} {p2 : Int} {p3 : Int} {Q : Int → zIm → Prop} (hS : zS_M S a) (c_p1 : zc p1) (c_p2 : zc p2) (c_p3 : zc p3)
    (h : zCI g yX8_at M_X8_at [.int (zi 252), .int (zi p1), .int (zi p2)] S im (fun r1 im2 => ((0 ≤ r1 ∧ r1 < 7692) ∧ ∀ im6, im6 = zst im2 (a + 1) r1 (zw ((im2 (a + 1) r1) + 1)) → zCI g yX8_at M_X8_at [.int (zi 252), .int (zi p1), .int (zi p2)] S im6 (fun r8 im9 => ((0 ≤ r8 ∧ r8 < 7692) ∧ zCI g yX8_at M_X8_at [.int (zi 188), .int (zi p1), .int (zi p2)] S im9 (fun r13 im14 => ((0 ≤ r13 ∧ r13 < 7692) ∧ (((zw (Int.tdiv (zw ((im9 (a + 1) r8) * (im14 (a + 1) r13))) 10)) ≤ (zw (Int.tdiv (zw (((im9 (a + 1) r8) - 1) * (im14 (a + 1) r13))) 10)) → zCI g yX8_at M_X8_at [.int (zi 124), .int (zi p1), .int (zi p2)] S im14 (fun r18 im19 => ((0 ≤ r18 ∧ r18 < 7692) ∧ (((im19 (a + 1) r18) ≤ 0 → zCV g yX8_appendCustomer M_X8_appendCustomer [.ref a, .int (zi p1), .int (zi p2), .int (zi p3)] S im19 (fun im23 => zCI g yX8_findBuyer M_X8_findBuyer [.ref a, .int (zi p1), .int (zi p2)] S im23 (fun r25 im26 => ((0 ≤ (zw (20 + p1)) ∧ (zw (20 + p1)) < 7692) ∧ zCV g yX8_appendUnit M_X8_appendUnit [.ref a, .int (zi 0), .int (zi p2), .int (zi 0), .int (zi 0), .int (zi (zw ((im26 (a + 1) 0) + (im26 (a + 1) (zw (20 + p1)))))), .int (zi 0)] S im26 (fun im31 => zCV g yX8_placeOrder M_X8_placeOrder [.ref a, .int (zi r25), .int (zi p2), .int (zi p3)] S im31 (fun im33 => Q 0 im33)))))) ∧ (0 < (im19 (a + 1) r18) → zCI g yX8_at M_X8_at [.int (zi 124), .int (zi p1), .int (zi p2)] S im19 (fun r23 im24 => ((0 ≤ r23 ∧ r23 < 7692) ∧ ∀ im28, im28 = zst im24 (a + 1) r23 (zw ((im24 (a + 1) r23) - 1)) → zCI g yX8_at M_X8_at [.int (zi 284), .int (zi p1), .int (zi p2)] S im28 (fun r30 im31 => ((0 ≤ r30 ∧ r30 < 7692) ∧ ∀ im35, im35 = zst im31 (a + 1) r30 (zw ((im31 (a + 1) r30) + 1)) → ((0 ≤ (zw (20 + p1)) ∧ (zw (20 + p1)) < 7692) ∧ zCV g yX8_appendUnit M_X8_appendUnit [.ref a, .int (zi 0), .int (zi p2), .int (zi 0), .int (zi 0), .int (zi (zw ((im35 (a + 1) 0) + (im35 (a + 1) (zw (20 + p1)))))), .int (zi 0)] S im35 (fun im40 => zCV g yX8_placeOrder M_X8_placeOrder [.ref a, .int (zi p1), .int (zi p2), .int (zi p3)] S im40 (fun im42 => Q 1 im42)))))))))))) ∧ ((zw (Int.tdiv (zw (((im9 (a + 1) r8) - 1) * (im14 (a + 1) r13))) 10)) < (zw (Int.tdiv (zw ((im9 (a + 1) r8) * (im14 (a + 1) r13))) 10)) → zCI g yX8_at M_X8_at [.int (zi 124), .int (zi p1), .int (zi p2)] S im14 (fun r18 im19 => ((0 ≤ r18 ∧ r18 < 7692) ∧ (((im19 (a + 1) r18) ≤ 0 → zCV g yX8_appendCustomer M_X8_appendCustomer [.ref a, .int (zi p1), .int (zi p2), .int (zi p3)] S im19 (fun im23 => zCI g yX8_findBuyer M_X8_findBuyer [.ref a, .int (zi p1), .int (zi p2)] S im23 (fun r25 im26 => zCI g yX8_item M_X8_item [.ref a, .int (zi p2), .int (zi 2)] S im26 (fun r29 im30 => zCI g yX8_link M_X8_link [.ref a, .int (zi p1), .int (zi r25)] S im30 (fun r32 im33 => zCV g yX8_appendUnit M_X8_appendUnit [.ref a, .int (zi 1), .int (zi p2), .int (zi p1), .int (zi r25), .int (zi (zw ((im26 (a + 1) 0) + r29))), .int (zi r32)] S im33 (fun im35 => Q 0 im35)))))) ∧ (0 < (im19 (a + 1) r18) → zCI g yX8_at M_X8_at [.int (zi 124), .int (zi p1), .int (zi p2)] S im19 (fun r23 im24 => ((0 ≤ r23 ∧ r23 < 7692) ∧ ∀ im28, im28 = zst im24 (a + 1) r23 (zw ((im24 (a + 1) r23) - 1)) → zCI g yX8_at M_X8_at [.int (zi 284), .int (zi p1), .int (zi p2)] S im28 (fun r30 im31 => ((0 ≤ r30 ∧ r30 < 7692) ∧ ∀ im35, im35 = zst im31 (a + 1) r30 (zw ((im31 (a + 1) r30) + 1)) → zCI g yX8_item M_X8_item [.ref a, .int (zi p2), .int (zi 2)] S im35 (fun r38 im39 => zCI g yX8_link M_X8_link [.ref a, .int (zi p1), .int (zi p1)] S im39 (fun r41 im42 => zCV g yX8_appendUnit M_X8_appendUnit [.ref a, .int (zi 1), .int (zi p2), .int (zi p1), .int (zi p1), .int (zi (zw ((im35 (a + 1) 0) + r38))), .int (zi r41)] S im42 (fun im44 => Q 1 im44)))))))))))))))))))) :
    zCI g yX8_occur M_X8_occur [.ref a, .int (zi p1), .int (zi p2), .int (zi p3)] S im Q := by
  refine zC_of (by decide) rfl rfl rfl rfl (Nat.le_of_ble_eq_true rfl) ?_
  refine p_aload_n dX8_occur_0 rfl (q := 0) rfl ?_
  refine p_getR (b := (a + 1)) G f_RX8_7 rfl (hS 0 (by decide)).1 ((hS 0 (by decide)).2.2 0 (by decide)) dX8_occur_1 ?_
  refine p_sipush dX8_occur_4 (by decide) ?_
  refine p_iload_n dX8_occur_7 rfl (q := 1) rfl ?_
  refine p_iload_n dX8_occur_8 rfl (q := 2) rfl ?_
  refine p_SI G k_RX8_62 rfl rfl (Nat.le_of_ble_eq_true rfl) ⟨by decide, by decide⟩ ⟨by decide, by decide⟩ dX8_occur_9 h (fun r1 im2 c3 h => ?_)
  refine p_dup2 dX8_occur_12 rfl rfl ?_
  have g5 := h.1
  have h := h.2
  refine p_iald G (hS 1 (by decide)).1 (nf_r c3) g5.1 (zln_lt (hS 1 (by decide)).2.1 g5.2) dX8_occur_13 (fun c4 => ?_)
  refine p_iconst dX8_occur_14 ?_
  refine p_iadd dX8_occur_15 ?_
  refine p_iast G (hS 1 (by decide)).1 (nf_r c3) g5.1 (zln_lt (hS 1 (by decide)).2.1 g5.2) (nf_w _) dX8_occur_16 ?_
  refine p_gen (fun im6 e7 => ?_)
  have h := h im6 e7
  refine p_aload_n dX8_occur_17 rfl (q := 0) rfl ?_
  refine p_getR (b := (a + 1)) G f_RX8_7 rfl (hS 0 (by decide)).1 ((hS 0 (by decide)).2.2 0 (by decide)) dX8_occur_18 ?_
  refine p_sipush dX8_occur_21 (by decide) ?_
  refine p_iload_n dX8_occur_24 rfl (q := 1) rfl ?_
  refine p_iload_n dX8_occur_25 rfl (q := 2) rfl ?_
  refine p_SI G k_RX8_62 rfl rfl (Nat.le_of_ble_eq_true rfl) ⟨by decide, by decide⟩ ⟨by decide, by decide⟩ dX8_occur_26 h (fun r8 im9 c10 h => ?_)
  have g12 := h.1
  have h := h.2
  refine p_iald G (hS 1 (by decide)).1 (nf_r c10) g12.1 (zln_lt (hS 1 (by decide)).2.1 g12.2) dX8_occur_29 (fun c11 => ?_)
  refine p_istore (lv' := [(4, .int (zi (im9 (a + 1) r8))), (0, .ref a), (1, .int (zi p1)), (2, .int (zi p2)), (3, .int (zi p3))]) dX8_occur_30 (by decide) rfl ?_
  refine p_aload_n dX8_occur_32 rfl (q := 1) rfl ?_
  refine p_getR (b := (a + 1)) G f_RX8_7 rfl (hS 0 (by decide)).1 ((hS 0 (by decide)).2.2 0 (by decide)) dX8_occur_33 ?_
  refine p_sipush dX8_occur_36 (by decide) ?_
  refine p_iload_n dX8_occur_39 rfl (q := 2) rfl ?_
  refine p_iload_n dX8_occur_40 rfl (q := 3) rfl ?_
  refine p_SI G k_RX8_62 rfl rfl (Nat.le_of_ble_eq_true rfl) ⟨by decide, by decide⟩ ⟨by decide, by decide⟩ dX8_occur_41 h (fun r13 im14 c15 h => ?_)
  have g17 := h.1
  have h := h.2
  refine p_iald G (hS 1 (by decide)).1 (nf_r c15) g17.1 (zln_lt (hS 1 (by decide)).2.1 g17.2) dX8_occur_44 (fun c16 => ?_)
  refine p_istore (lv' := [(5, .int (zi (im14 (a + 1) r13))), (4, .int (zi (im9 (a + 1) r8))), (0, .ref a), (1, .int (zi p1)), (2, .int (zi p2)), (3, .int (zi p3))]) dX8_occur_45 (by decide) rfl ?_
  refine p_iload dX8_occur_47 (q := 1) rfl ?_
  refine p_iload dX8_occur_49 (q := 0) rfl ?_
  refine p_imul dX8_occur_51 ?_
  refine p_bipush dX8_occur_52 (by decide) ?_
  refine p_idiv dX8_occur_54 (nf_w _) (nf_k (by decide)) (by decide) ?_
  refine p_iload dX8_occur_55 (q := 1) rfl ?_
  refine p_iconst dX8_occur_57 ?_
  refine p_isub dX8_occur_58 ?_
  refine p_iload dX8_occur_59 (q := 0) rfl ?_
  refine p_imul dX8_occur_61 ?_
  refine p_bipush dX8_occur_62 (by decide) ?_
  refine p_idiv dX8_occur_64 (nf_w _) (nf_k (by decide)) (by decide) ?_
  refine p_icmp_le (tgt := 72) dX8_occur_65 (by decide) (nf_w _) (nf_w _) (fun b18 => ?_) (fun b18 => ?_)
  · have h := h.1 b18
    refine p_iconst dX8_occur_72 ?_
    refine p_istore (lv' := [(6, .int (zi 0)), (5, .int (zi (im14 (a + 1) r13))), (4, .int (zi (im9 (a + 1) r8))), (0, .ref a), (1, .int (zi p1)), (2, .int (zi p2)), (3, .int (zi p3))]) dX8_occur_73 (by decide) rfl ?_
    refine p_aload_n dX8_occur_75 rfl (q := 3) rfl ?_
    refine p_getR (b := (a + 1)) G f_RX8_7 rfl (hS 0 (by decide)).1 ((hS 0 (by decide)).2.2 0 (by decide)) dX8_occur_76 ?_
    refine p_bipush dX8_occur_79 (by decide) ?_
    refine p_iload_n dX8_occur_81 rfl (q := 4) rfl ?_
    refine p_iload_n dX8_occur_82 rfl (q := 5) rfl ?_
    refine p_SI G k_RX8_62 rfl rfl (Nat.le_of_ble_eq_true rfl) ⟨by decide, by decide⟩ ⟨by decide, by decide⟩ dX8_occur_83 h (fun r18 im19 c20 h => ?_)
    have g22 := h.1
    have h := h.2
    refine p_iald G (hS 1 (by decide)).1 (nf_r c20) g22.1 (zln_lt (hS 1 (by decide)).2.1 g22.2) dX8_occur_86 (fun c21 => ?_)
    refine p_if_le (tgt := 94) dX8_occur_87 (by decide) (nf_r c21) (fun b23 => ?_) (fun b23 => ?_)
    · have h := h.1 b23
      refine p_iconst dX8_occur_94 ?_
      refine p_istore (lv' := [(7, .int (zi 0)), (6, .int (zi 0)), (5, .int (zi (im14 (a + 1) r13))), (4, .int (zi (im9 (a + 1) r8))), (0, .ref a), (1, .int (zi p1)), (2, .int (zi p2)), (3, .int (zi p3))]) dX8_occur_95 (by decide) rfl ?_
      refine p_iload_n dX8_occur_97 rfl (q := 5) rfl ?_
      refine p_istore (lv' := [(8, .int (zi p1)), (7, .int (zi 0)), (6, .int (zi 0)), (5, .int (zi (im14 (a + 1) r13))), (4, .int (zi (im9 (a + 1) r8))), (0, .ref a), (1, .int (zi p1)), (2, .int (zi p2)), (3, .int (zi p3))]) dX8_occur_98 (by decide) rfl ?_
      refine p_iload dX8_occur_100 (q := 1) rfl ?_
      refine p_if_eq (tgt := 141) dX8_occur_102 (by decide) (nf_k (by decide)) (fun _ => ?_) (fun h9 => absurd h9 (by decide))
      refine p_aload_n dX8_occur_141 rfl (q := 5) rfl ?_
      refine p_iload_n dX8_occur_142 rfl (q := 6) rfl ?_
      refine p_iload_n dX8_occur_143 rfl (q := 7) rfl ?_
      refine p_iload_n dX8_occur_144 rfl (q := 8) rfl ?_
      refine p_VV G k_RX8_118 (by decide) (hS 0 (by decide)).1 rfl rfl (Nat.le_of_ble_eq_true rfl) ⟨by decide, by decide⟩ ⟨by decide, by decide⟩ dX8_occur_145 h (fun im23 h => ?_)
      refine p_aload_n dX8_occur_148 rfl (q := 5) rfl ?_
      refine p_iload_n dX8_occur_149 rfl (q := 6) rfl ?_
      refine p_iload_n dX8_occur_150 rfl (q := 7) rfl ?_
      refine p_VI G k_RX8_121 (by decide) (hS 0 (by decide)).1 rfl rfl (Nat.le_of_ble_eq_true rfl) ⟨by decide, by decide⟩ ⟨by decide, by decide⟩ dX8_occur_151 h (fun r25 im26 c27 h => ?_)
      refine p_istore (lv' := [(8, .int (zi r25)), (7, .int (zi 0)), (6, .int (zi 0)), (5, .int (zi (im14 (a + 1) r13))), (4, .int (zi (im9 (a + 1) r8))), (0, .ref a), (1, .int (zi p1)), (2, .int (zi p2)), (3, .int (zi p3))]) dX8_occur_154 (by decide) rfl ?_
      refine p_iload dX8_occur_156 (q := 2) rfl ?_
      refine p_if_eq (tgt := 193) dX8_occur_158 (by decide) (nf_k (by decide)) (fun _ => ?_) (fun h9 => absurd h9 (by decide))
      refine p_aload_n dX8_occur_193 rfl (q := 5) rfl ?_
      refine p_iconst dX8_occur_194 ?_
      refine p_iload_n dX8_occur_195 rfl (q := 7) rfl ?_
      refine p_iconst dX8_occur_196 ?_
      refine p_iconst dX8_occur_197 ?_
      refine p_aload_n dX8_occur_198 rfl (q := 5) rfl ?_
      refine p_getR (b := (a + 1)) G f_RX8_7 rfl (hS 0 (by decide)).1 ((hS 0 (by decide)).2.2 0 (by decide)) dX8_occur_199 ?_
      refine p_iconst dX8_occur_202 ?_
      refine p_iald G (hS 1 (by decide)).1 (nf_k (by decide)) (by decide) (zln_lt (hS 1 (by decide)).2.1 (by decide)) dX8_occur_203 (fun c28 => ?_)
      refine p_aload_n dX8_occur_204 rfl (q := 5) rfl ?_
      refine p_getR (b := (a + 1)) G f_RX8_7 rfl (hS 0 (by decide)).1 ((hS 0 (by decide)).2.2 0 (by decide)) dX8_occur_205 ?_
      refine p_bipush dX8_occur_208 (by decide) ?_
      refine p_iload_n dX8_occur_210 rfl (q := 6) rfl ?_
      refine p_iadd dX8_occur_211 ?_
      have g30 := h.1
      have h := h.2
      refine p_iald G (hS 1 (by decide)).1 (nf_w _) g30.1 (zln_lt (hS 1 (by decide)).2.1 g30.2) dX8_occur_212 (fun c29 => ?_)
      refine p_iadd dX8_occur_213 ?_
      refine p_iconst dX8_occur_214 ?_
      refine p_VV G k_RX8_92 (by decide) (hS 0 (by decide)).1 rfl (by simp only [zi_zw]; rfl) (Nat.le_of_ble_eq_true rfl) ⟨by decide, by decide⟩ ⟨by decide, by decide⟩ dX8_occur_215 h (fun im31 h => ?_)
      refine p_aload_n dX8_occur_218 rfl (q := 5) rfl ?_
      refine p_iload dX8_occur_219 (q := 0) rfl ?_
      refine p_iload_n dX8_occur_221 rfl (q := 7) rfl ?_
      refine p_iload_n dX8_occur_222 rfl (q := 8) rfl ?_
      refine p_VV G k_RX8_127 (by decide) (hS 0 (by decide)).1 rfl rfl (Nat.le_of_ble_eq_true rfl) ⟨by decide, by decide⟩ ⟨by decide, by decide⟩ dX8_occur_223 h (fun im33 h => ?_)
      refine p_iload dX8_occur_226 (q := 1) rfl ?_
      exact p_zretI (by decide) (by decide) rfl (nf_k (by decide)) (by decide) dX8_occur_228 h
    · have h := h.2 b23
      refine p_iconst dX8_occur_90 ?_
      refine p_goto (tgt := 95) dX8_occur_91 (by decide) ?_
      refine p_istore (lv' := [(7, .int (zi 1)), (6, .int (zi 0)), (5, .int (zi (im14 (a + 1) r13))), (4, .int (zi (im9 (a + 1) r8))), (0, .ref a), (1, .int (zi p1)), (2, .int (zi p2)), (3, .int (zi p3))]) dX8_occur_95 (by decide) rfl ?_
      refine p_iload_n dX8_occur_97 rfl (q := 5) rfl ?_
      refine p_istore (lv' := [(8, .int (zi p1)), (7, .int (zi 1)), (6, .int (zi 0)), (5, .int (zi (im14 (a + 1) r13))), (4, .int (zi (im9 (a + 1) r8))), (0, .ref a), (1, .int (zi p1)), (2, .int (zi p2)), (3, .int (zi p3))]) dX8_occur_98 (by decide) rfl ?_
      refine p_iload dX8_occur_100 (q := 1) rfl ?_
      refine p_if_eq (tgt := 141) dX8_occur_102 (by decide) (nf_k (by decide)) (fun h9 => absurd h9 (by decide)) (fun _ => ?_)
      refine p_aload_n dX8_occur_105 rfl (q := 5) rfl ?_
      refine p_getR (b := (a + 1)) G f_RX8_7 rfl (hS 0 (by decide)).1 ((hS 0 (by decide)).2.2 0 (by decide)) dX8_occur_106 ?_
      refine p_bipush dX8_occur_109 (by decide) ?_
      refine p_iload_n dX8_occur_111 rfl (q := 6) rfl ?_
      refine p_iload_n dX8_occur_112 rfl (q := 7) rfl ?_
      refine p_SI G k_RX8_62 rfl rfl (Nat.le_of_ble_eq_true rfl) ⟨by decide, by decide⟩ ⟨by decide, by decide⟩ dX8_occur_113 h (fun r23 im24 c25 h => ?_)
      refine p_dup2 dX8_occur_116 rfl rfl ?_
      have g27 := h.1
      have h := h.2
      refine p_iald G (hS 1 (by decide)).1 (nf_r c25) g27.1 (zln_lt (hS 1 (by decide)).2.1 g27.2) dX8_occur_117 (fun c26 => ?_)
      refine p_iconst dX8_occur_118 ?_
      refine p_isub dX8_occur_119 ?_
      refine p_iast G (hS 1 (by decide)).1 (nf_r c25) g27.1 (zln_lt (hS 1 (by decide)).2.1 g27.2) (nf_w _) dX8_occur_120 ?_
      refine p_gen (fun im28 e29 => ?_)
      have h := h im28 e29
      refine p_aload_n dX8_occur_121 rfl (q := 5) rfl ?_
      refine p_getR (b := (a + 1)) G f_RX8_7 rfl (hS 0 (by decide)).1 ((hS 0 (by decide)).2.2 0 (by decide)) dX8_occur_122 ?_
      refine p_sipush dX8_occur_125 (by decide) ?_
      refine p_iload_n dX8_occur_128 rfl (q := 6) rfl ?_
      refine p_iload_n dX8_occur_129 rfl (q := 7) rfl ?_
      refine p_SI G k_RX8_62 rfl rfl (Nat.le_of_ble_eq_true rfl) ⟨by decide, by decide⟩ ⟨by decide, by decide⟩ dX8_occur_130 h (fun r30 im31 c32 h => ?_)
      refine p_dup2 dX8_occur_133 rfl rfl ?_
      have g34 := h.1
      have h := h.2
      refine p_iald G (hS 1 (by decide)).1 (nf_r c32) g34.1 (zln_lt (hS 1 (by decide)).2.1 g34.2) dX8_occur_134 (fun c33 => ?_)
      refine p_iconst dX8_occur_135 ?_
      refine p_iadd dX8_occur_136 ?_
      refine p_iast G (hS 1 (by decide)).1 (nf_r c32) g34.1 (zln_lt (hS 1 (by decide)).2.1 g34.2) (nf_w _) dX8_occur_137 ?_
      refine p_gen (fun im35 e36 => ?_)
      have h := h im35 e36
      refine p_goto (tgt := 156) dX8_occur_138 (by decide) ?_
      refine p_iload dX8_occur_156 (q := 2) rfl ?_
      refine p_if_eq (tgt := 193) dX8_occur_158 (by decide) (nf_k (by decide)) (fun _ => ?_) (fun h9 => absurd h9 (by decide))
      refine p_aload_n dX8_occur_193 rfl (q := 5) rfl ?_
      refine p_iconst dX8_occur_194 ?_
      refine p_iload_n dX8_occur_195 rfl (q := 7) rfl ?_
      refine p_iconst dX8_occur_196 ?_
      refine p_iconst dX8_occur_197 ?_
      refine p_aload_n dX8_occur_198 rfl (q := 5) rfl ?_
      refine p_getR (b := (a + 1)) G f_RX8_7 rfl (hS 0 (by decide)).1 ((hS 0 (by decide)).2.2 0 (by decide)) dX8_occur_199 ?_
      refine p_iconst dX8_occur_202 ?_
      refine p_iald G (hS 1 (by decide)).1 (nf_k (by decide)) (by decide) (zln_lt (hS 1 (by decide)).2.1 (by decide)) dX8_occur_203 (fun c37 => ?_)
      refine p_aload_n dX8_occur_204 rfl (q := 5) rfl ?_
      refine p_getR (b := (a + 1)) G f_RX8_7 rfl (hS 0 (by decide)).1 ((hS 0 (by decide)).2.2 0 (by decide)) dX8_occur_205 ?_
      refine p_bipush dX8_occur_208 (by decide) ?_
      refine p_iload_n dX8_occur_210 rfl (q := 6) rfl ?_
      refine p_iadd dX8_occur_211 ?_
      have g39 := h.1
      have h := h.2
      refine p_iald G (hS 1 (by decide)).1 (nf_w _) g39.1 (zln_lt (hS 1 (by decide)).2.1 g39.2) dX8_occur_212 (fun c38 => ?_)
      refine p_iadd dX8_occur_213 ?_
      refine p_iconst dX8_occur_214 ?_
      refine p_VV G k_RX8_92 (by decide) (hS 0 (by decide)).1 rfl (by simp only [zi_zw]; rfl) (Nat.le_of_ble_eq_true rfl) ⟨by decide, by decide⟩ ⟨by decide, by decide⟩ dX8_occur_215 h (fun im40 h => ?_)
      refine p_aload_n dX8_occur_218 rfl (q := 5) rfl ?_
      refine p_iload dX8_occur_219 (q := 0) rfl ?_
      refine p_iload_n dX8_occur_221 rfl (q := 7) rfl ?_
      refine p_iload_n dX8_occur_222 rfl (q := 8) rfl ?_
      refine p_VV G k_RX8_127 (by decide) (hS 0 (by decide)).1 rfl rfl (Nat.le_of_ble_eq_true rfl) ⟨by decide, by decide⟩ ⟨by decide, by decide⟩ dX8_occur_223 h (fun im42 h => ?_)
      refine p_iload dX8_occur_226 (q := 1) rfl ?_
      exact p_zretI (by decide) (by decide) rfl (nf_k (by decide)) (by decide) dX8_occur_228 h
  · have h := h.2 b18
    refine p_iconst dX8_occur_68 ?_
    refine p_goto (tgt := 73) dX8_occur_69 (by decide) ?_
    refine p_istore (lv' := [(6, .int (zi 1)), (5, .int (zi (im14 (a + 1) r13))), (4, .int (zi (im9 (a + 1) r8))), (0, .ref a), (1, .int (zi p1)), (2, .int (zi p2)), (3, .int (zi p3))]) dX8_occur_73 (by decide) rfl ?_
    refine p_aload_n dX8_occur_75 rfl (q := 3) rfl ?_
    refine p_getR (b := (a + 1)) G f_RX8_7 rfl (hS 0 (by decide)).1 ((hS 0 (by decide)).2.2 0 (by decide)) dX8_occur_76 ?_
    refine p_bipush dX8_occur_79 (by decide) ?_
    refine p_iload_n dX8_occur_81 rfl (q := 4) rfl ?_
    refine p_iload_n dX8_occur_82 rfl (q := 5) rfl ?_
    refine p_SI G k_RX8_62 rfl rfl (Nat.le_of_ble_eq_true rfl) ⟨by decide, by decide⟩ ⟨by decide, by decide⟩ dX8_occur_83 h (fun r18 im19 c20 h => ?_)
    have g22 := h.1
    have h := h.2
    refine p_iald G (hS 1 (by decide)).1 (nf_r c20) g22.1 (zln_lt (hS 1 (by decide)).2.1 g22.2) dX8_occur_86 (fun c21 => ?_)
    refine p_if_le (tgt := 94) dX8_occur_87 (by decide) (nf_r c21) (fun b23 => ?_) (fun b23 => ?_)
    · have h := h.1 b23
      refine p_iconst dX8_occur_94 ?_
      refine p_istore (lv' := [(7, .int (zi 0)), (6, .int (zi 1)), (5, .int (zi (im14 (a + 1) r13))), (4, .int (zi (im9 (a + 1) r8))), (0, .ref a), (1, .int (zi p1)), (2, .int (zi p2)), (3, .int (zi p3))]) dX8_occur_95 (by decide) rfl ?_
      refine p_iload_n dX8_occur_97 rfl (q := 5) rfl ?_
      refine p_istore (lv' := [(8, .int (zi p1)), (7, .int (zi 0)), (6, .int (zi 1)), (5, .int (zi (im14 (a + 1) r13))), (4, .int (zi (im9 (a + 1) r8))), (0, .ref a), (1, .int (zi p1)), (2, .int (zi p2)), (3, .int (zi p3))]) dX8_occur_98 (by decide) rfl ?_
      refine p_iload dX8_occur_100 (q := 1) rfl ?_
      refine p_if_eq (tgt := 141) dX8_occur_102 (by decide) (nf_k (by decide)) (fun _ => ?_) (fun h9 => absurd h9 (by decide))
      refine p_aload_n dX8_occur_141 rfl (q := 5) rfl ?_
      refine p_iload_n dX8_occur_142 rfl (q := 6) rfl ?_
      refine p_iload_n dX8_occur_143 rfl (q := 7) rfl ?_
      refine p_iload_n dX8_occur_144 rfl (q := 8) rfl ?_
      refine p_VV G k_RX8_118 (by decide) (hS 0 (by decide)).1 rfl rfl (Nat.le_of_ble_eq_true rfl) ⟨by decide, by decide⟩ ⟨by decide, by decide⟩ dX8_occur_145 h (fun im23 h => ?_)
      refine p_aload_n dX8_occur_148 rfl (q := 5) rfl ?_
      refine p_iload_n dX8_occur_149 rfl (q := 6) rfl ?_
      refine p_iload_n dX8_occur_150 rfl (q := 7) rfl ?_
      refine p_VI G k_RX8_121 (by decide) (hS 0 (by decide)).1 rfl rfl (Nat.le_of_ble_eq_true rfl) ⟨by decide, by decide⟩ ⟨by decide, by decide⟩ dX8_occur_151 h (fun r25 im26 c27 h => ?_)
      refine p_istore (lv' := [(8, .int (zi r25)), (7, .int (zi 0)), (6, .int (zi 1)), (5, .int (zi (im14 (a + 1) r13))), (4, .int (zi (im9 (a + 1) r8))), (0, .ref a), (1, .int (zi p1)), (2, .int (zi p2)), (3, .int (zi p3))]) dX8_occur_154 (by decide) rfl ?_
      refine p_iload dX8_occur_156 (q := 2) rfl ?_
      refine p_if_eq (tgt := 193) dX8_occur_158 (by decide) (nf_k (by decide)) (fun h9 => absurd h9 (by decide)) (fun _ => ?_)
      refine p_aload_n dX8_occur_161 rfl (q := 5) rfl ?_
      refine p_iconst dX8_occur_162 ?_
      refine p_iload_n dX8_occur_163 rfl (q := 7) rfl ?_
      refine p_iload_n dX8_occur_164 rfl (q := 6) rfl ?_
      refine p_iload dX8_occur_165 (q := 0) rfl ?_
      refine p_aload_n dX8_occur_167 rfl (q := 5) rfl ?_
      refine p_getR (b := (a + 1)) G f_RX8_7 rfl (hS 0 (by decide)).1 ((hS 0 (by decide)).2.2 0 (by decide)) dX8_occur_168 ?_
      refine p_iconst dX8_occur_171 ?_
      refine p_iald G (hS 1 (by decide)).1 (nf_k (by decide)) (by decide) (zln_lt (hS 1 (by decide)).2.1 (by decide)) dX8_occur_172 (fun c28 => ?_)
      refine p_aload_n dX8_occur_173 rfl (q := 5) rfl ?_
      refine p_iload_n dX8_occur_174 rfl (q := 7) rfl ?_
      refine p_iconst dX8_occur_175 ?_
      refine p_VI G k_RX8_124 (by decide) (hS 0 (by decide)).1 rfl rfl (Nat.le_of_ble_eq_true rfl) ⟨by decide, by decide⟩ ⟨by decide, by decide⟩ dX8_occur_176 h (fun r29 im30 c31 h => ?_)
      refine p_iadd dX8_occur_179 ?_
      refine p_aload_n dX8_occur_180 rfl (q := 5) rfl ?_
      refine p_iload_n dX8_occur_181 rfl (q := 6) rfl ?_
      refine p_iload dX8_occur_182 (q := 0) rfl ?_
      refine p_VI G k_RX8_51 (by decide) (hS 0 (by decide)).1 rfl rfl (Nat.le_of_ble_eq_true rfl) ⟨by decide, by decide⟩ ⟨by decide, by decide⟩ dX8_occur_184 h (fun r32 im33 c34 h => ?_)
      refine p_VV G k_RX8_92 (by decide) (hS 0 (by decide)).1 rfl (by simp only [zi_zw]; rfl) (Nat.le_of_ble_eq_true rfl) ⟨by decide, by decide⟩ ⟨by decide, by decide⟩ dX8_occur_187 h (fun im35 h => ?_)
      refine p_goto (tgt := 226) dX8_occur_190 (by decide) ?_
      refine p_iload dX8_occur_226 (q := 1) rfl ?_
      exact p_zretI (by decide) (by decide) rfl (nf_k (by decide)) (by decide) dX8_occur_228 h
    · have h := h.2 b23
      refine p_iconst dX8_occur_90 ?_
      refine p_goto (tgt := 95) dX8_occur_91 (by decide) ?_
      refine p_istore (lv' := [(7, .int (zi 1)), (6, .int (zi 1)), (5, .int (zi (im14 (a + 1) r13))), (4, .int (zi (im9 (a + 1) r8))), (0, .ref a), (1, .int (zi p1)), (2, .int (zi p2)), (3, .int (zi p3))]) dX8_occur_95 (by decide) rfl ?_
      refine p_iload_n dX8_occur_97 rfl (q := 5) rfl ?_
      refine p_istore (lv' := [(8, .int (zi p1)), (7, .int (zi 1)), (6, .int (zi 1)), (5, .int (zi (im14 (a + 1) r13))), (4, .int (zi (im9 (a + 1) r8))), (0, .ref a), (1, .int (zi p1)), (2, .int (zi p2)), (3, .int (zi p3))]) dX8_occur_98 (by decide) rfl ?_
      refine p_iload dX8_occur_100 (q := 1) rfl ?_
      refine p_if_eq (tgt := 141) dX8_occur_102 (by decide) (nf_k (by decide)) (fun h9 => absurd h9 (by decide)) (fun _ => ?_)
      refine p_aload_n dX8_occur_105 rfl (q := 5) rfl ?_
      refine p_getR (b := (a + 1)) G f_RX8_7 rfl (hS 0 (by decide)).1 ((hS 0 (by decide)).2.2 0 (by decide)) dX8_occur_106 ?_
      refine p_bipush dX8_occur_109 (by decide) ?_
      refine p_iload_n dX8_occur_111 rfl (q := 6) rfl ?_
      refine p_iload_n dX8_occur_112 rfl (q := 7) rfl ?_
      refine p_SI G k_RX8_62 rfl rfl (Nat.le_of_ble_eq_true rfl) ⟨by decide, by decide⟩ ⟨by decide, by decide⟩ dX8_occur_113 h (fun r23 im24 c25 h => ?_)
      refine p_dup2 dX8_occur_116 rfl rfl ?_
      have g27 := h.1
      have h := h.2
      refine p_iald G (hS 1 (by decide)).1 (nf_r c25) g27.1 (zln_lt (hS 1 (by decide)).2.1 g27.2) dX8_occur_117 (fun c26 => ?_)
      refine p_iconst dX8_occur_118 ?_
      refine p_isub dX8_occur_119 ?_
      refine p_iast G (hS 1 (by decide)).1 (nf_r c25) g27.1 (zln_lt (hS 1 (by decide)).2.1 g27.2) (nf_w _) dX8_occur_120 ?_
      refine p_gen (fun im28 e29 => ?_)
      have h := h im28 e29
      refine p_aload_n dX8_occur_121 rfl (q := 5) rfl ?_
      refine p_getR (b := (a + 1)) G f_RX8_7 rfl (hS 0 (by decide)).1 ((hS 0 (by decide)).2.2 0 (by decide)) dX8_occur_122 ?_
      refine p_sipush dX8_occur_125 (by decide) ?_
      refine p_iload_n dX8_occur_128 rfl (q := 6) rfl ?_
      refine p_iload_n dX8_occur_129 rfl (q := 7) rfl ?_
      refine p_SI G k_RX8_62 rfl rfl (Nat.le_of_ble_eq_true rfl) ⟨by decide, by decide⟩ ⟨by decide, by decide⟩ dX8_occur_130 h (fun r30 im31 c32 h => ?_)
      refine p_dup2 dX8_occur_133 rfl rfl ?_
      have g34 := h.1
      have h := h.2
      refine p_iald G (hS 1 (by decide)).1 (nf_r c32) g34.1 (zln_lt (hS 1 (by decide)).2.1 g34.2) dX8_occur_134 (fun c33 => ?_)
      refine p_iconst dX8_occur_135 ?_
      refine p_iadd dX8_occur_136 ?_
      refine p_iast G (hS 1 (by decide)).1 (nf_r c32) g34.1 (zln_lt (hS 1 (by decide)).2.1 g34.2) (nf_w _) dX8_occur_137 ?_
      refine p_gen (fun im35 e36 => ?_)
      have h := h im35 e36
      refine p_goto (tgt := 156) dX8_occur_138 (by decide) ?_
      refine p_iload dX8_occur_156 (q := 2) rfl ?_
      refine p_if_eq (tgt := 193) dX8_occur_158 (by decide) (nf_k (by decide)) (fun h9 => absurd h9 (by decide)) (fun _ => ?_)
      refine p_aload_n dX8_occur_161 rfl (q := 5) rfl ?_
      refine p_iconst dX8_occur_162 ?_
      refine p_iload_n dX8_occur_163 rfl (q := 7) rfl ?_
      refine p_iload_n dX8_occur_164 rfl (q := 6) rfl ?_
      refine p_iload dX8_occur_165 (q := 0) rfl ?_
      refine p_aload_n dX8_occur_167 rfl (q := 5) rfl ?_
      refine p_getR (b := (a + 1)) G f_RX8_7 rfl (hS 0 (by decide)).1 ((hS 0 (by decide)).2.2 0 (by decide)) dX8_occur_168 ?_
      refine p_iconst dX8_occur_171 ?_
      refine p_iald G (hS 1 (by decide)).1 (nf_k (by decide)) (by decide) (zln_lt (hS 1 (by decide)).2.1 (by decide)) dX8_occur_172 (fun c37 => ?_)
      refine p_aload_n dX8_occur_173 rfl (q := 5) rfl ?_
      refine p_iload_n dX8_occur_174 rfl (q := 7) rfl ?_
      refine p_iconst dX8_occur_175 ?_
      refine p_VI G k_RX8_124 (by decide) (hS 0 (by decide)).1 rfl rfl (Nat.le_of_ble_eq_true rfl) ⟨by decide, by decide⟩ ⟨by decide, by decide⟩ dX8_occur_176 h (fun r38 im39 c40 h => ?_)
      refine p_iadd dX8_occur_179 ?_
      refine p_aload_n dX8_occur_180 rfl (q := 5) rfl ?_
      refine p_iload_n dX8_occur_181 rfl (q := 6) rfl ?_
      refine p_iload dX8_occur_182 (q := 0) rfl ?_
      refine p_VI G k_RX8_51 (by decide) (hS 0 (by decide)).1 rfl rfl (Nat.le_of_ble_eq_true rfl) ⟨by decide, by decide⟩ ⟨by decide, by decide⟩ dX8_occur_184 h (fun r41 im42 c43 h => ?_)
      refine p_VV G k_RX8_92 (by decide) (hS 0 (by decide)).1 rfl (by simp only [zi_zw]; rfl) (Nat.le_of_ble_eq_true rfl) ⟨by decide, by decide⟩ ⟨by decide, by decide⟩ dX8_occur_187 h (fun im44 h => ?_)
      refine p_goto (tgt := 226) dX8_occur_190 (by decide) ?_
      refine p_iload dX8_occur_226 (q := 1) rfl ?_
      exact p_zretI (by decide) (by decide) rfl (nf_k (by decide)) (by decide) dX8_occur_228 h
set_option maxRecDepth 20000 in
set_option maxHeartbeats 4000000 in
theorem v_X8_demand {g : zG} (G : zOK g) {S : zSh} {im : zIm} {a : Nat} {p1 : Int} {p2 : Int} {p3 : Int} {Q : Int → zIm → Prop} (hS : zS_M S a) (c_p1 : zc p1) (c_p2 : zc p2) (c_p3 : zc p3)
    (h : zCI g yX8_isBase M_X8_isBase [.ref a, .int (zi p1)] S im (fun r1 im2 => ((r1 = 0 → ∀ im4, im4 = zst im2 a 4 1 → ((¬ (im4 a 4) = 0 → Q 0 im4) ∧ ((im4 a 4) = 0 → zCI g yX8_occur M_X8_occur [.ref a, .int (zi p1), .int (zi p2), .int (zi p3)] S im4 (fun r7 im8 => ((r7 = 0 → Q 0 im8) ∧ (¬ r7 = 0 → Q 1 im8)))))) ∧ (¬ r1 = 0 → zCI g yX8_isItem M_X8_isItem [.ref a, .int (zi p2)] S im2 (fun r4 im5 => ((¬ r4 = 0 → zCI g yX8_isBetween M_X8_isBetween [.int (zi p3), .int (zi 0), .int (zi 9)] S im5 (fun r7 im8 => ((¬ r7 = 0 → zCI g yX8_isRefused M_X8_isRefused [.ref a] S im8 (fun r10 im11 => ((r10 = 0 → ∀ im13, im13 = zst im11 a 4 0 → ((¬ (im13 a 4) = 0 → Q 0 im13) ∧ ((im13 a 4) = 0 → zCI g yX8_occur M_X8_occur [.ref a, .int (zi p1), .int (zi p2), .int (zi p3)] S im13 (fun r16 im17 => ((r16 = 0 → Q 0 im17) ∧ (¬ r16 = 0 → Q 1 im17)))))) ∧ (¬ r10 = 0 → ∀ im13, im13 = zst im11 a 4 3 → ((¬ (im13 a 4) = 0 → Q 0 im13) ∧ ((im13 a 4) = 0 → zCI g yX8_occur M_X8_occur [.ref a, .int (zi p1), .int (zi p2), .int (zi p3)] S im13 (fun r16 im17 => ((r16 = 0 → Q 0 im17) ∧ (¬ r16 = 0 → Q 1 im17))))))))) ∧ (r7 = 0 → ∀ im10, im10 = zst im8 a 4 2 → ((¬ (im10 a 4) = 0 → Q 0 im10) ∧ ((im10 a 4) = 0 → zCI g yX8_occur M_X8_occur [.ref a, .int (zi p1), .int (zi p2), .int (zi p3)] S im10 (fun r13 im14 => ((r13 = 0 → Q 0 im14) ∧ (¬ r13 = 0 → Q 1 im14))))))))) ∧ (r4 = 0 → ∀ im7, im7 = zst im5 a 4 1 → ((¬ (im7 a 4) = 0 → Q 0 im7) ∧ ((im7 a 4) = 0 → zCI g yX8_occur M_X8_occur [.ref a, .int (zi p1), .int (zi p2), .int (zi p3)] S im7 (fun r10 im11 => ((r10 = 0 → Q 0 im11) ∧ (¬ r10 = 0 → Q 1 im11)))))))))))) :
    zCI g yX8_demand M_X8_demand [.ref a, .int (zi p1), .int (zi p2), .int (zi p3)] S im Q := by
  refine zC_of (by decide) rfl rfl rfl rfl (Nat.le_of_ble_eq_true rfl) ?_
  refine p_aload_n dX8_demand_0 rfl (q := 0) rfl ?_
  refine p_aload_n dX8_demand_1 rfl (q := 0) rfl ?_
  refine p_iload_n dX8_demand_2 rfl (q := 1) rfl ?_
  refine p_VI G k_RX8_55 (by decide) (hS 0 (by decide)).1 rfl rfl (Nat.le_of_ble_eq_true rfl) ⟨by decide, by decide⟩ ⟨by decide, by decide⟩ dX8_demand_3 h (fun r1 im2 c3 h => ?_)
  refine p_if_eq (tgt := 17) dX8_demand_6 (by decide) (nf_r c3) (fun b4 => ?_) (fun b4 => ?_)
  · have h := h.1 b4
    refine p_iconst dX8_demand_17 ?_
    refine p_goto (tgt := 47) dX8_demand_18 (by decide) ?_
    refine p_putI (j := 4) G f_RX8_30 rfl rfl rfl (hS 0 (by decide)).1 (nf_k (by decide)) dX8_demand_47 ?_
    refine p_gen (fun im4 e5 => ?_)
    have h := h im4 e5
    refine p_aload_n dX8_demand_50 rfl (q := 0) rfl ?_
    refine p_getI (j := 4) G f_RX8_30 rfl (hS 0 (by decide)).1 dX8_demand_51 (fun c6 => ?_)
    refine p_if_ne (tgt := 71) dX8_demand_54 (by decide) (nf_r c6) (fun b7 => ?_) (fun b7 => ?_)
    · have h := h.1 b7
      refine p_iconst dX8_demand_71 ?_
      exact p_zretI (by decide) (by decide) rfl (nf_k (by decide)) (by decide) dX8_demand_72 h
    · have h := h.2 b7
      refine p_aload_n dX8_demand_57 rfl (q := 0) rfl ?_
      refine p_iload_n dX8_demand_58 rfl (q := 1) rfl ?_
      refine p_iload_n dX8_demand_59 rfl (q := 2) rfl ?_
      refine p_iload_n dX8_demand_60 rfl (q := 3) rfl ?_
      refine p_VI G k_RX8_134 (by decide) (hS 0 (by decide)).1 rfl rfl (Nat.le_of_ble_eq_true rfl) ⟨by decide, by decide⟩ ⟨by decide, by decide⟩ dX8_demand_61 h (fun r7 im8 c9 h => ?_)
      refine p_if_eq (tgt := 71) dX8_demand_64 (by decide) (nf_r c9) (fun b10 => ?_) (fun b10 => ?_)
      · have h := h.1 b10
        refine p_iconst dX8_demand_71 ?_
        exact p_zretI (by decide) (by decide) rfl (nf_k (by decide)) (by decide) dX8_demand_72 h
      · have h := h.2 b10
        refine p_iconst dX8_demand_67 ?_
        refine p_goto (tgt := 72) dX8_demand_68 (by decide) ?_
        exact p_zretI (by decide) (by decide) rfl (nf_k (by decide)) (by decide) dX8_demand_72 h
  · have h := h.2 b4
    refine p_aload_n dX8_demand_9 rfl (q := 0) rfl ?_
    refine p_iload_n dX8_demand_10 rfl (q := 2) rfl ?_
    refine p_VI G k_RX8_81 (by decide) (hS 0 (by decide)).1 rfl rfl (Nat.le_of_ble_eq_true rfl) ⟨by decide, by decide⟩ ⟨by decide, by decide⟩ dX8_demand_11 h (fun r4 im5 c6 h => ?_)
    refine p_if_ne (tgt := 21) dX8_demand_14 (by decide) (nf_r c6) (fun b7 => ?_) (fun b7 => ?_)
    · have h := h.1 b7
      refine p_iload_n dX8_demand_21 rfl (q := 3) rfl ?_
      refine p_iconst dX8_demand_22 ?_
      refine p_bipush dX8_demand_23 (by decide) ?_
      refine p_SI G k_RX8_33 rfl rfl (Nat.le_of_ble_eq_true rfl) ⟨by decide, by decide⟩ ⟨by decide, by decide⟩ dX8_demand_25 h (fun r7 im8 c9 h => ?_)
      refine p_if_ne (tgt := 35) dX8_demand_28 (by decide) (nf_r c9) (fun b10 => ?_) (fun b10 => ?_)
      · have h := h.1 b10
        refine p_aload_n dX8_demand_35 rfl (q := 0) rfl ?_
        refine p_VI G k_RX8_130 (by decide) (hS 0 (by decide)).1 rfl rfl (Nat.le_of_ble_eq_true rfl) ⟨by decide, by decide⟩ ⟨by decide, by decide⟩ dX8_demand_36 h (fun r10 im11 c12 h => ?_)
        refine p_if_eq (tgt := 46) dX8_demand_39 (by decide) (nf_r c12) (fun b13 => ?_) (fun b13 => ?_)
        · have h := h.1 b13
          refine p_iconst dX8_demand_46 ?_
          refine p_putI (j := 4) G f_RX8_30 rfl rfl rfl (hS 0 (by decide)).1 (nf_k (by decide)) dX8_demand_47 ?_
          refine p_gen (fun im13 e14 => ?_)
          have h := h im13 e14
          refine p_aload_n dX8_demand_50 rfl (q := 0) rfl ?_
          refine p_getI (j := 4) G f_RX8_30 rfl (hS 0 (by decide)).1 dX8_demand_51 (fun c15 => ?_)
          refine p_if_ne (tgt := 71) dX8_demand_54 (by decide) (nf_r c15) (fun b16 => ?_) (fun b16 => ?_)
          · have h := h.1 b16
            refine p_iconst dX8_demand_71 ?_
            exact p_zretI (by decide) (by decide) rfl (nf_k (by decide)) (by decide) dX8_demand_72 h
          · have h := h.2 b16
            refine p_aload_n dX8_demand_57 rfl (q := 0) rfl ?_
            refine p_iload_n dX8_demand_58 rfl (q := 1) rfl ?_
            refine p_iload_n dX8_demand_59 rfl (q := 2) rfl ?_
            refine p_iload_n dX8_demand_60 rfl (q := 3) rfl ?_
            refine p_VI G k_RX8_134 (by decide) (hS 0 (by decide)).1 rfl rfl (Nat.le_of_ble_eq_true rfl) ⟨by decide, by decide⟩ ⟨by decide, by decide⟩ dX8_demand_61 h (fun r16 im17 c18 h => ?_)
            refine p_if_eq (tgt := 71) dX8_demand_64 (by decide) (nf_r c18) (fun b19 => ?_) (fun b19 => ?_)
            · have h := h.1 b19
              refine p_iconst dX8_demand_71 ?_
              exact p_zretI (by decide) (by decide) rfl (nf_k (by decide)) (by decide) dX8_demand_72 h
            · have h := h.2 b19
              refine p_iconst dX8_demand_67 ?_
              refine p_goto (tgt := 72) dX8_demand_68 (by decide) ?_
              exact p_zretI (by decide) (by decide) rfl (nf_k (by decide)) (by decide) dX8_demand_72 h
        · have h := h.2 b13
          refine p_iconst dX8_demand_42 ?_
          refine p_goto (tgt := 47) dX8_demand_43 (by decide) ?_
          refine p_putI (j := 4) G f_RX8_30 rfl rfl rfl (hS 0 (by decide)).1 (nf_k (by decide)) dX8_demand_47 ?_
          refine p_gen (fun im13 e14 => ?_)
          have h := h im13 e14
          refine p_aload_n dX8_demand_50 rfl (q := 0) rfl ?_
          refine p_getI (j := 4) G f_RX8_30 rfl (hS 0 (by decide)).1 dX8_demand_51 (fun c15 => ?_)
          refine p_if_ne (tgt := 71) dX8_demand_54 (by decide) (nf_r c15) (fun b16 => ?_) (fun b16 => ?_)
          · have h := h.1 b16
            refine p_iconst dX8_demand_71 ?_
            exact p_zretI (by decide) (by decide) rfl (nf_k (by decide)) (by decide) dX8_demand_72 h
          · have h := h.2 b16
            refine p_aload_n dX8_demand_57 rfl (q := 0) rfl ?_
            refine p_iload_n dX8_demand_58 rfl (q := 1) rfl ?_
            refine p_iload_n dX8_demand_59 rfl (q := 2) rfl ?_
            refine p_iload_n dX8_demand_60 rfl (q := 3) rfl ?_
            refine p_VI G k_RX8_134 (by decide) (hS 0 (by decide)).1 rfl rfl (Nat.le_of_ble_eq_true rfl) ⟨by decide, by decide⟩ ⟨by decide, by decide⟩ dX8_demand_61 h (fun r16 im17 c18 h => ?_)
            refine p_if_eq (tgt := 71) dX8_demand_64 (by decide) (nf_r c18) (fun b19 => ?_) (fun b19 => ?_)
            · have h := h.1 b19
              refine p_iconst dX8_demand_71 ?_
              exact p_zretI (by decide) (by decide) rfl (nf_k (by decide)) (by decide) dX8_demand_72 h
            · have h := h.2 b19
              refine p_iconst dX8_demand_67 ?_
              refine p_goto (tgt := 72) dX8_demand_68 (by decide) ?_
              exact p_zretI (by decide) (by decide) rfl (nf_k (by decide)) (by decide) dX8_demand_72 h
      · have h := h.2 b10
        refine p_iconst dX8_demand_31 ?_
        refine p_goto (tgt := 47) dX8_demand_32 (by decide) ?_
        refine p_putI (j := 4) G f_RX8_30 rfl rfl rfl (hS 0 (by decide)).1 (nf_k (by decide)) dX8_demand_47 ?_
        refine p_gen (fun im10 e11 => ?_)
        have h := h im10 e11
        refine p_aload_n dX8_demand_50 rfl (q := 0) rfl ?_
        refine p_getI (j := 4) G f_RX8_30 rfl (hS 0 (by decide)).1 dX8_demand_51 (fun c12 => ?_)
        refine p_if_ne (tgt := 71) dX8_demand_54 (by decide) (nf_r c12) (fun b13 => ?_) (fun b13 => ?_)
        · have h := h.1 b13
          refine p_iconst dX8_demand_71 ?_
          exact p_zretI (by decide) (by decide) rfl (nf_k (by decide)) (by decide) dX8_demand_72 h
        · have h := h.2 b13
          refine p_aload_n dX8_demand_57 rfl (q := 0) rfl ?_
          refine p_iload_n dX8_demand_58 rfl (q := 1) rfl ?_
          refine p_iload_n dX8_demand_59 rfl (q := 2) rfl ?_
          refine p_iload_n dX8_demand_60 rfl (q := 3) rfl ?_
          refine p_VI G k_RX8_134 (by decide) (hS 0 (by decide)).1 rfl rfl (Nat.le_of_ble_eq_true rfl) ⟨by decide, by decide⟩ ⟨by decide, by decide⟩ dX8_demand_61 h (fun r13 im14 c15 h => ?_)
          refine p_if_eq (tgt := 71) dX8_demand_64 (by decide) (nf_r c15) (fun b16 => ?_) (fun b16 => ?_)
          · have h := h.1 b16
            refine p_iconst dX8_demand_71 ?_
            exact p_zretI (by decide) (by decide) rfl (nf_k (by decide)) (by decide) dX8_demand_72 h
          · have h := h.2 b16
            refine p_iconst dX8_demand_67 ?_
            refine p_goto (tgt := 72) dX8_demand_68 (by decide) ?_
            exact p_zretI (by decide) (by decide) rfl (nf_k (by decide)) (by decide) dX8_demand_72 h
    · have h := h.2 b7
      refine p_iconst dX8_demand_17 ?_
      refine p_goto (tgt := 47) dX8_demand_18 (by decide) ?_
      refine p_putI (j := 4) G f_RX8_30 rfl rfl rfl (hS 0 (by decide)).1 (nf_k (by decide)) dX8_demand_47 ?_
      refine p_gen (fun im7 e8 => ?_)
      have h := h im7 e8
      refine p_aload_n dX8_demand_50 rfl (q := 0) rfl ?_
      refine p_getI (j := 4) G f_RX8_30 rfl (hS 0 (by decide)).1 dX8_demand_51 (fun c9 => ?_)
      refine p_if_ne (tgt := 71) dX8_demand_54 (by decide) (nf_r c9) (fun b10 => ?_) (fun b10 => ?_)
      · have h := h.1 b10
        refine p_iconst dX8_demand_71 ?_
        exact p_zretI (by decide) (by decide) rfl (nf_k (by decide)) (by decide) dX8_demand_72 h
      · have h := h.2 b10
        refine p_aload_n dX8_demand_57 rfl (q := 0) rfl ?_
        refine p_iload_n dX8_demand_58 rfl (q := 1) rfl ?_
        refine p_iload_n dX8_demand_59 rfl (q := 2) rfl ?_
        refine p_iload_n dX8_demand_60 rfl (q := 3) rfl ?_
        refine p_VI G k_RX8_134 (by decide) (hS 0 (by decide)).1 rfl rfl (Nat.le_of_ble_eq_true rfl) ⟨by decide, by decide⟩ ⟨by decide, by decide⟩ dX8_demand_61 h (fun r10 im11 c12 h => ?_)
        refine p_if_eq (tgt := 71) dX8_demand_64 (by decide) (nf_r c12) (fun b13 => ?_) (fun b13 => ?_)
        · have h := h.1 b13
          refine p_iconst dX8_demand_71 ?_
          exact p_zretI (by decide) (by decide) rfl (nf_k (by decide)) (by decide) dX8_demand_72 h
        · have h := h.2 b13
          refine p_iconst dX8_demand_67 ?_
          refine p_goto (tgt := 72) dX8_demand_68 (by decide) ?_
          exact p_zretI (by decide) (by decide) rfl (nf_k (by decide)) (by decide) dX8_demand_72 h
set_option maxRecDepth 20000 in
set_option maxHeartbeats 4000000 in
theorem v_X8_unit {g : zG} (G : zOK g) {S : zSh} {im : zIm} {a : Nat} {p1 : Int} {p2 : Int} {Q : Int → zIm → Prop} (hS : zS_M S a) (c_p1 : zc p1) (c_p2 : zc p2)
    (h : ((0 ≤ (zw ((412 + (6 * p1)) + p2)) ∧ (zw ((412 + (6 * p1)) + p2)) < 7692) ∧ Q (im (a + 1) (zw ((412 + (6 * p1)) + p2))) im)) :
    zCI g yX8_unit M_X8_unit [.ref a, .int (zi p1), .int (zi p2)] S im Q := by
  refine zC_of (by decide) rfl rfl rfl rfl (Nat.le_of_ble_eq_true rfl) ?_
  refine p_aload_n dX8_unit_0 rfl (q := 0) rfl ?_
  refine p_getR (b := (a + 1)) G f_RX8_7 rfl (hS 0 (by decide)).1 ((hS 0 (by decide)).2.2 0 (by decide)) dX8_unit_1 ?_
  refine p_sipush dX8_unit_4 (by decide) ?_
  refine p_bipush dX8_unit_7 (by decide) ?_
  refine p_iload_n dX8_unit_9 rfl (q := 1) rfl ?_
  refine p_imul dX8_unit_10 ?_
  refine p_iadd dX8_unit_11 ?_
  refine p_iload_n dX8_unit_12 rfl (q := 2) rfl ?_
  refine p_iadd dX8_unit_13 ?_
  have g2 := h.1
  have h := h.2
  refine p_iald G (hS 1 (by decide)).1 (nf_w _) g2.1 (zln_lt (hS 1 (by decide)).2.1 g2.2) dX8_unit_14 (fun c1 => ?_)
  exact p_iretI (by decide) (by decide) rfl (nf_r c1) dX8_unit_15 h
set_option maxRecDepth 20000 in
set_option maxHeartbeats 4000000 in
theorem v_X8_firstDue {g : zG} (G : zOK g) {S : zSh} {im : zIm} {a : Nat} {p1 : Int} {Q : Int → zIm → Prop} (hS : zS_M S a) (c_p1 : zc p1)
    (h : zPI g M_X8_firstDue 2 [(0, .ref a), (1, .int (zi p1)), (2, .int (zi 0))] S im Q) :
    zCI g yX8_firstDue M_X8_firstDue [.ref a, .int (zi p1)] S im Q := by
  refine zC_of (by decide) rfl rfl rfl rfl (Nat.le_of_ble_eq_true rfl) ?_
  refine p_iconst dX8_firstDue_0 ?_
  refine p_istore_n (lv' := [(2, .int (zi 0)), (0, .ref a), (1, .int (zi p1))]) dX8_firstDue_1 rfl (by decide) rfl ?_
  refine p_sub (lv' := [(0, .ref a), (1, .int (zi p1)), (2, .int (zi 0))]) [1, 2, 0] rfl ?_
  exact h
set_option maxRecDepth 20000 in
set_option maxHeartbeats 4000000 in
theorem v_X8_firstDue_2 {g : zG} (G : zOK g) {S : zSh} {im : zIm} {a : Nat} {x1 : Int} {x2 : Int} {Q : Int → zIm → Prop} (hS : zS_M S a) (c_x1 : zc x1) (c_x2 : zc x2)
    (h : (((im (a + 1) 4) ≤ x2 → Q (-1) im) ∧ (x2 < (im (a + 1) 4) → zCI g yX8_unit M_X8_unit [.ref a, .int (zi x2), .int (zi 0)] S im (fun r2 im3 => ((¬ r2 = x1 → zPI g M_X8_firstDue 2 [(0, .ref a), (1, .int (zi x1)), (2, .int (zi (zw (x2 + 1))))] S im3 Q) ∧ (r2 = x1 → zCI g yX8_unit M_X8_unit [.ref a, .int (zi x2), .int (zi 4)] S im3 (fun r5 im6 => ((¬ r5 = (im6 (a + 1) 0) → zPI g M_X8_firstDue 2 [(0, .ref a), (1, .int (zi x1)), (2, .int (zi (zw (x2 + 1))))] S im6 Q) ∧ (r5 = (im6 (a + 1) 0) → Q x2 im6))))))))) :
    zPI g M_X8_firstDue 2 [(0, .ref a), (1, .int (zi x1)), (2, .int (zi x2))] S im Q := by
  refine p_iload_n dX8_firstDue_2 rfl (q := 2) rfl ?_
  refine p_aload_n dX8_firstDue_3 rfl (q := 0) rfl ?_
  refine p_getR (b := (a + 1)) G f_RX8_7 rfl (hS 0 (by decide)).1 ((hS 0 (by decide)).2.2 0 (by decide)) dX8_firstDue_4 ?_
  refine p_iconst dX8_firstDue_7 ?_
  refine p_iald G (hS 1 (by decide)).1 (nf_k (by decide)) (by decide) (zln_lt (hS 1 (by decide)).2.1 (by decide)) dX8_firstDue_8 (fun c1 => ?_)
  refine p_icmp_ge (tgt := 45) dX8_firstDue_9 (by decide) (nf_r c_x2) (nf_r c1) (fun b2 => ?_) (fun b2 => ?_)
  · have h := h.1 b2
    refine p_iconst dX8_firstDue_45 ?_
    exact p_iretI (by decide) (by decide) rfl (nf_k (by decide)) dX8_firstDue_46 h
  · have h := h.2 b2
    refine p_aload_n dX8_firstDue_12 rfl (q := 0) rfl ?_
    refine p_iload_n dX8_firstDue_13 rfl (q := 2) rfl ?_
    refine p_iconst dX8_firstDue_14 ?_
    refine p_VI G k_RX8_137 (by decide) (hS 0 (by decide)).1 rfl rfl (Nat.le_of_ble_eq_true rfl) ⟨by decide, by decide⟩ ⟨by decide, by decide⟩ dX8_firstDue_15 h (fun r2 im3 c4 h => ?_)
    refine p_iload_n dX8_firstDue_18 rfl (q := 1) rfl ?_
    refine p_icmp_ne (tgt := 39) dX8_firstDue_19 (by decide) (nf_r c4) (nf_r c_x1) (fun b5 => ?_) (fun b5 => ?_)
    · have h := h.1 b5
      refine p_iinc (q := 2) (lv' := [(2, .int (zi (x2 + 1))), (0, .ref a), (1, .int (zi x1))]) dX8_firstDue_39 rfl (by decide) rfl ?_
      refine p_goto (tgt := 2) dX8_firstDue_42 (by decide) ?_
      refine p_sub (lv' := [(0, .ref a), (1, .int (zi x1)), (2, .int (zi (zw (x2 + 1))))]) [1, 2, 0] (by simp only [zi_zw, zl_zwl]; rfl) ?_
      exact h
    · have h := h.2 b5
      refine p_aload_n dX8_firstDue_22 rfl (q := 0) rfl ?_
      refine p_iload_n dX8_firstDue_23 rfl (q := 2) rfl ?_
      refine p_iconst dX8_firstDue_24 ?_
      refine p_VI G k_RX8_137 (by decide) (hS 0 (by decide)).1 rfl rfl (Nat.le_of_ble_eq_true rfl) ⟨by decide, by decide⟩ ⟨by decide, by decide⟩ dX8_firstDue_25 h (fun r5 im6 c7 h => ?_)
      refine p_aload_n dX8_firstDue_28 rfl (q := 0) rfl ?_
      refine p_getR (b := (a + 1)) G f_RX8_7 rfl (hS 0 (by decide)).1 ((hS 0 (by decide)).2.2 0 (by decide)) dX8_firstDue_29 ?_
      refine p_iconst dX8_firstDue_32 ?_
      refine p_iald G (hS 1 (by decide)).1 (nf_k (by decide)) (by decide) (zln_lt (hS 1 (by decide)).2.1 (by decide)) dX8_firstDue_33 (fun c8 => ?_)
      refine p_icmp_ne (tgt := 39) dX8_firstDue_34 (by decide) (nf_r c7) (nf_r c8) (fun b9 => ?_) (fun b9 => ?_)
      · have h := h.1 b9
        refine p_iinc (q := 2) (lv' := [(2, .int (zi (x2 + 1))), (0, .ref a), (1, .int (zi x1))]) dX8_firstDue_39 rfl (by decide) rfl ?_
        refine p_goto (tgt := 2) dX8_firstDue_42 (by decide) ?_
        refine p_sub (lv' := [(0, .ref a), (1, .int (zi x1)), (2, .int (zi (zw (x2 + 1))))]) [1, 2, 0] (by simp only [zi_zw, zl_zwl]; rfl) ?_
        exact h
      · have h := h.2 b9
        refine p_iload_n dX8_firstDue_37 rfl (q := 2) rfl ?_
        exact p_iretI (by decide) (by decide) rfl (nf_r c_x2) dX8_firstDue_38 h
set_option maxRecDepth 20000 in
set_option maxHeartbeats 4000000 in
theorem v_X8_unitsAt {g : zG} (G : zOK g) {S : zSh} {im : zIm} {a : Nat} {p1 : Int} {p2 : Int} {p3 : Int} {Q : Int → zIm → Prop} (hS : zS_M S a) (c_p1 : zc p1) (c_p2 : zc p2) (c_p3 : zc p3)
    (h : zPI g M_X8_unitsAt 6 [(0, .ref a), (1, .int (zi p1)), (2, .int (zi p2)), (3, .int (zi p3)), (4, .int (zi 0)), (5, .int (zi 0))] S im Q) :
    zCI g yX8_unitsAt M_X8_unitsAt [.ref a, .int (zi p1), .int (zi p2), .int (zi p3)] S im Q := by
  refine zC_of (by decide) rfl rfl rfl rfl (Nat.le_of_ble_eq_true rfl) ?_
  refine p_iconst dX8_unitsAt_0 ?_
  refine p_istore (lv' := [(4, .int (zi 0)), (0, .ref a), (1, .int (zi p1)), (2, .int (zi p2)), (3, .int (zi p3))]) dX8_unitsAt_1 (by decide) rfl ?_
  refine p_iconst dX8_unitsAt_3 ?_
  refine p_istore (lv' := [(5, .int (zi 0)), (4, .int (zi 0)), (0, .ref a), (1, .int (zi p1)), (2, .int (zi p2)), (3, .int (zi p3))]) dX8_unitsAt_4 (by decide) rfl ?_
  refine p_sub (lv' := [(0, .ref a), (1, .int (zi p1)), (2, .int (zi p2)), (3, .int (zi p3)), (4, .int (zi 0)), (5, .int (zi 0))]) [2, 3, 4, 5, 1, 0] rfl ?_
  exact h
set_option maxRecDepth 20000 in
set_option maxHeartbeats 4000000 in
theorem v_X8_unitsAt_6 {g : zG} (G : zOK g) {S : zSh} {im : zIm} {a : Nat} {x1 : Int} {x2 : Int} {x3 : Int} {x4 : Int} {x5 : Int} {Q : Int → zIm → Prop} (hS : zS_M S a) (c_x1 : zc x1) (c_x2 : zc x2) (c_x3 : zc x3) (c_x4 : zc x4) (c_x5 : zc x5)
    (h : (((im (a + 1) 4) ≤ x5 → Q x4 im) ∧ (x5 < (im (a + 1) 4) → zCI g yX8_unit M_X8_unit [.ref a, .int (zi x5), .int (zi 0)] S im (fun r2 im3 => ((¬ r2 = x1 → zPI g M_X8_unitsAt 6 [(0, .ref a), (1, .int (zi x1)), (2, .int (zi x2)), (3, .int (zi x3)), (4, .int (zi (zw (x4 + 0)))), (5, .int (zi (zw (x5 + 1))))] S im3 Q) ∧ (r2 = x1 → zCI g yX8_unit M_X8_unit [.ref a, .int (zi x5), .int (zi 1)] S im3 (fun r5 im6 => ((¬ r5 = x2 → zPI g M_X8_unitsAt 6 [(0, .ref a), (1, .int (zi x1)), (2, .int (zi x2)), (3, .int (zi x3)), (4, .int (zi (zw (x4 + 0)))), (5, .int (zi (zw (x5 + 1))))] S im6 Q) ∧ (r5 = x2 → zCI g yX8_unit M_X8_unit [.ref a, .int (zi x5), .int (zi 2)] S im6 (fun r8 im9 => ((¬ r8 = x3 → zPI g M_X8_unitsAt 6 [(0, .ref a), (1, .int (zi x1)), (2, .int (zi x2)), (3, .int (zi x3)), (4, .int (zi (zw (x4 + 0)))), (5, .int (zi (zw (x5 + 1))))] S im9 Q) ∧ (r8 = x3 → zPI g M_X8_unitsAt 6 [(0, .ref a), (1, .int (zi x1)), (2, .int (zi x2)), (3, .int (zi x3)), (4, .int (zi (zw (x4 + 1)))), (5, .int (zi (zw (x5 + 1))))] S im9 Q)))))))))))) :
    zPI g M_X8_unitsAt 6 [(0, .ref a), (1, .int (zi x1)), (2, .int (zi x2)), (3, .int (zi x3)), (4, .int (zi x4)), (5, .int (zi x5))] S im Q := by
  refine p_iload dX8_unitsAt_6 (q := 5) rfl ?_
  refine p_aload_n dX8_unitsAt_8 rfl (q := 0) rfl ?_
  refine p_getR (b := (a + 1)) G f_RX8_7 rfl (hS 0 (by decide)).1 ((hS 0 (by decide)).2.2 0 (by decide)) dX8_unitsAt_9 ?_
  refine p_iconst dX8_unitsAt_12 ?_
  refine p_iald G (hS 1 (by decide)).1 (nf_k (by decide)) (by decide) (zln_lt (hS 1 (by decide)).2.1 (by decide)) dX8_unitsAt_13 (fun c1 => ?_)
  refine p_icmp_ge (tgt := 66) dX8_unitsAt_14 (by decide) (nf_r c_x5) (nf_r c1) (fun b2 => ?_) (fun b2 => ?_)
  · have h := h.1 b2
    refine p_iload dX8_unitsAt_66 (q := 4) rfl ?_
    exact p_iretI (by decide) (by decide) rfl (nf_r c_x4) dX8_unitsAt_68 h
  · have h := h.2 b2
    refine p_iload dX8_unitsAt_17 (q := 4) rfl ?_
    refine p_aload_n dX8_unitsAt_19 rfl (q := 0) rfl ?_
    refine p_iload dX8_unitsAt_20 (q := 5) rfl ?_
    refine p_iconst dX8_unitsAt_22 ?_
    refine p_VI G k_RX8_137 (by decide) (hS 0 (by decide)).1 rfl rfl (Nat.le_of_ble_eq_true rfl) ⟨by decide, by decide⟩ ⟨by decide, by decide⟩ dX8_unitsAt_23 h (fun r2 im3 c4 h => ?_)
    refine p_iload_n dX8_unitsAt_26 rfl (q := 1) rfl ?_
    refine p_icmp_ne (tgt := 56) dX8_unitsAt_27 (by decide) (nf_r c4) (nf_r c_x1) (fun b5 => ?_) (fun b5 => ?_)
    · have h := h.1 b5
      refine p_iconst dX8_unitsAt_56 ?_
      refine p_iadd dX8_unitsAt_57 ?_
      refine p_istore (lv' := [(4, .int (zi (x4 + 0))), (0, .ref a), (1, .int (zi x1)), (2, .int (zi x2)), (3, .int (zi x3)), (5, .int (zi x5))]) dX8_unitsAt_58 (by decide) rfl ?_
      refine p_iinc (q := 5) (lv' := [(5, .int (zi (x5 + 1))), (4, .int (zi (x4 + 0))), (0, .ref a), (1, .int (zi x1)), (2, .int (zi x2)), (3, .int (zi x3))]) dX8_unitsAt_60 rfl (by decide) rfl ?_
      refine p_goto (tgt := 6) dX8_unitsAt_63 (by decide) ?_
      refine p_sub (lv' := [(0, .ref a), (1, .int (zi x1)), (2, .int (zi x2)), (3, .int (zi x3)), (4, .int (zi (zw (x4 + 0)))), (5, .int (zi (zw (x5 + 1))))]) [2, 3, 4, 5, 1, 0] (by simp only [zi_zw, zl_zwl]; rfl) ?_
      exact h
    · have h := h.2 b5
      refine p_aload_n dX8_unitsAt_30 rfl (q := 0) rfl ?_
      refine p_iload dX8_unitsAt_31 (q := 5) rfl ?_
      refine p_iconst dX8_unitsAt_33 ?_
      refine p_VI G k_RX8_137 (by decide) (hS 0 (by decide)).1 rfl rfl (Nat.le_of_ble_eq_true rfl) ⟨by decide, by decide⟩ ⟨by decide, by decide⟩ dX8_unitsAt_34 h (fun r5 im6 c7 h => ?_)
      refine p_iload_n dX8_unitsAt_37 rfl (q := 2) rfl ?_
      refine p_icmp_ne (tgt := 56) dX8_unitsAt_38 (by decide) (nf_r c7) (nf_r c_x2) (fun b8 => ?_) (fun b8 => ?_)
      · have h := h.1 b8
        refine p_iconst dX8_unitsAt_56 ?_
        refine p_iadd dX8_unitsAt_57 ?_
        refine p_istore (lv' := [(4, .int (zi (x4 + 0))), (0, .ref a), (1, .int (zi x1)), (2, .int (zi x2)), (3, .int (zi x3)), (5, .int (zi x5))]) dX8_unitsAt_58 (by decide) rfl ?_
        refine p_iinc (q := 5) (lv' := [(5, .int (zi (x5 + 1))), (4, .int (zi (x4 + 0))), (0, .ref a), (1, .int (zi x1)), (2, .int (zi x2)), (3, .int (zi x3))]) dX8_unitsAt_60 rfl (by decide) rfl ?_
        refine p_goto (tgt := 6) dX8_unitsAt_63 (by decide) ?_
        refine p_sub (lv' := [(0, .ref a), (1, .int (zi x1)), (2, .int (zi x2)), (3, .int (zi x3)), (4, .int (zi (zw (x4 + 0)))), (5, .int (zi (zw (x5 + 1))))]) [2, 3, 4, 5, 1, 0] (by simp only [zi_zw, zl_zwl]; rfl) ?_
        exact h
      · have h := h.2 b8
        refine p_aload_n dX8_unitsAt_41 rfl (q := 0) rfl ?_
        refine p_iload dX8_unitsAt_42 (q := 5) rfl ?_
        refine p_iconst dX8_unitsAt_44 ?_
        refine p_VI G k_RX8_137 (by decide) (hS 0 (by decide)).1 rfl rfl (Nat.le_of_ble_eq_true rfl) ⟨by decide, by decide⟩ ⟨by decide, by decide⟩ dX8_unitsAt_45 h (fun r8 im9 c10 h => ?_)
        refine p_iload_n dX8_unitsAt_48 rfl (q := 3) rfl ?_
        refine p_icmp_ne (tgt := 56) dX8_unitsAt_49 (by decide) (nf_r c10) (nf_r c_x3) (fun b11 => ?_) (fun b11 => ?_)
        · have h := h.1 b11
          refine p_iconst dX8_unitsAt_56 ?_
          refine p_iadd dX8_unitsAt_57 ?_
          refine p_istore (lv' := [(4, .int (zi (x4 + 0))), (0, .ref a), (1, .int (zi x1)), (2, .int (zi x2)), (3, .int (zi x3)), (5, .int (zi x5))]) dX8_unitsAt_58 (by decide) rfl ?_
          refine p_iinc (q := 5) (lv' := [(5, .int (zi (x5 + 1))), (4, .int (zi (x4 + 0))), (0, .ref a), (1, .int (zi x1)), (2, .int (zi x2)), (3, .int (zi x3))]) dX8_unitsAt_60 rfl (by decide) rfl ?_
          refine p_goto (tgt := 6) dX8_unitsAt_63 (by decide) ?_
          refine p_sub (lv' := [(0, .ref a), (1, .int (zi x1)), (2, .int (zi x2)), (3, .int (zi x3)), (4, .int (zi (zw (x4 + 0)))), (5, .int (zi (zw (x5 + 1))))]) [2, 3, 4, 5, 1, 0] (by simp only [zi_zw, zl_zwl]; rfl) ?_
          exact h
        · have h := h.2 b11
          refine p_iconst dX8_unitsAt_52 ?_
          refine p_goto (tgt := 57) dX8_unitsAt_53 (by decide) ?_
          refine p_iadd dX8_unitsAt_57 ?_
          refine p_istore (lv' := [(4, .int (zi (x4 + 1))), (0, .ref a), (1, .int (zi x1)), (2, .int (zi x2)), (3, .int (zi x3)), (5, .int (zi x5))]) dX8_unitsAt_58 (by decide) rfl ?_
          refine p_iinc (q := 5) (lv' := [(5, .int (zi (x5 + 1))), (4, .int (zi (x4 + 1))), (0, .ref a), (1, .int (zi x1)), (2, .int (zi x2)), (3, .int (zi x3))]) dX8_unitsAt_60 rfl (by decide) rfl ?_
          refine p_goto (tgt := 6) dX8_unitsAt_63 (by decide) ?_
          refine p_sub (lv' := [(0, .ref a), (1, .int (zi x1)), (2, .int (zi x2)), (3, .int (zi x3)), (4, .int (zi (zw (x4 + 1)))), (5, .int (zi (zw (x5 + 1))))]) [2, 3, 4, 5, 1, 0] (by simp only [zi_zw, zl_zwl]; rfl) ?_
          exact h
set_option maxRecDepth 20000 in
set_option maxHeartbeats 4000000 in
theorem v_X8_repairAtDepot {g : zG} (G : zOK g) {S : zSh} {im : zIm} {a : Nat} {p1 : Int} {Q : zIm → Prop} (hS : zS_M S a) (c_p1 : zc p1)
    (h : zCI g yX8_item M_X8_item [.ref a, .int (zi p1), .int (zi 0)] S im (fun r2 im3 => zCV g yX8_appendUnit M_X8_appendUnit [.ref a, .int (zi 1), .int (zi p1), .int (zi 0), .int (zi 0), .int (zi (zw ((im (a + 1) 0) + r2))), .int (zi 0)] S im3 (fun im5 => Q im5))) :
    zCV g yX8_repairAtDepot M_X8_repairAtDepot [.ref a, .int (zi p1)] S im Q := by
  refine zC_of (by decide) rfl rfl rfl rfl (Nat.le_of_ble_eq_true rfl) ?_
  refine p_aload_n dX8_repairAtDepot_0 rfl (q := 0) rfl ?_
  refine p_iconst dX8_repairAtDepot_1 ?_
  refine p_iload_n dX8_repairAtDepot_2 rfl (q := 1) rfl ?_
  refine p_iconst dX8_repairAtDepot_3 ?_
  refine p_iconst dX8_repairAtDepot_4 ?_
  refine p_aload_n dX8_repairAtDepot_5 rfl (q := 0) rfl ?_
  refine p_getR (b := (a + 1)) G f_RX8_7 rfl (hS 0 (by decide)).1 ((hS 0 (by decide)).2.2 0 (by decide)) dX8_repairAtDepot_6 ?_
  refine p_iconst dX8_repairAtDepot_9 ?_
  refine p_iald G (hS 1 (by decide)).1 (nf_k (by decide)) (by decide) (zln_lt (hS 1 (by decide)).2.1 (by decide)) dX8_repairAtDepot_10 (fun c1 => ?_)
  refine p_aload_n dX8_repairAtDepot_11 rfl (q := 0) rfl ?_
  refine p_iload_n dX8_repairAtDepot_12 rfl (q := 1) rfl ?_
  refine p_iconst dX8_repairAtDepot_13 ?_
  refine p_VI G k_RX8_124 (by decide) (hS 0 (by decide)).1 rfl rfl (Nat.le_of_ble_eq_true rfl) ⟨by decide, by decide⟩ ⟨by decide, by decide⟩ dX8_repairAtDepot_14 h (fun r2 im3 c4 h => ?_)
  refine p_iadd dX8_repairAtDepot_17 ?_
  refine p_iconst dX8_repairAtDepot_18 ?_
  refine p_VV G k_RX8_92 (by decide) (hS 0 (by decide)).1 rfl (by simp only [zi_zw]; rfl) (Nat.le_of_ble_eq_true rfl) ⟨by decide, by decide⟩ ⟨by decide, by decide⟩ dX8_repairAtDepot_19 h (fun im5 h => ?_)
  exact p_retV (by decide) (by decide) rfl dX8_repairAtDepot_22 h
set_option maxRecDepth 20000 in
set_option maxHeartbeats 4000000 in
theorem v_X8_endReturn {g : zG} (G : zOK g) {S : zSh} {im : zIm} {a : Nat} {p1 : Int} {Q : zIm → Prop} (hS : zS_M S a) (c_p1 : zc p1)
    (h : zCI g yX8_unitsAt M_X8_unitsAt [.ref a, .int (zi 1), .int (zi p1), .int (zi 0)] S im (fun r1 im2 => zCI g yX8_item M_X8_item [.ref a, .int (zi p1), .int (zi 1)] S im2 (fun r4 im5 => ((r4 ≤ r1 → zCV g yX8_appendUnit M_X8_appendUnit [.ref a, .int (zi 4), .int (zi p1), .int (zi 0), .int (zi 0), .int (zi 0), .int (zi 0)] S im5 (fun im7 => Q im7)) ∧ (r1 < r4 → zCV g yX8_repairAtDepot M_X8_repairAtDepot [.ref a, .int (zi p1)] S im5 (fun im7 => Q im7)))))) :
    zCV g yX8_endReturn M_X8_endReturn [.ref a, .int (zi p1)] S im Q := by
  refine zC_of (by decide) rfl rfl rfl rfl (Nat.le_of_ble_eq_true rfl) ?_
  refine p_aload_n dX8_endReturn_0 rfl (q := 0) rfl ?_
  refine p_iconst dX8_endReturn_1 ?_
  refine p_iload_n dX8_endReturn_2 rfl (q := 1) rfl ?_
  refine p_iconst dX8_endReturn_3 ?_
  refine p_VI G k_RX8_140 (by decide) (hS 0 (by decide)).1 rfl rfl (Nat.le_of_ble_eq_true rfl) ⟨by decide, by decide⟩ ⟨by decide, by decide⟩ dX8_endReturn_4 h (fun r1 im2 c3 h => ?_)
  refine p_aload_n dX8_endReturn_7 rfl (q := 0) rfl ?_
  refine p_iload_n dX8_endReturn_8 rfl (q := 1) rfl ?_
  refine p_iconst dX8_endReturn_9 ?_
  refine p_VI G k_RX8_124 (by decide) (hS 0 (by decide)).1 rfl rfl (Nat.le_of_ble_eq_true rfl) ⟨by decide, by decide⟩ ⟨by decide, by decide⟩ dX8_endReturn_10 h (fun r4 im5 c6 h => ?_)
  refine p_icmp_ge (tgt := 24) dX8_endReturn_13 (by decide) (nf_r c3) (nf_r c6) (fun b7 => ?_) (fun b7 => ?_)
  · have h := h.1 b7
    refine p_aload_n dX8_endReturn_24 rfl (q := 0) rfl ?_
    refine p_iconst dX8_endReturn_25 ?_
    refine p_iload_n dX8_endReturn_26 rfl (q := 1) rfl ?_
    refine p_iconst dX8_endReturn_27 ?_
    refine p_iconst dX8_endReturn_28 ?_
    refine p_iconst dX8_endReturn_29 ?_
    refine p_iconst dX8_endReturn_30 ?_
    refine p_VV G k_RX8_92 (by decide) (hS 0 (by decide)).1 rfl rfl (Nat.le_of_ble_eq_true rfl) ⟨by decide, by decide⟩ ⟨by decide, by decide⟩ dX8_endReturn_31 h (fun im7 h => ?_)
    exact p_retV (by decide) (by decide) rfl dX8_endReturn_34 h
  · have h := h.2 b7
    refine p_aload_n dX8_endReturn_16 rfl (q := 0) rfl ?_
    refine p_iload_n dX8_endReturn_17 rfl (q := 1) rfl ?_
    refine p_VV G k_RX8_143 (by decide) (hS 0 (by decide)).1 rfl rfl (Nat.le_of_ble_eq_true rfl) ⟨by decide, by decide⟩ ⟨by decide, by decide⟩ dX8_endReturn_18 h (fun im7 h => ?_)
    refine p_goto (tgt := 34) dX8_endReturn_21 (by decide) ?_
    exact p_retV (by decide) (by decide) rfl dX8_endReturn_34 h
set_option maxRecDepth 20000 in
set_option maxHeartbeats 4000000 in
theorem v_X8_endDepotRepair {g : zG} (G : zOK g) {S : zSh} {im : zIm} {a : Nat} {p1 : Int} {Q : zIm → Prop} (hS : zS_M S a) (c_p1 : zc p1)
    (h : zPV g M_X8_endDepotRepair 4 [(0, .ref a), (1, .int (zi p1)), (2, .int (zi (-1))), (3, .int (zi 0))] S im Q) :
    zCV g yX8_endDepotRepair M_X8_endDepotRepair [.ref a, .int (zi p1)] S im Q := by
  refine zC_of (by decide) rfl rfl rfl rfl (Nat.le_of_ble_eq_true rfl) ?_
  refine p_iconst dX8_endDepotRepair_0 ?_
  refine p_istore_n (lv' := [(2, .int (zi (-1))), (0, .ref a), (1, .int (zi p1))]) dX8_endDepotRepair_1 rfl (by decide) rfl ?_
  refine p_iconst dX8_endDepotRepair_2 ?_
  refine p_istore_n (lv' := [(3, .int (zi 0)), (2, .int (zi (-1))), (0, .ref a), (1, .int (zi p1))]) dX8_endDepotRepair_3 rfl (by decide) rfl ?_
  refine p_sub (lv' := [(0, .ref a), (1, .int (zi p1)), (2, .int (zi (-1))), (3, .int (zi 0))]) [2, 3, 1, 0] rfl ?_
  exact h
set_option maxRecDepth 20000 in
set_option maxHeartbeats 4000000 in
theorem v_X8_endDepotRepair_4 {g : zG} (G : zOK g) {S : zSh} {im : zIm} {a : Nat} {x1 : Int} {x2 : Int} {x3 : Int} {Q : zIm → Prop} (hS : zS_M S a) (c_x1 : zc x1) (c_x2 : zc x2) (c_x3 : zc x3)
    (h : (((im (a + 1) 4) ≤ x3 → ((x2 = (-1) → zCV g yX8_fillOrder M_X8_fillOrder [.ref a, .int (zi x1)] S im (fun im2 => Q im2)) ∧ (¬ x2 = (-1) → zCV g yX8_remove M_X8_remove [.ref a, .int (zi 4), .int (zi 412), .int (zi 6), .int (zi x2)] S im (fun im2 => zCV g yX8_repairAtDepot M_X8_repairAtDepot [.ref a, .int (zi x1)] S im2 (fun im4 => zCV g yX8_fillOrder M_X8_fillOrder [.ref a, .int (zi x1)] S im4 (fun im6 => Q im6)))))) ∧ (x3 < (im (a + 1) 4) → ((¬ x2 = (-1) → zPV g M_X8_endDepotRepair 4 [(0, .ref a), (1, .int (zi x1)), (2, .int (zi x2)), (3, .int (zi (zw (x3 + 1))))] S im Q) ∧ (x2 = (-1) → zCI g yX8_unit M_X8_unit [.ref a, .int (zi x3), .int (zi 0)] S im (fun r2 im3 => ((¬ r2 = 4 → zPV g M_X8_endDepotRepair 4 [(0, .ref a), (1, .int (zi x1)), (2, .int (zi x2)), (3, .int (zi (zw (x3 + 1))))] S im3 Q) ∧ (r2 = 4 → zCI g yX8_unit M_X8_unit [.ref a, .int (zi x3), .int (zi 1)] S im3 (fun r5 im6 => ((¬ r5 = x1 → zPV g M_X8_endDepotRepair 4 [(0, .ref a), (1, .int (zi x1)), (2, .int (zi x2)), (3, .int (zi (zw (x3 + 1))))] S im6 Q) ∧ (r5 = x1 → zPV g M_X8_endDepotRepair 4 [(0, .ref a), (1, .int (zi x1)), (2, .int (zi x3)), (3, .int (zi (zw (x3 + 1))))] S im6 Q))))))))))) :
    zPV g M_X8_endDepotRepair 4 [(0, .ref a), (1, .int (zi x1)), (2, .int (zi x2)), (3, .int (zi x3))] S im Q := by
  refine p_iload_n dX8_endDepotRepair_4 rfl (q := 3) rfl ?_
  refine p_aload_n dX8_endDepotRepair_5 rfl (q := 0) rfl ?_
  refine p_getR (b := (a + 1)) G f_RX8_7 rfl (hS 0 (by decide)).1 ((hS 0 (by decide)).2.2 0 (by decide)) dX8_endDepotRepair_6 ?_
  refine p_iconst dX8_endDepotRepair_9 ?_
  refine p_iald G (hS 1 (by decide)).1 (nf_k (by decide)) (by decide) (zln_lt (hS 1 (by decide)).2.1 (by decide)) dX8_endDepotRepair_10 (fun c1 => ?_)
  refine p_icmp_ge (tgt := 63) dX8_endDepotRepair_11 (by decide) (nf_r c_x3) (nf_r c1) (fun b2 => ?_) (fun b2 => ?_)
  · have h := h.1 b2
    refine p_iload_n dX8_endDepotRepair_63 rfl (q := 2) rfl ?_
    refine p_iconst dX8_endDepotRepair_64 ?_
    refine p_icmp_eq (tgt := 84) dX8_endDepotRepair_65 (by decide) (nf_r c_x2) (nf_k (by decide)) (fun b2 => ?_) (fun b2 => ?_)
    · have h := h.1 b2
      refine p_aload_n dX8_endDepotRepair_84 rfl (q := 0) rfl ?_
      refine p_iload_n dX8_endDepotRepair_85 rfl (q := 1) rfl ?_
      refine p_VV G k_RX8_65 (by decide) (hS 0 (by decide)).1 rfl rfl (Nat.le_of_ble_eq_true rfl) ⟨by decide, by decide⟩ ⟨by decide, by decide⟩ dX8_endDepotRepair_86 h (fun im2 h => ?_)
      exact p_retV (by decide) (by decide) rfl dX8_endDepotRepair_89 h
    · have h := h.2 b2
      refine p_aload_n dX8_endDepotRepair_68 rfl (q := 0) rfl ?_
      refine p_iconst dX8_endDepotRepair_69 ?_
      refine p_sipush dX8_endDepotRepair_70 (by decide) ?_
      refine p_bipush dX8_endDepotRepair_73 (by decide) ?_
      refine p_iload_n dX8_endDepotRepair_75 rfl (q := 2) rfl ?_
      refine p_VV G k_RX8_99 (by decide) (hS 0 (by decide)).1 rfl rfl (Nat.le_of_ble_eq_true rfl) ⟨by decide, by decide⟩ ⟨by decide, by decide⟩ dX8_endDepotRepair_76 h (fun im2 h => ?_)
      refine p_aload_n dX8_endDepotRepair_79 rfl (q := 0) rfl ?_
      refine p_iload_n dX8_endDepotRepair_80 rfl (q := 1) rfl ?_
      refine p_VV G k_RX8_143 (by decide) (hS 0 (by decide)).1 rfl rfl (Nat.le_of_ble_eq_true rfl) ⟨by decide, by decide⟩ ⟨by decide, by decide⟩ dX8_endDepotRepair_81 h (fun im4 h => ?_)
      refine p_aload_n dX8_endDepotRepair_84 rfl (q := 0) rfl ?_
      refine p_iload_n dX8_endDepotRepair_85 rfl (q := 1) rfl ?_
      refine p_VV G k_RX8_65 (by decide) (hS 0 (by decide)).1 rfl rfl (Nat.le_of_ble_eq_true rfl) ⟨by decide, by decide⟩ ⟨by decide, by decide⟩ dX8_endDepotRepair_86 h (fun im6 h => ?_)
      exact p_retV (by decide) (by decide) rfl dX8_endDepotRepair_89 h
  · have h := h.2 b2
    refine p_iload_n dX8_endDepotRepair_14 rfl (q := 2) rfl ?_
    refine p_iconst dX8_endDepotRepair_15 ?_
    refine p_icmp_ne (tgt := 43) dX8_endDepotRepair_16 (by decide) (nf_r c_x2) (nf_k (by decide)) (fun b2 => ?_) (fun b2 => ?_)
    · have h := h.1 b2
      refine p_iconst dX8_endDepotRepair_43 ?_
      refine p_istore (lv' := [(4, .int (zi 0)), (0, .ref a), (1, .int (zi x1)), (2, .int (zi x2)), (3, .int (zi x3))]) dX8_endDepotRepair_44 (by decide) rfl ?_
      refine p_iload dX8_endDepotRepair_46 (q := 0) rfl ?_
      refine p_if_eq (tgt := 55) dX8_endDepotRepair_48 (by decide) (nf_k (by decide)) (fun _ => ?_) (fun h9 => absurd h9 (by decide))
      refine p_iload_n dX8_endDepotRepair_55 rfl (q := 3) rfl ?_
      refine p_istore_n (lv' := [(2, .int (zi x2)), (4, .int (zi 0)), (0, .ref a), (1, .int (zi x1)), (3, .int (zi x3))]) dX8_endDepotRepair_56 rfl (by decide) rfl ?_
      refine p_iinc (q := 4) (lv' := [(3, .int (zi (x3 + 1))), (2, .int (zi x2)), (4, .int (zi 0)), (0, .ref a), (1, .int (zi x1))]) dX8_endDepotRepair_57 rfl (by decide) rfl ?_
      refine p_goto (tgt := 4) dX8_endDepotRepair_60 (by decide) ?_
      refine p_sub (lv' := [(0, .ref a), (1, .int (zi x1)), (2, .int (zi x2)), (3, .int (zi (zw (x3 + 1))))]) [3, 4, 1, 0] (by simp only [zi_zw, zl_zwl]; rfl) ?_
      exact h
    · have h := h.2 b2
      refine p_aload_n dX8_endDepotRepair_19 rfl (q := 0) rfl ?_
      refine p_iload_n dX8_endDepotRepair_20 rfl (q := 3) rfl ?_
      refine p_iconst dX8_endDepotRepair_21 ?_
      refine p_VI G k_RX8_137 (by decide) (hS 0 (by decide)).1 rfl rfl (Nat.le_of_ble_eq_true rfl) ⟨by decide, by decide⟩ ⟨by decide, by decide⟩ dX8_endDepotRepair_22 h (fun r2 im3 c4 h => ?_)
      refine p_iconst dX8_endDepotRepair_25 ?_
      refine p_icmp_ne (tgt := 43) dX8_endDepotRepair_26 (by decide) (nf_r c4) (nf_k (by decide)) (fun b5 => ?_) (fun b5 => ?_)
      · have h := h.1 b5
        refine p_iconst dX8_endDepotRepair_43 ?_
        refine p_istore (lv' := [(4, .int (zi 0)), (0, .ref a), (1, .int (zi x1)), (2, .int (zi x2)), (3, .int (zi x3))]) dX8_endDepotRepair_44 (by decide) rfl ?_
        refine p_iload dX8_endDepotRepair_46 (q := 0) rfl ?_
        refine p_if_eq (tgt := 55) dX8_endDepotRepair_48 (by decide) (nf_k (by decide)) (fun _ => ?_) (fun h9 => absurd h9 (by decide))
        refine p_iload_n dX8_endDepotRepair_55 rfl (q := 3) rfl ?_
        refine p_istore_n (lv' := [(2, .int (zi x2)), (4, .int (zi 0)), (0, .ref a), (1, .int (zi x1)), (3, .int (zi x3))]) dX8_endDepotRepair_56 rfl (by decide) rfl ?_
        refine p_iinc (q := 4) (lv' := [(3, .int (zi (x3 + 1))), (2, .int (zi x2)), (4, .int (zi 0)), (0, .ref a), (1, .int (zi x1))]) dX8_endDepotRepair_57 rfl (by decide) rfl ?_
        refine p_goto (tgt := 4) dX8_endDepotRepair_60 (by decide) ?_
        refine p_sub (lv' := [(0, .ref a), (1, .int (zi x1)), (2, .int (zi x2)), (3, .int (zi (zw (x3 + 1))))]) [3, 4, 1, 0] (by simp only [zi_zw, zl_zwl]; rfl) ?_
        exact h
      · have h := h.2 b5
        refine p_aload_n dX8_endDepotRepair_29 rfl (q := 0) rfl ?_
        refine p_iload_n dX8_endDepotRepair_30 rfl (q := 3) rfl ?_
        refine p_iconst dX8_endDepotRepair_31 ?_
        refine p_VI G k_RX8_137 (by decide) (hS 0 (by decide)).1 rfl rfl (Nat.le_of_ble_eq_true rfl) ⟨by decide, by decide⟩ ⟨by decide, by decide⟩ dX8_endDepotRepair_32 h (fun r5 im6 c7 h => ?_)
        refine p_iload_n dX8_endDepotRepair_35 rfl (q := 1) rfl ?_
        refine p_icmp_ne (tgt := 43) dX8_endDepotRepair_36 (by decide) (nf_r c7) (nf_r c_x1) (fun b8 => ?_) (fun b8 => ?_)
        · have h := h.1 b8
          refine p_iconst dX8_endDepotRepair_43 ?_
          refine p_istore (lv' := [(4, .int (zi 0)), (0, .ref a), (1, .int (zi x1)), (2, .int (zi x2)), (3, .int (zi x3))]) dX8_endDepotRepair_44 (by decide) rfl ?_
          refine p_iload dX8_endDepotRepair_46 (q := 0) rfl ?_
          refine p_if_eq (tgt := 55) dX8_endDepotRepair_48 (by decide) (nf_k (by decide)) (fun _ => ?_) (fun h9 => absurd h9 (by decide))
          refine p_iload_n dX8_endDepotRepair_55 rfl (q := 3) rfl ?_
          refine p_istore_n (lv' := [(2, .int (zi x2)), (4, .int (zi 0)), (0, .ref a), (1, .int (zi x1)), (3, .int (zi x3))]) dX8_endDepotRepair_56 rfl (by decide) rfl ?_
          refine p_iinc (q := 4) (lv' := [(3, .int (zi (x3 + 1))), (2, .int (zi x2)), (4, .int (zi 0)), (0, .ref a), (1, .int (zi x1))]) dX8_endDepotRepair_57 rfl (by decide) rfl ?_
          refine p_goto (tgt := 4) dX8_endDepotRepair_60 (by decide) ?_
          refine p_sub (lv' := [(0, .ref a), (1, .int (zi x1)), (2, .int (zi x2)), (3, .int (zi (zw (x3 + 1))))]) [3, 4, 1, 0] (by simp only [zi_zw, zl_zwl]; rfl) ?_
          exact h
        · have h := h.2 b8
          refine p_iconst dX8_endDepotRepair_39 ?_
          refine p_goto (tgt := 44) dX8_endDepotRepair_40 (by decide) ?_
          refine p_istore (lv' := [(4, .int (zi 1)), (0, .ref a), (1, .int (zi x1)), (2, .int (zi x2)), (3, .int (zi x3))]) dX8_endDepotRepair_44 (by decide) rfl ?_
          refine p_iload dX8_endDepotRepair_46 (q := 0) rfl ?_
          refine p_if_eq (tgt := 55) dX8_endDepotRepair_48 (by decide) (nf_k (by decide)) (fun h9 => absurd h9 (by decide)) (fun _ => ?_)
          refine p_iload_n dX8_endDepotRepair_51 rfl (q := 4) rfl ?_
          refine p_goto (tgt := 56) dX8_endDepotRepair_52 (by decide) ?_
          refine p_istore_n (lv' := [(2, .int (zi x3)), (4, .int (zi 1)), (0, .ref a), (1, .int (zi x1)), (3, .int (zi x3))]) dX8_endDepotRepair_56 rfl (by decide) rfl ?_
          refine p_iinc (q := 4) (lv' := [(3, .int (zi (x3 + 1))), (2, .int (zi x3)), (4, .int (zi 1)), (0, .ref a), (1, .int (zi x1))]) dX8_endDepotRepair_57 rfl (by decide) rfl ?_
          refine p_goto (tgt := 4) dX8_endDepotRepair_60 (by decide) ?_
          refine p_sub (lv' := [(0, .ref a), (1, .int (zi x1)), (2, .int (zi x3)), (3, .int (zi (zw (x3 + 1))))]) [3, 4, 1, 0] (by simp only [zi_zw, zl_zwl]; rfl) ?_
          exact h
set_option maxRecDepth 20000 in
set_option maxHeartbeats 4000000 in
theorem v_X8_endLocalRepair {g : zG} (G : zOK g) {S : zSh} {im : zIm} {a : Nat} {p1 : Int} {p2 : Int} {p3 : Int} {p4 : Int} {Q : zIm → Prop} (hS : zS_M S a) (c_p1 : zc p1) (c_p2 : zc p2) (c_p3 : zc p3) (c_p4 : zc p4)
    (h : ((¬ p3 = p2 → zCI g yX8_link M_X8_link [.ref a, .int (zi p2), .int (zi p3)] S im (fun r1 im2 => ((r1 ≤ 0 → zCV g yX8_appendUnit M_X8_appendUnit [.ref a, .int (zi 3), .int (zi p1), .int (zi p3), .int (zi p3), .int (zi (zw ((im2 (a + 1) 0) + p4))), .int (zi 0)] S im2 (fun im5 => Q im5)) ∧ (0 < r1 → zCI g yX8_link M_X8_link [.ref a, .int (zi p2), .int (zi p3)] S im2 (fun r4 im5 => zCV g yX8_appendUnit M_X8_appendUnit [.ref a, .int (zi 3), .int (zi p1), .int (zi p3), .int (zi p3), .int (zi (zw ((im5 (a + 1) 0) + r4))), .int (zi 0)] S im5 (fun im8 => Q im8)))))) ∧ (p3 = p2 → zCV g yX8_comeToBase M_X8_comeToBase [.ref a, .int (zi p2), .int (zi p1)] S im (fun im1 => Q im1)))) :
    zCV g yX8_endLocalRepair M_X8_endLocalRepair [.ref a, .int (zi p1), .int (zi p2), .int (zi p3), .int (zi p4)] S im Q := by
  refine zC_of (by decide) rfl rfl rfl rfl (Nat.le_of_ble_eq_true rfl) ?_
  refine p_iload_n dX8_endLocalRepair_0 rfl (q := 3) rfl ?_
  refine p_iload_n dX8_endLocalRepair_1 rfl (q := 2) rfl ?_
  refine p_icmp_ne (tgt := 12) dX8_endLocalRepair_2 (by decide) (nf_r c_p3) (nf_r c_p2) (fun b1 => ?_) (fun b1 => ?_)
  · have h := h.1 b1
    refine p_aload_n dX8_endLocalRepair_12 rfl (q := 0) rfl ?_
    refine p_iload_n dX8_endLocalRepair_13 rfl (q := 2) rfl ?_
    refine p_iload_n dX8_endLocalRepair_14 rfl (q := 3) rfl ?_
    refine p_VI G k_RX8_51 (by decide) (hS 0 (by decide)).1 rfl rfl (Nat.le_of_ble_eq_true rfl) ⟨by decide, by decide⟩ ⟨by decide, by decide⟩ dX8_endLocalRepair_15 h (fun r1 im2 c3 h => ?_)
    refine p_if_le (tgt := 30) dX8_endLocalRepair_18 (by decide) (nf_r c3) (fun b4 => ?_) (fun b4 => ?_)
    · have h := h.1 b4
      refine p_iload dX8_endLocalRepair_30 (q := 4) rfl ?_
      refine p_istore (lv' := [(5, .int (zi p4)), (0, .ref a), (1, .int (zi p1)), (2, .int (zi p2)), (3, .int (zi p3)), (4, .int (zi p4))]) dX8_endLocalRepair_32 (by decide) rfl ?_
      refine p_aload_n dX8_endLocalRepair_34 rfl (q := 1) rfl ?_
      refine p_iconst dX8_endLocalRepair_35 ?_
      refine p_iload_n dX8_endLocalRepair_36 rfl (q := 2) rfl ?_
      refine p_iload_n dX8_endLocalRepair_37 rfl (q := 4) rfl ?_
      refine p_iload_n dX8_endLocalRepair_38 rfl (q := 4) rfl ?_
      refine p_aload_n dX8_endLocalRepair_39 rfl (q := 1) rfl ?_
      refine p_getR (b := (a + 1)) G f_RX8_7 rfl (hS 0 (by decide)).1 ((hS 0 (by decide)).2.2 0 (by decide)) dX8_endLocalRepair_40 ?_
      refine p_iconst dX8_endLocalRepair_43 ?_
      refine p_iald G (hS 1 (by decide)).1 (nf_k (by decide)) (by decide) (zln_lt (hS 1 (by decide)).2.1 (by decide)) dX8_endLocalRepair_44 (fun c4 => ?_)
      refine p_iload dX8_endLocalRepair_45 (q := 0) rfl ?_
      refine p_iadd dX8_endLocalRepair_47 ?_
      refine p_iconst dX8_endLocalRepair_48 ?_
      refine p_VV G k_RX8_92 (by decide) (hS 0 (by decide)).1 rfl (by simp only [zi_zw]; rfl) (Nat.le_of_ble_eq_true rfl) ⟨by decide, by decide⟩ ⟨by decide, by decide⟩ dX8_endLocalRepair_49 h (fun im5 h => ?_)
      exact p_retV (by decide) (by decide) rfl dX8_endLocalRepair_52 h
    · have h := h.2 b4
      refine p_aload_n dX8_endLocalRepair_21 rfl (q := 0) rfl ?_
      refine p_iload_n dX8_endLocalRepair_22 rfl (q := 2) rfl ?_
      refine p_iload_n dX8_endLocalRepair_23 rfl (q := 3) rfl ?_
      refine p_VI G k_RX8_51 (by decide) (hS 0 (by decide)).1 rfl rfl (Nat.le_of_ble_eq_true rfl) ⟨by decide, by decide⟩ ⟨by decide, by decide⟩ dX8_endLocalRepair_24 h (fun r4 im5 c6 h => ?_)
      refine p_goto (tgt := 32) dX8_endLocalRepair_27 (by decide) ?_
      refine p_istore (lv' := [(5, .int (zi r4)), (0, .ref a), (1, .int (zi p1)), (2, .int (zi p2)), (3, .int (zi p3)), (4, .int (zi p4))]) dX8_endLocalRepair_32 (by decide) rfl ?_
      refine p_aload_n dX8_endLocalRepair_34 rfl (q := 1) rfl ?_
      refine p_iconst dX8_endLocalRepair_35 ?_
      refine p_iload_n dX8_endLocalRepair_36 rfl (q := 2) rfl ?_
      refine p_iload_n dX8_endLocalRepair_37 rfl (q := 4) rfl ?_
      refine p_iload_n dX8_endLocalRepair_38 rfl (q := 4) rfl ?_
      refine p_aload_n dX8_endLocalRepair_39 rfl (q := 1) rfl ?_
      refine p_getR (b := (a + 1)) G f_RX8_7 rfl (hS 0 (by decide)).1 ((hS 0 (by decide)).2.2 0 (by decide)) dX8_endLocalRepair_40 ?_
      refine p_iconst dX8_endLocalRepair_43 ?_
      refine p_iald G (hS 1 (by decide)).1 (nf_k (by decide)) (by decide) (zln_lt (hS 1 (by decide)).2.1 (by decide)) dX8_endLocalRepair_44 (fun c7 => ?_)
      refine p_iload dX8_endLocalRepair_45 (q := 0) rfl ?_
      refine p_iadd dX8_endLocalRepair_47 ?_
      refine p_iconst dX8_endLocalRepair_48 ?_
      refine p_VV G k_RX8_92 (by decide) (hS 0 (by decide)).1 rfl (by simp only [zi_zw]; rfl) (Nat.le_of_ble_eq_true rfl) ⟨by decide, by decide⟩ ⟨by decide, by decide⟩ dX8_endLocalRepair_49 h (fun im8 h => ?_)
      exact p_retV (by decide) (by decide) rfl dX8_endLocalRepair_52 h
  · have h := h.2 b1
    refine p_aload_n dX8_endLocalRepair_5 rfl (q := 0) rfl ?_
    refine p_iload_n dX8_endLocalRepair_6 rfl (q := 2) rfl ?_
    refine p_iload_n dX8_endLocalRepair_7 rfl (q := 1) rfl ?_
    refine p_VV G k_RX8_69 (by decide) (hS 0 (by decide)).1 rfl rfl (Nat.le_of_ble_eq_true rfl) ⟨by decide, by decide⟩ ⟨by decide, by decide⟩ dX8_endLocalRepair_8 h (fun im1 h => ?_)
    exact p_retV (by decide) (by decide) rfl dX8_endLocalRepair_11 h
set_option maxRecDepth 20000 in
set_option maxHeartbeats 4000000 in
theorem v_X8_end {g : zG} (G : zOK g) {S : zSh} {im : zIm} {a : Nat} {p1 : Int} {Q : zIm → Prop} (hS : zS_M S a) (c_p1 : zc p1)
    (h : zCI g yX8_unit M_X8_unit [.ref a, .int (zi p1), .int (zi 0)] S im (fun r1 im2 => zCI g yX8_unit M_X8_unit [.ref a, .int (zi p1), .int (zi 1)] S im2 (fun r4 im5 => zCI g yX8_unit M_X8_unit [.ref a, .int (zi p1), .int (zi 2)] S im5 (fun r7 im8 => zCI g yX8_unit M_X8_unit [.ref a, .int (zi p1), .int (zi 3)] S im8 (fun r10 im11 => zCI g yX8_unit M_X8_unit [.ref a, .int (zi p1), .int (zi 5)] S im11 (fun r13 im14 => zCV g yX8_remove M_X8_remove [.ref a, .int (zi 4), .int (zi 412), .int (zi 6), .int (zi p1)] S im14 (fun im16 => ((¬ r1 = 0 → ((¬ r1 = 1 → ((¬ r1 = 1 → zCV g yX8_comeToBase M_X8_comeToBase [.ref a, .int (zi r10), .int (zi r4)] S im16 (fun im18 => Q im18)) ∧ (r1 = 1 → zCV g yX8_endLocalRepair M_X8_endLocalRepair [.ref a, .int (zi r4), .int (zi r7), .int (zi r10), .int (zi r13)] S im16 (fun im18 => Q im18)))) ∧ (r1 = 1 → ((¬ r7 = 0 → ((¬ r1 = 1 → zCV g yX8_comeToBase M_X8_comeToBase [.ref a, .int (zi r10), .int (zi r4)] S im16 (fun im18 => Q im18)) ∧ (r1 = 1 → zCV g yX8_endLocalRepair M_X8_endLocalRepair [.ref a, .int (zi r4), .int (zi r7), .int (zi r10), .int (zi r13)] S im16 (fun im18 => Q im18)))) ∧ (r7 = 0 → zCV g yX8_endDepotRepair M_X8_endDepotRepair [.ref a, .int (zi r4)] S im16 (fun im18 => Q im18)))))) ∧ (r1 = 0 → zCV g yX8_endReturn M_X8_endReturn [.ref a, .int (zi r4)] S im16 (fun im18 => Q im18)))))))))) :
    zCV g yX8_end M_X8_end [.ref a, .int (zi p1)] S im Q := by
  refine zC_of (by decide) rfl rfl rfl rfl (Nat.le_of_ble_eq_true rfl) ?_
  refine p_aload_n dX8_end_0 rfl (q := 0) rfl ?_
  refine p_iload_n dX8_end_1 rfl (q := 1) rfl ?_
  refine p_iconst dX8_end_2 ?_
  refine p_VI G k_RX8_137 (by decide) (hS 0 (by decide)).1 rfl rfl (Nat.le_of_ble_eq_true rfl) ⟨by decide, by decide⟩ ⟨by decide, by decide⟩ dX8_end_3 h (fun r1 im2 c3 h => ?_)
  refine p_istore_n (lv' := [(2, .int (zi r1)), (0, .ref a), (1, .int (zi p1))]) dX8_end_6 rfl (by decide) rfl ?_
  refine p_aload_n dX8_end_7 rfl (q := 1) rfl ?_
  refine p_iload_n dX8_end_8 rfl (q := 2) rfl ?_
  refine p_iconst dX8_end_9 ?_
  refine p_VI G k_RX8_137 (by decide) (hS 0 (by decide)).1 rfl rfl (Nat.le_of_ble_eq_true rfl) ⟨by decide, by decide⟩ ⟨by decide, by decide⟩ dX8_end_10 h (fun r4 im5 c6 h => ?_)
  refine p_istore_n (lv' := [(3, .int (zi r4)), (2, .int (zi r1)), (0, .ref a), (1, .int (zi p1))]) dX8_end_13 rfl (by decide) rfl ?_
  refine p_aload_n dX8_end_14 rfl (q := 2) rfl ?_
  refine p_iload_n dX8_end_15 rfl (q := 3) rfl ?_
  refine p_iconst dX8_end_16 ?_
  refine p_VI G k_RX8_137 (by decide) (hS 0 (by decide)).1 rfl rfl (Nat.le_of_ble_eq_true rfl) ⟨by decide, by decide⟩ ⟨by decide, by decide⟩ dX8_end_17 h (fun r7 im8 c9 h => ?_)
  refine p_istore (lv' := [(4, .int (zi r7)), (3, .int (zi r4)), (2, .int (zi r1)), (0, .ref a), (1, .int (zi p1))]) dX8_end_20 (by decide) rfl ?_
  refine p_aload_n dX8_end_22 rfl (q := 3) rfl ?_
  refine p_iload_n dX8_end_23 rfl (q := 4) rfl ?_
  refine p_iconst dX8_end_24 ?_
  refine p_VI G k_RX8_137 (by decide) (hS 0 (by decide)).1 rfl rfl (Nat.le_of_ble_eq_true rfl) ⟨by decide, by decide⟩ ⟨by decide, by decide⟩ dX8_end_25 h (fun r10 im11 c12 h => ?_)
  refine p_istore (lv' := [(5, .int (zi r10)), (4, .int (zi r7)), (3, .int (zi r4)), (2, .int (zi r1)), (0, .ref a), (1, .int (zi p1))]) dX8_end_28 (by decide) rfl ?_
  refine p_aload_n dX8_end_30 rfl (q := 4) rfl ?_
  refine p_iload_n dX8_end_31 rfl (q := 5) rfl ?_
  refine p_iconst dX8_end_32 ?_
  refine p_VI G k_RX8_137 (by decide) (hS 0 (by decide)).1 rfl rfl (Nat.le_of_ble_eq_true rfl) ⟨by decide, by decide⟩ ⟨by decide, by decide⟩ dX8_end_33 h (fun r13 im14 c15 h => ?_)
  refine p_istore (lv' := [(6, .int (zi r13)), (5, .int (zi r10)), (4, .int (zi r7)), (3, .int (zi r4)), (2, .int (zi r1)), (0, .ref a), (1, .int (zi p1))]) dX8_end_36 (by decide) rfl ?_
  refine p_aload_n dX8_end_38 rfl (q := 5) rfl ?_
  refine p_iconst dX8_end_39 ?_
  refine p_sipush dX8_end_40 (by decide) ?_
  refine p_bipush dX8_end_43 (by decide) ?_
  refine p_iload_n dX8_end_45 rfl (q := 6) rfl ?_
  refine p_VV G k_RX8_99 (by decide) (hS 0 (by decide)).1 rfl rfl (Nat.le_of_ble_eq_true rfl) ⟨by decide, by decide⟩ ⟨by decide, by decide⟩ dX8_end_46 h (fun im16 h => ?_)
  refine p_iload_n dX8_end_49 rfl (q := 4) rfl ?_
  refine p_if_ne (tgt := 61) dX8_end_50 (by decide) (nf_r c3) (fun b18 => ?_) (fun b18 => ?_)
  · have h := h.1 b18
    refine p_iload_n dX8_end_61 rfl (q := 4) rfl ?_
    refine p_iconst dX8_end_62 ?_
    refine p_icmp_ne (tgt := 79) dX8_end_63 (by decide) (nf_r c3) (nf_k (by decide)) (fun b18 => ?_) (fun b18 => ?_)
    · have h := h.1 b18
      refine p_iload_n dX8_end_79 rfl (q := 4) rfl ?_
      refine p_iconst dX8_end_80 ?_
      refine p_icmp_ne (tgt := 98) dX8_end_81 (by decide) (nf_r c3) (nf_k (by decide)) (fun b18 => ?_) (fun b18 => ?_)
      · have h := h.1 b18
        refine p_aload_n dX8_end_98 rfl (q := 5) rfl ?_
        refine p_iload dX8_end_99 (q := 1) rfl ?_
        refine p_iload_n dX8_end_101 rfl (q := 3) rfl ?_
        refine p_VV G k_RX8_69 (by decide) (hS 0 (by decide)).1 rfl rfl (Nat.le_of_ble_eq_true rfl) ⟨by decide, by decide⟩ ⟨by decide, by decide⟩ dX8_end_102 h (fun im18 h => ?_)
        exact p_retV (by decide) (by decide) rfl dX8_end_105 h
      · have h := h.2 b18
        refine p_aload_n dX8_end_84 rfl (q := 5) rfl ?_
        refine p_iload_n dX8_end_85 rfl (q := 3) rfl ?_
        refine p_iload dX8_end_86 (q := 2) rfl ?_
        refine p_iload dX8_end_88 (q := 1) rfl ?_
        refine p_iload dX8_end_90 (q := 0) rfl ?_
        refine p_VV G k_RX8_152 (by decide) (hS 0 (by decide)).1 rfl rfl (Nat.le_of_ble_eq_true rfl) ⟨by decide, by decide⟩ ⟨by decide, by decide⟩ dX8_end_92 h (fun im18 h => ?_)
        refine p_goto (tgt := 105) dX8_end_95 (by decide) ?_
        exact p_retV (by decide) (by decide) rfl dX8_end_105 h
    · have h := h.2 b18
      refine p_iload dX8_end_66 (q := 2) rfl ?_
      refine p_if_ne (tgt := 79) dX8_end_68 (by decide) (nf_r c9) (fun b18 => ?_) (fun b18 => ?_)
      · have h := h.1 b18
        refine p_iload_n dX8_end_79 rfl (q := 4) rfl ?_
        refine p_iconst dX8_end_80 ?_
        refine p_icmp_ne (tgt := 98) dX8_end_81 (by decide) (nf_r c3) (nf_k (by decide)) (fun b18 => ?_) (fun b18 => ?_)
        · have h := h.1 b18
          refine p_aload_n dX8_end_98 rfl (q := 5) rfl ?_
          refine p_iload dX8_end_99 (q := 1) rfl ?_
          refine p_iload_n dX8_end_101 rfl (q := 3) rfl ?_
          refine p_VV G k_RX8_69 (by decide) (hS 0 (by decide)).1 rfl rfl (Nat.le_of_ble_eq_true rfl) ⟨by decide, by decide⟩ ⟨by decide, by decide⟩ dX8_end_102 h (fun im18 h => ?_)
          exact p_retV (by decide) (by decide) rfl dX8_end_105 h
        · have h := h.2 b18
          refine p_aload_n dX8_end_84 rfl (q := 5) rfl ?_
          refine p_iload_n dX8_end_85 rfl (q := 3) rfl ?_
          refine p_iload dX8_end_86 (q := 2) rfl ?_
          refine p_iload dX8_end_88 (q := 1) rfl ?_
          refine p_iload dX8_end_90 (q := 0) rfl ?_
          refine p_VV G k_RX8_152 (by decide) (hS 0 (by decide)).1 rfl rfl (Nat.le_of_ble_eq_true rfl) ⟨by decide, by decide⟩ ⟨by decide, by decide⟩ dX8_end_92 h (fun im18 h => ?_)
          refine p_goto (tgt := 105) dX8_end_95 (by decide) ?_
          exact p_retV (by decide) (by decide) rfl dX8_end_105 h
      · have h := h.2 b18
        refine p_aload_n dX8_end_71 rfl (q := 5) rfl ?_
        refine p_iload_n dX8_end_72 rfl (q := 3) rfl ?_
        refine p_VV G k_RX8_149 (by decide) (hS 0 (by decide)).1 rfl rfl (Nat.le_of_ble_eq_true rfl) ⟨by decide, by decide⟩ ⟨by decide, by decide⟩ dX8_end_73 h (fun im18 h => ?_)
        refine p_goto (tgt := 105) dX8_end_76 (by decide) ?_
        exact p_retV (by decide) (by decide) rfl dX8_end_105 h
  · have h := h.2 b18
    refine p_aload_n dX8_end_53 rfl (q := 5) rfl ?_
    refine p_iload_n dX8_end_54 rfl (q := 3) rfl ?_
    refine p_VV G k_RX8_146 (by decide) (hS 0 (by decide)).1 rfl rfl (Nat.le_of_ble_eq_true rfl) ⟨by decide, by decide⟩ ⟨by decide, by decide⟩ dX8_end_55 h (fun im18 h => ?_)
    refine p_goto (tgt := 105) dX8_end_58 (by decide) ?_
    exact p_retV (by decide) (by decide) rfl dX8_end_105 h
set_option maxRecDepth 20000 in
set_option maxHeartbeats 4000000 in
theorem v_X8_beginDay {g : zG} (G : zOK g) {S : zSh} {im : zIm} {a : Nat} {Q : zIm → Prop} (hS : zS_M S a)
    (h : ∀ im2, im2 = zst im (a + 1) 0 (zw ((im (a + 1) 0) + 1)) → zPV g M_X8_beginDay 12 [(0, .ref a), (1, .int (zi 0))] S im2 Q) :
    zCV g yX8_beginDay M_X8_beginDay [.ref a] S im Q := by
  refine zC_of (by decide) rfl rfl rfl rfl (Nat.le_of_ble_eq_true rfl) ?_
  refine p_aload_n dX8_beginDay_0 rfl (q := 0) rfl ?_
  refine p_getR (b := (a + 1)) G f_RX8_7 rfl (hS 0 (by decide)).1 ((hS 0 (by decide)).2.2 0 (by decide)) dX8_beginDay_1 ?_
  refine p_iconst dX8_beginDay_4 ?_
  refine p_dup2 dX8_beginDay_5 rfl rfl ?_
  refine p_iald G (hS 1 (by decide)).1 (nf_k (by decide)) (by decide) (zln_lt (hS 1 (by decide)).2.1 (by decide)) dX8_beginDay_6 (fun c1 => ?_)
  refine p_iconst dX8_beginDay_7 ?_
  refine p_iadd dX8_beginDay_8 ?_
  refine p_iast G (hS 1 (by decide)).1 (nf_k (by decide)) (by decide) (zln_lt (hS 1 (by decide)).2.1 (by decide)) (nf_w _) dX8_beginDay_9 ?_
  refine p_gen (fun im2 e3 => ?_)
  have h := h im2 e3
  refine p_iconst dX8_beginDay_10 ?_
  refine p_istore_n (lv' := [(1, .int (zi 0)), (0, .ref a)]) dX8_beginDay_11 rfl (by decide) rfl ?_
  refine p_sub (lv' := [(0, .ref a), (1, .int (zi 0))]) [1, 0] rfl ?_
  exact h
set_option maxRecDepth 20000 in
set_option maxHeartbeats 4000000 in
theorem v_X8_beginDay_12 {g : zG} (G : zOK g) {S : zSh} {im : zIm} {a : Nat} {x1 : Int} {Q : zIm → Prop} (hS : zS_M S a) (c_x1 : zc x1)
    (h : ((3 < x1 → zPV g M_X8_beginDay 50 [(0, .ref a), (1, .int (zi 0))] S im Q) ∧ (x1 ≤ 3 → zCI g yX8_firstDue M_X8_firstDue [.ref a, .int (zi x1)] S im (fun r1 im2 => zPV g M_X8_beginDay 23 [(0, .ref a), (1, .int (zi x1)), (2, .int (zi r1))] S im2 Q)))) :
    zPV g M_X8_beginDay 12 [(0, .ref a), (1, .int (zi x1))] S im Q := by
  refine p_iload_n dX8_beginDay_12 rfl (q := 1) rfl ?_
  refine p_iconst dX8_beginDay_13 ?_
  refine p_icmp_gt (tgt := 48) dX8_beginDay_14 (by decide) (nf_r c_x1) (nf_k (by decide)) (fun b1 => ?_) (fun b1 => ?_)
  · have h := h.1 b1
    refine p_iconst dX8_beginDay_48 ?_
    refine p_istore_n (lv' := [(1, .int (zi 0)), (0, .ref a)]) dX8_beginDay_49 rfl (by decide) rfl ?_
    refine p_sub (lv' := [(0, .ref a), (1, .int (zi 0))]) [1, 0] rfl ?_
    exact h
  · have h := h.2 b1
    refine p_aload_n dX8_beginDay_17 rfl (q := 0) rfl ?_
    refine p_iload_n dX8_beginDay_18 rfl (q := 1) rfl ?_
    refine p_VI G k_RX8_155 (by decide) (hS 0 (by decide)).1 rfl rfl (Nat.le_of_ble_eq_true rfl) ⟨by decide, by decide⟩ ⟨by decide, by decide⟩ dX8_beginDay_19 h (fun r1 im2 c3 h => ?_)
    refine p_istore_n (lv' := [(2, .int (zi r1)), (0, .ref a), (1, .int (zi x1))]) dX8_beginDay_22 rfl (by decide) rfl ?_
    refine p_sub (lv' := [(0, .ref a), (1, .int (zi x1)), (2, .int (zi r1))]) [1, 2, 0] rfl ?_
    exact h
set_option maxRecDepth 20000 in
set_option maxHeartbeats 4000000 in
theorem v_X8_beginDay_50 {g : zG} (G : zOK g) {S : zSh} {im : zIm} {a : Nat} {x1 : Int} {Q : zIm → Prop} (hS : zS_M S a) (c_x1 : zc x1)
    (h : (((im (a + 1) 5) ≤ x1 → Q im) ∧ (x1 < (im (a + 1) 5) → zCI g yX8_customer M_X8_customer [.ref a, .int (zi x1), .int (zi 0)] S im (fun r2 im3 => zCI g yX8_customer M_X8_customer [.ref a, .int (zi x1), .int (zi 1)] S im3 (fun r5 im6 => zCI g yX8_at M_X8_at [.int (zi 348), .int (zi r2), .int (zi r5)] S im6 (fun r8 im9 => ((0 ≤ r8 ∧ r8 < 7692) ∧ ∀ im13, im13 = zst im9 (a + 1) r8 (zw ((im9 (a + 1) r8) + 1)) → zPV g M_X8_beginDay 50 [(0, .ref a), (1, .int (zi (zw (x1 + 1))))] S im13 Q))))))) :
    zPV g M_X8_beginDay 50 [(0, .ref a), (1, .int (zi x1))] S im Q := by
  refine p_iload_n dX8_beginDay_50 rfl (q := 1) rfl ?_
  refine p_aload_n dX8_beginDay_51 rfl (q := 0) rfl ?_
  refine p_getR (b := (a + 1)) G f_RX8_7 rfl (hS 0 (by decide)).1 ((hS 0 (by decide)).2.2 0 (by decide)) dX8_beginDay_52 ?_
  refine p_iconst dX8_beginDay_55 ?_
  refine p_iald G (hS 1 (by decide)).1 (nf_k (by decide)) (by decide) (zln_lt (hS 1 (by decide)).2.1 (by decide)) dX8_beginDay_56 (fun c1 => ?_)
  refine p_icmp_ge (tgt := 93) dX8_beginDay_57 (by decide) (nf_r c_x1) (nf_r c1) (fun b2 => ?_) (fun b2 => ?_)
  · have h := h.1 b2
    exact p_retV (by decide) (by decide) rfl dX8_beginDay_93 h
  · have h := h.2 b2
    refine p_aload_n dX8_beginDay_60 rfl (q := 0) rfl ?_
    refine p_getR (b := (a + 1)) G f_RX8_7 rfl (hS 0 (by decide)).1 ((hS 0 (by decide)).2.2 0 (by decide)) dX8_beginDay_61 ?_
    refine p_sipush dX8_beginDay_64 (by decide) ?_
    refine p_aload_n dX8_beginDay_67 rfl (q := 0) rfl ?_
    refine p_iload_n dX8_beginDay_68 rfl (q := 1) rfl ?_
    refine p_iconst dX8_beginDay_69 ?_
    refine p_VI G k_RX8_106 (by decide) (hS 0 (by decide)).1 rfl rfl (Nat.le_of_ble_eq_true rfl) ⟨by decide, by decide⟩ ⟨by decide, by decide⟩ dX8_beginDay_70 h (fun r2 im3 c4 h => ?_)
    refine p_aload_n dX8_beginDay_73 rfl (q := 0) rfl ?_
    refine p_iload_n dX8_beginDay_74 rfl (q := 1) rfl ?_
    refine p_iconst dX8_beginDay_75 ?_
    refine p_VI G k_RX8_106 (by decide) (hS 0 (by decide)).1 rfl rfl (Nat.le_of_ble_eq_true rfl) ⟨by decide, by decide⟩ ⟨by decide, by decide⟩ dX8_beginDay_76 h (fun r5 im6 c7 h => ?_)
    refine p_SI G k_RX8_62 rfl rfl (Nat.le_of_ble_eq_true rfl) ⟨by decide, by decide⟩ ⟨by decide, by decide⟩ dX8_beginDay_79 h (fun r8 im9 c10 h => ?_)
    refine p_dup2 dX8_beginDay_82 rfl rfl ?_
    have g12 := h.1
    have h := h.2
    refine p_iald G (hS 1 (by decide)).1 (nf_r c10) g12.1 (zln_lt (hS 1 (by decide)).2.1 g12.2) dX8_beginDay_83 (fun c11 => ?_)
    refine p_iconst dX8_beginDay_84 ?_
    refine p_iadd dX8_beginDay_85 ?_
    refine p_iast G (hS 1 (by decide)).1 (nf_r c10) g12.1 (zln_lt (hS 1 (by decide)).2.1 g12.2) (nf_w _) dX8_beginDay_86 ?_
    refine p_gen (fun im13 e14 => ?_)
    have h := h im13 e14
    refine p_iinc (q := 1) (lv' := [(1, .int (zi (x1 + 1))), (0, .ref a)]) dX8_beginDay_87 rfl (by decide) rfl ?_
    refine p_goto (tgt := 50) dX8_beginDay_90 (by decide) ?_
    refine p_sub (lv' := [(0, .ref a), (1, .int (zi (zw (x1 + 1))))]) [1, 0] (by simp only [zi_zw, zl_zwl]; rfl) ?_
    exact h
set_option maxRecDepth 20000 in
set_option maxHeartbeats 4000000 in
theorem v_X8_beginDay_23 {g : zG} (G : zOK g) {S : zSh} {im : zIm} {a : Nat} {x1 : Int} {x2 : Int} {Q : zIm → Prop} (hS : zS_M S a) (c_x1 : zc x1) (c_x2 : zc x2)
    (h : ((x2 = (-1) → zPV g M_X8_beginDay 12 [(0, .ref a), (1, .int (zi (zw (x1 + 1))))] S im Q) ∧ (¬ x2 = (-1) → zCV g yX8_end M_X8_end [.ref a, .int (zi x2)] S im (fun im1 => zCI g yX8_firstDue M_X8_firstDue [.ref a, .int (zi x1)] S im1 (fun r3 im4 => zPV g M_X8_beginDay 23 [(0, .ref a), (1, .int (zi x1)), (2, .int (zi r3))] S im4 Q))))) :
    zPV g M_X8_beginDay 23 [(0, .ref a), (1, .int (zi x1)), (2, .int (zi x2))] S im Q := by
  refine p_iload_n dX8_beginDay_23 rfl (q := 2) rfl ?_
  refine p_iconst dX8_beginDay_24 ?_
  refine p_icmp_eq (tgt := 42) dX8_beginDay_25 (by decide) (nf_r c_x2) (nf_k (by decide)) (fun b1 => ?_) (fun b1 => ?_)
  · have h := h.1 b1
    refine p_iinc (q := 1) (lv' := [(1, .int (zi (x1 + 1))), (0, .ref a), (2, .int (zi x2))]) dX8_beginDay_42 rfl (by decide) rfl ?_
    refine p_goto (tgt := 12) dX8_beginDay_45 (by decide) ?_
    refine p_sub (lv' := [(0, .ref a), (1, .int (zi (zw (x1 + 1))))]) [1, 0] (by simp only [zi_zw, zl_zwl]; rfl) ?_
    exact h
  · have h := h.2 b1
    refine p_aload_n dX8_beginDay_28 rfl (q := 0) rfl ?_
    refine p_iload_n dX8_beginDay_29 rfl (q := 2) rfl ?_
    refine p_VV G k_RX8_158 (by decide) (hS 0 (by decide)).1 rfl rfl (Nat.le_of_ble_eq_true rfl) ⟨by decide, by decide⟩ ⟨by decide, by decide⟩ dX8_beginDay_30 h (fun im1 h => ?_)
    refine p_aload_n dX8_beginDay_33 rfl (q := 0) rfl ?_
    refine p_iload_n dX8_beginDay_34 rfl (q := 1) rfl ?_
    refine p_VI G k_RX8_155 (by decide) (hS 0 (by decide)).1 rfl rfl (Nat.le_of_ble_eq_true rfl) ⟨by decide, by decide⟩ ⟨by decide, by decide⟩ dX8_beginDay_35 h (fun r3 im4 c5 h => ?_)
    refine p_istore_n (lv' := [(2, .int (zi r3)), (0, .ref a), (1, .int (zi x1))]) dX8_beginDay_38 rfl (by decide) rfl ?_
    refine p_goto (tgt := 23) dX8_beginDay_39 (by decide) ?_
    refine p_sub (lv' := [(0, .ref a), (1, .int (zi x1)), (2, .int (zi r3))]) [1, 2, 0] rfl ?_
    exact h
set_option maxRecDepth 20000 in
set_option maxHeartbeats 4000000 in
theorem v_X8_advance {g : zG} (G : zOK g) {S : zSh} {im : zIm} {a : Nat} {p1 : Int} {Q : Int → zIm → Prop} (hS : zS_M S a) (c_p1 : zc p1)
    (h : ∀ im1, im1 = zst im a 4 0 → zCI g yX8_isBetween M_X8_isBetween [.int (zi p1), .int (zi 1), .int (zi 60)] S im1 (fun r3 im4 => ((¬ r3 = 0 → (((zw ((im4 (a + 1) 0) + p1)) ≤ 9999 → zPI g M_X8_advance 43 [(0, .ref a), (1, .int (zi p1)), (2, .int (zi 0))] S im4 Q) ∧ (9999 < (zw ((im4 (a + 1) 0) + p1)) → zCI g yX8_fail M_X8_fail [.ref a, .int (zi 2)] S im4 (fun r7 im8 => Q r7 im8)))) ∧ (r3 = 0 → zCI g yX8_fail M_X8_fail [.ref a, .int (zi 1)] S im4 (fun r6 im7 => Q r6 im7))))) :
    zCI g yX8_advance M_X8_advance [.ref a, .int (zi p1)] S im Q := by
  refine zC_of (by decide) rfl rfl rfl rfl (Nat.le_of_ble_eq_true rfl) ?_
  refine p_aload_n dX8_advance_0 rfl (q := 0) rfl ?_
  refine p_iconst dX8_advance_1 ?_
  refine p_putI (j := 4) G f_RX8_30 rfl rfl rfl (hS 0 (by decide)).1 (nf_k (by decide)) dX8_advance_2 ?_
  refine p_gen (fun im1 e2 => ?_)
  have h := h im1 e2
  refine p_iload_n dX8_advance_5 rfl (q := 1) rfl ?_
  refine p_iconst dX8_advance_6 ?_
  refine p_bipush dX8_advance_7 (by decide) ?_
  refine p_SI G k_RX8_33 rfl rfl (Nat.le_of_ble_eq_true rfl) ⟨by decide, by decide⟩ ⟨by decide, by decide⟩ dX8_advance_9 h (fun r3 im4 c5 h => ?_)
  refine p_if_ne (tgt := 21) dX8_advance_12 (by decide) (nf_r c5) (fun b6 => ?_) (fun b6 => ?_)
  · have h := h.1 b6
    refine p_aload_n dX8_advance_21 rfl (q := 0) rfl ?_
    refine p_getR (b := (a + 1)) G f_RX8_7 rfl (hS 0 (by decide)).1 ((hS 0 (by decide)).2.2 0 (by decide)) dX8_advance_22 ?_
    refine p_iconst dX8_advance_25 ?_
    refine p_iald G (hS 1 (by decide)).1 (nf_k (by decide)) (by decide) (zln_lt (hS 1 (by decide)).2.1 (by decide)) dX8_advance_26 (fun c6 => ?_)
    refine p_iload_n dX8_advance_27 rfl (q := 1) rfl ?_
    refine p_iadd dX8_advance_28 ?_
    refine p_sipush dX8_advance_29 (by decide) ?_
    refine p_icmp_le (tgt := 41) dX8_advance_32 (by decide) (nf_w _) (nf_k (by decide)) (fun b7 => ?_) (fun b7 => ?_)
    · have h := h.1 b7
      refine p_iconst dX8_advance_41 ?_
      refine p_istore_n (lv' := [(2, .int (zi 0)), (0, .ref a), (1, .int (zi p1))]) dX8_advance_42 rfl (by decide) rfl ?_
      refine p_sub (lv' := [(0, .ref a), (1, .int (zi p1)), (2, .int (zi 0))]) [1, 2, 0] rfl ?_
      exact h
    · have h := h.2 b7
      refine p_aload_n dX8_advance_35 rfl (q := 0) rfl ?_
      refine p_iconst dX8_advance_36 ?_
      refine p_VI G k_RX8_41 (by decide) (hS 0 (by decide)).1 rfl rfl (Nat.le_of_ble_eq_true rfl) ⟨by decide, by decide⟩ ⟨by decide, by decide⟩ dX8_advance_37 h (fun r7 im8 c9 h => ?_)
      exact p_iretI (by decide) (by decide) rfl (nf_r c9) dX8_advance_40 h
  · have h := h.2 b6
    refine p_aload_n dX8_advance_15 rfl (q := 0) rfl ?_
    refine p_iconst dX8_advance_16 ?_
    refine p_VI G k_RX8_41 (by decide) (hS 0 (by decide)).1 rfl rfl (Nat.le_of_ble_eq_true rfl) ⟨by decide, by decide⟩ ⟨by decide, by decide⟩ dX8_advance_17 h (fun r6 im7 c8 h => ?_)
    exact p_iretI (by decide) (by decide) rfl (nf_r c8) dX8_advance_20 h
set_option maxRecDepth 20000 in
set_option maxHeartbeats 4000000 in
theorem v_X8_advance_43 {g : zG} (G : zOK g) {S : zSh} {im : zIm} {a : Nat} {x1 : Int} {x2 : Int} {Q : Int → zIm → Prop} (hS : zS_M S a) (c_x1 : zc x1) (c_x2 : zc x2)
    (h : ((x1 ≤ x2 → Q (im (a + 1) 0) im) ∧ (x2 < x1 → zCV g yX8_beginDay M_X8_beginDay [.ref a] S im (fun im1 => zPI g M_X8_advance 43 [(0, .ref a), (1, .int (zi x1)), (2, .int (zi (zw (x2 + 1))))] S im1 Q)))) :
    zPI g M_X8_advance 43 [(0, .ref a), (1, .int (zi x1)), (2, .int (zi x2))] S im Q := by
  refine p_iload_n dX8_advance_43 rfl (q := 2) rfl ?_
  refine p_iload_n dX8_advance_44 rfl (q := 1) rfl ?_
  refine p_icmp_ge (tgt := 58) dX8_advance_45 (by decide) (nf_r c_x2) (nf_r c_x1) (fun b1 => ?_) (fun b1 => ?_)
  · have h := h.1 b1
    refine p_aload_n dX8_advance_58 rfl (q := 0) rfl ?_
    refine p_getR (b := (a + 1)) G f_RX8_7 rfl (hS 0 (by decide)).1 ((hS 0 (by decide)).2.2 0 (by decide)) dX8_advance_59 ?_
    refine p_iconst dX8_advance_62 ?_
    refine p_iald G (hS 1 (by decide)).1 (nf_k (by decide)) (by decide) (zln_lt (hS 1 (by decide)).2.1 (by decide)) dX8_advance_63 (fun c1 => ?_)
    exact p_iretI (by decide) (by decide) rfl (nf_r c1) dX8_advance_64 h
  · have h := h.2 b1
    refine p_aload_n dX8_advance_48 rfl (q := 0) rfl ?_
    refine p_VV G k_RX8_161 (by decide) (hS 0 (by decide)).1 rfl rfl (Nat.le_of_ble_eq_true rfl) ⟨by decide, by decide⟩ ⟨by decide, by decide⟩ dX8_advance_49 h (fun im1 h => ?_)
    refine p_iinc (q := 2) (lv' := [(2, .int (zi (x2 + 1))), (0, .ref a), (1, .int (zi x1))]) dX8_advance_52 rfl (by decide) rfl ?_
    refine p_goto (tgt := 43) dX8_advance_55 (by decide) ?_
    refine p_sub (lv' := [(0, .ref a), (1, .int (zi x1)), (2, .int (zi (zw (x2 + 1))))]) [1, 2, 0] (by simp only [zi_zw, zl_zwl]; rfl) ?_
    exact h
set_option maxRecDepth 20000 in
set_option maxHeartbeats 4000000 in
theorem v_X8_draw {g : zG} (G : zOK g) {S : zSh} {im : zIm} {a : Nat} {p1 : Int} {Q : Int → zIm → Prop} (hS : zS_M S a) (c_p1 : zc p1)
    (h : ∀ im2, im2 = zst im a 5 (zwl (Int.tmod (zwl (((im a 5) * 1103515245) + 12345)) 2147483648)) → (¬ p1 = 0) ∧ Q (zw (zwl (Int.tmod (zwl (Int.tdiv (im2 a 5) 65536)) p1))) im2) :
    zCI g yX8_draw M_X8_draw [.ref a, .int (zi p1)] S im Q := by
  refine zC_of (by decide) rfl rfl rfl rfl (Nat.le_of_ble_eq_true rfl) ?_
  refine p_aload_n dX8_draw_0 rfl (q := 0) rfl ?_
  refine p_aload_n dX8_draw_1 rfl (q := 0) rfl ?_
  refine p_getJ (j := 5) G f_RX8_164 rfl (hS 0 (by decide)).1 dX8_draw_2 (fun c1 => ?_)
  refine p_ldc2 G q_6_179 (v := 1103515245) (by decide) dX8_draw_5 ?_
  refine p_lmul dX8_draw_8 ?_
  refine p_ldc2 G q_6_180 (v := 12345) (by decide) dX8_draw_9 ?_
  refine p_ladd dX8_draw_12 ?_
  refine p_ldc2 G q_6_181 (v := 2147483648) (by decide) dX8_draw_13 ?_
  refine p_lrem dX8_draw_16 (nfl_w _) (nfl_k (by decide)) (by decide) ?_
  refine p_putJ (j := 5) G f_RX8_164 rfl rfl rfl (hS 0 (by decide)).1 (nfl_w _) dX8_draw_17 ?_
  refine p_gen (fun im2 e3 => ?_)
  have h := h im2 e3
  refine p_aload_n dX8_draw_20 rfl (q := 0) rfl ?_
  refine p_getJ (j := 5) G f_RX8_164 rfl (hS 0 (by decide)).1 dX8_draw_21 (fun c4 => ?_)
  refine p_ldc2 G q_6_182 (v := 65536) (by decide) dX8_draw_24 ?_
  refine p_ldiv dX8_draw_27 (nfl_r c4) (nfl_k (by decide)) (by decide) ?_
  refine p_iload_n dX8_draw_28 rfl (q := 1) rfl ?_
  refine p_i2l dX8_draw_29 (nf_r c_p1) ?_
  have h0_30 := h.1
  have h := h.2
  refine p_lrem dX8_draw_30 (nfl_w _) (nfl_r (zcl_zc ((nf_r c_p1)).2)) h0_30 ?_
  refine p_l2i dX8_draw_31 (nfl_w _) ?_
  exact p_iretI (by decide) (by decide) rfl (nf_w _) dX8_draw_32 h
set_option maxRecDepth 20000 in
set_option maxHeartbeats 4000000 in
theorem v_X8_drawDemand {g : zG} (G : zOK g) {S : zSh} {im : zIm} {a : Nat} {p1 : Int} {p2 : Int} {Q : Int → zIm → Prop} (hS : zS_M S a) (c_p1 : zc p1) (c_p2 : zc p2)
    (h : zCI g yX8_draw M_X8_draw [.ref a, .int (zi 100)] S im (fun r1 im2 => zCI g yX8_at M_X8_at [.int (zi 220), .int (zi p1), .int (zi p2)] S im2 (fun r4 im5 => ((0 ≤ r4 ∧ r4 < 7692) ∧ ((r1 < (im5 (a + 1) r4) → zCI g yX8_draw M_X8_draw [.ref a, .int (zi 10)] S im5 (fun r9 im10 => zCI g yX8_isRefused M_X8_isRefused [.ref a] S im10 (fun r12 im13 => ((r12 = 0 → zCI g yX8_occur M_X8_occur [.ref a, .int (zi p1), .int (zi p2), .int (zi r9)] S im13 (fun r15 im16 => Q 1 im16)) ∧ (¬ r12 = 0 → ∀ im16, im16 = zst im13 (a + 1) 7 (zw ((im13 (a + 1) 7) + 1)) → Q 0 im16))))) ∧ ((im5 (a + 1) r4) ≤ r1 → Q 0 im5)))))) :
    zCI g yX8_drawDemand M_X8_drawDemand [.ref a, .int (zi p1), .int (zi p2)] S im Q := by
  refine zC_of (by decide) rfl rfl rfl rfl (Nat.le_of_ble_eq_true rfl) ?_
  refine p_aload_n dX8_drawDemand_0 rfl (q := 0) rfl ?_
  refine p_bipush dX8_drawDemand_1 (by decide) ?_
  refine p_VI G k_RX8_176 (by decide) (hS 0 (by decide)).1 rfl rfl (Nat.le_of_ble_eq_true rfl) ⟨by decide, by decide⟩ ⟨by decide, by decide⟩ dX8_drawDemand_3 h (fun r1 im2 c3 h => ?_)
  refine p_aload_n dX8_drawDemand_6 rfl (q := 0) rfl ?_
  refine p_getR (b := (a + 1)) G f_RX8_7 rfl (hS 0 (by decide)).1 ((hS 0 (by decide)).2.2 0 (by decide)) dX8_drawDemand_7 ?_
  refine p_sipush dX8_drawDemand_10 (by decide) ?_
  refine p_iload_n dX8_drawDemand_13 rfl (q := 1) rfl ?_
  refine p_iload_n dX8_drawDemand_14 rfl (q := 2) rfl ?_
  refine p_SI G k_RX8_62 rfl rfl (Nat.le_of_ble_eq_true rfl) ⟨by decide, by decide⟩ ⟨by decide, by decide⟩ dX8_drawDemand_15 h (fun r4 im5 c6 h => ?_)
  have g8 := h.1
  have h := h.2
  refine p_iald G (hS 1 (by decide)).1 (nf_r c6) g8.1 (zln_lt (hS 1 (by decide)).2.1 g8.2) dX8_drawDemand_18 (fun c7 => ?_)
  refine p_icmp_lt (tgt := 24) dX8_drawDemand_19 (by decide) (nf_r c3) (nf_r c7) (fun b9 => ?_) (fun b9 => ?_)
  · have h := h.1 b9
    refine p_aload_n dX8_drawDemand_24 rfl (q := 0) rfl ?_
    refine p_bipush dX8_drawDemand_25 (by decide) ?_
    refine p_VI G k_RX8_176 (by decide) (hS 0 (by decide)).1 rfl rfl (Nat.le_of_ble_eq_true rfl) ⟨by decide, by decide⟩ ⟨by decide, by decide⟩ dX8_drawDemand_27 h (fun r9 im10 c11 h => ?_)
    refine p_istore_n (lv' := [(3, .int (zi r9)), (0, .ref a), (1, .int (zi p1)), (2, .int (zi p2))]) dX8_drawDemand_30 rfl (by decide) rfl ?_
    refine p_aload_n dX8_drawDemand_31 rfl (q := 1) rfl ?_
    refine p_VI G k_RX8_130 (by decide) (hS 0 (by decide)).1 rfl rfl (Nat.le_of_ble_eq_true rfl) ⟨by decide, by decide⟩ ⟨by decide, by decide⟩ dX8_drawDemand_32 h (fun r12 im13 c14 h => ?_)
    refine p_if_eq (tgt := 51) dX8_drawDemand_35 (by decide) (nf_r c14) (fun b15 => ?_) (fun b15 => ?_)
    · have h := h.1 b15
      refine p_aload_n dX8_drawDemand_51 rfl (q := 1) rfl ?_
      refine p_iload_n dX8_drawDemand_52 rfl (q := 2) rfl ?_
      refine p_iload_n dX8_drawDemand_53 rfl (q := 3) rfl ?_
      refine p_iload_n dX8_drawDemand_54 rfl (q := 0) rfl ?_
      refine p_VI G k_RX8_134 (by decide) (hS 0 (by decide)).1 rfl rfl (Nat.le_of_ble_eq_true rfl) ⟨by decide, by decide⟩ ⟨by decide, by decide⟩ dX8_drawDemand_55 h (fun r15 im16 c17 h => ?_)
      refine p_istore (lv' := [(4, .int (zi r15)), (3, .int (zi r9)), (0, .ref a), (1, .int (zi p1)), (2, .int (zi p2))]) dX8_drawDemand_58 (by decide) rfl ?_
      refine p_iconst dX8_drawDemand_60 ?_
      exact p_zretI (by decide) (by decide) rfl (nf_k (by decide)) (by decide) dX8_drawDemand_61 h
    · have h := h.2 b15
      refine p_aload_n dX8_drawDemand_38 rfl (q := 1) rfl ?_
      refine p_getR (b := (a + 1)) G f_RX8_7 rfl (hS 0 (by decide)).1 ((hS 0 (by decide)).2.2 0 (by decide)) dX8_drawDemand_39 ?_
      refine p_bipush dX8_drawDemand_42 (by decide) ?_
      refine p_dup2 dX8_drawDemand_44 rfl rfl ?_
      refine p_iald G (hS 1 (by decide)).1 (nf_k (by decide)) (by decide) (zln_lt (hS 1 (by decide)).2.1 (by decide)) dX8_drawDemand_45 (fun c15 => ?_)
      refine p_iconst dX8_drawDemand_46 ?_
      refine p_iadd dX8_drawDemand_47 ?_
      refine p_iast G (hS 1 (by decide)).1 (nf_k (by decide)) (by decide) (zln_lt (hS 1 (by decide)).2.1 (by decide)) (nf_w _) dX8_drawDemand_48 ?_
      refine p_gen (fun im16 e17 => ?_)
      have h := h im16 e17
      refine p_iconst dX8_drawDemand_49 ?_
      exact p_zretI (by decide) (by decide) rfl (nf_k (by decide)) (by decide) dX8_drawDemand_50 h
  · have h := h.2 b9
    refine p_iconst dX8_drawDemand_22 ?_
    exact p_zretI (by decide) (by decide) rfl (nf_k (by decide)) (by decide) dX8_drawDemand_23 h
set_option maxRecDepth 20000 in
set_option maxHeartbeats 4000000 in
theorem v_X8_runDays {g : zG} (G : zOK g) {S : zSh} {im : zIm} {a : Nat} {p1 : Int} {p2 : Int} {Q : Int → zIm → Prop} (hS : zS_M S a) (c_p1 : zc p1) (c_p2 : zc p2)
    (h : ∀ im1, im1 = zst im a 5 p1 → zPI g M_X8_runDays 11 [(0, .ref a), (2, .int (zi p2)), (3, .int (zi 0)), (4, .int (zi 0))] S im1 Q) :
    zCI g yX8_runDays M_X8_runDays [.ref a, .int (zi p1), .int (zi p2)] S im Q := by
  refine zC_of (by decide) rfl rfl rfl rfl (Nat.le_of_ble_eq_true rfl) ?_
  refine p_aload_n dX8_runDays_0 rfl (q := 0) rfl ?_
  refine p_iload_n dX8_runDays_1 rfl (q := 1) rfl ?_
  refine p_i2l dX8_runDays_2 (nf_r c_p1) ?_
  refine p_putJ (j := 5) G f_RX8_164 rfl rfl rfl (hS 0 (by decide)).1 (nfl_r (zcl_zc ((nf_r c_p1)).2)) dX8_runDays_3 ?_
  refine p_gen (fun im1 e2 => ?_)
  have h := h im1 e2
  refine p_iconst dX8_runDays_6 ?_
  refine p_istore_n (lv' := [(3, .int (zi 0)), (0, .ref a), (1, .int (zi p1)), (2, .int (zi p2))]) dX8_runDays_7 rfl (by decide) rfl ?_
  refine p_iconst dX8_runDays_8 ?_
  refine p_istore (lv' := [(4, .int (zi 0)), (3, .int (zi 0)), (0, .ref a), (1, .int (zi p1)), (2, .int (zi p2))]) dX8_runDays_9 (by decide) rfl ?_
  refine p_sub (lv' := [(0, .ref a), (2, .int (zi p2)), (3, .int (zi 0)), (4, .int (zi 0))]) [2, 4, 1, 0] rfl ?_
  exact h
set_option maxRecDepth 20000 in
set_option maxHeartbeats 4000000 in
theorem v_X8_runDays_11 {g : zG} (G : zOK g) {S : zSh} {im : zIm} {a : Nat} {x2 : Int} {x3 : Int} {x4 : Int} {Q : Int → zIm → Prop} (hS : zS_M S a) (c_x2 : zc x2) (c_x3 : zc x3) (c_x4 : zc x4)
    (h : ((x2 ≤ x4 → Q x3 im) ∧ (x4 < x2 → zCV g yX8_beginDay M_X8_beginDay [.ref a] S im (fun im1 => zPI g M_X8_runDays 24 [(0, .ref a), (2, .int (zi x2)), (3, .int (zi x3)), (4, .int (zi x4)), (5, .int (zi 1))] S im1 Q)))) :
    zPI g M_X8_runDays 11 [(0, .ref a), (2, .int (zi x2)), (3, .int (zi x3)), (4, .int (zi x4))] S im Q := by
  refine p_iload dX8_runDays_11 (q := 3) rfl ?_
  refine p_iload_n dX8_runDays_13 rfl (q := 1) rfl ?_
  refine p_icmp_ge (tgt := 86) dX8_runDays_14 (by decide) (nf_r c_x4) (nf_r c_x2) (fun b1 => ?_) (fun b1 => ?_)
  · have h := h.1 b1
    refine p_iload_n dX8_runDays_86 rfl (q := 2) rfl ?_
    exact p_iretI (by decide) (by decide) rfl (nf_r c_x3) dX8_runDays_87 h
  · have h := h.2 b1
    refine p_aload_n dX8_runDays_17 rfl (q := 0) rfl ?_
    refine p_VV G k_RX8_161 (by decide) (hS 0 (by decide)).1 rfl rfl (Nat.le_of_ble_eq_true rfl) ⟨by decide, by decide⟩ ⟨by decide, by decide⟩ dX8_runDays_18 h (fun im1 h => ?_)
    refine p_iconst dX8_runDays_21 ?_
    refine p_istore (lv' := [(5, .int (zi 1)), (0, .ref a), (2, .int (zi x2)), (3, .int (zi x3)), (4, .int (zi x4))]) dX8_runDays_22 (by decide) rfl ?_
    refine p_sub (lv' := [(0, .ref a), (2, .int (zi x2)), (3, .int (zi x3)), (4, .int (zi x4)), (5, .int (zi 1))]) [1, 2, 3, 4, 0] rfl ?_
    exact h
set_option maxRecDepth 20000 in
set_option maxHeartbeats 4000000 in
theorem v_X8_runDays_24 {g : zG} (G : zOK g) {S : zSh} {im : zIm} {a : Nat} {x2 : Int} {x3 : Int} {x4 : Int} {x5 : Int} {Q : Int → zIm → Prop} (hS : zS_M S a) (c_x2 : zc x2) (c_x3 : zc x3) (c_x4 : zc x4) (c_x5 : zc x5)
    (h : (((im (a + 1) 3) ≤ x5 → zPI g M_X8_runDays 11 [(0, .ref a), (2, .int (zi x2)), (3, .int (zi x3)), (4, .int (zi (zw (x4 + 1))))] S im Q) ∧ (x5 < (im (a + 1) 3) → zPI g M_X8_runDays 38 [(0, .ref a), (2, .int (zi x2)), (3, .int (zi x3)), (4, .int (zi x4)), (5, .int (zi x5)), (6, .int (zi 0))] S im Q))) :
    zPI g M_X8_runDays 24 [(0, .ref a), (2, .int (zi x2)), (3, .int (zi x3)), (4, .int (zi x4)), (5, .int (zi x5))] S im Q := by
  refine p_iload dX8_runDays_24 (q := 4) rfl ?_
  refine p_aload_n dX8_runDays_26 rfl (q := 0) rfl ?_
  refine p_getR (b := (a + 1)) G f_RX8_7 rfl (hS 0 (by decide)).1 ((hS 0 (by decide)).2.2 0 (by decide)) dX8_runDays_27 ?_
  refine p_iconst dX8_runDays_30 ?_
  refine p_iald G (hS 1 (by decide)).1 (nf_k (by decide)) (by decide) (zln_lt (hS 1 (by decide)).2.1 (by decide)) dX8_runDays_31 (fun c1 => ?_)
  refine p_icmp_ge (tgt := 80) dX8_runDays_32 (by decide) (nf_r c_x5) (nf_r c1) (fun b2 => ?_) (fun b2 => ?_)
  · have h := h.1 b2
    refine p_iinc (q := 3) (lv' := [(4, .int (zi (x4 + 1))), (0, .ref a), (2, .int (zi x2)), (3, .int (zi x3)), (5, .int (zi x5))]) dX8_runDays_80 rfl (by decide) rfl ?_
    refine p_goto (tgt := 11) dX8_runDays_83 (by decide) ?_
    refine p_sub (lv' := [(0, .ref a), (2, .int (zi x2)), (3, .int (zi x3)), (4, .int (zi (zw (x4 + 1))))]) [1, 2, 3, 0] (by simp only [zi_zw, zl_zwl]; rfl) ?_
    exact h
  · have h := h.2 b2
    refine p_iconst dX8_runDays_35 ?_
    refine p_istore (lv' := [(6, .int (zi 0)), (0, .ref a), (2, .int (zi x2)), (3, .int (zi x3)), (4, .int (zi x4)), (5, .int (zi x5))]) dX8_runDays_36 (by decide) rfl ?_
    refine p_sub (lv' := [(0, .ref a), (2, .int (zi x2)), (3, .int (zi x3)), (4, .int (zi x4)), (5, .int (zi x5)), (6, .int (zi 0))]) [1, 2, 3, 4, 5, 0] rfl ?_
    exact h
set_option maxRecDepth 20000 in
set_option maxHeartbeats 4000000 in
theorem v_X8_runDays_38 {g : zG} (G : zOK g) {S : zSh} {im : zIm} {a : Nat} {x2 : Int} {x3 : Int} {x4 : Int} {x5 : Int} {x6 : Int} {Q : Int → zIm → Prop} (hS : zS_M S a) (c_x2 : zc x2) (c_x3 : zc x3) (c_x4 : zc x4) (c_x5 : zc x5) (c_x6 : zc x6)
    (h : (((im (a + 1) 2) ≤ x6 → zPI g M_X8_runDays 24 [(0, .ref a), (2, .int (zi x2)), (3, .int (zi x3)), (4, .int (zi x4)), (5, .int (zi (zw (x5 + 1))))] S im Q) ∧ (x6 < (im (a + 1) 2) → zCI g yX8_drawDemand M_X8_drawDemand [.ref a, .int (zi x5), .int (zi x6)] S im (fun r2 im3 => ((r2 = 0 → zPI g M_X8_runDays 38 [(0, .ref a), (2, .int (zi x2)), (3, .int (zi (zw (x3 + 0)))), (4, .int (zi x4)), (5, .int (zi x5)), (6, .int (zi (zw (x6 + 1))))] S im3 Q) ∧ (¬ r2 = 0 → zPI g M_X8_runDays 38 [(0, .ref a), (2, .int (zi x2)), (3, .int (zi (zw (x3 + 1)))), (4, .int (zi x4)), (5, .int (zi x5)), (6, .int (zi (zw (x6 + 1))))] S im3 Q)))))) :
    zPI g M_X8_runDays 38 [(0, .ref a), (2, .int (zi x2)), (3, .int (zi x3)), (4, .int (zi x4)), (5, .int (zi x5)), (6, .int (zi x6))] S im Q := by
  refine p_iload dX8_runDays_38 (q := 5) rfl ?_
  refine p_aload_n dX8_runDays_40 rfl (q := 0) rfl ?_
  refine p_getR (b := (a + 1)) G f_RX8_7 rfl (hS 0 (by decide)).1 ((hS 0 (by decide)).2.2 0 (by decide)) dX8_runDays_41 ?_
  refine p_iconst dX8_runDays_44 ?_
  refine p_iald G (hS 1 (by decide)).1 (nf_k (by decide)) (by decide) (zln_lt (hS 1 (by decide)).2.1 (by decide)) dX8_runDays_45 (fun c1 => ?_)
  refine p_icmp_ge (tgt := 74) dX8_runDays_46 (by decide) (nf_r c_x6) (nf_r c1) (fun b2 => ?_) (fun b2 => ?_)
  · have h := h.1 b2
    refine p_iinc (q := 4) (lv' := [(5, .int (zi (x5 + 1))), (0, .ref a), (2, .int (zi x2)), (3, .int (zi x3)), (4, .int (zi x4)), (6, .int (zi x6))]) dX8_runDays_74 rfl (by decide) rfl ?_
    refine p_goto (tgt := 24) dX8_runDays_77 (by decide) ?_
    refine p_sub (lv' := [(0, .ref a), (2, .int (zi x2)), (3, .int (zi x3)), (4, .int (zi x4)), (5, .int (zi (zw (x5 + 1))))]) [1, 2, 3, 4, 0] (by simp only [zi_zw, zl_zwl]; rfl) ?_
    exact h
  · have h := h.2 b2
    refine p_iload_n dX8_runDays_49 rfl (q := 2) rfl ?_
    refine p_aload_n dX8_runDays_50 rfl (q := 0) rfl ?_
    refine p_iload dX8_runDays_51 (q := 4) rfl ?_
    refine p_iload dX8_runDays_53 (q := 5) rfl ?_
    refine p_VI G k_RX8_179 (by decide) (hS 0 (by decide)).1 rfl rfl (Nat.le_of_ble_eq_true rfl) ⟨by decide, by decide⟩ ⟨by decide, by decide⟩ dX8_runDays_55 h (fun r2 im3 c4 h => ?_)
    refine p_if_eq (tgt := 65) dX8_runDays_58 (by decide) (nf_r c4) (fun b5 => ?_) (fun b5 => ?_)
    · have h := h.1 b5
      refine p_iconst dX8_runDays_65 ?_
      refine p_iadd dX8_runDays_66 ?_
      refine p_istore_n (lv' := [(3, .int (zi (x3 + 0))), (0, .ref a), (2, .int (zi x2)), (4, .int (zi x4)), (5, .int (zi x5)), (6, .int (zi x6))]) dX8_runDays_67 rfl (by decide) rfl ?_
      refine p_iinc (q := 5) (lv' := [(6, .int (zi (x6 + 1))), (3, .int (zi (x3 + 0))), (0, .ref a), (2, .int (zi x2)), (4, .int (zi x4)), (5, .int (zi x5))]) dX8_runDays_68 rfl (by decide) rfl ?_
      refine p_goto (tgt := 38) dX8_runDays_71 (by decide) ?_
      refine p_sub (lv' := [(0, .ref a), (2, .int (zi x2)), (3, .int (zi (zw (x3 + 0)))), (4, .int (zi x4)), (5, .int (zi x5)), (6, .int (zi (zw (x6 + 1))))]) [2, 3, 1, 4, 5, 0] (by simp only [zi_zw, zl_zwl]; rfl) ?_
      exact h
    · have h := h.2 b5
      refine p_iconst dX8_runDays_61 ?_
      refine p_goto (tgt := 66) dX8_runDays_62 (by decide) ?_
      refine p_iadd dX8_runDays_66 ?_
      refine p_istore_n (lv' := [(3, .int (zi (x3 + 1))), (0, .ref a), (2, .int (zi x2)), (4, .int (zi x4)), (5, .int (zi x5)), (6, .int (zi x6))]) dX8_runDays_67 rfl (by decide) rfl ?_
      refine p_iinc (q := 5) (lv' := [(6, .int (zi (x6 + 1))), (3, .int (zi (x3 + 1))), (0, .ref a), (2, .int (zi x2)), (4, .int (zi x4)), (5, .int (zi x5))]) dX8_runDays_68 rfl (by decide) rfl ?_
      refine p_goto (tgt := 38) dX8_runDays_71 (by decide) ?_
      refine p_sub (lv' := [(0, .ref a), (2, .int (zi x2)), (3, .int (zi (zw (x3 + 1)))), (4, .int (zi x4)), (5, .int (zi x5)), (6, .int (zi (zw (x6 + 1))))]) [2, 3, 1, 4, 5, 0] (by simp only [zi_zw, zl_zwl]; rfl) ?_
      exact h
set_option maxRecDepth 20000 in
set_option maxHeartbeats 4000000 in
theorem v_X8_run {g : zG} (G : zOK g) {S : zSh} {im : zIm} {a : Nat} {p1 : Int} {p2 : Int} {Q : Int → zIm → Prop} (hS : zS_M S a) (c_p1 : zc p1) (c_p2 : zc p2)
    (h : ∀ im1, im1 = zst im a 4 0 → ((p1 < 0 → zCI g yX8_fail M_X8_fail [.ref a, .int (zi 1)] S im1 (fun r3 im4 => Q r3 im4)) ∧ (0 ≤ p1 → zCI g yX8_isBetween M_X8_isBetween [.int (zi p2), .int (zi 1), .int (zi 30)] S im1 (fun r3 im4 => ((¬ r3 = 0 → (((zw ((im4 (a + 1) 0) + p2)) ≤ 9999 → zCI g yX8_runDays M_X8_runDays [.ref a, .int (zi p1), .int (zi p2)] S im4 (fun r7 im8 => Q r7 im8)) ∧ (9999 < (zw ((im4 (a + 1) 0) + p2)) → zCI g yX8_fail M_X8_fail [.ref a, .int (zi 2)] S im4 (fun r7 im8 => Q r7 im8)))) ∧ (r3 = 0 → zCI g yX8_fail M_X8_fail [.ref a, .int (zi 1)] S im4 (fun r6 im7 => Q r6 im7))))))) :
    zCI g yX8_run M_X8_run [.ref a, .int (zi p1), .int (zi p2)] S im Q := by
  refine zC_of (by decide) rfl rfl rfl rfl (Nat.le_of_ble_eq_true rfl) ?_
  refine p_aload_n dX8_run_0 rfl (q := 0) rfl ?_
  refine p_iconst dX8_run_1 ?_
  refine p_putI (j := 4) G f_RX8_30 rfl rfl rfl (hS 0 (by decide)).1 (nf_k (by decide)) dX8_run_2 ?_
  refine p_gen (fun im1 e2 => ?_)
  have h := h im1 e2
  refine p_iload_n dX8_run_5 rfl (q := 1) rfl ?_
  refine p_if_lt (tgt := 19) dX8_run_6 (by decide) (nf_r c_p1) (fun b3 => ?_) (fun b3 => ?_)
  · have h := h.1 b3
    refine p_aload_n dX8_run_19 rfl (q := 0) rfl ?_
    refine p_iconst dX8_run_20 ?_
    refine p_VI G k_RX8_41 (by decide) (hS 0 (by decide)).1 rfl rfl (Nat.le_of_ble_eq_true rfl) ⟨by decide, by decide⟩ ⟨by decide, by decide⟩ dX8_run_21 h (fun r3 im4 c5 h => ?_)
    exact p_iretI (by decide) (by decide) rfl (nf_r c5) dX8_run_24 h
  · have h := h.2 b3
    refine p_iload_n dX8_run_9 rfl (q := 2) rfl ?_
    refine p_iconst dX8_run_10 ?_
    refine p_bipush dX8_run_11 (by decide) ?_
    refine p_SI G k_RX8_33 rfl rfl (Nat.le_of_ble_eq_true rfl) ⟨by decide, by decide⟩ ⟨by decide, by decide⟩ dX8_run_13 h (fun r3 im4 c5 h => ?_)
    refine p_if_ne (tgt := 25) dX8_run_16 (by decide) (nf_r c5) (fun b6 => ?_) (fun b6 => ?_)
    · have h := h.1 b6
      refine p_aload_n dX8_run_25 rfl (q := 0) rfl ?_
      refine p_getR (b := (a + 1)) G f_RX8_7 rfl (hS 0 (by decide)).1 ((hS 0 (by decide)).2.2 0 (by decide)) dX8_run_26 ?_
      refine p_iconst dX8_run_29 ?_
      refine p_iald G (hS 1 (by decide)).1 (nf_k (by decide)) (by decide) (zln_lt (hS 1 (by decide)).2.1 (by decide)) dX8_run_30 (fun c6 => ?_)
      refine p_iload_n dX8_run_31 rfl (q := 2) rfl ?_
      refine p_iadd dX8_run_32 ?_
      refine p_sipush dX8_run_33 (by decide) ?_
      refine p_icmp_le (tgt := 47) dX8_run_36 (by decide) (nf_w _) (nf_k (by decide)) (fun b7 => ?_) (fun b7 => ?_)
      · have h := h.1 b7
        refine p_aload_n dX8_run_47 rfl (q := 0) rfl ?_
        refine p_iload_n dX8_run_48 rfl (q := 1) rfl ?_
        refine p_iload_n dX8_run_49 rfl (q := 2) rfl ?_
        refine p_VI G k_RX8_183 (by decide) (hS 0 (by decide)).1 rfl rfl (Nat.le_of_ble_eq_true rfl) ⟨by decide, by decide⟩ ⟨by decide, by decide⟩ dX8_run_50 h (fun r7 im8 c9 h => ?_)
        exact p_iretI (by decide) (by decide) rfl (nf_r c9) dX8_run_53 h
      · have h := h.2 b7
        refine p_aload_n dX8_run_39 rfl (q := 0) rfl ?_
        refine p_iconst dX8_run_40 ?_
        refine p_VI G k_RX8_41 (by decide) (hS 0 (by decide)).1 rfl rfl (Nat.le_of_ble_eq_true rfl) ⟨by decide, by decide⟩ ⟨by decide, by decide⟩ dX8_run_41 h (fun r7 im8 c9 h => ?_)
        refine p_goto (tgt := 53) dX8_run_44 (by decide) ?_
        exact p_iretI (by decide) (by decide) rfl (nf_r c9) dX8_run_53 h
    · have h := h.2 b6
      refine p_aload_n dX8_run_19 rfl (q := 0) rfl ?_
      refine p_iconst dX8_run_20 ?_
      refine p_VI G k_RX8_41 (by decide) (hS 0 (by decide)).1 rfl rfl (Nat.le_of_ble_eq_true rfl) ⟨by decide, by decide⟩ ⟨by decide, by decide⟩ dX8_run_21 h (fun r6 im7 c8 h => ?_)
      exact p_iretI (by decide) (by decide) rfl (nf_r c8) dX8_run_24 h
set_option maxRecDepth 20000 in
set_option maxHeartbeats 4000000 in
theorem v_X8_day {g : zG} (G : zOK g) {S : zSh} {im : zIm} {a : Nat} {Q : Int → zIm → Prop} (hS : zS_M S a)
    (h : ∀ im1, im1 = zst im a 4 0 → Q (im1 (a + 1) 0) im1) :
    zCI g yX8_day M_X8_day [.ref a] S im Q := by
  refine zC_of (by decide) rfl rfl rfl rfl (Nat.le_of_ble_eq_true rfl) ?_
  refine p_aload_n dX8_day_0 rfl (q := 0) rfl ?_
  refine p_iconst dX8_day_1 ?_
  refine p_putI (j := 4) G f_RX8_30 rfl rfl rfl (hS 0 (by decide)).1 (nf_k (by decide)) dX8_day_2 ?_
  refine p_gen (fun im1 e2 => ?_)
  have h := h im1 e2
  refine p_aload_n dX8_day_5 rfl (q := 0) rfl ?_
  refine p_getR (b := (a + 1)) G f_RX8_7 rfl (hS 0 (by decide)).1 ((hS 0 (by decide)).2.2 0 (by decide)) dX8_day_6 ?_
  refine p_iconst dX8_day_9 ?_
  refine p_iald G (hS 1 (by decide)).1 (nf_k (by decide)) (by decide) (zln_lt (hS 1 (by decide)).2.1 (by decide)) dX8_day_10 (fun c3 => ?_)
  exact p_iretI (by decide) (by decide) rfl (nf_r c3) dX8_day_11 h
set_option maxRecDepth 20000 in
set_option maxHeartbeats 4000000 in
theorem v_X8_refusedDemands {g : zG} (G : zOK g) {S : zSh} {im : zIm} {a : Nat} {Q : Int → zIm → Prop} (hS : zS_M S a)
    (h : ∀ im1, im1 = zst im a 4 0 → Q (im1 (a + 1) 7) im1) :
    zCI g yX8_refusedDemands M_X8_refusedDemands [.ref a] S im Q := by
  refine zC_of (by decide) rfl rfl rfl rfl (Nat.le_of_ble_eq_true rfl) ?_
  refine p_aload_n dX8_refusedDemands_0 rfl (q := 0) rfl ?_
  refine p_iconst dX8_refusedDemands_1 ?_
  refine p_putI (j := 4) G f_RX8_30 rfl rfl rfl (hS 0 (by decide)).1 (nf_k (by decide)) dX8_refusedDemands_2 ?_
  refine p_gen (fun im1 e2 => ?_)
  have h := h im1 e2
  refine p_aload_n dX8_refusedDemands_5 rfl (q := 0) rfl ?_
  refine p_getR (b := (a + 1)) G f_RX8_7 rfl (hS 0 (by decide)).1 ((hS 0 (by decide)).2.2 0 (by decide)) dX8_refusedDemands_6 ?_
  refine p_bipush dX8_refusedDemands_9 (by decide) ?_
  refine p_iald G (hS 1 (by decide)).1 (nf_k (by decide)) (by decide) (zln_lt (hS 1 (by decide)).2.1 (by decide)) dX8_refusedDemands_11 (fun c3 => ?_)
  exact p_iretI (by decide) (by decide) rfl (nf_r c3) dX8_refusedDemands_12 h
set_option maxRecDepth 20000 in
set_option maxHeartbeats 4000000 in
theorem v_X8_level {g : zG} (G : zOK g) {S : zSh} {im : zIm} {a : Nat} {p1 : Int} {p2 : Int} {Q : Int → zIm → Prop} (hS : zS_M S a) (c_p1 : zc p1) (c_p2 : zc p2)
    (h : ∀ im1, im1 = zst im a 4 0 → zCI g yX8_isSite M_X8_isSite [.ref a, .int (zi p1)] S im1 (fun r3 im4 => ((r3 = 0 → zCI g yX8_fail M_X8_fail [.ref a, .int (zi 1)] S im4 (fun r6 im7 => Q r6 im7)) ∧ (¬ r3 = 0 → zCI g yX8_isItem M_X8_isItem [.ref a, .int (zi p2)] S im4 (fun r6 im7 => ((r6 = 0 → zCI g yX8_fail M_X8_fail [.ref a, .int (zi 1)] S im7 (fun r9 im10 => Q r9 im10)) ∧ (¬ r6 = 0 → zCI g yX8_at M_X8_at [.int (zi 92), .int (zi p1), .int (zi p2)] S im7 (fun r9 im10 => ((0 ≤ r9 ∧ r9 < 7692) ∧ Q (im10 (a + 1) r9) im10))))))))) :
    zCI g yX8_level M_X8_level [.ref a, .int (zi p1), .int (zi p2)] S im Q := by
  refine zC_of (by decide) rfl rfl rfl rfl (Nat.le_of_ble_eq_true rfl) ?_
  refine p_aload_n dX8_level_0 rfl (q := 0) rfl ?_
  refine p_iconst dX8_level_1 ?_
  refine p_putI (j := 4) G f_RX8_30 rfl rfl rfl (hS 0 (by decide)).1 (nf_k (by decide)) dX8_level_2 ?_
  refine p_gen (fun im1 e2 => ?_)
  have h := h im1 e2
  refine p_aload_n dX8_level_5 rfl (q := 0) rfl ?_
  refine p_iload_n dX8_level_6 rfl (q := 1) rfl ?_
  refine p_VI G k_RX8_78 (by decide) (hS 0 (by decide)).1 rfl rfl (Nat.le_of_ble_eq_true rfl) ⟨by decide, by decide⟩ ⟨by decide, by decide⟩ dX8_level_7 h (fun r3 im4 c5 h => ?_)
  refine p_if_eq (tgt := 36) dX8_level_10 (by decide) (nf_r c5) (fun b6 => ?_) (fun b6 => ?_)
  · have h := h.1 b6
    refine p_aload_n dX8_level_36 rfl (q := 0) rfl ?_
    refine p_iconst dX8_level_37 ?_
    refine p_VI G k_RX8_41 (by decide) (hS 0 (by decide)).1 rfl rfl (Nat.le_of_ble_eq_true rfl) ⟨by decide, by decide⟩ ⟨by decide, by decide⟩ dX8_level_38 h (fun r6 im7 c8 h => ?_)
    exact p_iretI (by decide) (by decide) rfl (nf_r c8) dX8_level_41 h
  · have h := h.2 b6
    refine p_aload_n dX8_level_13 rfl (q := 0) rfl ?_
    refine p_iload_n dX8_level_14 rfl (q := 2) rfl ?_
    refine p_VI G k_RX8_81 (by decide) (hS 0 (by decide)).1 rfl rfl (Nat.le_of_ble_eq_true rfl) ⟨by decide, by decide⟩ ⟨by decide, by decide⟩ dX8_level_15 h (fun r6 im7 c8 h => ?_)
    refine p_if_eq (tgt := 36) dX8_level_18 (by decide) (nf_r c8) (fun b9 => ?_) (fun b9 => ?_)
    · have h := h.1 b9
      refine p_aload_n dX8_level_36 rfl (q := 0) rfl ?_
      refine p_iconst dX8_level_37 ?_
      refine p_VI G k_RX8_41 (by decide) (hS 0 (by decide)).1 rfl rfl (Nat.le_of_ble_eq_true rfl) ⟨by decide, by decide⟩ ⟨by decide, by decide⟩ dX8_level_38 h (fun r9 im10 c11 h => ?_)
      exact p_iretI (by decide) (by decide) rfl (nf_r c11) dX8_level_41 h
    · have h := h.2 b9
      refine p_aload_n dX8_level_21 rfl (q := 0) rfl ?_
      refine p_getR (b := (a + 1)) G f_RX8_7 rfl (hS 0 (by decide)).1 ((hS 0 (by decide)).2.2 0 (by decide)) dX8_level_22 ?_
      refine p_bipush dX8_level_25 (by decide) ?_
      refine p_iload_n dX8_level_27 rfl (q := 1) rfl ?_
      refine p_iload_n dX8_level_28 rfl (q := 2) rfl ?_
      refine p_SI G k_RX8_62 rfl rfl (Nat.le_of_ble_eq_true rfl) ⟨by decide, by decide⟩ ⟨by decide, by decide⟩ dX8_level_29 h (fun r9 im10 c11 h => ?_)
      have g13 := h.1
      have h := h.2
      refine p_iald G (hS 1 (by decide)).1 (nf_r c11) g13.1 (zln_lt (hS 1 (by decide)).2.1 g13.2) dX8_level_32 (fun c12 => ?_)
      refine p_goto (tgt := 41) dX8_level_33 (by decide) ?_
      exact p_iretI (by decide) (by decide) rfl (nf_r c12) dX8_level_41 h
set_option maxRecDepth 20000 in
set_option maxHeartbeats 4000000 in
theorem v_X8_onHand {g : zG} (G : zOK g) {S : zSh} {im : zIm} {a : Nat} {p1 : Int} {p2 : Int} {Q : Int → zIm → Prop} (hS : zS_M S a) (c_p1 : zc p1) (c_p2 : zc p2)
    (h : ∀ im1, im1 = zst im a 4 0 → zCI g yX8_isSite M_X8_isSite [.ref a, .int (zi p1)] S im1 (fun r3 im4 => ((r3 = 0 → zCI g yX8_fail M_X8_fail [.ref a, .int (zi 1)] S im4 (fun r6 im7 => Q r6 im7)) ∧ (¬ r3 = 0 → zCI g yX8_isItem M_X8_isItem [.ref a, .int (zi p2)] S im4 (fun r6 im7 => ((r6 = 0 → zCI g yX8_fail M_X8_fail [.ref a, .int (zi 1)] S im7 (fun r9 im10 => Q r9 im10)) ∧ (¬ r6 = 0 → zCI g yX8_at M_X8_at [.int (zi 124), .int (zi p1), .int (zi p2)] S im7 (fun r9 im10 => ((0 ≤ r9 ∧ r9 < 7692) ∧ Q (im10 (a + 1) r9) im10))))))))) :
    zCI g yX8_onHand M_X8_onHand [.ref a, .int (zi p1), .int (zi p2)] S im Q := by
  refine zC_of (by decide) rfl rfl rfl rfl (Nat.le_of_ble_eq_true rfl) ?_
  refine p_aload_n dX8_onHand_0 rfl (q := 0) rfl ?_
  refine p_iconst dX8_onHand_1 ?_
  refine p_putI (j := 4) G f_RX8_30 rfl rfl rfl (hS 0 (by decide)).1 (nf_k (by decide)) dX8_onHand_2 ?_
  refine p_gen (fun im1 e2 => ?_)
  have h := h im1 e2
  refine p_aload_n dX8_onHand_5 rfl (q := 0) rfl ?_
  refine p_iload_n dX8_onHand_6 rfl (q := 1) rfl ?_
  refine p_VI G k_RX8_78 (by decide) (hS 0 (by decide)).1 rfl rfl (Nat.le_of_ble_eq_true rfl) ⟨by decide, by decide⟩ ⟨by decide, by decide⟩ dX8_onHand_7 h (fun r3 im4 c5 h => ?_)
  refine p_if_eq (tgt := 36) dX8_onHand_10 (by decide) (nf_r c5) (fun b6 => ?_) (fun b6 => ?_)
  · have h := h.1 b6
    refine p_aload_n dX8_onHand_36 rfl (q := 0) rfl ?_
    refine p_iconst dX8_onHand_37 ?_
    refine p_VI G k_RX8_41 (by decide) (hS 0 (by decide)).1 rfl rfl (Nat.le_of_ble_eq_true rfl) ⟨by decide, by decide⟩ ⟨by decide, by decide⟩ dX8_onHand_38 h (fun r6 im7 c8 h => ?_)
    exact p_iretI (by decide) (by decide) rfl (nf_r c8) dX8_onHand_41 h
  · have h := h.2 b6
    refine p_aload_n dX8_onHand_13 rfl (q := 0) rfl ?_
    refine p_iload_n dX8_onHand_14 rfl (q := 2) rfl ?_
    refine p_VI G k_RX8_81 (by decide) (hS 0 (by decide)).1 rfl rfl (Nat.le_of_ble_eq_true rfl) ⟨by decide, by decide⟩ ⟨by decide, by decide⟩ dX8_onHand_15 h (fun r6 im7 c8 h => ?_)
    refine p_if_eq (tgt := 36) dX8_onHand_18 (by decide) (nf_r c8) (fun b9 => ?_) (fun b9 => ?_)
    · have h := h.1 b9
      refine p_aload_n dX8_onHand_36 rfl (q := 0) rfl ?_
      refine p_iconst dX8_onHand_37 ?_
      refine p_VI G k_RX8_41 (by decide) (hS 0 (by decide)).1 rfl rfl (Nat.le_of_ble_eq_true rfl) ⟨by decide, by decide⟩ ⟨by decide, by decide⟩ dX8_onHand_38 h (fun r9 im10 c11 h => ?_)
      exact p_iretI (by decide) (by decide) rfl (nf_r c11) dX8_onHand_41 h
    · have h := h.2 b9
      refine p_aload_n dX8_onHand_21 rfl (q := 0) rfl ?_
      refine p_getR (b := (a + 1)) G f_RX8_7 rfl (hS 0 (by decide)).1 ((hS 0 (by decide)).2.2 0 (by decide)) dX8_onHand_22 ?_
      refine p_bipush dX8_onHand_25 (by decide) ?_
      refine p_iload_n dX8_onHand_27 rfl (q := 1) rfl ?_
      refine p_iload_n dX8_onHand_28 rfl (q := 2) rfl ?_
      refine p_SI G k_RX8_62 rfl rfl (Nat.le_of_ble_eq_true rfl) ⟨by decide, by decide⟩ ⟨by decide, by decide⟩ dX8_onHand_29 h (fun r9 im10 c11 h => ?_)
      have g13 := h.1
      have h := h.2
      refine p_iald G (hS 1 (by decide)).1 (nf_r c11) g13.1 (zln_lt (hS 1 (by decide)).2.1 g13.2) dX8_onHand_32 (fun c12 => ?_)
      refine p_goto (tgt := 41) dX8_onHand_33 (by decide) ?_
      exact p_iretI (by decide) (by decide) rfl (nf_r c12) dX8_onHand_41 h
set_option maxRecDepth 20000 in
set_option maxHeartbeats 4000000 in
theorem v_X8_waitingOf {g : zG} (G : zOK g) {S : zSh} {im : zIm} {a : Nat} {p1 : Int} {p2 : Int} {Q : Int → zIm → Prop} (hS : zS_M S a) (c_p1 : zc p1) (c_p2 : zc p2)
    (h : zPI g M_X8_waitingOf 5 [(0, .ref a), (1, .int (zi p1)), (2, .int (zi p2)), (3, .int (zi 0)), (4, .int (zi 0))] S im Q) :
    zCI g yX8_waitingOf M_X8_waitingOf [.ref a, .int (zi p1), .int (zi p2)] S im Q := by
  refine zC_of (by decide) rfl rfl rfl rfl (Nat.le_of_ble_eq_true rfl) ?_
  refine p_iconst dX8_waitingOf_0 ?_
  refine p_istore_n (lv' := [(3, .int (zi 0)), (0, .ref a), (1, .int (zi p1)), (2, .int (zi p2))]) dX8_waitingOf_1 rfl (by decide) rfl ?_
  refine p_iconst dX8_waitingOf_2 ?_
  refine p_istore (lv' := [(4, .int (zi 0)), (3, .int (zi 0)), (0, .ref a), (1, .int (zi p1)), (2, .int (zi p2))]) dX8_waitingOf_3 (by decide) rfl ?_
  refine p_sub (lv' := [(0, .ref a), (1, .int (zi p1)), (2, .int (zi p2)), (3, .int (zi 0)), (4, .int (zi 0))]) [2, 3, 4, 1, 0] rfl ?_
  exact h
set_option maxRecDepth 20000 in
set_option maxHeartbeats 4000000 in
theorem v_X8_waitingOf_5 {g : zG} (G : zOK g) {S : zSh} {im : zIm} {a : Nat} {x1 : Int} {x2 : Int} {x3 : Int} {x4 : Int} {Q : Int → zIm → Prop} (hS : zS_M S a) (c_x1 : zc x1) (c_x2 : zc x2) (c_x3 : zc x3) (c_x4 : zc x4)
    (h : (((im (a + 1) 5) ≤ x4 → Q x3 im) ∧ (x4 < (im (a + 1) 5) → zCI g yX8_isCustomer M_X8_isCustomer [.ref a, .int (zi x4), .int (zi x1), .int (zi x2)] S im (fun r2 im3 => ((r2 = 0 → zPI g M_X8_waitingOf 5 [(0, .ref a), (1, .int (zi x1)), (2, .int (zi x2)), (3, .int (zi (zw (x3 + 0)))), (4, .int (zi (zw (x4 + 1))))] S im3 Q) ∧ (¬ r2 = 0 → zPI g M_X8_waitingOf 5 [(0, .ref a), (1, .int (zi x1)), (2, .int (zi x2)), (3, .int (zi (zw (x3 + 1)))), (4, .int (zi (zw (x4 + 1))))] S im3 Q)))))) :
    zPI g M_X8_waitingOf 5 [(0, .ref a), (1, .int (zi x1)), (2, .int (zi x2)), (3, .int (zi x3)), (4, .int (zi x4))] S im Q := by
  refine p_iload dX8_waitingOf_5 (q := 4) rfl ?_
  refine p_aload_n dX8_waitingOf_7 rfl (q := 0) rfl ?_
  refine p_getR (b := (a + 1)) G f_RX8_7 rfl (hS 0 (by decide)).1 ((hS 0 (by decide)).2.2 0 (by decide)) dX8_waitingOf_8 ?_
  refine p_iconst dX8_waitingOf_11 ?_
  refine p_iald G (hS 1 (by decide)).1 (nf_k (by decide)) (by decide) (zln_lt (hS 1 (by decide)).2.1 (by decide)) dX8_waitingOf_12 (fun c1 => ?_)
  refine p_icmp_ge (tgt := 41) dX8_waitingOf_13 (by decide) (nf_r c_x4) (nf_r c1) (fun b2 => ?_) (fun b2 => ?_)
  · have h := h.1 b2
    refine p_iload_n dX8_waitingOf_41 rfl (q := 3) rfl ?_
    exact p_iretI (by decide) (by decide) rfl (nf_r c_x3) dX8_waitingOf_42 h
  · have h := h.2 b2
    refine p_iload_n dX8_waitingOf_16 rfl (q := 3) rfl ?_
    refine p_aload_n dX8_waitingOf_17 rfl (q := 0) rfl ?_
    refine p_iload dX8_waitingOf_18 (q := 4) rfl ?_
    refine p_iload_n dX8_waitingOf_20 rfl (q := 1) rfl ?_
    refine p_iload_n dX8_waitingOf_21 rfl (q := 2) rfl ?_
    refine p_VI G k_RX8_109 (by decide) (hS 0 (by decide)).1 rfl rfl (Nat.le_of_ble_eq_true rfl) ⟨by decide, by decide⟩ ⟨by decide, by decide⟩ dX8_waitingOf_22 h (fun r2 im3 c4 h => ?_)
    refine p_if_eq (tgt := 32) dX8_waitingOf_25 (by decide) (nf_r c4) (fun b5 => ?_) (fun b5 => ?_)
    · have h := h.1 b5
      refine p_iconst dX8_waitingOf_32 ?_
      refine p_iadd dX8_waitingOf_33 ?_
      refine p_istore_n (lv' := [(3, .int (zi (x3 + 0))), (0, .ref a), (1, .int (zi x1)), (2, .int (zi x2)), (4, .int (zi x4))]) dX8_waitingOf_34 rfl (by decide) rfl ?_
      refine p_iinc (q := 4) (lv' := [(4, .int (zi (x4 + 1))), (3, .int (zi (x3 + 0))), (0, .ref a), (1, .int (zi x1)), (2, .int (zi x2))]) dX8_waitingOf_35 rfl (by decide) rfl ?_
      refine p_goto (tgt := 5) dX8_waitingOf_38 (by decide) ?_
      refine p_sub (lv' := [(0, .ref a), (1, .int (zi x1)), (2, .int (zi x2)), (3, .int (zi (zw (x3 + 0)))), (4, .int (zi (zw (x4 + 1))))]) [2, 3, 4, 1, 0] (by simp only [zi_zw, zl_zwl]; rfl) ?_
      exact h
    · have h := h.2 b5
      refine p_iconst dX8_waitingOf_28 ?_
      refine p_goto (tgt := 33) dX8_waitingOf_29 (by decide) ?_
      refine p_iadd dX8_waitingOf_33 ?_
      refine p_istore_n (lv' := [(3, .int (zi (x3 + 1))), (0, .ref a), (1, .int (zi x1)), (2, .int (zi x2)), (4, .int (zi x4))]) dX8_waitingOf_34 rfl (by decide) rfl ?_
      refine p_iinc (q := 4) (lv' := [(4, .int (zi (x4 + 1))), (3, .int (zi (x3 + 1))), (0, .ref a), (1, .int (zi x1)), (2, .int (zi x2))]) dX8_waitingOf_35 rfl (by decide) rfl ?_
      refine p_goto (tgt := 5) dX8_waitingOf_38 (by decide) ?_
      refine p_sub (lv' := [(0, .ref a), (1, .int (zi x1)), (2, .int (zi x2)), (3, .int (zi (zw (x3 + 1)))), (4, .int (zi (zw (x4 + 1))))]) [2, 3, 4, 1, 0] (by simp only [zi_zw, zl_zwl]; rfl) ?_
      exact h
set_option maxRecDepth 20000 in
set_option maxHeartbeats 4000000 in
theorem v_X8_waiting {g : zG} (G : zOK g) {S : zSh} {im : zIm} {a : Nat} {p1 : Int} {p2 : Int} {Q : Int → zIm → Prop} (hS : zS_M S a) (c_p1 : zc p1) (c_p2 : zc p2)
    (h : ∀ im1, im1 = zst im a 4 0 → zCI g yX8_isBase M_X8_isBase [.ref a, .int (zi p1)] S im1 (fun r3 im4 => ((r3 = 0 → zCI g yX8_fail M_X8_fail [.ref a, .int (zi 1)] S im4 (fun r6 im7 => Q r6 im7)) ∧ (¬ r3 = 0 → zCI g yX8_isItem M_X8_isItem [.ref a, .int (zi p2)] S im4 (fun r6 im7 => ((r6 = 0 → zCI g yX8_fail M_X8_fail [.ref a, .int (zi 1)] S im7 (fun r9 im10 => Q r9 im10)) ∧ (¬ r6 = 0 → zCI g yX8_waitingOf M_X8_waitingOf [.ref a, .int (zi p1), .int (zi p2)] S im7 (fun r9 im10 => Q r9 im10)))))))) :
    zCI g yX8_waiting M_X8_waiting [.ref a, .int (zi p1), .int (zi p2)] S im Q := by
  refine zC_of (by decide) rfl rfl rfl rfl (Nat.le_of_ble_eq_true rfl) ?_
  refine p_aload_n dX8_waiting_0 rfl (q := 0) rfl ?_
  refine p_iconst dX8_waiting_1 ?_
  refine p_putI (j := 4) G f_RX8_30 rfl rfl rfl (hS 0 (by decide)).1 (nf_k (by decide)) dX8_waiting_2 ?_
  refine p_gen (fun im1 e2 => ?_)
  have h := h im1 e2
  refine p_aload_n dX8_waiting_5 rfl (q := 0) rfl ?_
  refine p_iload_n dX8_waiting_6 rfl (q := 1) rfl ?_
  refine p_VI G k_RX8_55 (by decide) (hS 0 (by decide)).1 rfl rfl (Nat.le_of_ble_eq_true rfl) ⟨by decide, by decide⟩ ⟨by decide, by decide⟩ dX8_waiting_7 h (fun r3 im4 c5 h => ?_)
  refine p_if_eq (tgt := 30) dX8_waiting_10 (by decide) (nf_r c5) (fun b6 => ?_) (fun b6 => ?_)
  · have h := h.1 b6
    refine p_aload_n dX8_waiting_30 rfl (q := 0) rfl ?_
    refine p_iconst dX8_waiting_31 ?_
    refine p_VI G k_RX8_41 (by decide) (hS 0 (by decide)).1 rfl rfl (Nat.le_of_ble_eq_true rfl) ⟨by decide, by decide⟩ ⟨by decide, by decide⟩ dX8_waiting_32 h (fun r6 im7 c8 h => ?_)
    exact p_iretI (by decide) (by decide) rfl (nf_r c8) dX8_waiting_35 h
  · have h := h.2 b6
    refine p_aload_n dX8_waiting_13 rfl (q := 0) rfl ?_
    refine p_iload_n dX8_waiting_14 rfl (q := 2) rfl ?_
    refine p_VI G k_RX8_81 (by decide) (hS 0 (by decide)).1 rfl rfl (Nat.le_of_ble_eq_true rfl) ⟨by decide, by decide⟩ ⟨by decide, by decide⟩ dX8_waiting_15 h (fun r6 im7 c8 h => ?_)
    refine p_if_eq (tgt := 30) dX8_waiting_18 (by decide) (nf_r c8) (fun b9 => ?_) (fun b9 => ?_)
    · have h := h.1 b9
      refine p_aload_n dX8_waiting_30 rfl (q := 0) rfl ?_
      refine p_iconst dX8_waiting_31 ?_
      refine p_VI G k_RX8_41 (by decide) (hS 0 (by decide)).1 rfl rfl (Nat.le_of_ble_eq_true rfl) ⟨by decide, by decide⟩ ⟨by decide, by decide⟩ dX8_waiting_32 h (fun r9 im10 c11 h => ?_)
      exact p_iretI (by decide) (by decide) rfl (nf_r c11) dX8_waiting_35 h
    · have h := h.2 b9
      refine p_aload_n dX8_waiting_21 rfl (q := 0) rfl ?_
      refine p_iload_n dX8_waiting_22 rfl (q := 1) rfl ?_
      refine p_iload_n dX8_waiting_23 rfl (q := 2) rfl ?_
      refine p_VI G k_RX8_186 (by decide) (hS 0 (by decide)).1 rfl rfl (Nat.le_of_ble_eq_true rfl) ⟨by decide, by decide⟩ ⟨by decide, by decide⟩ dX8_waiting_24 h (fun r9 im10 c11 h => ?_)
      refine p_goto (tgt := 35) dX8_waiting_27 (by decide) ?_
      exact p_iretI (by decide) (by decide) rfl (nf_r c11) dX8_waiting_35 h
set_option maxRecDepth 20000 in
set_option maxHeartbeats 4000000 in
theorem v_X8_topPriority {g : zG} (G : zOK g) {S : zSh} {im : zIm} {a : Nat} {p1 : Int} {p2 : Int} {Q : Int → zIm → Prop} (hS : zS_M S a) (c_p1 : zc p1) (c_p2 : zc p2)
    (h : ∀ im1, im1 = zst im a 4 0 → zCI g yX8_isBase M_X8_isBase [.ref a, .int (zi p1)] S im1 (fun r3 im4 => ((r3 = 0 → zCI g yX8_fail M_X8_fail [.ref a, .int (zi 1)] S im4 (fun r6 im7 => Q r6 im7)) ∧ (¬ r3 = 0 → zCI g yX8_isItem M_X8_isItem [.ref a, .int (zi p2)] S im4 (fun r6 im7 => ((¬ r6 = 0 → zCI g yX8_bestCustomer M_X8_bestCustomer [.ref a, .int (zi p1), .int (zi p2)] S im7 (fun r9 im10 => ((¬ r9 = (-1) → zCI g yX8_customer M_X8_customer [.ref a, .int (zi r9), .int (zi 2)] S im10 (fun r12 im13 => Q r12 im13)) ∧ (r9 = (-1) → Q (-1) im10)))) ∧ (r6 = 0 → zCI g yX8_fail M_X8_fail [.ref a, .int (zi 1)] S im7 (fun r9 im10 => Q r9 im10)))))))) :
    zCI g yX8_topPriority M_X8_topPriority [.ref a, .int (zi p1), .int (zi p2)] S im Q := by
  refine zC_of (by decide) rfl rfl rfl rfl (Nat.le_of_ble_eq_true rfl) ?_
  refine p_aload_n dX8_topPriority_0 rfl (q := 0) rfl ?_
  refine p_iconst dX8_topPriority_1 ?_
  refine p_putI (j := 4) G f_RX8_30 rfl rfl rfl (hS 0 (by decide)).1 (nf_k (by decide)) dX8_topPriority_2 ?_
  refine p_gen (fun im1 e2 => ?_)
  have h := h im1 e2
  refine p_aload_n dX8_topPriority_5 rfl (q := 0) rfl ?_
  refine p_iload_n dX8_topPriority_6 rfl (q := 1) rfl ?_
  refine p_VI G k_RX8_55 (by decide) (hS 0 (by decide)).1 rfl rfl (Nat.le_of_ble_eq_true rfl) ⟨by decide, by decide⟩ ⟨by decide, by decide⟩ dX8_topPriority_7 h (fun r3 im4 c5 h => ?_)
  refine p_if_eq (tgt := 21) dX8_topPriority_10 (by decide) (nf_r c5) (fun b6 => ?_) (fun b6 => ?_)
  · have h := h.1 b6
    refine p_aload_n dX8_topPriority_21 rfl (q := 0) rfl ?_
    refine p_iconst dX8_topPriority_22 ?_
    refine p_VI G k_RX8_41 (by decide) (hS 0 (by decide)).1 rfl rfl (Nat.le_of_ble_eq_true rfl) ⟨by decide, by decide⟩ ⟨by decide, by decide⟩ dX8_topPriority_23 h (fun r6 im7 c8 h => ?_)
    exact p_iretI (by decide) (by decide) rfl (nf_r c8) dX8_topPriority_26 h
  · have h := h.2 b6
    refine p_aload_n dX8_topPriority_13 rfl (q := 0) rfl ?_
    refine p_iload_n dX8_topPriority_14 rfl (q := 2) rfl ?_
    refine p_VI G k_RX8_81 (by decide) (hS 0 (by decide)).1 rfl rfl (Nat.le_of_ble_eq_true rfl) ⟨by decide, by decide⟩ ⟨by decide, by decide⟩ dX8_topPriority_15 h (fun r6 im7 c8 h => ?_)
    refine p_if_ne (tgt := 27) dX8_topPriority_18 (by decide) (nf_r c8) (fun b9 => ?_) (fun b9 => ?_)
    · have h := h.1 b9
      refine p_aload_n dX8_topPriority_27 rfl (q := 0) rfl ?_
      refine p_iload_n dX8_topPriority_28 rfl (q := 1) rfl ?_
      refine p_iload_n dX8_topPriority_29 rfl (q := 2) rfl ?_
      refine p_VI G k_RX8_112 (by decide) (hS 0 (by decide)).1 rfl rfl (Nat.le_of_ble_eq_true rfl) ⟨by decide, by decide⟩ ⟨by decide, by decide⟩ dX8_topPriority_30 h (fun r9 im10 c11 h => ?_)
      refine p_istore_n (lv' := [(3, .int (zi r9)), (0, .ref a), (1, .int (zi p1)), (2, .int (zi p2))]) dX8_topPriority_33 rfl (by decide) rfl ?_
      refine p_iload_n dX8_topPriority_34 rfl (q := 0) rfl ?_
      refine p_iconst dX8_topPriority_35 ?_
      refine p_icmp_ne (tgt := 43) dX8_topPriority_36 (by decide) (nf_r c11) (nf_k (by decide)) (fun b12 => ?_) (fun b12 => ?_)
      · have h := h.1 b12
        refine p_aload_n dX8_topPriority_43 rfl (q := 1) rfl ?_
        refine p_iload_n dX8_topPriority_44 rfl (q := 0) rfl ?_
        refine p_iconst dX8_topPriority_45 ?_
        refine p_VI G k_RX8_106 (by decide) (hS 0 (by decide)).1 rfl rfl (Nat.le_of_ble_eq_true rfl) ⟨by decide, by decide⟩ ⟨by decide, by decide⟩ dX8_topPriority_46 h (fun r12 im13 c14 h => ?_)
        exact p_iretI (by decide) (by decide) rfl (nf_r c14) dX8_topPriority_49 h
      · have h := h.2 b12
        refine p_iconst dX8_topPriority_39 ?_
        refine p_goto (tgt := 49) dX8_topPriority_40 (by decide) ?_
        exact p_iretI (by decide) (by decide) rfl (nf_k (by decide)) dX8_topPriority_49 h
    · have h := h.2 b9
      refine p_aload_n dX8_topPriority_21 rfl (q := 0) rfl ?_
      refine p_iconst dX8_topPriority_22 ?_
      refine p_VI G k_RX8_41 (by decide) (hS 0 (by decide)).1 rfl rfl (Nat.le_of_ble_eq_true rfl) ⟨by decide, by decide⟩ ⟨by decide, by decide⟩ dX8_topPriority_23 h (fun r9 im10 c11 h => ?_)
      exact p_iretI (by decide) (by decide) rfl (nf_r c11) dX8_topPriority_26 h
set_option maxRecDepth 20000 in
set_option maxHeartbeats 4000000 in
theorem v_X8_keptOrders {g : zG} (G : zOK g) {S : zSh} {im : zIm} {a : Nat} {p1 : Int} {Q : Int → zIm → Prop} (hS : zS_M S a) (c_p1 : zc p1)
    (h : ∀ im1, im1 = zst im a 4 0 → zCI g yX8_isItem M_X8_isItem [.ref a, .int (zi p1)] S im1 (fun r3 im4 => ((¬ r3 = 0 → zPI g M_X8_keptOrders 23 [(0, .ref a), (1, .int (zi p1)), (2, .int (zi 0)), (3, .int (zi 0))] S im4 Q) ∧ (r3 = 0 → zCI g yX8_fail M_X8_fail [.ref a, .int (zi 1)] S im4 (fun r6 im7 => Q r6 im7))))) :
    zCI g yX8_keptOrders M_X8_keptOrders [.ref a, .int (zi p1)] S im Q := by
  refine zC_of (by decide) rfl rfl rfl rfl (Nat.le_of_ble_eq_true rfl) ?_
  refine p_aload_n dX8_keptOrders_0 rfl (q := 0) rfl ?_
  refine p_iconst dX8_keptOrders_1 ?_
  refine p_putI (j := 4) G f_RX8_30 rfl rfl rfl (hS 0 (by decide)).1 (nf_k (by decide)) dX8_keptOrders_2 ?_
  refine p_gen (fun im1 e2 => ?_)
  have h := h im1 e2
  refine p_aload_n dX8_keptOrders_5 rfl (q := 0) rfl ?_
  refine p_iload_n dX8_keptOrders_6 rfl (q := 1) rfl ?_
  refine p_VI G k_RX8_81 (by decide) (hS 0 (by decide)).1 rfl rfl (Nat.le_of_ble_eq_true rfl) ⟨by decide, by decide⟩ ⟨by decide, by decide⟩ dX8_keptOrders_7 h (fun r3 im4 c5 h => ?_)
  refine p_if_ne (tgt := 19) dX8_keptOrders_10 (by decide) (nf_r c5) (fun b6 => ?_) (fun b6 => ?_)
  · have h := h.1 b6
    refine p_iconst dX8_keptOrders_19 ?_
    refine p_istore_n (lv' := [(2, .int (zi 0)), (0, .ref a), (1, .int (zi p1))]) dX8_keptOrders_20 rfl (by decide) rfl ?_
    refine p_iconst dX8_keptOrders_21 ?_
    refine p_istore_n (lv' := [(3, .int (zi 0)), (2, .int (zi 0)), (0, .ref a), (1, .int (zi p1))]) dX8_keptOrders_22 rfl (by decide) rfl ?_
    refine p_sub (lv' := [(0, .ref a), (1, .int (zi p1)), (2, .int (zi 0)), (3, .int (zi 0))]) [2, 3, 1, 0] rfl ?_
    exact h
  · have h := h.2 b6
    refine p_aload_n dX8_keptOrders_13 rfl (q := 0) rfl ?_
    refine p_iconst dX8_keptOrders_14 ?_
    refine p_VI G k_RX8_41 (by decide) (hS 0 (by decide)).1 rfl rfl (Nat.le_of_ble_eq_true rfl) ⟨by decide, by decide⟩ ⟨by decide, by decide⟩ dX8_keptOrders_15 h (fun r6 im7 c8 h => ?_)
    exact p_iretI (by decide) (by decide) rfl (nf_r c8) dX8_keptOrders_18 h
set_option maxRecDepth 20000 in
set_option maxHeartbeats 4000000 in
theorem v_X8_keptOrders_23 {g : zG} (G : zOK g) {S : zSh} {im : zIm} {a : Nat} {x1 : Int} {x2 : Int} {x3 : Int} {Q : Int → zIm → Prop} (hS : zS_M S a) (c_x1 : zc x1) (c_x2 : zc x2) (c_x3 : zc x3)
    (h : (((im (a + 1) 6) ≤ x3 → Q x2 im) ∧ (x3 < (im (a + 1) 6) → zCI g yX8_order M_X8_order [.ref a, .int (zi x3), .int (zi 0)] S im (fun r2 im3 => ((¬ r2 = x1 → zPI g M_X8_keptOrders 23 [(0, .ref a), (1, .int (zi x1)), (2, .int (zi (zw (x2 + 0)))), (3, .int (zi (zw (x3 + 1))))] S im3 Q) ∧ (r2 = x1 → zPI g M_X8_keptOrders 23 [(0, .ref a), (1, .int (zi x1)), (2, .int (zi (zw (x2 + 1)))), (3, .int (zi (zw (x3 + 1))))] S im3 Q)))))) :
    zPI g M_X8_keptOrders 23 [(0, .ref a), (1, .int (zi x1)), (2, .int (zi x2)), (3, .int (zi x3))] S im Q := by
  refine p_iload_n dX8_keptOrders_23 rfl (q := 3) rfl ?_
  refine p_aload_n dX8_keptOrders_24 rfl (q := 0) rfl ?_
  refine p_getR (b := (a + 1)) G f_RX8_7 rfl (hS 0 (by decide)).1 ((hS 0 (by decide)).2.2 0 (by decide)) dX8_keptOrders_25 ?_
  refine p_bipush dX8_keptOrders_28 (by decide) ?_
  refine p_iald G (hS 1 (by decide)).1 (nf_k (by decide)) (by decide) (zln_lt (hS 1 (by decide)).2.1 (by decide)) dX8_keptOrders_30 (fun c1 => ?_)
  refine p_icmp_ge (tgt := 58) dX8_keptOrders_31 (by decide) (nf_r c_x3) (nf_r c1) (fun b2 => ?_) (fun b2 => ?_)
  · have h := h.1 b2
    refine p_iload_n dX8_keptOrders_58 rfl (q := 2) rfl ?_
    exact p_iretI (by decide) (by decide) rfl (nf_r c_x2) dX8_keptOrders_59 h
  · have h := h.2 b2
    refine p_iload_n dX8_keptOrders_34 rfl (q := 2) rfl ?_
    refine p_aload_n dX8_keptOrders_35 rfl (q := 0) rfl ?_
    refine p_iload_n dX8_keptOrders_36 rfl (q := 3) rfl ?_
    refine p_iconst dX8_keptOrders_37 ?_
    refine p_VI G k_RX8_96 (by decide) (hS 0 (by decide)).1 rfl rfl (Nat.le_of_ble_eq_true rfl) ⟨by decide, by decide⟩ ⟨by decide, by decide⟩ dX8_keptOrders_38 h (fun r2 im3 c4 h => ?_)
    refine p_iload_n dX8_keptOrders_41 rfl (q := 1) rfl ?_
    refine p_icmp_ne (tgt := 49) dX8_keptOrders_42 (by decide) (nf_r c4) (nf_r c_x1) (fun b5 => ?_) (fun b5 => ?_)
    · have h := h.1 b5
      refine p_iconst dX8_keptOrders_49 ?_
      refine p_iadd dX8_keptOrders_50 ?_
      refine p_istore_n (lv' := [(2, .int (zi (x2 + 0))), (0, .ref a), (1, .int (zi x1)), (3, .int (zi x3))]) dX8_keptOrders_51 rfl (by decide) rfl ?_
      refine p_iinc (q := 3) (lv' := [(3, .int (zi (x3 + 1))), (2, .int (zi (x2 + 0))), (0, .ref a), (1, .int (zi x1))]) dX8_keptOrders_52 rfl (by decide) rfl ?_
      refine p_goto (tgt := 23) dX8_keptOrders_55 (by decide) ?_
      refine p_sub (lv' := [(0, .ref a), (1, .int (zi x1)), (2, .int (zi (zw (x2 + 0)))), (3, .int (zi (zw (x3 + 1))))]) [2, 3, 1, 0] (by simp only [zi_zw, zl_zwl]; rfl) ?_
      exact h
    · have h := h.2 b5
      refine p_iconst dX8_keptOrders_45 ?_
      refine p_goto (tgt := 50) dX8_keptOrders_46 (by decide) ?_
      refine p_iadd dX8_keptOrders_50 ?_
      refine p_istore_n (lv' := [(2, .int (zi (x2 + 1))), (0, .ref a), (1, .int (zi x1)), (3, .int (zi x3))]) dX8_keptOrders_51 rfl (by decide) rfl ?_
      refine p_iinc (q := 3) (lv' := [(3, .int (zi (x3 + 1))), (2, .int (zi (x2 + 1))), (0, .ref a), (1, .int (zi x1))]) dX8_keptOrders_52 rfl (by decide) rfl ?_
      refine p_goto (tgt := 23) dX8_keptOrders_55 (by decide) ?_
      refine p_sub (lv' := [(0, .ref a), (1, .int (zi x1)), (2, .int (zi (zw (x2 + 1)))), (3, .int (zi (zw (x3 + 1))))]) [2, 3, 1, 0] (by simp only [zi_zw, zl_zwl]; rfl) ?_
      exact h
set_option maxRecDepth 20000 in
set_option maxHeartbeats 4000000 in
theorem v_X8_dueInOf {g : zG} (G : zOK g) {S : zSh} {im : zIm} {a : Nat} {p1 : Int} {p2 : Int} {Q : Int → zIm → Prop} (hS : zS_M S a) (c_p1 : zc p1) (c_p2 : zc p2)
    (h : zPI g M_X8_dueInOf 5 [(0, .ref a), (1, .int (zi p1)), (2, .int (zi p2)), (3, .int (zi 0)), (4, .int (zi 0))] S im Q) :
    zCI g yX8_dueInOf M_X8_dueInOf [.ref a, .int (zi p1), .int (zi p2)] S im Q := by
  refine zC_of (by decide) rfl rfl rfl rfl (Nat.le_of_ble_eq_true rfl) ?_
  refine p_iconst dX8_dueInOf_0 ?_
  refine p_istore_n (lv' := [(3, .int (zi 0)), (0, .ref a), (1, .int (zi p1)), (2, .int (zi p2))]) dX8_dueInOf_1 rfl (by decide) rfl ?_
  refine p_iconst dX8_dueInOf_2 ?_
  refine p_istore (lv' := [(4, .int (zi 0)), (3, .int (zi 0)), (0, .ref a), (1, .int (zi p1)), (2, .int (zi p2))]) dX8_dueInOf_3 (by decide) rfl ?_
  refine p_sub (lv' := [(0, .ref a), (1, .int (zi p1)), (2, .int (zi p2)), (3, .int (zi 0)), (4, .int (zi 0))]) [2, 3, 4, 1, 0] rfl ?_
  exact h
set_option maxRecDepth 20000 in
set_option maxHeartbeats 4000000 in
theorem v_X8_dueInOf_5 {g : zG} (G : zOK g) {S : zSh} {im : zIm} {a : Nat} {x1 : Int} {x2 : Int} {x3 : Int} {x4 : Int} {Q : Int → zIm → Prop} (hS : zS_M S a) (c_x1 : zc x1) (c_x2 : zc x2) (c_x3 : zc x3) (c_x4 : zc x4)
    (h : (((im (a + 1) 4) ≤ x4 → zPI g M_X8_dueInOf 55 [(0, .ref a), (1, .int (zi x1)), (2, .int (zi x2)), (3, .int (zi x3)), (4, .int (zi 0))] S im Q) ∧ (x4 < (im (a + 1) 4) → zCI g yX8_unit M_X8_unit [.ref a, .int (zi x4), .int (zi 1)] S im (fun r2 im3 => ((¬ r2 = x2 → zPI g M_X8_dueInOf 5 [(0, .ref a), (1, .int (zi x1)), (2, .int (zi x2)), (3, .int (zi (zw (x3 + 0)))), (4, .int (zi (zw (x4 + 1))))] S im3 Q) ∧ (r2 = x2 → zCI g yX8_unit M_X8_unit [.ref a, .int (zi x4), .int (zi 3)] S im3 (fun r5 im6 => ((¬ r5 = x1 → zPI g M_X8_dueInOf 5 [(0, .ref a), (1, .int (zi x1)), (2, .int (zi x2)), (3, .int (zi (zw (x3 + 0)))), (4, .int (zi (zw (x4 + 1))))] S im6 Q) ∧ (r5 = x1 → zPI g M_X8_dueInOf 5 [(0, .ref a), (1, .int (zi x1)), (2, .int (zi x2)), (3, .int (zi (zw (x3 + 1)))), (4, .int (zi (zw (x4 + 1))))] S im6 Q))))))))) :
    zPI g M_X8_dueInOf 5 [(0, .ref a), (1, .int (zi x1)), (2, .int (zi x2)), (3, .int (zi x3)), (4, .int (zi x4))] S im Q := by
  refine p_iload dX8_dueInOf_5 (q := 4) rfl ?_
  refine p_aload_n dX8_dueInOf_7 rfl (q := 0) rfl ?_
  refine p_getR (b := (a + 1)) G f_RX8_7 rfl (hS 0 (by decide)).1 ((hS 0 (by decide)).2.2 0 (by decide)) dX8_dueInOf_8 ?_
  refine p_iconst dX8_dueInOf_11 ?_
  refine p_iald G (hS 1 (by decide)).1 (nf_k (by decide)) (by decide) (zln_lt (hS 1 (by decide)).2.1 (by decide)) dX8_dueInOf_12 (fun c1 => ?_)
  refine p_icmp_ge (tgt := 52) dX8_dueInOf_13 (by decide) (nf_r c_x4) (nf_r c1) (fun b2 => ?_) (fun b2 => ?_)
  · have h := h.1 b2
    refine p_iconst dX8_dueInOf_52 ?_
    refine p_istore (lv' := [(4, .int (zi 0)), (0, .ref a), (1, .int (zi x1)), (2, .int (zi x2)), (3, .int (zi x3))]) dX8_dueInOf_53 (by decide) rfl ?_
    refine p_sub (lv' := [(0, .ref a), (1, .int (zi x1)), (2, .int (zi x2)), (3, .int (zi x3)), (4, .int (zi 0))]) [1, 2, 3, 4, 0] rfl ?_
    exact h
  · have h := h.2 b2
    refine p_iload_n dX8_dueInOf_16 rfl (q := 3) rfl ?_
    refine p_aload_n dX8_dueInOf_17 rfl (q := 0) rfl ?_
    refine p_iload dX8_dueInOf_18 (q := 4) rfl ?_
    refine p_iconst dX8_dueInOf_20 ?_
    refine p_VI G k_RX8_137 (by decide) (hS 0 (by decide)).1 rfl rfl (Nat.le_of_ble_eq_true rfl) ⟨by decide, by decide⟩ ⟨by decide, by decide⟩ dX8_dueInOf_21 h (fun r2 im3 c4 h => ?_)
    refine p_iload_n dX8_dueInOf_24 rfl (q := 2) rfl ?_
    refine p_icmp_ne (tgt := 43) dX8_dueInOf_25 (by decide) (nf_r c4) (nf_r c_x2) (fun b5 => ?_) (fun b5 => ?_)
    · have h := h.1 b5
      refine p_iconst dX8_dueInOf_43 ?_
      refine p_iadd dX8_dueInOf_44 ?_
      refine p_istore_n (lv' := [(3, .int (zi (x3 + 0))), (0, .ref a), (1, .int (zi x1)), (2, .int (zi x2)), (4, .int (zi x4))]) dX8_dueInOf_45 rfl (by decide) rfl ?_
      refine p_iinc (q := 4) (lv' := [(4, .int (zi (x4 + 1))), (3, .int (zi (x3 + 0))), (0, .ref a), (1, .int (zi x1)), (2, .int (zi x2))]) dX8_dueInOf_46 rfl (by decide) rfl ?_
      refine p_goto (tgt := 5) dX8_dueInOf_49 (by decide) ?_
      refine p_sub (lv' := [(0, .ref a), (1, .int (zi x1)), (2, .int (zi x2)), (3, .int (zi (zw (x3 + 0)))), (4, .int (zi (zw (x4 + 1))))]) [2, 3, 4, 1, 0] (by simp only [zi_zw, zl_zwl]; rfl) ?_
      exact h
    · have h := h.2 b5
      refine p_aload_n dX8_dueInOf_28 rfl (q := 0) rfl ?_
      refine p_iload dX8_dueInOf_29 (q := 4) rfl ?_
      refine p_iconst dX8_dueInOf_31 ?_
      refine p_VI G k_RX8_137 (by decide) (hS 0 (by decide)).1 rfl rfl (Nat.le_of_ble_eq_true rfl) ⟨by decide, by decide⟩ ⟨by decide, by decide⟩ dX8_dueInOf_32 h (fun r5 im6 c7 h => ?_)
      refine p_iload_n dX8_dueInOf_35 rfl (q := 1) rfl ?_
      refine p_icmp_ne (tgt := 43) dX8_dueInOf_36 (by decide) (nf_r c7) (nf_r c_x1) (fun b8 => ?_) (fun b8 => ?_)
      · have h := h.1 b8
        refine p_iconst dX8_dueInOf_43 ?_
        refine p_iadd dX8_dueInOf_44 ?_
        refine p_istore_n (lv' := [(3, .int (zi (x3 + 0))), (0, .ref a), (1, .int (zi x1)), (2, .int (zi x2)), (4, .int (zi x4))]) dX8_dueInOf_45 rfl (by decide) rfl ?_
        refine p_iinc (q := 4) (lv' := [(4, .int (zi (x4 + 1))), (3, .int (zi (x3 + 0))), (0, .ref a), (1, .int (zi x1)), (2, .int (zi x2))]) dX8_dueInOf_46 rfl (by decide) rfl ?_
        refine p_goto (tgt := 5) dX8_dueInOf_49 (by decide) ?_
        refine p_sub (lv' := [(0, .ref a), (1, .int (zi x1)), (2, .int (zi x2)), (3, .int (zi (zw (x3 + 0)))), (4, .int (zi (zw (x4 + 1))))]) [2, 3, 4, 1, 0] (by simp only [zi_zw, zl_zwl]; rfl) ?_
        exact h
      · have h := h.2 b8
        refine p_iconst dX8_dueInOf_39 ?_
        refine p_goto (tgt := 44) dX8_dueInOf_40 (by decide) ?_
        refine p_iadd dX8_dueInOf_44 ?_
        refine p_istore_n (lv' := [(3, .int (zi (x3 + 1))), (0, .ref a), (1, .int (zi x1)), (2, .int (zi x2)), (4, .int (zi x4))]) dX8_dueInOf_45 rfl (by decide) rfl ?_
        refine p_iinc (q := 4) (lv' := [(4, .int (zi (x4 + 1))), (3, .int (zi (x3 + 1))), (0, .ref a), (1, .int (zi x1)), (2, .int (zi x2))]) dX8_dueInOf_46 rfl (by decide) rfl ?_
        refine p_goto (tgt := 5) dX8_dueInOf_49 (by decide) ?_
        refine p_sub (lv' := [(0, .ref a), (1, .int (zi x1)), (2, .int (zi x2)), (3, .int (zi (zw (x3 + 1)))), (4, .int (zi (zw (x4 + 1))))]) [2, 3, 4, 1, 0] (by simp only [zi_zw, zl_zwl]; rfl) ?_
        exact h
set_option maxRecDepth 20000 in
set_option maxHeartbeats 4000000 in
theorem v_X8_dueInOf_55 {g : zG} (G : zOK g) {S : zSh} {im : zIm} {a : Nat} {x1 : Int} {x2 : Int} {x3 : Int} {x4 : Int} {Q : Int → zIm → Prop} (hS : zS_M S a) (c_x1 : zc x1) (c_x2 : zc x2) (c_x3 : zc x3) (c_x4 : zc x4)
    (h : (((im (a + 1) 6) ≤ x4 → Q x3 im) ∧ (x4 < (im (a + 1) 6) → zCI g yX8_order M_X8_order [.ref a, .int (zi x4), .int (zi 0)] S im (fun r2 im3 => ((¬ r2 = x2 → zPI g M_X8_dueInOf 55 [(0, .ref a), (1, .int (zi x1)), (2, .int (zi x2)), (3, .int (zi (zw (x3 + 0)))), (4, .int (zi (zw (x4 + 1))))] S im3 Q) ∧ (r2 = x2 → zCI g yX8_order M_X8_order [.ref a, .int (zi x4), .int (zi 1)] S im3 (fun r5 im6 => ((¬ r5 = x1 → zPI g M_X8_dueInOf 55 [(0, .ref a), (1, .int (zi x1)), (2, .int (zi x2)), (3, .int (zi (zw (x3 + 0)))), (4, .int (zi (zw (x4 + 1))))] S im6 Q) ∧ (r5 = x1 → zPI g M_X8_dueInOf 55 [(0, .ref a), (1, .int (zi x1)), (2, .int (zi x2)), (3, .int (zi (zw (x3 + 1)))), (4, .int (zi (zw (x4 + 1))))] S im6 Q))))))))) :
    zPI g M_X8_dueInOf 55 [(0, .ref a), (1, .int (zi x1)), (2, .int (zi x2)), (3, .int (zi x3)), (4, .int (zi x4))] S im Q := by
  refine p_iload dX8_dueInOf_55 (q := 4) rfl ?_
  refine p_aload_n dX8_dueInOf_57 rfl (q := 0) rfl ?_
  refine p_getR (b := (a + 1)) G f_RX8_7 rfl (hS 0 (by decide)).1 ((hS 0 (by decide)).2.2 0 (by decide)) dX8_dueInOf_58 ?_
  refine p_bipush dX8_dueInOf_61 (by decide) ?_
  refine p_iald G (hS 1 (by decide)).1 (nf_k (by decide)) (by decide) (zln_lt (hS 1 (by decide)).2.1 (by decide)) dX8_dueInOf_63 (fun c1 => ?_)
  refine p_icmp_ge (tgt := 103) dX8_dueInOf_64 (by decide) (nf_r c_x4) (nf_r c1) (fun b2 => ?_) (fun b2 => ?_)
  · have h := h.1 b2
    refine p_iload_n dX8_dueInOf_103 rfl (q := 3) rfl ?_
    exact p_iretI (by decide) (by decide) rfl (nf_r c_x3) dX8_dueInOf_104 h
  · have h := h.2 b2
    refine p_iload_n dX8_dueInOf_67 rfl (q := 3) rfl ?_
    refine p_aload_n dX8_dueInOf_68 rfl (q := 0) rfl ?_
    refine p_iload dX8_dueInOf_69 (q := 4) rfl ?_
    refine p_iconst dX8_dueInOf_71 ?_
    refine p_VI G k_RX8_96 (by decide) (hS 0 (by decide)).1 rfl rfl (Nat.le_of_ble_eq_true rfl) ⟨by decide, by decide⟩ ⟨by decide, by decide⟩ dX8_dueInOf_72 h (fun r2 im3 c4 h => ?_)
    refine p_iload_n dX8_dueInOf_75 rfl (q := 2) rfl ?_
    refine p_icmp_ne (tgt := 94) dX8_dueInOf_76 (by decide) (nf_r c4) (nf_r c_x2) (fun b5 => ?_) (fun b5 => ?_)
    · have h := h.1 b5
      refine p_iconst dX8_dueInOf_94 ?_
      refine p_iadd dX8_dueInOf_95 ?_
      refine p_istore_n (lv' := [(3, .int (zi (x3 + 0))), (0, .ref a), (1, .int (zi x1)), (2, .int (zi x2)), (4, .int (zi x4))]) dX8_dueInOf_96 rfl (by decide) rfl ?_
      refine p_iinc (q := 4) (lv' := [(4, .int (zi (x4 + 1))), (3, .int (zi (x3 + 0))), (0, .ref a), (1, .int (zi x1)), (2, .int (zi x2))]) dX8_dueInOf_97 rfl (by decide) rfl ?_
      refine p_goto (tgt := 55) dX8_dueInOf_100 (by decide) ?_
      refine p_sub (lv' := [(0, .ref a), (1, .int (zi x1)), (2, .int (zi x2)), (3, .int (zi (zw (x3 + 0)))), (4, .int (zi (zw (x4 + 1))))]) [2, 3, 4, 1, 0] (by simp only [zi_zw, zl_zwl]; rfl) ?_
      exact h
    · have h := h.2 b5
      refine p_aload_n dX8_dueInOf_79 rfl (q := 0) rfl ?_
      refine p_iload dX8_dueInOf_80 (q := 4) rfl ?_
      refine p_iconst dX8_dueInOf_82 ?_
      refine p_VI G k_RX8_96 (by decide) (hS 0 (by decide)).1 rfl rfl (Nat.le_of_ble_eq_true rfl) ⟨by decide, by decide⟩ ⟨by decide, by decide⟩ dX8_dueInOf_83 h (fun r5 im6 c7 h => ?_)
      refine p_iload_n dX8_dueInOf_86 rfl (q := 1) rfl ?_
      refine p_icmp_ne (tgt := 94) dX8_dueInOf_87 (by decide) (nf_r c7) (nf_r c_x1) (fun b8 => ?_) (fun b8 => ?_)
      · have h := h.1 b8
        refine p_iconst dX8_dueInOf_94 ?_
        refine p_iadd dX8_dueInOf_95 ?_
        refine p_istore_n (lv' := [(3, .int (zi (x3 + 0))), (0, .ref a), (1, .int (zi x1)), (2, .int (zi x2)), (4, .int (zi x4))]) dX8_dueInOf_96 rfl (by decide) rfl ?_
        refine p_iinc (q := 4) (lv' := [(4, .int (zi (x4 + 1))), (3, .int (zi (x3 + 0))), (0, .ref a), (1, .int (zi x1)), (2, .int (zi x2))]) dX8_dueInOf_97 rfl (by decide) rfl ?_
        refine p_goto (tgt := 55) dX8_dueInOf_100 (by decide) ?_
        refine p_sub (lv' := [(0, .ref a), (1, .int (zi x1)), (2, .int (zi x2)), (3, .int (zi (zw (x3 + 0)))), (4, .int (zi (zw (x4 + 1))))]) [2, 3, 4, 1, 0] (by simp only [zi_zw, zl_zwl]; rfl) ?_
        exact h
      · have h := h.2 b8
        refine p_iconst dX8_dueInOf_90 ?_
        refine p_goto (tgt := 95) dX8_dueInOf_91 (by decide) ?_
        refine p_iadd dX8_dueInOf_95 ?_
        refine p_istore_n (lv' := [(3, .int (zi (x3 + 1))), (0, .ref a), (1, .int (zi x1)), (2, .int (zi x2)), (4, .int (zi x4))]) dX8_dueInOf_96 rfl (by decide) rfl ?_
        refine p_iinc (q := 4) (lv' := [(4, .int (zi (x4 + 1))), (3, .int (zi (x3 + 1))), (0, .ref a), (1, .int (zi x1)), (2, .int (zi x2))]) dX8_dueInOf_97 rfl (by decide) rfl ?_
        refine p_goto (tgt := 55) dX8_dueInOf_100 (by decide) ?_
        refine p_sub (lv' := [(0, .ref a), (1, .int (zi x1)), (2, .int (zi x2)), (3, .int (zi (zw (x3 + 1)))), (4, .int (zi (zw (x4 + 1))))]) [2, 3, 4, 1, 0] (by simp only [zi_zw, zl_zwl]; rfl) ?_
        exact h
set_option maxRecDepth 20000 in
set_option maxHeartbeats 4000000 in
theorem v_X8_dueIn {g : zG} (G : zOK g) {S : zSh} {im : zIm} {a : Nat} {p1 : Int} {p2 : Int} {Q : Int → zIm → Prop} (hS : zS_M S a) (c_p1 : zc p1) (c_p2 : zc p2)
    (h : ∀ im1, im1 = zst im a 4 0 → zCI g yX8_isBase M_X8_isBase [.ref a, .int (zi p1)] S im1 (fun r3 im4 => ((r3 = 0 → zCI g yX8_fail M_X8_fail [.ref a, .int (zi 1)] S im4 (fun r6 im7 => Q r6 im7)) ∧ (¬ r3 = 0 → zCI g yX8_isItem M_X8_isItem [.ref a, .int (zi p2)] S im4 (fun r6 im7 => ((r6 = 0 → zCI g yX8_fail M_X8_fail [.ref a, .int (zi 1)] S im7 (fun r9 im10 => Q r9 im10)) ∧ (¬ r6 = 0 → zCI g yX8_dueInOf M_X8_dueInOf [.ref a, .int (zi p1), .int (zi p2)] S im7 (fun r9 im10 => Q r9 im10)))))))) :
    zCI g yX8_dueIn M_X8_dueIn [.ref a, .int (zi p1), .int (zi p2)] S im Q := by
  refine zC_of (by decide) rfl rfl rfl rfl (Nat.le_of_ble_eq_true rfl) ?_
  refine p_aload_n dX8_dueIn_0 rfl (q := 0) rfl ?_
  refine p_iconst dX8_dueIn_1 ?_
  refine p_putI (j := 4) G f_RX8_30 rfl rfl rfl (hS 0 (by decide)).1 (nf_k (by decide)) dX8_dueIn_2 ?_
  refine p_gen (fun im1 e2 => ?_)
  have h := h im1 e2
  refine p_aload_n dX8_dueIn_5 rfl (q := 0) rfl ?_
  refine p_iload_n dX8_dueIn_6 rfl (q := 1) rfl ?_
  refine p_VI G k_RX8_55 (by decide) (hS 0 (by decide)).1 rfl rfl (Nat.le_of_ble_eq_true rfl) ⟨by decide, by decide⟩ ⟨by decide, by decide⟩ dX8_dueIn_7 h (fun r3 im4 c5 h => ?_)
  refine p_if_eq (tgt := 30) dX8_dueIn_10 (by decide) (nf_r c5) (fun b6 => ?_) (fun b6 => ?_)
  · have h := h.1 b6
    refine p_aload_n dX8_dueIn_30 rfl (q := 0) rfl ?_
    refine p_iconst dX8_dueIn_31 ?_
    refine p_VI G k_RX8_41 (by decide) (hS 0 (by decide)).1 rfl rfl (Nat.le_of_ble_eq_true rfl) ⟨by decide, by decide⟩ ⟨by decide, by decide⟩ dX8_dueIn_32 h (fun r6 im7 c8 h => ?_)
    exact p_iretI (by decide) (by decide) rfl (nf_r c8) dX8_dueIn_35 h
  · have h := h.2 b6
    refine p_aload_n dX8_dueIn_13 rfl (q := 0) rfl ?_
    refine p_iload_n dX8_dueIn_14 rfl (q := 2) rfl ?_
    refine p_VI G k_RX8_81 (by decide) (hS 0 (by decide)).1 rfl rfl (Nat.le_of_ble_eq_true rfl) ⟨by decide, by decide⟩ ⟨by decide, by decide⟩ dX8_dueIn_15 h (fun r6 im7 c8 h => ?_)
    refine p_if_eq (tgt := 30) dX8_dueIn_18 (by decide) (nf_r c8) (fun b9 => ?_) (fun b9 => ?_)
    · have h := h.1 b9
      refine p_aload_n dX8_dueIn_30 rfl (q := 0) rfl ?_
      refine p_iconst dX8_dueIn_31 ?_
      refine p_VI G k_RX8_41 (by decide) (hS 0 (by decide)).1 rfl rfl (Nat.le_of_ble_eq_true rfl) ⟨by decide, by decide⟩ ⟨by decide, by decide⟩ dX8_dueIn_32 h (fun r9 im10 c11 h => ?_)
      exact p_iretI (by decide) (by decide) rfl (nf_r c11) dX8_dueIn_35 h
    · have h := h.2 b9
      refine p_aload_n dX8_dueIn_21 rfl (q := 0) rfl ?_
      refine p_iload_n dX8_dueIn_22 rfl (q := 1) rfl ?_
      refine p_iload_n dX8_dueIn_23 rfl (q := 2) rfl ?_
      refine p_VI G k_RX8_189 (by decide) (hS 0 (by decide)).1 rfl rfl (Nat.le_of_ble_eq_true rfl) ⟨by decide, by decide⟩ ⟨by decide, by decide⟩ dX8_dueIn_24 h (fun r9 im10 c11 h => ?_)
      refine p_goto (tgt := 35) dX8_dueIn_27 (by decide) ?_
      exact p_iretI (by decide) (by decide) rfl (nf_r c11) dX8_dueIn_35 h
set_option maxRecDepth 20000 in
set_option maxHeartbeats 4000000 in
theorem v_X8_position {g : zG} (G : zOK g) {S : zSh} {im : zIm} {a : Nat} {p1 : Int} {p2 : Int} {Q : Int → zIm → Prop} (hS : zS_M S a) (c_p1 : zc p1) (c_p2 : zc p2)
    (h : ∀ im1, im1 = zst im a 4 0 → zCI g yX8_isBase M_X8_isBase [.ref a, .int (zi p1)] S im1 (fun r3 im4 => ((r3 = 0 → zCI g yX8_fail M_X8_fail [.ref a, .int (zi 1)] S im4 (fun r6 im7 => Q r6 im7)) ∧ (¬ r3 = 0 → zCI g yX8_isItem M_X8_isItem [.ref a, .int (zi p2)] S im4 (fun r6 im7 => ((r6 = 0 → zCI g yX8_fail M_X8_fail [.ref a, .int (zi 1)] S im7 (fun r9 im10 => Q r9 im10)) ∧ (¬ r6 = 0 → zCI g yX8_at M_X8_at [.int (zi 124), .int (zi p1), .int (zi p2)] S im7 (fun r9 im10 => ((0 ≤ r9 ∧ r9 < 7692) ∧ zCI g yX8_dueInOf M_X8_dueInOf [.ref a, .int (zi p1), .int (zi p2)] S im10 (fun r14 im15 => zCI g yX8_waitingOf M_X8_waitingOf [.ref a, .int (zi p1), .int (zi p2)] S im15 (fun r17 im18 => Q (zw (((im10 (a + 1) r9) + r14) - r17)) im18))))))))))) :
    zCI g yX8_position M_X8_position [.ref a, .int (zi p1), .int (zi p2)] S im Q := by
  refine zC_of (by decide) rfl rfl rfl rfl (Nat.le_of_ble_eq_true rfl) ?_
  refine p_aload_n dX8_position_0 rfl (q := 0) rfl ?_
  refine p_iconst dX8_position_1 ?_
  refine p_putI (j := 4) G f_RX8_30 rfl rfl rfl (hS 0 (by decide)).1 (nf_k (by decide)) dX8_position_2 ?_
  refine p_gen (fun im1 e2 => ?_)
  have h := h im1 e2
  refine p_aload_n dX8_position_5 rfl (q := 0) rfl ?_
  refine p_iload_n dX8_position_6 rfl (q := 1) rfl ?_
  refine p_VI G k_RX8_55 (by decide) (hS 0 (by decide)).1 rfl rfl (Nat.le_of_ble_eq_true rfl) ⟨by decide, by decide⟩ ⟨by decide, by decide⟩ dX8_position_7 h (fun r3 im4 c5 h => ?_)
  refine p_if_eq (tgt := 50) dX8_position_10 (by decide) (nf_r c5) (fun b6 => ?_) (fun b6 => ?_)
  · have h := h.1 b6
    refine p_aload_n dX8_position_50 rfl (q := 0) rfl ?_
    refine p_iconst dX8_position_51 ?_
    refine p_VI G k_RX8_41 (by decide) (hS 0 (by decide)).1 rfl rfl (Nat.le_of_ble_eq_true rfl) ⟨by decide, by decide⟩ ⟨by decide, by decide⟩ dX8_position_52 h (fun r6 im7 c8 h => ?_)
    exact p_iretI (by decide) (by decide) rfl (nf_r c8) dX8_position_55 h
  · have h := h.2 b6
    refine p_aload_n dX8_position_13 rfl (q := 0) rfl ?_
    refine p_iload_n dX8_position_14 rfl (q := 2) rfl ?_
    refine p_VI G k_RX8_81 (by decide) (hS 0 (by decide)).1 rfl rfl (Nat.le_of_ble_eq_true rfl) ⟨by decide, by decide⟩ ⟨by decide, by decide⟩ dX8_position_15 h (fun r6 im7 c8 h => ?_)
    refine p_if_eq (tgt := 50) dX8_position_18 (by decide) (nf_r c8) (fun b9 => ?_) (fun b9 => ?_)
    · have h := h.1 b9
      refine p_aload_n dX8_position_50 rfl (q := 0) rfl ?_
      refine p_iconst dX8_position_51 ?_
      refine p_VI G k_RX8_41 (by decide) (hS 0 (by decide)).1 rfl rfl (Nat.le_of_ble_eq_true rfl) ⟨by decide, by decide⟩ ⟨by decide, by decide⟩ dX8_position_52 h (fun r9 im10 c11 h => ?_)
      exact p_iretI (by decide) (by decide) rfl (nf_r c11) dX8_position_55 h
    · have h := h.2 b9
      refine p_aload_n dX8_position_21 rfl (q := 0) rfl ?_
      refine p_getR (b := (a + 1)) G f_RX8_7 rfl (hS 0 (by decide)).1 ((hS 0 (by decide)).2.2 0 (by decide)) dX8_position_22 ?_
      refine p_bipush dX8_position_25 (by decide) ?_
      refine p_iload_n dX8_position_27 rfl (q := 1) rfl ?_
      refine p_iload_n dX8_position_28 rfl (q := 2) rfl ?_
      refine p_SI G k_RX8_62 rfl rfl (Nat.le_of_ble_eq_true rfl) ⟨by decide, by decide⟩ ⟨by decide, by decide⟩ dX8_position_29 h (fun r9 im10 c11 h => ?_)
      have g13 := h.1
      have h := h.2
      refine p_iald G (hS 1 (by decide)).1 (nf_r c11) g13.1 (zln_lt (hS 1 (by decide)).2.1 g13.2) dX8_position_32 (fun c12 => ?_)
      refine p_aload_n dX8_position_33 rfl (q := 0) rfl ?_
      refine p_iload_n dX8_position_34 rfl (q := 1) rfl ?_
      refine p_iload_n dX8_position_35 rfl (q := 2) rfl ?_
      refine p_VI G k_RX8_189 (by decide) (hS 0 (by decide)).1 rfl rfl (Nat.le_of_ble_eq_true rfl) ⟨by decide, by decide⟩ ⟨by decide, by decide⟩ dX8_position_36 h (fun r14 im15 c16 h => ?_)
      refine p_iadd dX8_position_39 ?_
      refine p_aload_n dX8_position_40 rfl (q := 0) rfl ?_
      refine p_iload_n dX8_position_41 rfl (q := 1) rfl ?_
      refine p_iload_n dX8_position_42 rfl (q := 2) rfl ?_
      refine p_VI G k_RX8_186 (by decide) (hS 0 (by decide)).1 rfl rfl (Nat.le_of_ble_eq_true rfl) ⟨by decide, by decide⟩ ⟨by decide, by decide⟩ dX8_position_43 h (fun r17 im18 c19 h => ?_)
      refine p_isub dX8_position_46 ?_
      refine p_goto (tgt := 55) dX8_position_47 (by decide) ?_
      exact p_iretI (by decide) (by decide) rfl (nf_w _) dX8_position_55 h
set_option maxRecDepth 20000 in
set_option maxHeartbeats 4000000 in
theorem v_X8_underWay {g : zG} (G : zOK g) {S : zSh} {im : zIm} {a : Nat} {p1 : Int} {p2 : Int} {Q : Int → zIm → Prop} (hS : zS_M S a) (c_p1 : zc p1) (c_p2 : zc p2)
    (h : ∀ im1, im1 = zst im a 4 0 → zCI g yX8_isItem M_X8_isItem [.ref a, .int (zi p1)] S im1 (fun r3 im4 => ((¬ r3 = 0 → zCI g yX8_isBetween M_X8_isBetween [.int (zi p2), .int (zi 0), .int (zi 4)] S im4 (fun r6 im7 => ((¬ r6 = 0 → zPI g M_X8_underWay 39 [(0, .ref a), (1, .int (zi p1)), (2, .int (zi p2)), (3, .int (zi 0)), (4, .int (zi 0))] S im7 Q) ∧ (r6 = 0 → zCI g yX8_fail M_X8_fail [.ref a, .int (zi 2)] S im7 (fun r9 im10 => Q r9 im10))))) ∧ (r3 = 0 → zCI g yX8_fail M_X8_fail [.ref a, .int (zi 1)] S im4 (fun r6 im7 => Q r6 im7))))) :
    zCI g yX8_underWay M_X8_underWay [.ref a, .int (zi p1), .int (zi p2)] S im Q := by
  refine zC_of (by decide) rfl rfl rfl rfl (Nat.le_of_ble_eq_true rfl) ?_
  refine p_aload_n dX8_underWay_0 rfl (q := 0) rfl ?_
  refine p_iconst dX8_underWay_1 ?_
  refine p_putI (j := 4) G f_RX8_30 rfl rfl rfl (hS 0 (by decide)).1 (nf_k (by decide)) dX8_underWay_2 ?_
  refine p_gen (fun im1 e2 => ?_)
  have h := h im1 e2
  refine p_aload_n dX8_underWay_5 rfl (q := 0) rfl ?_
  refine p_iload_n dX8_underWay_6 rfl (q := 1) rfl ?_
  refine p_VI G k_RX8_81 (by decide) (hS 0 (by decide)).1 rfl rfl (Nat.le_of_ble_eq_true rfl) ⟨by decide, by decide⟩ ⟨by decide, by decide⟩ dX8_underWay_7 h (fun r3 im4 c5 h => ?_)
  refine p_if_ne (tgt := 19) dX8_underWay_10 (by decide) (nf_r c5) (fun b6 => ?_) (fun b6 => ?_)
  · have h := h.1 b6
    refine p_iload_n dX8_underWay_19 rfl (q := 2) rfl ?_
    refine p_iconst dX8_underWay_20 ?_
    refine p_iconst dX8_underWay_21 ?_
    refine p_SI G k_RX8_33 rfl rfl (Nat.le_of_ble_eq_true rfl) ⟨by decide, by decide⟩ ⟨by decide, by decide⟩ dX8_underWay_22 h (fun r6 im7 c8 h => ?_)
    refine p_if_ne (tgt := 34) dX8_underWay_25 (by decide) (nf_r c8) (fun b9 => ?_) (fun b9 => ?_)
    · have h := h.1 b9
      refine p_iconst dX8_underWay_34 ?_
      refine p_istore_n (lv' := [(3, .int (zi 0)), (0, .ref a), (1, .int (zi p1)), (2, .int (zi p2))]) dX8_underWay_35 rfl (by decide) rfl ?_
      refine p_iconst dX8_underWay_36 ?_
      refine p_istore (lv' := [(4, .int (zi 0)), (3, .int (zi 0)), (0, .ref a), (1, .int (zi p1)), (2, .int (zi p2))]) dX8_underWay_37 (by decide) rfl ?_
      refine p_sub (lv' := [(0, .ref a), (1, .int (zi p1)), (2, .int (zi p2)), (3, .int (zi 0)), (4, .int (zi 0))]) [2, 3, 4, 1, 0] rfl ?_
      exact h
    · have h := h.2 b9
      refine p_aload_n dX8_underWay_28 rfl (q := 0) rfl ?_
      refine p_iconst dX8_underWay_29 ?_
      refine p_VI G k_RX8_41 (by decide) (hS 0 (by decide)).1 rfl rfl (Nat.le_of_ble_eq_true rfl) ⟨by decide, by decide⟩ ⟨by decide, by decide⟩ dX8_underWay_30 h (fun r9 im10 c11 h => ?_)
      exact p_iretI (by decide) (by decide) rfl (nf_r c11) dX8_underWay_33 h
  · have h := h.2 b6
    refine p_aload_n dX8_underWay_13 rfl (q := 0) rfl ?_
    refine p_iconst dX8_underWay_14 ?_
    refine p_VI G k_RX8_41 (by decide) (hS 0 (by decide)).1 rfl rfl (Nat.le_of_ble_eq_true rfl) ⟨by decide, by decide⟩ ⟨by decide, by decide⟩ dX8_underWay_15 h (fun r6 im7 c8 h => ?_)
    exact p_iretI (by decide) (by decide) rfl (nf_r c8) dX8_underWay_18 h
set_option maxRecDepth 20000 in
set_option maxHeartbeats 4000000 in
theorem v_X8_underWay_39 {g : zG} (G : zOK g) {S : zSh} {im : zIm} {a : Nat} {x1 : Int} {x2 : Int} {x3 : Int} {x4 : Int} {Q : Int → zIm → Prop} (hS : zS_M S a) (c_x1 : zc x1) (c_x2 : zc x2) (c_x3 : zc x3) (c_x4 : zc x4)
    (h : (((im (a + 1) 4) ≤ x4 → Q x3 im) ∧ (x4 < (im (a + 1) 4) → zCI g yX8_unit M_X8_unit [.ref a, .int (zi x4), .int (zi 1)] S im (fun r2 im3 => ((¬ r2 = x1 → zPI g M_X8_underWay 39 [(0, .ref a), (1, .int (zi x1)), (2, .int (zi x2)), (3, .int (zi (zw (x3 + 0)))), (4, .int (zi (zw (x4 + 1))))] S im3 Q) ∧ (r2 = x1 → zCI g yX8_unit M_X8_unit [.ref a, .int (zi x4), .int (zi 0)] S im3 (fun r5 im6 => ((¬ r5 = x2 → zPI g M_X8_underWay 39 [(0, .ref a), (1, .int (zi x1)), (2, .int (zi x2)), (3, .int (zi (zw (x3 + 0)))), (4, .int (zi (zw (x4 + 1))))] S im6 Q) ∧ (r5 = x2 → zPI g M_X8_underWay 39 [(0, .ref a), (1, .int (zi x1)), (2, .int (zi x2)), (3, .int (zi (zw (x3 + 1)))), (4, .int (zi (zw (x4 + 1))))] S im6 Q))))))))) :
    zPI g M_X8_underWay 39 [(0, .ref a), (1, .int (zi x1)), (2, .int (zi x2)), (3, .int (zi x3)), (4, .int (zi x4))] S im Q := by
  refine p_iload dX8_underWay_39 (q := 4) rfl ?_
  refine p_aload_n dX8_underWay_41 rfl (q := 0) rfl ?_
  refine p_getR (b := (a + 1)) G f_RX8_7 rfl (hS 0 (by decide)).1 ((hS 0 (by decide)).2.2 0 (by decide)) dX8_underWay_42 ?_
  refine p_iconst dX8_underWay_45 ?_
  refine p_iald G (hS 1 (by decide)).1 (nf_k (by decide)) (by decide) (zln_lt (hS 1 (by decide)).2.1 (by decide)) dX8_underWay_46 (fun c1 => ?_)
  refine p_icmp_ge (tgt := 86) dX8_underWay_47 (by decide) (nf_r c_x4) (nf_r c1) (fun b2 => ?_) (fun b2 => ?_)
  · have h := h.1 b2
    refine p_iload_n dX8_underWay_86 rfl (q := 3) rfl ?_
    exact p_iretI (by decide) (by decide) rfl (nf_r c_x3) dX8_underWay_87 h
  · have h := h.2 b2
    refine p_iload_n dX8_underWay_50 rfl (q := 3) rfl ?_
    refine p_aload_n dX8_underWay_51 rfl (q := 0) rfl ?_
    refine p_iload dX8_underWay_52 (q := 4) rfl ?_
    refine p_iconst dX8_underWay_54 ?_
    refine p_VI G k_RX8_137 (by decide) (hS 0 (by decide)).1 rfl rfl (Nat.le_of_ble_eq_true rfl) ⟨by decide, by decide⟩ ⟨by decide, by decide⟩ dX8_underWay_55 h (fun r2 im3 c4 h => ?_)
    refine p_iload_n dX8_underWay_58 rfl (q := 1) rfl ?_
    refine p_icmp_ne (tgt := 77) dX8_underWay_59 (by decide) (nf_r c4) (nf_r c_x1) (fun b5 => ?_) (fun b5 => ?_)
    · have h := h.1 b5
      refine p_iconst dX8_underWay_77 ?_
      refine p_iadd dX8_underWay_78 ?_
      refine p_istore_n (lv' := [(3, .int (zi (x3 + 0))), (0, .ref a), (1, .int (zi x1)), (2, .int (zi x2)), (4, .int (zi x4))]) dX8_underWay_79 rfl (by decide) rfl ?_
      refine p_iinc (q := 4) (lv' := [(4, .int (zi (x4 + 1))), (3, .int (zi (x3 + 0))), (0, .ref a), (1, .int (zi x1)), (2, .int (zi x2))]) dX8_underWay_80 rfl (by decide) rfl ?_
      refine p_goto (tgt := 39) dX8_underWay_83 (by decide) ?_
      refine p_sub (lv' := [(0, .ref a), (1, .int (zi x1)), (2, .int (zi x2)), (3, .int (zi (zw (x3 + 0)))), (4, .int (zi (zw (x4 + 1))))]) [2, 3, 4, 1, 0] (by simp only [zi_zw, zl_zwl]; rfl) ?_
      exact h
    · have h := h.2 b5
      refine p_aload_n dX8_underWay_62 rfl (q := 0) rfl ?_
      refine p_iload dX8_underWay_63 (q := 4) rfl ?_
      refine p_iconst dX8_underWay_65 ?_
      refine p_VI G k_RX8_137 (by decide) (hS 0 (by decide)).1 rfl rfl (Nat.le_of_ble_eq_true rfl) ⟨by decide, by decide⟩ ⟨by decide, by decide⟩ dX8_underWay_66 h (fun r5 im6 c7 h => ?_)
      refine p_iload_n dX8_underWay_69 rfl (q := 2) rfl ?_
      refine p_icmp_ne (tgt := 77) dX8_underWay_70 (by decide) (nf_r c7) (nf_r c_x2) (fun b8 => ?_) (fun b8 => ?_)
      · have h := h.1 b8
        refine p_iconst dX8_underWay_77 ?_
        refine p_iadd dX8_underWay_78 ?_
        refine p_istore_n (lv' := [(3, .int (zi (x3 + 0))), (0, .ref a), (1, .int (zi x1)), (2, .int (zi x2)), (4, .int (zi x4))]) dX8_underWay_79 rfl (by decide) rfl ?_
        refine p_iinc (q := 4) (lv' := [(4, .int (zi (x4 + 1))), (3, .int (zi (x3 + 0))), (0, .ref a), (1, .int (zi x1)), (2, .int (zi x2))]) dX8_underWay_80 rfl (by decide) rfl ?_
        refine p_goto (tgt := 39) dX8_underWay_83 (by decide) ?_
        refine p_sub (lv' := [(0, .ref a), (1, .int (zi x1)), (2, .int (zi x2)), (3, .int (zi (zw (x3 + 0)))), (4, .int (zi (zw (x4 + 1))))]) [2, 3, 4, 1, 0] (by simp only [zi_zw, zl_zwl]; rfl) ?_
        exact h
      · have h := h.2 b8
        refine p_iconst dX8_underWay_73 ?_
        refine p_goto (tgt := 78) dX8_underWay_74 (by decide) ?_
        refine p_iadd dX8_underWay_78 ?_
        refine p_istore_n (lv' := [(3, .int (zi (x3 + 1))), (0, .ref a), (1, .int (zi x1)), (2, .int (zi x2)), (4, .int (zi x4))]) dX8_underWay_79 rfl (by decide) rfl ?_
        refine p_iinc (q := 4) (lv' := [(4, .int (zi (x4 + 1))), (3, .int (zi (x3 + 1))), (0, .ref a), (1, .int (zi x1)), (2, .int (zi x2))]) dX8_underWay_80 rfl (by decide) rfl ?_
        refine p_goto (tgt := 39) dX8_underWay_83 (by decide) ?_
        refine p_sub (lv' := [(0, .ref a), (1, .int (zi x1)), (2, .int (zi x2)), (3, .int (zi (zw (x3 + 1)))), (4, .int (zi (zw (x4 + 1))))]) [2, 3, 4, 1, 0] (by simp only [zi_zw, zl_zwl]; rfl) ?_
        exact h
set_option maxRecDepth 20000 in
set_option maxHeartbeats 4000000 in
theorem v_X8_fleet {g : zG} (G : zOK g) {S : zSh} {im : zIm} {a : Nat} {p1 : Int} {Q : Int → zIm → Prop} (hS : zS_M S a) (c_p1 : zc p1)
    (h : ∀ im1, im1 = zst im a 4 0 → zCI g yX8_isItem M_X8_isItem [.ref a, .int (zi p1)] S im1 (fun r3 im4 => ((¬ r3 = 0 → zPI g M_X8_fleet 23 [(0, .ref a), (1, .int (zi p1)), (2, .int (zi 0)), (3, .int (zi 0))] S im4 Q) ∧ (r3 = 0 → zCI g yX8_fail M_X8_fail [.ref a, .int (zi 1)] S im4 (fun r6 im7 => Q r6 im7))))) :
    zCI g yX8_fleet M_X8_fleet [.ref a, .int (zi p1)] S im Q := by
  refine zC_of (by decide) rfl rfl rfl rfl (Nat.le_of_ble_eq_true rfl) ?_
  refine p_aload_n dX8_fleet_0 rfl (q := 0) rfl ?_
  refine p_iconst dX8_fleet_1 ?_
  refine p_putI (j := 4) G f_RX8_30 rfl rfl rfl (hS 0 (by decide)).1 (nf_k (by decide)) dX8_fleet_2 ?_
  refine p_gen (fun im1 e2 => ?_)
  have h := h im1 e2
  refine p_aload_n dX8_fleet_5 rfl (q := 0) rfl ?_
  refine p_iload_n dX8_fleet_6 rfl (q := 1) rfl ?_
  refine p_VI G k_RX8_81 (by decide) (hS 0 (by decide)).1 rfl rfl (Nat.le_of_ble_eq_true rfl) ⟨by decide, by decide⟩ ⟨by decide, by decide⟩ dX8_fleet_7 h (fun r3 im4 c5 h => ?_)
  refine p_if_ne (tgt := 19) dX8_fleet_10 (by decide) (nf_r c5) (fun b6 => ?_) (fun b6 => ?_)
  · have h := h.1 b6
    refine p_iconst dX8_fleet_19 ?_
    refine p_istore_n (lv' := [(2, .int (zi 0)), (0, .ref a), (1, .int (zi p1))]) dX8_fleet_20 rfl (by decide) rfl ?_
    refine p_iconst dX8_fleet_21 ?_
    refine p_istore_n (lv' := [(3, .int (zi 0)), (2, .int (zi 0)), (0, .ref a), (1, .int (zi p1))]) dX8_fleet_22 rfl (by decide) rfl ?_
    refine p_sub (lv' := [(0, .ref a), (1, .int (zi p1)), (2, .int (zi 0)), (3, .int (zi 0))]) [2, 3, 1, 0] rfl ?_
    exact h
  · have h := h.2 b6
    refine p_aload_n dX8_fleet_13 rfl (q := 0) rfl ?_
    refine p_iconst dX8_fleet_14 ?_
    refine p_VI G k_RX8_41 (by decide) (hS 0 (by decide)).1 rfl rfl (Nat.le_of_ble_eq_true rfl) ⟨by decide, by decide⟩ ⟨by decide, by decide⟩ dX8_fleet_15 h (fun r6 im7 c8 h => ?_)
    exact p_iretI (by decide) (by decide) rfl (nf_r c8) dX8_fleet_18 h
set_option maxRecDepth 20000 in
set_option maxHeartbeats 4000000 in
theorem v_X8_fleet_23 {g : zG} (G : zOK g) {S : zSh} {im : zIm} {a : Nat} {x1 : Int} {x2 : Int} {x3 : Int} {Q : Int → zIm → Prop} (hS : zS_M S a) (c_x1 : zc x1) (c_x2 : zc x2) (c_x3 : zc x3)
    (h : (((im (a + 1) 4) ≤ x3 → zPI g M_X8_fleet 59 [(0, .ref a), (1, .int (zi x1)), (2, .int (zi x2)), (3, .int (zi 0))] S im Q) ∧ (x3 < (im (a + 1) 4) → zCI g yX8_unit M_X8_unit [.ref a, .int (zi x3), .int (zi 1)] S im (fun r2 im3 => ((¬ r2 = x1 → zPI g M_X8_fleet 23 [(0, .ref a), (1, .int (zi x1)), (2, .int (zi (zw (x2 + 0)))), (3, .int (zi (zw (x3 + 1))))] S im3 Q) ∧ (r2 = x1 → zPI g M_X8_fleet 23 [(0, .ref a), (1, .int (zi x1)), (2, .int (zi (zw (x2 + 1)))), (3, .int (zi (zw (x3 + 1))))] S im3 Q)))))) :
    zPI g M_X8_fleet 23 [(0, .ref a), (1, .int (zi x1)), (2, .int (zi x2)), (3, .int (zi x3))] S im Q := by
  refine p_iload_n dX8_fleet_23 rfl (q := 3) rfl ?_
  refine p_aload_n dX8_fleet_24 rfl (q := 0) rfl ?_
  refine p_getR (b := (a + 1)) G f_RX8_7 rfl (hS 0 (by decide)).1 ((hS 0 (by decide)).2.2 0 (by decide)) dX8_fleet_25 ?_
  refine p_iconst dX8_fleet_28 ?_
  refine p_iald G (hS 1 (by decide)).1 (nf_k (by decide)) (by decide) (zln_lt (hS 1 (by decide)).2.1 (by decide)) dX8_fleet_29 (fun c1 => ?_)
  refine p_icmp_ge (tgt := 57) dX8_fleet_30 (by decide) (nf_r c_x3) (nf_r c1) (fun b2 => ?_) (fun b2 => ?_)
  · have h := h.1 b2
    refine p_iconst dX8_fleet_57 ?_
    refine p_istore_n (lv' := [(3, .int (zi 0)), (0, .ref a), (1, .int (zi x1)), (2, .int (zi x2))]) dX8_fleet_58 rfl (by decide) rfl ?_
    refine p_sub (lv' := [(0, .ref a), (1, .int (zi x1)), (2, .int (zi x2)), (3, .int (zi 0))]) [1, 2, 3, 0] rfl ?_
    exact h
  · have h := h.2 b2
    refine p_iload_n dX8_fleet_33 rfl (q := 2) rfl ?_
    refine p_aload_n dX8_fleet_34 rfl (q := 0) rfl ?_
    refine p_iload_n dX8_fleet_35 rfl (q := 3) rfl ?_
    refine p_iconst dX8_fleet_36 ?_
    refine p_VI G k_RX8_137 (by decide) (hS 0 (by decide)).1 rfl rfl (Nat.le_of_ble_eq_true rfl) ⟨by decide, by decide⟩ ⟨by decide, by decide⟩ dX8_fleet_37 h (fun r2 im3 c4 h => ?_)
    refine p_iload_n dX8_fleet_40 rfl (q := 1) rfl ?_
    refine p_icmp_ne (tgt := 48) dX8_fleet_41 (by decide) (nf_r c4) (nf_r c_x1) (fun b5 => ?_) (fun b5 => ?_)
    · have h := h.1 b5
      refine p_iconst dX8_fleet_48 ?_
      refine p_iadd dX8_fleet_49 ?_
      refine p_istore_n (lv' := [(2, .int (zi (x2 + 0))), (0, .ref a), (1, .int (zi x1)), (3, .int (zi x3))]) dX8_fleet_50 rfl (by decide) rfl ?_
      refine p_iinc (q := 3) (lv' := [(3, .int (zi (x3 + 1))), (2, .int (zi (x2 + 0))), (0, .ref a), (1, .int (zi x1))]) dX8_fleet_51 rfl (by decide) rfl ?_
      refine p_goto (tgt := 23) dX8_fleet_54 (by decide) ?_
      refine p_sub (lv' := [(0, .ref a), (1, .int (zi x1)), (2, .int (zi (zw (x2 + 0)))), (3, .int (zi (zw (x3 + 1))))]) [2, 3, 1, 0] (by simp only [zi_zw, zl_zwl]; rfl) ?_
      exact h
    · have h := h.2 b5
      refine p_iconst dX8_fleet_44 ?_
      refine p_goto (tgt := 49) dX8_fleet_45 (by decide) ?_
      refine p_iadd dX8_fleet_49 ?_
      refine p_istore_n (lv' := [(2, .int (zi (x2 + 1))), (0, .ref a), (1, .int (zi x1)), (3, .int (zi x3))]) dX8_fleet_50 rfl (by decide) rfl ?_
      refine p_iinc (q := 3) (lv' := [(3, .int (zi (x3 + 1))), (2, .int (zi (x2 + 1))), (0, .ref a), (1, .int (zi x1))]) dX8_fleet_51 rfl (by decide) rfl ?_
      refine p_goto (tgt := 23) dX8_fleet_54 (by decide) ?_
      refine p_sub (lv' := [(0, .ref a), (1, .int (zi x1)), (2, .int (zi (zw (x2 + 1)))), (3, .int (zi (zw (x3 + 1))))]) [2, 3, 1, 0] (by simp only [zi_zw, zl_zwl]; rfl) ?_
      exact h
set_option maxRecDepth 20000 in
set_option maxHeartbeats 4000000 in
theorem v_X8_fleet_59 {g : zG} (G : zOK g) {S : zSh} {im : zIm} {a : Nat} {x1 : Int} {x2 : Int} {x3 : Int} {Q : Int → zIm → Prop} (hS : zS_M S a) (c_x1 : zc x1) (c_x2 : zc x2) (c_x3 : zc x3)
    (h : (((im (a + 1) 3) ≤ x3 → Q x2 im) ∧ (x3 < (im (a + 1) 3) → zCI g yX8_at M_X8_at [.int (zi 124), .int (zi x3), .int (zi x1)] S im (fun r2 im3 => ((0 ≤ r2 ∧ r2 < 7692) ∧ zCI g yX8_waitingOf M_X8_waitingOf [.ref a, .int (zi x3), .int (zi x1)] S im3 (fun r7 im8 => zPI g M_X8_fleet 59 [(0, .ref a), (1, .int (zi x1)), (2, .int (zi (zw (x2 + ((im3 (a + 1) r2) - r7))))), (3, .int (zi (zw (x3 + 1))))] S im8 Q)))))) :
    zPI g M_X8_fleet 59 [(0, .ref a), (1, .int (zi x1)), (2, .int (zi x2)), (3, .int (zi x3))] S im Q := by
  refine p_iload_n dX8_fleet_59 rfl (q := 3) rfl ?_
  refine p_aload_n dX8_fleet_60 rfl (q := 0) rfl ?_
  refine p_getR (b := (a + 1)) G f_RX8_7 rfl (hS 0 (by decide)).1 ((hS 0 (by decide)).2.2 0 (by decide)) dX8_fleet_61 ?_
  refine p_iconst dX8_fleet_64 ?_
  refine p_iald G (hS 1 (by decide)).1 (nf_k (by decide)) (by decide) (zln_lt (hS 1 (by decide)).2.1 (by decide)) dX8_fleet_65 (fun c1 => ?_)
  refine p_icmp_ge (tgt := 97) dX8_fleet_66 (by decide) (nf_r c_x3) (nf_r c1) (fun b2 => ?_) (fun b2 => ?_)
  · have h := h.1 b2
    refine p_iload_n dX8_fleet_97 rfl (q := 2) rfl ?_
    exact p_iretI (by decide) (by decide) rfl (nf_r c_x2) dX8_fleet_98 h
  · have h := h.2 b2
    refine p_iload_n dX8_fleet_69 rfl (q := 2) rfl ?_
    refine p_aload_n dX8_fleet_70 rfl (q := 0) rfl ?_
    refine p_getR (b := (a + 1)) G f_RX8_7 rfl (hS 0 (by decide)).1 ((hS 0 (by decide)).2.2 0 (by decide)) dX8_fleet_71 ?_
    refine p_bipush dX8_fleet_74 (by decide) ?_
    refine p_iload_n dX8_fleet_76 rfl (q := 3) rfl ?_
    refine p_iload_n dX8_fleet_77 rfl (q := 1) rfl ?_
    refine p_SI G k_RX8_62 rfl rfl (Nat.le_of_ble_eq_true rfl) ⟨by decide, by decide⟩ ⟨by decide, by decide⟩ dX8_fleet_78 h (fun r2 im3 c4 h => ?_)
    have g6 := h.1
    have h := h.2
    refine p_iald G (hS 1 (by decide)).1 (nf_r c4) g6.1 (zln_lt (hS 1 (by decide)).2.1 g6.2) dX8_fleet_81 (fun c5 => ?_)
    refine p_aload_n dX8_fleet_82 rfl (q := 0) rfl ?_
    refine p_iload_n dX8_fleet_83 rfl (q := 3) rfl ?_
    refine p_iload_n dX8_fleet_84 rfl (q := 1) rfl ?_
    refine p_VI G k_RX8_186 (by decide) (hS 0 (by decide)).1 rfl rfl (Nat.le_of_ble_eq_true rfl) ⟨by decide, by decide⟩ ⟨by decide, by decide⟩ dX8_fleet_85 h (fun r7 im8 c9 h => ?_)
    refine p_isub dX8_fleet_88 ?_
    refine p_iadd dX8_fleet_89 ?_
    refine p_istore_n (lv' := [(2, .int (zi (x2 + ((im3 (a + 1) r2) - r7)))), (0, .ref a), (1, .int (zi x1)), (3, .int (zi x3))]) dX8_fleet_90 rfl (by decide) rfl ?_
    refine p_iinc (q := 3) (lv' := [(3, .int (zi (x3 + 1))), (2, .int (zi (x2 + ((im3 (a + 1) r2) - r7)))), (0, .ref a), (1, .int (zi x1))]) dX8_fleet_91 rfl (by decide) rfl ?_
    refine p_goto (tgt := 59) dX8_fleet_94 (by decide) ?_
    refine p_sub (lv' := [(0, .ref a), (1, .int (zi x1)), (2, .int (zi (zw (x2 + ((im3 (a + 1) r2) - r7))))), (3, .int (zi (zw (x3 + 1))))]) [2, 3, 1, 0] (by simp only [zi_zw, zl_zwl]; rfl) ?_
    exact h
set_option maxRecDepth 20000 in
set_option maxHeartbeats 4000000 in
theorem v_X8_nextArrival {g : zG} (G : zOK g) {S : zSh} {im : zIm} {a : Nat} {p1 : Int} {p2 : Int} {Q : Int → zIm → Prop} (hS : zS_M S a) (c_p1 : zc p1) (c_p2 : zc p2)
    (h : ∀ im1, im1 = zst im a 4 0 → zCI g yX8_isBase M_X8_isBase [.ref a, .int (zi p1)] S im1 (fun r3 im4 => ((r3 = 0 → zCI g yX8_fail M_X8_fail [.ref a, .int (zi 1)] S im4 (fun r6 im7 => Q r6 im7)) ∧ (¬ r3 = 0 → zCI g yX8_isItem M_X8_isItem [.ref a, .int (zi p2)] S im4 (fun r6 im7 => ((¬ r6 = 0 → zPI g M_X8_nextArrival 32 [(0, .ref a), (1, .int (zi p1)), (2, .int (zi p2)), (3, .int (zi (-1))), (4, .int (zi 0))] S im7 Q) ∧ (r6 = 0 → zCI g yX8_fail M_X8_fail [.ref a, .int (zi 1)] S im7 (fun r9 im10 => Q r9 im10)))))))) :
    zCI g yX8_nextArrival M_X8_nextArrival [.ref a, .int (zi p1), .int (zi p2)] S im Q := by
  refine zC_of (by decide) rfl rfl rfl rfl (Nat.le_of_ble_eq_true rfl) ?_
  refine p_aload_n dX8_nextArrival_0 rfl (q := 0) rfl ?_
  refine p_iconst dX8_nextArrival_1 ?_
  refine p_putI (j := 4) G f_RX8_30 rfl rfl rfl (hS 0 (by decide)).1 (nf_k (by decide)) dX8_nextArrival_2 ?_
  refine p_gen (fun im1 e2 => ?_)
  have h := h im1 e2
  refine p_aload_n dX8_nextArrival_5 rfl (q := 0) rfl ?_
  refine p_iload_n dX8_nextArrival_6 rfl (q := 1) rfl ?_
  refine p_VI G k_RX8_55 (by decide) (hS 0 (by decide)).1 rfl rfl (Nat.le_of_ble_eq_true rfl) ⟨by decide, by decide⟩ ⟨by decide, by decide⟩ dX8_nextArrival_7 h (fun r3 im4 c5 h => ?_)
  refine p_if_eq (tgt := 21) dX8_nextArrival_10 (by decide) (nf_r c5) (fun b6 => ?_) (fun b6 => ?_)
  · have h := h.1 b6
    refine p_aload_n dX8_nextArrival_21 rfl (q := 0) rfl ?_
    refine p_iconst dX8_nextArrival_22 ?_
    refine p_VI G k_RX8_41 (by decide) (hS 0 (by decide)).1 rfl rfl (Nat.le_of_ble_eq_true rfl) ⟨by decide, by decide⟩ ⟨by decide, by decide⟩ dX8_nextArrival_23 h (fun r6 im7 c8 h => ?_)
    exact p_iretI (by decide) (by decide) rfl (nf_r c8) dX8_nextArrival_26 h
  · have h := h.2 b6
    refine p_aload_n dX8_nextArrival_13 rfl (q := 0) rfl ?_
    refine p_iload_n dX8_nextArrival_14 rfl (q := 2) rfl ?_
    refine p_VI G k_RX8_81 (by decide) (hS 0 (by decide)).1 rfl rfl (Nat.le_of_ble_eq_true rfl) ⟨by decide, by decide⟩ ⟨by decide, by decide⟩ dX8_nextArrival_15 h (fun r6 im7 c8 h => ?_)
    refine p_if_ne (tgt := 27) dX8_nextArrival_18 (by decide) (nf_r c8) (fun b9 => ?_) (fun b9 => ?_)
    · have h := h.1 b9
      refine p_iconst dX8_nextArrival_27 ?_
      refine p_istore_n (lv' := [(3, .int (zi (-1))), (0, .ref a), (1, .int (zi p1)), (2, .int (zi p2))]) dX8_nextArrival_28 rfl (by decide) rfl ?_
      refine p_iconst dX8_nextArrival_29 ?_
      refine p_istore (lv' := [(4, .int (zi 0)), (3, .int (zi (-1))), (0, .ref a), (1, .int (zi p1)), (2, .int (zi p2))]) dX8_nextArrival_30 (by decide) rfl ?_
      refine p_sub (lv' := [(0, .ref a), (1, .int (zi p1)), (2, .int (zi p2)), (3, .int (zi (-1))), (4, .int (zi 0))]) [2, 3, 4, 1, 0] rfl ?_
      exact h
    · have h := h.2 b9
      refine p_aload_n dX8_nextArrival_21 rfl (q := 0) rfl ?_
      refine p_iconst dX8_nextArrival_22 ?_
      refine p_VI G k_RX8_41 (by decide) (hS 0 (by decide)).1 rfl rfl (Nat.le_of_ble_eq_true rfl) ⟨by decide, by decide⟩ ⟨by decide, by decide⟩ dX8_nextArrival_23 h (fun r9 im10 c11 h => ?_)
      exact p_iretI (by decide) (by decide) rfl (nf_r c11) dX8_nextArrival_26 h
set_option maxRecDepth 20000 in
set_option maxHeartbeats 4000000 in
theorem v_X8_nextArrival_32 {g : zG} (G : zOK g) {S : zSh} {im : zIm} {a : Nat} {x1 : Int} {x2 : Int} {x3 : Int} {x4 : Int} {Q : Int → zIm → Prop} (hS : zS_M S a) (c_x1 : zc x1) (c_x2 : zc x2) (c_x3 : zc x3) (c_x4 : zc x4)
    (h : (((im (a + 1) 4) ≤ x4 → Q x3 im) ∧ (x4 < (im (a + 1) 4) → zCI g yX8_unit M_X8_unit [.ref a, .int (zi x4), .int (zi 1)] S im (fun r2 im3 => ((¬ r2 = x2 → zPI g M_X8_nextArrival 32 [(0, .ref a), (1, .int (zi x1)), (2, .int (zi x2)), (3, .int (zi x3)), (4, .int (zi (zw (x4 + 1))))] S im3 Q) ∧ (r2 = x2 → zCI g yX8_unit M_X8_unit [.ref a, .int (zi x4), .int (zi 3)] S im3 (fun r5 im6 => ((¬ r5 = x1 → zPI g M_X8_nextArrival 32 [(0, .ref a), (1, .int (zi x1)), (2, .int (zi x2)), (3, .int (zi x3)), (4, .int (zi (zw (x4 + 1))))] S im6 Q) ∧ (r5 = x1 → zCI g yX8_unit M_X8_unit [.ref a, .int (zi x4), .int (zi 2)] S im6 (fun r8 im9 => ((¬ r8 = x1 → zPI g M_X8_nextArrival 32 [(0, .ref a), (1, .int (zi x1)), (2, .int (zi x2)), (3, .int (zi x3)), (4, .int (zi (zw (x4 + 1))))] S im9 Q) ∧ (r8 = x1 → ((x3 = (-1) → zCI g yX8_unit M_X8_unit [.ref a, .int (zi x4), .int (zi 4)] S im9 (fun r11 im12 => zPI g M_X8_nextArrival 32 [(0, .ref a), (1, .int (zi x1)), (2, .int (zi x2)), (3, .int (zi (zw (r11 - (im12 (a + 1) 0))))), (4, .int (zi (zw (x4 + 1))))] S im12 Q)) ∧ (¬ x3 = (-1) → zCI g yX8_unit M_X8_unit [.ref a, .int (zi x4), .int (zi 4)] S im9 (fun r11 im12 => ((x3 ≤ (zw (r11 - (im12 (a + 1) 0))) → zPI g M_X8_nextArrival 32 [(0, .ref a), (1, .int (zi x1)), (2, .int (zi x2)), (3, .int (zi x3)), (4, .int (zi (zw (x4 + 1))))] S im12 Q) ∧ ((zw (r11 - (im12 (a + 1) 0))) < x3 → zCI g yX8_unit M_X8_unit [.ref a, .int (zi x4), .int (zi 4)] S im12 (fun r15 im16 => zPI g M_X8_nextArrival 32 [(0, .ref a), (1, .int (zi x1)), (2, .int (zi x2)), (3, .int (zi (zw (r15 - (im16 (a + 1) 0))))), (4, .int (zi (zw (x4 + 1))))] S im16 Q)))))))))))))))))) :
    zPI g M_X8_nextArrival 32 [(0, .ref a), (1, .int (zi x1)), (2, .int (zi x2)), (3, .int (zi x3)), (4, .int (zi x4))] S im Q := by
  refine p_iload dX8_nextArrival_32 (q := 4) rfl ?_
  refine p_aload_n dX8_nextArrival_34 rfl (q := 0) rfl ?_
  refine p_getR (b := (a + 1)) G f_RX8_7 rfl (hS 0 (by decide)).1 ((hS 0 (by decide)).2.2 0 (by decide)) dX8_nextArrival_35 ?_
  refine p_iconst dX8_nextArrival_38 ?_
  refine p_iald G (hS 1 (by decide)).1 (nf_k (by decide)) (by decide) (zln_lt (hS 1 (by decide)).2.1 (by decide)) dX8_nextArrival_39 (fun c1 => ?_)
  refine p_icmp_ge (tgt := 132) dX8_nextArrival_40 (by decide) (nf_r c_x4) (nf_r c1) (fun b2 => ?_) (fun b2 => ?_)
  · have h := h.1 b2
    refine p_iload_n dX8_nextArrival_132 rfl (q := 3) rfl ?_
    exact p_iretI (by decide) (by decide) rfl (nf_r c_x3) dX8_nextArrival_133 h
  · have h := h.2 b2
    refine p_aload_n dX8_nextArrival_43 rfl (q := 0) rfl ?_
    refine p_iload dX8_nextArrival_44 (q := 4) rfl ?_
    refine p_iconst dX8_nextArrival_46 ?_
    refine p_VI G k_RX8_137 (by decide) (hS 0 (by decide)).1 rfl rfl (Nat.le_of_ble_eq_true rfl) ⟨by decide, by decide⟩ ⟨by decide, by decide⟩ dX8_nextArrival_47 h (fun r2 im3 c4 h => ?_)
    refine p_iload_n dX8_nextArrival_50 rfl (q := 2) rfl ?_
    refine p_icmp_ne (tgt := 80) dX8_nextArrival_51 (by decide) (nf_r c4) (nf_r c_x2) (fun b5 => ?_) (fun b5 => ?_)
    · have h := h.1 b5
      refine p_iconst dX8_nextArrival_80 ?_
      refine p_istore (lv' := [(5, .int (zi 0)), (0, .ref a), (1, .int (zi x1)), (2, .int (zi x2)), (3, .int (zi x3)), (4, .int (zi x4))]) dX8_nextArrival_81 (by decide) rfl ?_
      refine p_iload dX8_nextArrival_83 (q := 0) rfl ?_
      refine p_if_eq (tgt := 126) dX8_nextArrival_85 (by decide) (nf_k (by decide)) (fun _ => ?_) (fun h9 => absurd h9 (by decide))
      refine p_iinc (q := 5) (lv' := [(4, .int (zi (x4 + 1))), (5, .int (zi 0)), (0, .ref a), (1, .int (zi x1)), (2, .int (zi x2)), (3, .int (zi x3))]) dX8_nextArrival_126 rfl (by decide) rfl ?_
      refine p_goto (tgt := 32) dX8_nextArrival_129 (by decide) ?_
      refine p_sub (lv' := [(0, .ref a), (1, .int (zi x1)), (2, .int (zi x2)), (3, .int (zi x3)), (4, .int (zi (zw (x4 + 1))))]) [2, 3, 4, 5, 0] (by simp only [zi_zw, zl_zwl]; rfl) ?_
      exact h
    · have h := h.2 b5
      refine p_aload_n dX8_nextArrival_54 rfl (q := 0) rfl ?_
      refine p_iload dX8_nextArrival_55 (q := 4) rfl ?_
      refine p_iconst dX8_nextArrival_57 ?_
      refine p_VI G k_RX8_137 (by decide) (hS 0 (by decide)).1 rfl rfl (Nat.le_of_ble_eq_true rfl) ⟨by decide, by decide⟩ ⟨by decide, by decide⟩ dX8_nextArrival_58 h (fun r5 im6 c7 h => ?_)
      refine p_iload_n dX8_nextArrival_61 rfl (q := 1) rfl ?_
      refine p_icmp_ne (tgt := 80) dX8_nextArrival_62 (by decide) (nf_r c7) (nf_r c_x1) (fun b8 => ?_) (fun b8 => ?_)
      · have h := h.1 b8
        refine p_iconst dX8_nextArrival_80 ?_
        refine p_istore (lv' := [(5, .int (zi 0)), (0, .ref a), (1, .int (zi x1)), (2, .int (zi x2)), (3, .int (zi x3)), (4, .int (zi x4))]) dX8_nextArrival_81 (by decide) rfl ?_
        refine p_iload dX8_nextArrival_83 (q := 0) rfl ?_
        refine p_if_eq (tgt := 126) dX8_nextArrival_85 (by decide) (nf_k (by decide)) (fun _ => ?_) (fun h9 => absurd h9 (by decide))
        refine p_iinc (q := 5) (lv' := [(4, .int (zi (x4 + 1))), (5, .int (zi 0)), (0, .ref a), (1, .int (zi x1)), (2, .int (zi x2)), (3, .int (zi x3))]) dX8_nextArrival_126 rfl (by decide) rfl ?_
        refine p_goto (tgt := 32) dX8_nextArrival_129 (by decide) ?_
        refine p_sub (lv' := [(0, .ref a), (1, .int (zi x1)), (2, .int (zi x2)), (3, .int (zi x3)), (4, .int (zi (zw (x4 + 1))))]) [2, 3, 4, 5, 0] (by simp only [zi_zw, zl_zwl]; rfl) ?_
        exact h
      · have h := h.2 b8
        refine p_aload_n dX8_nextArrival_65 rfl (q := 0) rfl ?_
        refine p_iload dX8_nextArrival_66 (q := 4) rfl ?_
        refine p_iconst dX8_nextArrival_68 ?_
        refine p_VI G k_RX8_137 (by decide) (hS 0 (by decide)).1 rfl rfl (Nat.le_of_ble_eq_true rfl) ⟨by decide, by decide⟩ ⟨by decide, by decide⟩ dX8_nextArrival_69 h (fun r8 im9 c10 h => ?_)
        refine p_iload_n dX8_nextArrival_72 rfl (q := 1) rfl ?_
        refine p_icmp_ne (tgt := 80) dX8_nextArrival_73 (by decide) (nf_r c10) (nf_r c_x1) (fun b11 => ?_) (fun b11 => ?_)
        · have h := h.1 b11
          refine p_iconst dX8_nextArrival_80 ?_
          refine p_istore (lv' := [(5, .int (zi 0)), (0, .ref a), (1, .int (zi x1)), (2, .int (zi x2)), (3, .int (zi x3)), (4, .int (zi x4))]) dX8_nextArrival_81 (by decide) rfl ?_
          refine p_iload dX8_nextArrival_83 (q := 0) rfl ?_
          refine p_if_eq (tgt := 126) dX8_nextArrival_85 (by decide) (nf_k (by decide)) (fun _ => ?_) (fun h9 => absurd h9 (by decide))
          refine p_iinc (q := 5) (lv' := [(4, .int (zi (x4 + 1))), (5, .int (zi 0)), (0, .ref a), (1, .int (zi x1)), (2, .int (zi x2)), (3, .int (zi x3))]) dX8_nextArrival_126 rfl (by decide) rfl ?_
          refine p_goto (tgt := 32) dX8_nextArrival_129 (by decide) ?_
          refine p_sub (lv' := [(0, .ref a), (1, .int (zi x1)), (2, .int (zi x2)), (3, .int (zi x3)), (4, .int (zi (zw (x4 + 1))))]) [2, 3, 4, 5, 0] (by simp only [zi_zw, zl_zwl]; rfl) ?_
          exact h
        · have h := h.2 b11
          refine p_iconst dX8_nextArrival_76 ?_
          refine p_goto (tgt := 81) dX8_nextArrival_77 (by decide) ?_
          refine p_istore (lv' := [(5, .int (zi 1)), (0, .ref a), (1, .int (zi x1)), (2, .int (zi x2)), (3, .int (zi x3)), (4, .int (zi x4))]) dX8_nextArrival_81 (by decide) rfl ?_
          refine p_iload dX8_nextArrival_83 (q := 0) rfl ?_
          refine p_if_eq (tgt := 126) dX8_nextArrival_85 (by decide) (nf_k (by decide)) (fun h9 => absurd h9 (by decide)) (fun _ => ?_)
          refine p_iload_n dX8_nextArrival_88 rfl (q := 4) rfl ?_
          refine p_iconst dX8_nextArrival_89 ?_
          refine p_icmp_eq (tgt := 111) dX8_nextArrival_90 (by decide) (nf_r c_x3) (nf_k (by decide)) (fun b11 => ?_) (fun b11 => ?_)
          · have h := h.1 b11
            refine p_aload_n dX8_nextArrival_111 rfl (q := 1) rfl ?_
            refine p_iload dX8_nextArrival_112 (q := 5) rfl ?_
            refine p_iconst dX8_nextArrival_114 ?_
            refine p_VI G k_RX8_137 (by decide) (hS 0 (by decide)).1 rfl rfl (Nat.le_of_ble_eq_true rfl) ⟨by decide, by decide⟩ ⟨by decide, by decide⟩ dX8_nextArrival_115 h (fun r11 im12 c13 h => ?_)
            refine p_aload_n dX8_nextArrival_118 rfl (q := 1) rfl ?_
            refine p_getR (b := (a + 1)) G f_RX8_7 rfl (hS 0 (by decide)).1 ((hS 0 (by decide)).2.2 0 (by decide)) dX8_nextArrival_119 ?_
            refine p_iconst dX8_nextArrival_122 ?_
            refine p_iald G (hS 1 (by decide)).1 (nf_k (by decide)) (by decide) (zln_lt (hS 1 (by decide)).2.1 (by decide)) dX8_nextArrival_123 (fun c14 => ?_)
            refine p_isub dX8_nextArrival_124 ?_
            refine p_istore_n (lv' := [(3, .int (zi (r11 - (im12 (a + 1) 0)))), (5, .int (zi 1)), (0, .ref a), (1, .int (zi x1)), (2, .int (zi x2)), (4, .int (zi x4))]) dX8_nextArrival_125 rfl (by decide) rfl ?_
            refine p_iinc (q := 5) (lv' := [(4, .int (zi (x4 + 1))), (3, .int (zi (r11 - (im12 (a + 1) 0)))), (5, .int (zi 1)), (0, .ref a), (1, .int (zi x1)), (2, .int (zi x2))]) dX8_nextArrival_126 rfl (by decide) rfl ?_
            refine p_goto (tgt := 32) dX8_nextArrival_129 (by decide) ?_
            refine p_sub (lv' := [(0, .ref a), (1, .int (zi x1)), (2, .int (zi x2)), (3, .int (zi (zw (r11 - (im12 (a + 1) 0))))), (4, .int (zi (zw (x4 + 1))))]) [3, 4, 5, 1, 0] (by simp only [zi_zw, zl_zwl]; rfl) ?_
            exact h
          · have h := h.2 b11
            refine p_aload_n dX8_nextArrival_93 rfl (q := 1) rfl ?_
            refine p_iload dX8_nextArrival_94 (q := 5) rfl ?_
            refine p_iconst dX8_nextArrival_96 ?_
            refine p_VI G k_RX8_137 (by decide) (hS 0 (by decide)).1 rfl rfl (Nat.le_of_ble_eq_true rfl) ⟨by decide, by decide⟩ ⟨by decide, by decide⟩ dX8_nextArrival_97 h (fun r11 im12 c13 h => ?_)
            refine p_aload_n dX8_nextArrival_100 rfl (q := 1) rfl ?_
            refine p_getR (b := (a + 1)) G f_RX8_7 rfl (hS 0 (by decide)).1 ((hS 0 (by decide)).2.2 0 (by decide)) dX8_nextArrival_101 ?_
            refine p_iconst dX8_nextArrival_104 ?_
            refine p_iald G (hS 1 (by decide)).1 (nf_k (by decide)) (by decide) (zln_lt (hS 1 (by decide)).2.1 (by decide)) dX8_nextArrival_105 (fun c14 => ?_)
            refine p_isub dX8_nextArrival_106 ?_
            refine p_iload_n dX8_nextArrival_107 rfl (q := 4) rfl ?_
            refine p_icmp_ge (tgt := 126) dX8_nextArrival_108 (by decide) (nf_w _) (nf_r c_x3) (fun b15 => ?_) (fun b15 => ?_)
            · have h := h.1 b15
              refine p_iinc (q := 5) (lv' := [(4, .int (zi (x4 + 1))), (5, .int (zi 1)), (0, .ref a), (1, .int (zi x1)), (2, .int (zi x2)), (3, .int (zi x3))]) dX8_nextArrival_126 rfl (by decide) rfl ?_
              refine p_goto (tgt := 32) dX8_nextArrival_129 (by decide) ?_
              refine p_sub (lv' := [(0, .ref a), (1, .int (zi x1)), (2, .int (zi x2)), (3, .int (zi x3)), (4, .int (zi (zw (x4 + 1))))]) [2, 3, 4, 5, 0] (by simp only [zi_zw, zl_zwl]; rfl) ?_
              exact h
            · have h := h.2 b15
              refine p_aload_n dX8_nextArrival_111 rfl (q := 1) rfl ?_
              refine p_iload dX8_nextArrival_112 (q := 5) rfl ?_
              refine p_iconst dX8_nextArrival_114 ?_
              refine p_VI G k_RX8_137 (by decide) (hS 0 (by decide)).1 rfl rfl (Nat.le_of_ble_eq_true rfl) ⟨by decide, by decide⟩ ⟨by decide, by decide⟩ dX8_nextArrival_115 h (fun r15 im16 c17 h => ?_)
              refine p_aload_n dX8_nextArrival_118 rfl (q := 1) rfl ?_
              refine p_getR (b := (a + 1)) G f_RX8_7 rfl (hS 0 (by decide)).1 ((hS 0 (by decide)).2.2 0 (by decide)) dX8_nextArrival_119 ?_
              refine p_iconst dX8_nextArrival_122 ?_
              refine p_iald G (hS 1 (by decide)).1 (nf_k (by decide)) (by decide) (zln_lt (hS 1 (by decide)).2.1 (by decide)) dX8_nextArrival_123 (fun c18 => ?_)
              refine p_isub dX8_nextArrival_124 ?_
              refine p_istore_n (lv' := [(3, .int (zi (r15 - (im16 (a + 1) 0)))), (5, .int (zi 1)), (0, .ref a), (1, .int (zi x1)), (2, .int (zi x2)), (4, .int (zi x4))]) dX8_nextArrival_125 rfl (by decide) rfl ?_
              refine p_iinc (q := 5) (lv' := [(4, .int (zi (x4 + 1))), (3, .int (zi (r15 - (im16 (a + 1) 0)))), (5, .int (zi 1)), (0, .ref a), (1, .int (zi x1)), (2, .int (zi x2))]) dX8_nextArrival_126 rfl (by decide) rfl ?_
              refine p_goto (tgt := 32) dX8_nextArrival_129 (by decide) ?_
              refine p_sub (lv' := [(0, .ref a), (1, .int (zi x1)), (2, .int (zi x2)), (3, .int (zi (zw (r15 - (im16 (a + 1) 0))))), (4, .int (zi (zw (x4 + 1))))]) [3, 4, 5, 1, 0] (by simp only [zi_zw, zl_zwl]; rfl) ?_
              exact h
set_option maxRecDepth 20000 in
set_option maxHeartbeats 4000000 in
theorem v_X8_countDue {g : zG} (G : zOK g) {S : zSh} {im : zIm} {a : Nat} {Q : Int → zIm → Prop} (hS : zS_M S a)
    (h : zPI g M_X8_countDue 4 [(0, .ref a), (1, .int (zi 0)), (2, .int (zi 0))] S im Q) :
    zCI g yX8_countDue M_X8_countDue [.ref a] S im Q := by
  refine zC_of (by decide) rfl rfl rfl rfl (Nat.le_of_ble_eq_true rfl) ?_
  refine p_iconst dX8_countDue_0 ?_
  refine p_istore_n (lv' := [(1, .int (zi 0)), (0, .ref a)]) dX8_countDue_1 rfl (by decide) rfl ?_
  refine p_iconst dX8_countDue_2 ?_
  refine p_istore_n (lv' := [(2, .int (zi 0)), (1, .int (zi 0)), (0, .ref a)]) dX8_countDue_3 rfl (by decide) rfl ?_
  refine p_sub (lv' := [(0, .ref a), (1, .int (zi 0)), (2, .int (zi 0))]) [2, 1, 0] rfl ?_
  exact h
set_option maxRecDepth 20000 in
set_option maxHeartbeats 4000000 in
theorem v_X8_countDue_4 {g : zG} (G : zOK g) {S : zSh} {im : zIm} {a : Nat} {x1 : Int} {x2 : Int} {Q : Int → zIm → Prop} (hS : zS_M S a) (c_x1 : zc x1) (c_x2 : zc x2)
    (h : (((im (a + 1) 4) ≤ x2 → Q x1 im) ∧ (x2 < (im (a + 1) 4) → zCI g yX8_unit M_X8_unit [.ref a, .int (zi x2), .int (zi 0)] S im (fun r2 im3 => ((¬ r2 = 4 → zPI g M_X8_countDue 4 [(0, .ref a), (1, .int (zi (zw (x1 + 1)))), (2, .int (zi (zw (x2 + 1))))] S im3 Q) ∧ (r2 = 4 → zPI g M_X8_countDue 4 [(0, .ref a), (1, .int (zi (zw (x1 + 0)))), (2, .int (zi (zw (x2 + 1))))] S im3 Q)))))) :
    zPI g M_X8_countDue 4 [(0, .ref a), (1, .int (zi x1)), (2, .int (zi x2))] S im Q := by
  refine p_iload_n dX8_countDue_4 rfl (q := 2) rfl ?_
  refine p_aload_n dX8_countDue_5 rfl (q := 0) rfl ?_
  refine p_getR (b := (a + 1)) G f_RX8_7 rfl (hS 0 (by decide)).1 ((hS 0 (by decide)).2.2 0 (by decide)) dX8_countDue_6 ?_
  refine p_iconst dX8_countDue_9 ?_
  refine p_iald G (hS 1 (by decide)).1 (nf_k (by decide)) (by decide) (zln_lt (hS 1 (by decide)).2.1 (by decide)) dX8_countDue_10 (fun c1 => ?_)
  refine p_icmp_ge (tgt := 38) dX8_countDue_11 (by decide) (nf_r c_x2) (nf_r c1) (fun b2 => ?_) (fun b2 => ?_)
  · have h := h.1 b2
    refine p_iload_n dX8_countDue_38 rfl (q := 1) rfl ?_
    exact p_iretI (by decide) (by decide) rfl (nf_r c_x1) dX8_countDue_39 h
  · have h := h.2 b2
    refine p_iload_n dX8_countDue_14 rfl (q := 1) rfl ?_
    refine p_aload_n dX8_countDue_15 rfl (q := 0) rfl ?_
    refine p_iload_n dX8_countDue_16 rfl (q := 2) rfl ?_
    refine p_iconst dX8_countDue_17 ?_
    refine p_VI G k_RX8_137 (by decide) (hS 0 (by decide)).1 rfl rfl (Nat.le_of_ble_eq_true rfl) ⟨by decide, by decide⟩ ⟨by decide, by decide⟩ dX8_countDue_18 h (fun r2 im3 c4 h => ?_)
    refine p_iconst dX8_countDue_21 ?_
    refine p_icmp_ne (tgt := 29) dX8_countDue_22 (by decide) (nf_r c4) (nf_k (by decide)) (fun b5 => ?_) (fun b5 => ?_)
    · have h := h.1 b5
      refine p_iconst dX8_countDue_29 ?_
      refine p_iadd dX8_countDue_30 ?_
      refine p_istore_n (lv' := [(1, .int (zi (x1 + 1))), (0, .ref a), (2, .int (zi x2))]) dX8_countDue_31 rfl (by decide) rfl ?_
      refine p_iinc (q := 2) (lv' := [(2, .int (zi (x2 + 1))), (1, .int (zi (x1 + 1))), (0, .ref a)]) dX8_countDue_32 rfl (by decide) rfl ?_
      refine p_goto (tgt := 4) dX8_countDue_35 (by decide) ?_
      refine p_sub (lv' := [(0, .ref a), (1, .int (zi (zw (x1 + 1)))), (2, .int (zi (zw (x2 + 1))))]) [2, 1, 0] (by simp only [zi_zw, zl_zwl]; rfl) ?_
      exact h
    · have h := h.2 b5
      refine p_iconst dX8_countDue_25 ?_
      refine p_goto (tgt := 30) dX8_countDue_26 (by decide) ?_
      refine p_iadd dX8_countDue_30 ?_
      refine p_istore_n (lv' := [(1, .int (zi (x1 + 0))), (0, .ref a), (2, .int (zi x2))]) dX8_countDue_31 rfl (by decide) rfl ?_
      refine p_iinc (q := 2) (lv' := [(2, .int (zi (x2 + 1))), (1, .int (zi (x1 + 0))), (0, .ref a)]) dX8_countDue_32 rfl (by decide) rfl ?_
      refine p_goto (tgt := 4) dX8_countDue_35 (by decide) ?_
      refine p_sub (lv' := [(0, .ref a), (1, .int (zi (zw (x1 + 0)))), (2, .int (zi (zw (x2 + 1))))]) [2, 1, 0] (by simp only [zi_zw, zl_zwl]; rfl) ?_
      exact h
set_option maxRecDepth 20000 in
set_option maxHeartbeats 4000000 in
theorem v_X8_dueCount {g : zG} (G : zOK g) {S : zSh} {im : zIm} {a : Nat} {Q : Int → zIm → Prop} (hS : zS_M S a)
    (h : ∀ im1, im1 = zst im a 4 0 → zCI g yX8_countDue M_X8_countDue [.ref a] S im1 (fun r3 im4 => Q r3 im4)) :
    zCI g yX8_dueCount M_X8_dueCount [.ref a] S im Q := by
  refine zC_of (by decide) rfl rfl rfl rfl (Nat.le_of_ble_eq_true rfl) ?_
  refine p_aload_n dX8_dueCount_0 rfl (q := 0) rfl ?_
  refine p_iconst dX8_dueCount_1 ?_
  refine p_putI (j := 4) G f_RX8_30 rfl rfl rfl (hS 0 (by decide)).1 (nf_k (by decide)) dX8_dueCount_2 ?_
  refine p_gen (fun im1 e2 => ?_)
  have h := h im1 e2
  refine p_aload_n dX8_dueCount_5 rfl (q := 0) rfl ?_
  refine p_VI G k_RX8_192 (by decide) (hS 0 (by decide)).1 rfl rfl (Nat.le_of_ble_eq_true rfl) ⟨by decide, by decide⟩ ⟨by decide, by decide⟩ dX8_dueCount_6 h (fun r3 im4 c5 h => ?_)
  exact p_iretI (by decide) (by decide) rfl (nf_r c5) dX8_dueCount_9 h
set_option maxRecDepth 20000 in
set_option maxHeartbeats 4000000 in
theorem v_X8_isAhead {g : zG} (G : zOK g) {S : zSh} {im : zIm} {a : Nat} {p1 : Int} {p2 : Int} {Q : Int → zIm → Prop} (hS : zS_M S a) (c_p1 : zc p1) (c_p2 : zc p2)
    (h : zCI g yX8_unit M_X8_unit [.ref a, .int (zi p1), .int (zi 4)] S im (fun r1 im2 => zCI g yX8_unit M_X8_unit [.ref a, .int (zi p2), .int (zi 4)] S im2 (fun r4 im5 => ((r1 = r4 → zCI g yX8_unit M_X8_unit [.ref a, .int (zi p1), .int (zi 0)] S im5 (fun r7 im8 => zCI g yX8_unit M_X8_unit [.ref a, .int (zi p2), .int (zi 0)] S im8 (fun r10 im11 => ((r7 = r10 → ((p2 ≤ p1 → Q 0 im11) ∧ (p1 < p2 → Q 1 im11))) ∧ (¬ r7 = r10 → zCI g yX8_unit M_X8_unit [.ref a, .int (zi p1), .int (zi 0)] S im11 (fun r13 im14 => zCI g yX8_unit M_X8_unit [.ref a, .int (zi p2), .int (zi 0)] S im14 (fun r16 im17 => ((r16 ≤ r13 → Q 0 im17) ∧ (r13 < r16 → Q 1 im17))))))))) ∧ (¬ r1 = r4 → zCI g yX8_unit M_X8_unit [.ref a, .int (zi p1), .int (zi 4)] S im5 (fun r7 im8 => zCI g yX8_unit M_X8_unit [.ref a, .int (zi p2), .int (zi 4)] S im8 (fun r10 im11 => ((r10 ≤ r7 → Q 0 im11) ∧ (r7 < r10 → Q 1 im11))))))))) :
    zCI g yX8_isAhead M_X8_isAhead [.ref a, .int (zi p1), .int (zi p2)] S im Q := by
  refine zC_of (by decide) rfl rfl rfl rfl (Nat.le_of_ble_eq_true rfl) ?_
  refine p_aload_n dX8_isAhead_0 rfl (q := 0) rfl ?_
  refine p_iload_n dX8_isAhead_1 rfl (q := 1) rfl ?_
  refine p_iconst dX8_isAhead_2 ?_
  refine p_VI G k_RX8_137 (by decide) (hS 0 (by decide)).1 rfl rfl (Nat.le_of_ble_eq_true rfl) ⟨by decide, by decide⟩ ⟨by decide, by decide⟩ dX8_isAhead_3 h (fun r1 im2 c3 h => ?_)
  refine p_aload_n dX8_isAhead_6 rfl (q := 0) rfl ?_
  refine p_iload_n dX8_isAhead_7 rfl (q := 2) rfl ?_
  refine p_iconst dX8_isAhead_8 ?_
  refine p_VI G k_RX8_137 (by decide) (hS 0 (by decide)).1 rfl rfl (Nat.le_of_ble_eq_true rfl) ⟨by decide, by decide⟩ ⟨by decide, by decide⟩ dX8_isAhead_9 h (fun r4 im5 c6 h => ?_)
  refine p_icmp_eq (tgt := 36) dX8_isAhead_12 (by decide) (nf_r c3) (nf_r c6) (fun b7 => ?_) (fun b7 => ?_)
  · have h := h.1 b7
    refine p_aload_n dX8_isAhead_36 rfl (q := 0) rfl ?_
    refine p_iload_n dX8_isAhead_37 rfl (q := 1) rfl ?_
    refine p_iconst dX8_isAhead_38 ?_
    refine p_VI G k_RX8_137 (by decide) (hS 0 (by decide)).1 rfl rfl (Nat.le_of_ble_eq_true rfl) ⟨by decide, by decide⟩ ⟨by decide, by decide⟩ dX8_isAhead_39 h (fun r7 im8 c9 h => ?_)
    refine p_aload_n dX8_isAhead_42 rfl (q := 0) rfl ?_
    refine p_iload_n dX8_isAhead_43 rfl (q := 2) rfl ?_
    refine p_iconst dX8_isAhead_44 ?_
    refine p_VI G k_RX8_137 (by decide) (hS 0 (by decide)).1 rfl rfl (Nat.le_of_ble_eq_true rfl) ⟨by decide, by decide⟩ ⟨by decide, by decide⟩ dX8_isAhead_45 h (fun r10 im11 c12 h => ?_)
    refine p_icmp_eq (tgt := 74) dX8_isAhead_48 (by decide) (nf_r c9) (nf_r c12) (fun b13 => ?_) (fun b13 => ?_)
    · have h := h.1 b13
      refine p_iload_n dX8_isAhead_74 rfl (q := 1) rfl ?_
      refine p_iload_n dX8_isAhead_75 rfl (q := 2) rfl ?_
      refine p_icmp_ge (tgt := 83) dX8_isAhead_76 (by decide) (nf_r c_p1) (nf_r c_p2) (fun b13 => ?_) (fun b13 => ?_)
      · have h := h.1 b13
        refine p_iconst dX8_isAhead_83 ?_
        exact p_zretI (by decide) (by decide) rfl (nf_k (by decide)) (by decide) dX8_isAhead_84 h
      · have h := h.2 b13
        refine p_iconst dX8_isAhead_79 ?_
        refine p_goto (tgt := 84) dX8_isAhead_80 (by decide) ?_
        exact p_zretI (by decide) (by decide) rfl (nf_k (by decide)) (by decide) dX8_isAhead_84 h
    · have h := h.2 b13
      refine p_aload_n dX8_isAhead_51 rfl (q := 0) rfl ?_
      refine p_iload_n dX8_isAhead_52 rfl (q := 1) rfl ?_
      refine p_iconst dX8_isAhead_53 ?_
      refine p_VI G k_RX8_137 (by decide) (hS 0 (by decide)).1 rfl rfl (Nat.le_of_ble_eq_true rfl) ⟨by decide, by decide⟩ ⟨by decide, by decide⟩ dX8_isAhead_54 h (fun r13 im14 c15 h => ?_)
      refine p_aload_n dX8_isAhead_57 rfl (q := 0) rfl ?_
      refine p_iload_n dX8_isAhead_58 rfl (q := 2) rfl ?_
      refine p_iconst dX8_isAhead_59 ?_
      refine p_VI G k_RX8_137 (by decide) (hS 0 (by decide)).1 rfl rfl (Nat.le_of_ble_eq_true rfl) ⟨by decide, by decide⟩ ⟨by decide, by decide⟩ dX8_isAhead_60 h (fun r16 im17 c18 h => ?_)
      refine p_icmp_ge (tgt := 70) dX8_isAhead_63 (by decide) (nf_r c15) (nf_r c18) (fun b19 => ?_) (fun b19 => ?_)
      · have h := h.1 b19
        refine p_iconst dX8_isAhead_70 ?_
        refine p_goto (tgt := 84) dX8_isAhead_71 (by decide) ?_
        exact p_zretI (by decide) (by decide) rfl (nf_k (by decide)) (by decide) dX8_isAhead_84 h
      · have h := h.2 b19
        refine p_iconst dX8_isAhead_66 ?_
        refine p_goto (tgt := 84) dX8_isAhead_67 (by decide) ?_
        exact p_zretI (by decide) (by decide) rfl (nf_k (by decide)) (by decide) dX8_isAhead_84 h
  · have h := h.2 b7
    refine p_aload_n dX8_isAhead_15 rfl (q := 0) rfl ?_
    refine p_iload_n dX8_isAhead_16 rfl (q := 1) rfl ?_
    refine p_iconst dX8_isAhead_17 ?_
    refine p_VI G k_RX8_137 (by decide) (hS 0 (by decide)).1 rfl rfl (Nat.le_of_ble_eq_true rfl) ⟨by decide, by decide⟩ ⟨by decide, by decide⟩ dX8_isAhead_18 h (fun r7 im8 c9 h => ?_)
    refine p_aload_n dX8_isAhead_21 rfl (q := 0) rfl ?_
    refine p_iload_n dX8_isAhead_22 rfl (q := 2) rfl ?_
    refine p_iconst dX8_isAhead_23 ?_
    refine p_VI G k_RX8_137 (by decide) (hS 0 (by decide)).1 rfl rfl (Nat.le_of_ble_eq_true rfl) ⟨by decide, by decide⟩ ⟨by decide, by decide⟩ dX8_isAhead_24 h (fun r10 im11 c12 h => ?_)
    refine p_icmp_ge (tgt := 34) dX8_isAhead_27 (by decide) (nf_r c9) (nf_r c12) (fun b13 => ?_) (fun b13 => ?_)
    · have h := h.1 b13
      refine p_iconst dX8_isAhead_34 ?_
      exact p_zretI (by decide) (by decide) rfl (nf_k (by decide)) (by decide) dX8_isAhead_35 h
    · have h := h.2 b13
      refine p_iconst dX8_isAhead_30 ?_
      refine p_goto (tgt := 35) dX8_isAhead_31 (by decide) ?_
      exact p_zretI (by decide) (by decide) rfl (nf_k (by decide)) (by decide) dX8_isAhead_35 h
set_option maxRecDepth 20000 in
set_option maxHeartbeats 4000000 in
theorem v_X8_countAhead {g : zG} (G : zOK g) {S : zSh} {im : zIm} {a : Nat} {p1 : Int} {Q : Int → zIm → Prop} (hS : zS_M S a) (c_p1 : zc p1)
    (h : zPI g M_X8_countAhead 4 [(0, .ref a), (1, .int (zi p1)), (2, .int (zi 0)), (3, .int (zi 0))] S im Q) :
    zCI g yX8_countAhead M_X8_countAhead [.ref a, .int (zi p1)] S im Q := by
  refine zC_of (by decide) rfl rfl rfl rfl (Nat.le_of_ble_eq_true rfl) ?_
  refine p_iconst dX8_countAhead_0 ?_
  refine p_istore_n (lv' := [(2, .int (zi 0)), (0, .ref a), (1, .int (zi p1))]) dX8_countAhead_1 rfl (by decide) rfl ?_
  refine p_iconst dX8_countAhead_2 ?_
  refine p_istore_n (lv' := [(3, .int (zi 0)), (2, .int (zi 0)), (0, .ref a), (1, .int (zi p1))]) dX8_countAhead_3 rfl (by decide) rfl ?_
  refine p_sub (lv' := [(0, .ref a), (1, .int (zi p1)), (2, .int (zi 0)), (3, .int (zi 0))]) [2, 3, 1, 0] rfl ?_
  exact h
set_option maxRecDepth 20000 in
set_option maxHeartbeats 4000000 in
theorem v_X8_countAhead_4 {g : zG} (G : zOK g) {S : zSh} {im : zIm} {a : Nat} {x1 : Int} {x2 : Int} {x3 : Int} {Q : Int → zIm → Prop} (hS : zS_M S a) (c_x1 : zc x1) (c_x2 : zc x2) (c_x3 : zc x3)
    (h : (((im (a + 1) 4) ≤ x3 → Q x2 im) ∧ (x3 < (im (a + 1) 4) → zCI g yX8_unit M_X8_unit [.ref a, .int (zi x3), .int (zi 0)] S im (fun r2 im3 => ((r2 = 4 → zPI g M_X8_countAhead 4 [(0, .ref a), (1, .int (zi x1)), (2, .int (zi (zw (x2 + 0)))), (3, .int (zi (zw (x3 + 1))))] S im3 Q) ∧ (¬ r2 = 4 → zCI g yX8_isAhead M_X8_isAhead [.ref a, .int (zi x3), .int (zi x1)] S im3 (fun r5 im6 => ((r5 = 0 → zPI g M_X8_countAhead 4 [(0, .ref a), (1, .int (zi x1)), (2, .int (zi (zw (x2 + 0)))), (3, .int (zi (zw (x3 + 1))))] S im6 Q) ∧ (¬ r5 = 0 → zPI g M_X8_countAhead 4 [(0, .ref a), (1, .int (zi x1)), (2, .int (zi (zw (x2 + 1)))), (3, .int (zi (zw (x3 + 1))))] S im6 Q))))))))) :
    zPI g M_X8_countAhead 4 [(0, .ref a), (1, .int (zi x1)), (2, .int (zi x2)), (3, .int (zi x3))] S im Q := by
  refine p_iload_n dX8_countAhead_4 rfl (q := 3) rfl ?_
  refine p_aload_n dX8_countAhead_5 rfl (q := 0) rfl ?_
  refine p_getR (b := (a + 1)) G f_RX8_7 rfl (hS 0 (by decide)).1 ((hS 0 (by decide)).2.2 0 (by decide)) dX8_countAhead_6 ?_
  refine p_iconst dX8_countAhead_9 ?_
  refine p_iald G (hS 1 (by decide)).1 (nf_k (by decide)) (by decide) (zln_lt (hS 1 (by decide)).2.1 (by decide)) dX8_countAhead_10 (fun c1 => ?_)
  refine p_icmp_ge (tgt := 47) dX8_countAhead_11 (by decide) (nf_r c_x3) (nf_r c1) (fun b2 => ?_) (fun b2 => ?_)
  · have h := h.1 b2
    refine p_iload_n dX8_countAhead_47 rfl (q := 2) rfl ?_
    exact p_iretI (by decide) (by decide) rfl (nf_r c_x2) dX8_countAhead_48 h
  · have h := h.2 b2
    refine p_iload_n dX8_countAhead_14 rfl (q := 2) rfl ?_
    refine p_aload_n dX8_countAhead_15 rfl (q := 0) rfl ?_
    refine p_iload_n dX8_countAhead_16 rfl (q := 3) rfl ?_
    refine p_iconst dX8_countAhead_17 ?_
    refine p_VI G k_RX8_137 (by decide) (hS 0 (by decide)).1 rfl rfl (Nat.le_of_ble_eq_true rfl) ⟨by decide, by decide⟩ ⟨by decide, by decide⟩ dX8_countAhead_18 h (fun r2 im3 c4 h => ?_)
    refine p_iconst dX8_countAhead_21 ?_
    refine p_icmp_eq (tgt := 38) dX8_countAhead_22 (by decide) (nf_r c4) (nf_k (by decide)) (fun b5 => ?_) (fun b5 => ?_)
    · have h := h.1 b5
      refine p_iconst dX8_countAhead_38 ?_
      refine p_iadd dX8_countAhead_39 ?_
      refine p_istore_n (lv' := [(2, .int (zi (x2 + 0))), (0, .ref a), (1, .int (zi x1)), (3, .int (zi x3))]) dX8_countAhead_40 rfl (by decide) rfl ?_
      refine p_iinc (q := 3) (lv' := [(3, .int (zi (x3 + 1))), (2, .int (zi (x2 + 0))), (0, .ref a), (1, .int (zi x1))]) dX8_countAhead_41 rfl (by decide) rfl ?_
      refine p_goto (tgt := 4) dX8_countAhead_44 (by decide) ?_
      refine p_sub (lv' := [(0, .ref a), (1, .int (zi x1)), (2, .int (zi (zw (x2 + 0)))), (3, .int (zi (zw (x3 + 1))))]) [2, 3, 1, 0] (by simp only [zi_zw, zl_zwl]; rfl) ?_
      exact h
    · have h := h.2 b5
      refine p_aload_n dX8_countAhead_25 rfl (q := 0) rfl ?_
      refine p_iload_n dX8_countAhead_26 rfl (q := 3) rfl ?_
      refine p_iload_n dX8_countAhead_27 rfl (q := 1) rfl ?_
      refine p_VI G k_RX8_199 (by decide) (hS 0 (by decide)).1 rfl rfl (Nat.le_of_ble_eq_true rfl) ⟨by decide, by decide⟩ ⟨by decide, by decide⟩ dX8_countAhead_28 h (fun r5 im6 c7 h => ?_)
      refine p_if_eq (tgt := 38) dX8_countAhead_31 (by decide) (nf_r c7) (fun b8 => ?_) (fun b8 => ?_)
      · have h := h.1 b8
        refine p_iconst dX8_countAhead_38 ?_
        refine p_iadd dX8_countAhead_39 ?_
        refine p_istore_n (lv' := [(2, .int (zi (x2 + 0))), (0, .ref a), (1, .int (zi x1)), (3, .int (zi x3))]) dX8_countAhead_40 rfl (by decide) rfl ?_
        refine p_iinc (q := 3) (lv' := [(3, .int (zi (x3 + 1))), (2, .int (zi (x2 + 0))), (0, .ref a), (1, .int (zi x1))]) dX8_countAhead_41 rfl (by decide) rfl ?_
        refine p_goto (tgt := 4) dX8_countAhead_44 (by decide) ?_
        refine p_sub (lv' := [(0, .ref a), (1, .int (zi x1)), (2, .int (zi (zw (x2 + 0)))), (3, .int (zi (zw (x3 + 1))))]) [2, 3, 1, 0] (by simp only [zi_zw, zl_zwl]; rfl) ?_
        exact h
      · have h := h.2 b8
        refine p_iconst dX8_countAhead_34 ?_
        refine p_goto (tgt := 39) dX8_countAhead_35 (by decide) ?_
        refine p_iadd dX8_countAhead_39 ?_
        refine p_istore_n (lv' := [(2, .int (zi (x2 + 1))), (0, .ref a), (1, .int (zi x1)), (3, .int (zi x3))]) dX8_countAhead_40 rfl (by decide) rfl ?_
        refine p_iinc (q := 3) (lv' := [(3, .int (zi (x3 + 1))), (2, .int (zi (x2 + 1))), (0, .ref a), (1, .int (zi x1))]) dX8_countAhead_41 rfl (by decide) rfl ?_
        refine p_goto (tgt := 4) dX8_countAhead_44 (by decide) ?_
        refine p_sub (lv' := [(0, .ref a), (1, .int (zi x1)), (2, .int (zi (zw (x2 + 1)))), (3, .int (zi (zw (x3 + 1))))]) [2, 3, 1, 0] (by simp only [zi_zw, zl_zwl]; rfl) ?_
        exact h
set_option maxRecDepth 20000 in
set_option maxHeartbeats 4000000 in
theorem v_X8_unitAt {g : zG} (G : zOK g) {S : zSh} {im : zIm} {a : Nat} {p1 : Int} {Q : Int → zIm → Prop} (hS : zS_M S a) (c_p1 : zc p1)
    (h : zPI g M_X8_unitAt 2 [(0, .ref a), (1, .int (zi p1)), (2, .int (zi 0))] S im Q) :
    zCI g yX8_unitAt M_X8_unitAt [.ref a, .int (zi p1)] S im Q := by
  refine zC_of (by decide) rfl rfl rfl rfl (Nat.le_of_ble_eq_true rfl) ?_
  refine p_iconst dX8_unitAt_0 ?_
  refine p_istore_n (lv' := [(2, .int (zi 0)), (0, .ref a), (1, .int (zi p1))]) dX8_unitAt_1 rfl (by decide) rfl ?_
  refine p_sub (lv' := [(0, .ref a), (1, .int (zi p1)), (2, .int (zi 0))]) [1, 2, 0] rfl ?_
  exact h
set_option maxRecDepth 20000 in
set_option maxHeartbeats 4000000 in
theorem v_X8_unitAt_2 {g : zG} (G : zOK g) {S : zSh} {im : zIm} {a : Nat} {x1 : Int} {x2 : Int} {Q : Int → zIm → Prop} (hS : zS_M S a) (c_x1 : zc x1) (c_x2 : zc x2)
    (h : (((im (a + 1) 4) ≤ x2 → Q (-1) im) ∧ (x2 < (im (a + 1) 4) → zCI g yX8_unit M_X8_unit [.ref a, .int (zi x2), .int (zi 0)] S im (fun r2 im3 => ((r2 = 4 → zPI g M_X8_unitAt 2 [(0, .ref a), (1, .int (zi x1)), (2, .int (zi (zw (x2 + 1))))] S im3 Q) ∧ (¬ r2 = 4 → zCI g yX8_countAhead M_X8_countAhead [.ref a, .int (zi x2)] S im3 (fun r5 im6 => ((¬ r5 = x1 → zPI g M_X8_unitAt 2 [(0, .ref a), (1, .int (zi x1)), (2, .int (zi (zw (x2 + 1))))] S im6 Q) ∧ (r5 = x1 → Q x2 im6))))))))) :
    zPI g M_X8_unitAt 2 [(0, .ref a), (1, .int (zi x1)), (2, .int (zi x2))] S im Q := by
  refine p_iload_n dX8_unitAt_2 rfl (q := 2) rfl ?_
  refine p_aload_n dX8_unitAt_3 rfl (q := 0) rfl ?_
  refine p_getR (b := (a + 1)) G f_RX8_7 rfl (hS 0 (by decide)).1 ((hS 0 (by decide)).2.2 0 (by decide)) dX8_unitAt_4 ?_
  refine p_iconst dX8_unitAt_7 ?_
  refine p_iald G (hS 1 (by decide)).1 (nf_k (by decide)) (by decide) (zln_lt (hS 1 (by decide)).2.1 (by decide)) dX8_unitAt_8 (fun c1 => ?_)
  refine p_icmp_ge (tgt := 39) dX8_unitAt_9 (by decide) (nf_r c_x2) (nf_r c1) (fun b2 => ?_) (fun b2 => ?_)
  · have h := h.1 b2
    refine p_iconst dX8_unitAt_39 ?_
    exact p_iretI (by decide) (by decide) rfl (nf_k (by decide)) dX8_unitAt_40 h
  · have h := h.2 b2
    refine p_aload_n dX8_unitAt_12 rfl (q := 0) rfl ?_
    refine p_iload_n dX8_unitAt_13 rfl (q := 2) rfl ?_
    refine p_iconst dX8_unitAt_14 ?_
    refine p_VI G k_RX8_137 (by decide) (hS 0 (by decide)).1 rfl rfl (Nat.le_of_ble_eq_true rfl) ⟨by decide, by decide⟩ ⟨by decide, by decide⟩ dX8_unitAt_15 h (fun r2 im3 c4 h => ?_)
    refine p_iconst dX8_unitAt_18 ?_
    refine p_icmp_eq (tgt := 33) dX8_unitAt_19 (by decide) (nf_r c4) (nf_k (by decide)) (fun b5 => ?_) (fun b5 => ?_)
    · have h := h.1 b5
      refine p_iinc (q := 2) (lv' := [(2, .int (zi (x2 + 1))), (0, .ref a), (1, .int (zi x1))]) dX8_unitAt_33 rfl (by decide) rfl ?_
      refine p_goto (tgt := 2) dX8_unitAt_36 (by decide) ?_
      refine p_sub (lv' := [(0, .ref a), (1, .int (zi x1)), (2, .int (zi (zw (x2 + 1))))]) [1, 2, 0] (by simp only [zi_zw, zl_zwl]; rfl) ?_
      exact h
    · have h := h.2 b5
      refine p_aload_n dX8_unitAt_22 rfl (q := 0) rfl ?_
      refine p_iload_n dX8_unitAt_23 rfl (q := 2) rfl ?_
      refine p_VI G k_RX8_196 (by decide) (hS 0 (by decide)).1 rfl rfl (Nat.le_of_ble_eq_true rfl) ⟨by decide, by decide⟩ ⟨by decide, by decide⟩ dX8_unitAt_24 h (fun r5 im6 c7 h => ?_)
      refine p_iload_n dX8_unitAt_27 rfl (q := 1) rfl ?_
      refine p_icmp_ne (tgt := 33) dX8_unitAt_28 (by decide) (nf_r c7) (nf_r c_x1) (fun b8 => ?_) (fun b8 => ?_)
      · have h := h.1 b8
        refine p_iinc (q := 2) (lv' := [(2, .int (zi (x2 + 1))), (0, .ref a), (1, .int (zi x1))]) dX8_unitAt_33 rfl (by decide) rfl ?_
        refine p_goto (tgt := 2) dX8_unitAt_36 (by decide) ?_
        refine p_sub (lv' := [(0, .ref a), (1, .int (zi x1)), (2, .int (zi (zw (x2 + 1))))]) [1, 2, 0] (by simp only [zi_zw, zl_zwl]; rfl) ?_
        exact h
      · have h := h.2 b8
        refine p_iload_n dX8_unitAt_31 rfl (q := 2) rfl ?_
        exact p_iretI (by decide) (by decide) rfl (nf_r c_x2) dX8_unitAt_32 h
set_option maxRecDepth 20000 in
set_option maxHeartbeats 4000000 in
theorem v_X8_dueField {g : zG} (G : zOK g) {S : zSh} {im : zIm} {a : Nat} {p1 : Int} {p2 : Int} {Q : Int → zIm → Prop} (hS : zS_M S a) (c_p1 : zc p1) (c_p2 : zc p2)
    (h : zCI g yX8_countDue M_X8_countDue [.ref a] S im (fun r1 im2 => zCI g yX8_isBetween M_X8_isBetween [.int (zi p1), .int (zi 0), .int (zi (zw (r1 - 1)))] S im2 (fun r4 im5 => ((r4 = 0 → ∀ im7, im7 = zst im5 a 4 1 → ((¬ (im7 a 4) = 0 → Q 0 im7) ∧ ((im7 a 4) = 0 → zCI g yX8_unitAt M_X8_unitAt [.ref a, .int (zi p1)] S im7 (fun r10 im11 => zCI g yX8_unit M_X8_unit [.ref a, .int (zi r10), .int (zi p2)] S im11 (fun r13 im14 => Q r13 im14))))) ∧ (¬ r4 = 0 → ∀ im7, im7 = zst im5 a 4 0 → ((¬ (im7 a 4) = 0 → Q 0 im7) ∧ ((im7 a 4) = 0 → zCI g yX8_unitAt M_X8_unitAt [.ref a, .int (zi p1)] S im7 (fun r10 im11 => zCI g yX8_unit M_X8_unit [.ref a, .int (zi r10), .int (zi p2)] S im11 (fun r13 im14 => Q r13 im14))))))))) :
    zCI g yX8_dueField M_X8_dueField [.ref a, .int (zi p1), .int (zi p2)] S im Q := by
  refine zC_of (by decide) rfl rfl rfl rfl (Nat.le_of_ble_eq_true rfl) ?_
  refine p_aload_n dX8_dueField_0 rfl (q := 0) rfl ?_
  refine p_iload_n dX8_dueField_1 rfl (q := 1) rfl ?_
  refine p_iconst dX8_dueField_2 ?_
  refine p_aload_n dX8_dueField_3 rfl (q := 0) rfl ?_
  refine p_VI G k_RX8_192 (by decide) (hS 0 (by decide)).1 rfl rfl (Nat.le_of_ble_eq_true rfl) ⟨by decide, by decide⟩ ⟨by decide, by decide⟩ dX8_dueField_4 h (fun r1 im2 c3 h => ?_)
  refine p_iconst dX8_dueField_7 ?_
  refine p_isub dX8_dueField_8 ?_
  refine p_SI G k_RX8_33 rfl (by simp only [zi_zw]; rfl) (Nat.le_of_ble_eq_true rfl) ⟨by decide, by decide⟩ ⟨by decide, by decide⟩ dX8_dueField_9 h (fun r4 im5 c6 h => ?_)
  refine p_if_eq (tgt := 19) dX8_dueField_12 (by decide) (nf_r c6) (fun b7 => ?_) (fun b7 => ?_)
  · have h := h.1 b7
    refine p_iconst dX8_dueField_19 ?_
    refine p_putI (j := 4) G f_RX8_30 rfl rfl rfl (hS 0 (by decide)).1 (nf_k (by decide)) dX8_dueField_20 ?_
    refine p_gen (fun im7 e8 => ?_)
    have h := h im7 e8
    refine p_aload_n dX8_dueField_23 rfl (q := 0) rfl ?_
    refine p_getI (j := 4) G f_RX8_30 rfl (hS 0 (by decide)).1 dX8_dueField_24 (fun c9 => ?_)
    refine p_if_ne (tgt := 43) dX8_dueField_27 (by decide) (nf_r c9) (fun b10 => ?_) (fun b10 => ?_)
    · have h := h.1 b10
      refine p_iconst dX8_dueField_43 ?_
      exact p_iretI (by decide) (by decide) rfl (nf_k (by decide)) dX8_dueField_44 h
    · have h := h.2 b10
      refine p_aload_n dX8_dueField_30 rfl (q := 0) rfl ?_
      refine p_aload_n dX8_dueField_31 rfl (q := 0) rfl ?_
      refine p_iload_n dX8_dueField_32 rfl (q := 1) rfl ?_
      refine p_VI G k_RX8_202 (by decide) (hS 0 (by decide)).1 rfl rfl (Nat.le_of_ble_eq_true rfl) ⟨by decide, by decide⟩ ⟨by decide, by decide⟩ dX8_dueField_33 h (fun r10 im11 c12 h => ?_)
      refine p_iload_n dX8_dueField_36 rfl (q := 2) rfl ?_
      refine p_VI G k_RX8_137 (by decide) (hS 0 (by decide)).1 rfl rfl (Nat.le_of_ble_eq_true rfl) ⟨by decide, by decide⟩ ⟨by decide, by decide⟩ dX8_dueField_37 h (fun r13 im14 c15 h => ?_)
      refine p_goto (tgt := 44) dX8_dueField_40 (by decide) ?_
      exact p_iretI (by decide) (by decide) rfl (nf_r c15) dX8_dueField_44 h
  · have h := h.2 b7
    refine p_iconst dX8_dueField_15 ?_
    refine p_goto (tgt := 20) dX8_dueField_16 (by decide) ?_
    refine p_putI (j := 4) G f_RX8_30 rfl rfl rfl (hS 0 (by decide)).1 (nf_k (by decide)) dX8_dueField_20 ?_
    refine p_gen (fun im7 e8 => ?_)
    have h := h im7 e8
    refine p_aload_n dX8_dueField_23 rfl (q := 0) rfl ?_
    refine p_getI (j := 4) G f_RX8_30 rfl (hS 0 (by decide)).1 dX8_dueField_24 (fun c9 => ?_)
    refine p_if_ne (tgt := 43) dX8_dueField_27 (by decide) (nf_r c9) (fun b10 => ?_) (fun b10 => ?_)
    · have h := h.1 b10
      refine p_iconst dX8_dueField_43 ?_
      exact p_iretI (by decide) (by decide) rfl (nf_k (by decide)) dX8_dueField_44 h
    · have h := h.2 b10
      refine p_aload_n dX8_dueField_30 rfl (q := 0) rfl ?_
      refine p_aload_n dX8_dueField_31 rfl (q := 0) rfl ?_
      refine p_iload_n dX8_dueField_32 rfl (q := 1) rfl ?_
      refine p_VI G k_RX8_202 (by decide) (hS 0 (by decide)).1 rfl rfl (Nat.le_of_ble_eq_true rfl) ⟨by decide, by decide⟩ ⟨by decide, by decide⟩ dX8_dueField_33 h (fun r10 im11 c12 h => ?_)
      refine p_iload_n dX8_dueField_36 rfl (q := 2) rfl ?_
      refine p_VI G k_RX8_137 (by decide) (hS 0 (by decide)).1 rfl rfl (Nat.le_of_ble_eq_true rfl) ⟨by decide, by decide⟩ ⟨by decide, by decide⟩ dX8_dueField_37 h (fun r13 im14 c15 h => ?_)
      refine p_goto (tgt := 44) dX8_dueField_40 (by decide) ?_
      exact p_iretI (by decide) (by decide) rfl (nf_r c15) dX8_dueField_44 h
set_option maxRecDepth 20000 in
set_option maxHeartbeats 4000000 in
theorem v_X8_dueDay {g : zG} (G : zOK g) {S : zSh} {im : zIm} {a : Nat} {p1 : Int} {Q : Int → zIm → Prop} (hS : zS_M S a) (c_p1 : zc p1)
    (h : zCI g yX8_dueField M_X8_dueField [.ref a, .int (zi p1), .int (zi 4)] S im (fun r1 im2 => Q r1 im2)) :
    zCI g yX8_dueDay M_X8_dueDay [.ref a, .int (zi p1)] S im Q := by
  refine zC_of (by decide) rfl rfl rfl rfl (Nat.le_of_ble_eq_true rfl) ?_
  refine p_aload_n dX8_dueDay_0 rfl (q := 0) rfl ?_
  refine p_iload_n dX8_dueDay_1 rfl (q := 1) rfl ?_
  refine p_iconst dX8_dueDay_2 ?_
  refine p_VI G k_RX8_205 (by decide) (hS 0 (by decide)).1 rfl rfl (Nat.le_of_ble_eq_true rfl) ⟨by decide, by decide⟩ ⟨by decide, by decide⟩ dX8_dueDay_3 h (fun r1 im2 c3 h => ?_)
  exact p_iretI (by decide) (by decide) rfl (nf_r c3) dX8_dueDay_6 h
set_option maxRecDepth 20000 in
set_option maxHeartbeats 4000000 in
theorem v_X8_dueKind {g : zG} (G : zOK g) {S : zSh} {im : zIm} {a : Nat} {p1 : Int} {Q : Int → zIm → Prop} (hS : zS_M S a) (c_p1 : zc p1)
    (h : zCI g yX8_dueField M_X8_dueField [.ref a, .int (zi p1), .int (zi 0)] S im (fun r1 im2 => Q r1 im2)) :
    zCI g yX8_dueKind M_X8_dueKind [.ref a, .int (zi p1)] S im Q := by
  refine zC_of (by decide) rfl rfl rfl rfl (Nat.le_of_ble_eq_true rfl) ?_
  refine p_aload_n dX8_dueKind_0 rfl (q := 0) rfl ?_
  refine p_iload_n dX8_dueKind_1 rfl (q := 1) rfl ?_
  refine p_iconst dX8_dueKind_2 ?_
  refine p_VI G k_RX8_205 (by decide) (hS 0 (by decide)).1 rfl rfl (Nat.le_of_ble_eq_true rfl) ⟨by decide, by decide⟩ ⟨by decide, by decide⟩ dX8_dueKind_3 h (fun r1 im2 c3 h => ?_)
  exact p_iretI (by decide) (by decide) rfl (nf_r c3) dX8_dueKind_6 h
set_option maxRecDepth 20000 in
set_option maxHeartbeats 4000000 in
theorem v_X8_dueItem {g : zG} (G : zOK g) {S : zSh} {im : zIm} {a : Nat} {p1 : Int} {Q : Int → zIm → Prop} (hS : zS_M S a) (c_p1 : zc p1)
    (h : zCI g yX8_dueField M_X8_dueField [.ref a, .int (zi p1), .int (zi 1)] S im (fun r1 im2 => Q r1 im2)) :
    zCI g yX8_dueItem M_X8_dueItem [.ref a, .int (zi p1)] S im Q := by
  refine zC_of (by decide) rfl rfl rfl rfl (Nat.le_of_ble_eq_true rfl) ?_
  refine p_aload_n dX8_dueItem_0 rfl (q := 0) rfl ?_
  refine p_iload_n dX8_dueItem_1 rfl (q := 1) rfl ?_
  refine p_iconst dX8_dueItem_2 ?_
  refine p_VI G k_RX8_205 (by decide) (hS 0 (by decide)).1 rfl rfl (Nat.le_of_ble_eq_true rfl) ⟨by decide, by decide⟩ ⟨by decide, by decide⟩ dX8_dueItem_3 h (fun r1 im2 c3 h => ?_)
  exact p_iretI (by decide) (by decide) rfl (nf_r c3) dX8_dueItem_6 h
set_option maxRecDepth 20000 in
set_option maxHeartbeats 4000000 in
theorem v_X8_dueSite {g : zG} (G : zOK g) {S : zSh} {im : zIm} {a : Nat} {p1 : Int} {Q : Int → zIm → Prop} (hS : zS_M S a) (c_p1 : zc p1)
    (h : zCI g yX8_dueField M_X8_dueField [.ref a, .int (zi p1), .int (zi 2)] S im (fun r1 im2 => Q r1 im2)) :
    zCI g yX8_dueSite M_X8_dueSite [.ref a, .int (zi p1)] S im Q := by
  refine zC_of (by decide) rfl rfl rfl rfl (Nat.le_of_ble_eq_true rfl) ?_
  refine p_aload_n dX8_dueSite_0 rfl (q := 0) rfl ?_
  refine p_iload_n dX8_dueSite_1 rfl (q := 1) rfl ?_
  refine p_iconst dX8_dueSite_2 ?_
  refine p_VI G k_RX8_205 (by decide) (hS 0 (by decide)).1 rfl rfl (Nat.le_of_ble_eq_true rfl) ⟨by decide, by decide⟩ ⟨by decide, by decide⟩ dX8_dueSite_3 h (fun r1 im2 c3 h => ?_)
  exact p_iretI (by decide) (by decide) rfl (nf_r c3) dX8_dueSite_6 h
set_option maxRecDepth 20000 in
set_option maxHeartbeats 4000000 in
theorem v_X8_dueOwner {g : zG} (G : zOK g) {S : zSh} {im : zIm} {a : Nat} {p1 : Int} {Q : Int → zIm → Prop} (hS : zS_M S a) (c_p1 : zc p1)
    (h : zCI g yX8_dueField M_X8_dueField [.ref a, .int (zi p1), .int (zi 3)] S im (fun r1 im2 => Q r1 im2)) :
    zCI g yX8_dueOwner M_X8_dueOwner [.ref a, .int (zi p1)] S im Q := by
  refine zC_of (by decide) rfl rfl rfl rfl (Nat.le_of_ble_eq_true rfl) ?_
  refine p_aload_n dX8_dueOwner_0 rfl (q := 0) rfl ?_
  refine p_iload_n dX8_dueOwner_1 rfl (q := 1) rfl ?_
  refine p_iconst dX8_dueOwner_2 ?_
  refine p_VI G k_RX8_205 (by decide) (hS 0 (by decide)).1 rfl rfl (Nat.le_of_ble_eq_true rfl) ⟨by decide, by decide⟩ ⟨by decide, by decide⟩ dX8_dueOwner_3 h (fun r1 im2 c3 h => ?_)
  exact p_iretI (by decide) (by decide) rfl (nf_r c3) dX8_dueOwner_6 h
set_option maxRecDepth 20000 in
set_option maxHeartbeats 4000000 in
theorem v_X8_areMeant {g : zG} (G : zOK g) {S : zSh} {im : zIm} {a : Nat} {p1 : Int} {p2 : Int} {Q : Int → zIm → Prop} (hS : zS_M S a) (c_p1 : zc p1) (c_p2 : zc p2)
    (h : ((p1 = (-1) → ((p2 = (-1) → Q 1 im) ∧ (¬ p2 = (-1) → zCI g yX8_isItem M_X8_isItem [.ref a, .int (zi p2)] S im (fun r1 im2 => ((r1 = 0 → Q 0 im2) ∧ (¬ r1 = 0 → Q 1 im2)))))) ∧ (¬ p1 = (-1) → zCI g yX8_isBase M_X8_isBase [.ref a, .int (zi p1)] S im (fun r1 im2 => ((r1 = 0 → Q 0 im2) ∧ (¬ r1 = 0 → ((p2 = (-1) → Q 1 im2) ∧ (¬ p2 = (-1) → zCI g yX8_isItem M_X8_isItem [.ref a, .int (zi p2)] S im2 (fun r4 im5 => ((r4 = 0 → Q 0 im5) ∧ (¬ r4 = 0 → Q 1 im5))))))))))) :
    zCI g yX8_areMeant M_X8_areMeant [.ref a, .int (zi p1), .int (zi p2)] S im Q := by
  refine zC_of (by decide) rfl rfl rfl rfl (Nat.le_of_ble_eq_true rfl) ?_
  refine p_iload_n dX8_areMeant_0 rfl (q := 1) rfl ?_
  refine p_iconst dX8_areMeant_1 ?_
  refine p_icmp_eq (tgt := 13) dX8_areMeant_2 (by decide) (nf_r c_p1) (nf_k (by decide)) (fun b1 => ?_) (fun b1 => ?_)
  · have h := h.1 b1
    refine p_iload_n dX8_areMeant_13 rfl (q := 2) rfl ?_
    refine p_iconst dX8_areMeant_14 ?_
    refine p_icmp_eq (tgt := 26) dX8_areMeant_15 (by decide) (nf_r c_p2) (nf_k (by decide)) (fun b1 => ?_) (fun b1 => ?_)
    · have h := h.1 b1
      refine p_iconst dX8_areMeant_26 ?_
      refine p_goto (tgt := 31) dX8_areMeant_27 (by decide) ?_
      exact p_zretI (by decide) (by decide) rfl (nf_k (by decide)) (by decide) dX8_areMeant_31 h
    · have h := h.2 b1
      refine p_aload_n dX8_areMeant_18 rfl (q := 0) rfl ?_
      refine p_iload_n dX8_areMeant_19 rfl (q := 2) rfl ?_
      refine p_VI G k_RX8_81 (by decide) (hS 0 (by decide)).1 rfl rfl (Nat.le_of_ble_eq_true rfl) ⟨by decide, by decide⟩ ⟨by decide, by decide⟩ dX8_areMeant_20 h (fun r1 im2 c3 h => ?_)
      refine p_if_eq (tgt := 30) dX8_areMeant_23 (by decide) (nf_r c3) (fun b4 => ?_) (fun b4 => ?_)
      · have h := h.1 b4
        refine p_iconst dX8_areMeant_30 ?_
        exact p_zretI (by decide) (by decide) rfl (nf_k (by decide)) (by decide) dX8_areMeant_31 h
      · have h := h.2 b4
        refine p_iconst dX8_areMeant_26 ?_
        refine p_goto (tgt := 31) dX8_areMeant_27 (by decide) ?_
        exact p_zretI (by decide) (by decide) rfl (nf_k (by decide)) (by decide) dX8_areMeant_31 h
  · have h := h.2 b1
    refine p_aload_n dX8_areMeant_5 rfl (q := 0) rfl ?_
    refine p_iload_n dX8_areMeant_6 rfl (q := 1) rfl ?_
    refine p_VI G k_RX8_55 (by decide) (hS 0 (by decide)).1 rfl rfl (Nat.le_of_ble_eq_true rfl) ⟨by decide, by decide⟩ ⟨by decide, by decide⟩ dX8_areMeant_7 h (fun r1 im2 c3 h => ?_)
    refine p_if_eq (tgt := 30) dX8_areMeant_10 (by decide) (nf_r c3) (fun b4 => ?_) (fun b4 => ?_)
    · have h := h.1 b4
      refine p_iconst dX8_areMeant_30 ?_
      exact p_zretI (by decide) (by decide) rfl (nf_k (by decide)) (by decide) dX8_areMeant_31 h
    · have h := h.2 b4
      refine p_iload_n dX8_areMeant_13 rfl (q := 2) rfl ?_
      refine p_iconst dX8_areMeant_14 ?_
      refine p_icmp_eq (tgt := 26) dX8_areMeant_15 (by decide) (nf_r c_p2) (nf_k (by decide)) (fun b4 => ?_) (fun b4 => ?_)
      · have h := h.1 b4
        refine p_iconst dX8_areMeant_26 ?_
        refine p_goto (tgt := 31) dX8_areMeant_27 (by decide) ?_
        exact p_zretI (by decide) (by decide) rfl (nf_k (by decide)) (by decide) dX8_areMeant_31 h
      · have h := h.2 b4
        refine p_aload_n dX8_areMeant_18 rfl (q := 0) rfl ?_
        refine p_iload_n dX8_areMeant_19 rfl (q := 2) rfl ?_
        refine p_VI G k_RX8_81 (by decide) (hS 0 (by decide)).1 rfl rfl (Nat.le_of_ble_eq_true rfl) ⟨by decide, by decide⟩ ⟨by decide, by decide⟩ dX8_areMeant_20 h (fun r4 im5 c6 h => ?_)
        refine p_if_eq (tgt := 30) dX8_areMeant_23 (by decide) (nf_r c6) (fun b7 => ?_) (fun b7 => ?_)
        · have h := h.1 b7
          refine p_iconst dX8_areMeant_30 ?_
          exact p_zretI (by decide) (by decide) rfl (nf_k (by decide)) (by decide) dX8_areMeant_31 h
        · have h := h.2 b7
          refine p_iconst dX8_areMeant_26 ?_
          refine p_goto (tgt := 31) dX8_areMeant_27 (by decide) ?_
          exact p_zretI (by decide) (by decide) rfl (nf_k (by decide)) (by decide) dX8_areMeant_31 h
set_option maxRecDepth 20000 in
set_option maxHeartbeats 4000000 in
theorem v_X8_sum {g : zG} (G : zOK g) {S : zSh} {im : zIm} {a : Nat} {p1 : Int} {p2 : Int} {p3 : Int} {Q : Int → zIm → Prop} (hS : zS_M S a) (c_p1 : zc p1) (c_p2 : zc p2) (c_p3 : zc p3)
    (h : zPI g M_X8_sum 6 [(0, .ref a), (1, .int (zi p1)), (2, .int (zi p2)), (3, .int (zi p3)), (4, .int (zi 0)), (5, .int (zi 1))] S im Q) :
    zCI g yX8_sum M_X8_sum [.ref a, .int (zi p1), .int (zi p2), .int (zi p3)] S im Q := by
  refine zC_of (by decide) rfl rfl rfl rfl (Nat.le_of_ble_eq_true rfl) ?_
  refine p_iconst dX8_sum_0 ?_
  refine p_istore (lv' := [(4, .int (zi 0)), (0, .ref a), (1, .int (zi p1)), (2, .int (zi p2)), (3, .int (zi p3))]) dX8_sum_1 (by decide) rfl ?_
  refine p_iconst dX8_sum_3 ?_
  refine p_istore (lv' := [(5, .int (zi 1)), (4, .int (zi 0)), (0, .ref a), (1, .int (zi p1)), (2, .int (zi p2)), (3, .int (zi p3))]) dX8_sum_4 (by decide) rfl ?_
  refine p_sub (lv' := [(0, .ref a), (1, .int (zi p1)), (2, .int (zi p2)), (3, .int (zi p3)), (4, .int (zi 0)), (5, .int (zi 1))]) [2, 3, 4, 5, 1, 0] rfl ?_
  exact h
set_option maxRecDepth 20000 in
set_option maxHeartbeats 4000000 in
theorem v_X8_sum_6 {g : zG} (G : zOK g) {S : zSh} {im : zIm} {a : Nat} {x1 : Int} {x2 : Int} {x3 : Int} {x4 : Int} {x5 : Int} {Q : Int → zIm → Prop} (hS : zS_M S a) (c_x1 : zc x1) (c_x2 : zc x2) (c_x3 : zc x3) (c_x4 : zc x4) (c_x5 : zc x5)
    (h : (((im (a + 1) 3) ≤ x5 → Q x4 im) ∧ (x5 < (im (a + 1) 3) → zPI g M_X8_sum 20 [(0, .ref a), (1, .int (zi x1)), (2, .int (zi x2)), (3, .int (zi x3)), (4, .int (zi x4)), (5, .int (zi x5)), (6, .int (zi 0))] S im Q))) :
    zPI g M_X8_sum 6 [(0, .ref a), (1, .int (zi x1)), (2, .int (zi x2)), (3, .int (zi x3)), (4, .int (zi x4)), (5, .int (zi x5))] S im Q := by
  refine p_iload dX8_sum_6 (q := 5) rfl ?_
  refine p_aload_n dX8_sum_8 rfl (q := 0) rfl ?_
  refine p_getR (b := (a + 1)) G f_RX8_7 rfl (hS 0 (by decide)).1 ((hS 0 (by decide)).2.2 0 (by decide)) dX8_sum_9 ?_
  refine p_iconst dX8_sum_12 ?_
  refine p_iald G (hS 1 (by decide)).1 (nf_k (by decide)) (by decide) (zln_lt (hS 1 (by decide)).2.1 (by decide)) dX8_sum_13 (fun c1 => ?_)
  refine p_icmp_ge (tgt := 99) dX8_sum_14 (by decide) (nf_r c_x5) (nf_r c1) (fun b2 => ?_) (fun b2 => ?_)
  · have h := h.1 b2
    refine p_iload dX8_sum_99 (q := 4) rfl ?_
    exact p_iretI (by decide) (by decide) rfl (nf_r c_x4) dX8_sum_101 h
  · have h := h.2 b2
    refine p_iconst dX8_sum_17 ?_
    refine p_istore (lv' := [(6, .int (zi 0)), (0, .ref a), (1, .int (zi x1)), (2, .int (zi x2)), (3, .int (zi x3)), (4, .int (zi x4)), (5, .int (zi x5))]) dX8_sum_18 (by decide) rfl ?_
    refine p_sub (lv' := [(0, .ref a), (1, .int (zi x1)), (2, .int (zi x2)), (3, .int (zi x3)), (4, .int (zi x4)), (5, .int (zi x5)), (6, .int (zi 0))]) [1, 2, 3, 4, 5, 6, 0] rfl ?_
    exact h
set_option maxRecDepth 20000 in
set_option maxHeartbeats 4000000 in
theorem v_X8_sum_20 {g : zG} (G : zOK g) {S : zSh} {im : zIm} {a : Nat} {x1 : Int} {x2 : Int} {x3 : Int} {x4 : Int} {x5 : Int} {x6 : Int} {Q : Int → zIm → Prop} (hS : zS_M S a) (c_x1 : zc x1) (c_x2 : zc x2) (c_x3 : zc x3) (c_x4 : zc x4) (c_x5 : zc x5) (c_x6 : zc x6)
    (h : (((im (a + 1) 2) ≤ x6 → zPI g M_X8_sum 6 [(0, .ref a), (1, .int (zi x1)), (2, .int (zi x2)), (3, .int (zi x3)), (4, .int (zi x4)), (5, .int (zi (zw (x5 + 1))))] S im Q) ∧ (x6 < (im (a + 1) 2) → ((x2 = (-1) → ((x3 = (-1) → zCI g yX8_at M_X8_at [.int (zi x1), .int (zi x5), .int (zi x6)] S im (fun r2 im3 => ((0 ≤ r2 ∧ r2 < 7692) ∧ zPI g M_X8_sum 20 [(0, .ref a), (1, .int (zi x1)), (2, .int (zi x2)), (3, .int (zi x3)), (4, .int (zi (zw (x4 + (im3 (a + 1) r2))))), (5, .int (zi x5)), (6, .int (zi (zw (x6 + 1))))] S im3 Q))) ∧ (¬ x3 = (-1) → ((¬ x3 = x6 → zPI g M_X8_sum 20 [(0, .ref a), (1, .int (zi x1)), (2, .int (zi x2)), (3, .int (zi x3)), (4, .int (zi (zw (x4 + 0)))), (5, .int (zi x5)), (6, .int (zi (zw (x6 + 1))))] S im Q) ∧ (x3 = x6 → zCI g yX8_at M_X8_at [.int (zi x1), .int (zi x5), .int (zi x6)] S im (fun r2 im3 => ((0 ≤ r2 ∧ r2 < 7692) ∧ zPI g M_X8_sum 20 [(0, .ref a), (1, .int (zi x1)), (2, .int (zi x2)), (3, .int (zi x3)), (4, .int (zi (zw (x4 + (im3 (a + 1) r2))))), (5, .int (zi x5)), (6, .int (zi (zw (x6 + 1))))] S im3 Q))))))) ∧ (¬ x2 = (-1) → ((¬ x2 = x5 → zPI g M_X8_sum 20 [(0, .ref a), (1, .int (zi x1)), (2, .int (zi x2)), (3, .int (zi x3)), (4, .int (zi (zw (x4 + 0)))), (5, .int (zi x5)), (6, .int (zi (zw (x6 + 1))))] S im Q) ∧ (x2 = x5 → ((x3 = (-1) → zCI g yX8_at M_X8_at [.int (zi x1), .int (zi x5), .int (zi x6)] S im (fun r2 im3 => ((0 ≤ r2 ∧ r2 < 7692) ∧ zPI g M_X8_sum 20 [(0, .ref a), (1, .int (zi x1)), (2, .int (zi x2)), (3, .int (zi x3)), (4, .int (zi (zw (x4 + (im3 (a + 1) r2))))), (5, .int (zi x5)), (6, .int (zi (zw (x6 + 1))))] S im3 Q))) ∧ (¬ x3 = (-1) → ((¬ x3 = x6 → zPI g M_X8_sum 20 [(0, .ref a), (1, .int (zi x1)), (2, .int (zi x2)), (3, .int (zi x3)), (4, .int (zi (zw (x4 + 0)))), (5, .int (zi x5)), (6, .int (zi (zw (x6 + 1))))] S im Q) ∧ (x3 = x6 → zCI g yX8_at M_X8_at [.int (zi x1), .int (zi x5), .int (zi x6)] S im (fun r2 im3 => ((0 ≤ r2 ∧ r2 < 7692) ∧ zPI g M_X8_sum 20 [(0, .ref a), (1, .int (zi x1)), (2, .int (zi x2)), (3, .int (zi x3)), (4, .int (zi (zw (x4 + (im3 (a + 1) r2))))), (5, .int (zi x5)), (6, .int (zi (zw (x6 + 1))))] S im3 Q))))))))))))) :
    zPI g M_X8_sum 20 [(0, .ref a), (1, .int (zi x1)), (2, .int (zi x2)), (3, .int (zi x3)), (4, .int (zi x4)), (5, .int (zi x5)), (6, .int (zi x6))] S im Q := by
  refine p_iload dX8_sum_20 (q := 6) rfl ?_
  refine p_aload_n dX8_sum_22 rfl (q := 0) rfl ?_
  refine p_getR (b := (a + 1)) G f_RX8_7 rfl (hS 0 (by decide)).1 ((hS 0 (by decide)).2.2 0 (by decide)) dX8_sum_23 ?_
  refine p_iconst dX8_sum_26 ?_
  refine p_iald G (hS 1 (by decide)).1 (nf_k (by decide)) (by decide) (zln_lt (hS 1 (by decide)).2.1 (by decide)) dX8_sum_27 (fun c1 => ?_)
  refine p_icmp_ge (tgt := 93) dX8_sum_28 (by decide) (nf_r c_x6) (nf_r c1) (fun b2 => ?_) (fun b2 => ?_)
  · have h := h.1 b2
    refine p_iinc (q := 5) (lv' := [(5, .int (zi (x5 + 1))), (0, .ref a), (1, .int (zi x1)), (2, .int (zi x2)), (3, .int (zi x3)), (4, .int (zi x4)), (6, .int (zi x6))]) dX8_sum_93 rfl (by decide) rfl ?_
    refine p_goto (tgt := 6) dX8_sum_96 (by decide) ?_
    refine p_sub (lv' := [(0, .ref a), (1, .int (zi x1)), (2, .int (zi x2)), (3, .int (zi x3)), (4, .int (zi x4)), (5, .int (zi (zw (x5 + 1))))]) [1, 2, 3, 4, 5, 0] (by simp only [zi_zw, zl_zwl]; rfl) ?_
    exact h
  · have h := h.2 b2
    refine p_iload_n dX8_sum_31 rfl (q := 2) rfl ?_
    refine p_iconst dX8_sum_32 ?_
    refine p_icmp_eq (tgt := 42) dX8_sum_33 (by decide) (nf_r c_x2) (nf_k (by decide)) (fun b2 => ?_) (fun b2 => ?_)
    · have h := h.1 b2
      refine p_iload_n dX8_sum_42 rfl (q := 3) rfl ?_
      refine p_iconst dX8_sum_43 ?_
      refine p_icmp_eq (tgt := 53) dX8_sum_44 (by decide) (nf_r c_x3) (nf_k (by decide)) (fun b2 => ?_) (fun b2 => ?_)
      · have h := h.1 b2
        refine p_iconst dX8_sum_53 ?_
        refine p_goto (tgt := 58) dX8_sum_54 (by decide) ?_
        refine p_istore (lv' := [(7, .int (zi 1)), (0, .ref a), (1, .int (zi x1)), (2, .int (zi x2)), (3, .int (zi x3)), (4, .int (zi x4)), (5, .int (zi x5)), (6, .int (zi x6))]) dX8_sum_58 (by decide) rfl ?_
        refine p_iload dX8_sum_60 (q := 5) rfl ?_
        refine p_iload dX8_sum_62 (q := 0) rfl ?_
        refine p_if_eq (tgt := 83) dX8_sum_64 (by decide) (nf_k (by decide)) (fun h9 => absurd h9 (by decide)) (fun _ => ?_)
        refine p_aload_n dX8_sum_67 rfl (q := 1) rfl ?_
        refine p_getR (b := (a + 1)) G f_RX8_7 rfl (hS 0 (by decide)).1 ((hS 0 (by decide)).2.2 0 (by decide)) dX8_sum_68 ?_
        refine p_iload_n dX8_sum_71 rfl (q := 2) rfl ?_
        refine p_iload dX8_sum_72 (q := 6) rfl ?_
        refine p_iload dX8_sum_74 (q := 7) rfl ?_
        refine p_SI G k_RX8_62 rfl rfl (Nat.le_of_ble_eq_true rfl) ⟨by decide, by decide⟩ ⟨by decide, by decide⟩ dX8_sum_76 h (fun r2 im3 c4 h => ?_)
        have g6 := h.1
        have h := h.2
        refine p_iald G (hS 1 (by decide)).1 (nf_r c4) g6.1 (zln_lt (hS 1 (by decide)).2.1 g6.2) dX8_sum_79 (fun c5 => ?_)
        refine p_goto (tgt := 84) dX8_sum_80 (by decide) ?_
        refine p_iadd dX8_sum_84 ?_
        refine p_istore (lv' := [(4, .int (zi (x4 + (im3 (a + 1) r2)))), (7, .int (zi 1)), (0, .ref a), (1, .int (zi x1)), (2, .int (zi x2)), (3, .int (zi x3)), (5, .int (zi x5)), (6, .int (zi x6))]) dX8_sum_85 (by decide) rfl ?_
        refine p_iinc (q := 7) (lv' := [(6, .int (zi (x6 + 1))), (4, .int (zi (x4 + (im3 (a + 1) r2)))), (7, .int (zi 1)), (0, .ref a), (1, .int (zi x1)), (2, .int (zi x2)), (3, .int (zi x3)), (5, .int (zi x5))]) dX8_sum_87 rfl (by decide) rfl ?_
        refine p_goto (tgt := 20) dX8_sum_90 (by decide) ?_
        refine p_sub (lv' := [(0, .ref a), (1, .int (zi x1)), (2, .int (zi x2)), (3, .int (zi x3)), (4, .int (zi (zw (x4 + (im3 (a + 1) r2))))), (5, .int (zi x5)), (6, .int (zi (zw (x6 + 1))))]) [3, 4, 5, 6, 1, 7, 0] (by simp only [zi_zw, zl_zwl]; rfl) ?_
        exact h
      · have h := h.2 b2
        refine p_iload_n dX8_sum_47 rfl (q := 3) rfl ?_
        refine p_iload dX8_sum_48 (q := 6) rfl ?_
        refine p_icmp_ne (tgt := 57) dX8_sum_50 (by decide) (nf_r c_x3) (nf_r c_x6) (fun b2 => ?_) (fun b2 => ?_)
        · have h := h.1 b2
          refine p_iconst dX8_sum_57 ?_
          refine p_istore (lv' := [(7, .int (zi 0)), (0, .ref a), (1, .int (zi x1)), (2, .int (zi x2)), (3, .int (zi x3)), (4, .int (zi x4)), (5, .int (zi x5)), (6, .int (zi x6))]) dX8_sum_58 (by decide) rfl ?_
          refine p_iload dX8_sum_60 (q := 5) rfl ?_
          refine p_iload dX8_sum_62 (q := 0) rfl ?_
          refine p_if_eq (tgt := 83) dX8_sum_64 (by decide) (nf_k (by decide)) (fun _ => ?_) (fun h9 => absurd h9 (by decide))
          refine p_iconst dX8_sum_83 ?_
          refine p_iadd dX8_sum_84 ?_
          refine p_istore (lv' := [(4, .int (zi (x4 + 0))), (7, .int (zi 0)), (0, .ref a), (1, .int (zi x1)), (2, .int (zi x2)), (3, .int (zi x3)), (5, .int (zi x5)), (6, .int (zi x6))]) dX8_sum_85 (by decide) rfl ?_
          refine p_iinc (q := 7) (lv' := [(6, .int (zi (x6 + 1))), (4, .int (zi (x4 + 0))), (7, .int (zi 0)), (0, .ref a), (1, .int (zi x1)), (2, .int (zi x2)), (3, .int (zi x3)), (5, .int (zi x5))]) dX8_sum_87 rfl (by decide) rfl ?_
          refine p_goto (tgt := 20) dX8_sum_90 (by decide) ?_
          refine p_sub (lv' := [(0, .ref a), (1, .int (zi x1)), (2, .int (zi x2)), (3, .int (zi x3)), (4, .int (zi (zw (x4 + 0)))), (5, .int (zi x5)), (6, .int (zi (zw (x6 + 1))))]) [3, 4, 5, 6, 1, 7, 0] (by simp only [zi_zw, zl_zwl]; rfl) ?_
          exact h
        · have h := h.2 b2
          refine p_iconst dX8_sum_53 ?_
          refine p_goto (tgt := 58) dX8_sum_54 (by decide) ?_
          refine p_istore (lv' := [(7, .int (zi 1)), (0, .ref a), (1, .int (zi x1)), (2, .int (zi x2)), (3, .int (zi x3)), (4, .int (zi x4)), (5, .int (zi x5)), (6, .int (zi x6))]) dX8_sum_58 (by decide) rfl ?_
          refine p_iload dX8_sum_60 (q := 5) rfl ?_
          refine p_iload dX8_sum_62 (q := 0) rfl ?_
          refine p_if_eq (tgt := 83) dX8_sum_64 (by decide) (nf_k (by decide)) (fun h9 => absurd h9 (by decide)) (fun _ => ?_)
          refine p_aload_n dX8_sum_67 rfl (q := 1) rfl ?_
          refine p_getR (b := (a + 1)) G f_RX8_7 rfl (hS 0 (by decide)).1 ((hS 0 (by decide)).2.2 0 (by decide)) dX8_sum_68 ?_
          refine p_iload_n dX8_sum_71 rfl (q := 2) rfl ?_
          refine p_iload dX8_sum_72 (q := 6) rfl ?_
          refine p_iload dX8_sum_74 (q := 7) rfl ?_
          refine p_SI G k_RX8_62 rfl rfl (Nat.le_of_ble_eq_true rfl) ⟨by decide, by decide⟩ ⟨by decide, by decide⟩ dX8_sum_76 h (fun r2 im3 c4 h => ?_)
          have g6 := h.1
          have h := h.2
          refine p_iald G (hS 1 (by decide)).1 (nf_r c4) g6.1 (zln_lt (hS 1 (by decide)).2.1 g6.2) dX8_sum_79 (fun c5 => ?_)
          refine p_goto (tgt := 84) dX8_sum_80 (by decide) ?_
          refine p_iadd dX8_sum_84 ?_
          refine p_istore (lv' := [(4, .int (zi (x4 + (im3 (a + 1) r2)))), (7, .int (zi 1)), (0, .ref a), (1, .int (zi x1)), (2, .int (zi x2)), (3, .int (zi x3)), (5, .int (zi x5)), (6, .int (zi x6))]) dX8_sum_85 (by decide) rfl ?_
          refine p_iinc (q := 7) (lv' := [(6, .int (zi (x6 + 1))), (4, .int (zi (x4 + (im3 (a + 1) r2)))), (7, .int (zi 1)), (0, .ref a), (1, .int (zi x1)), (2, .int (zi x2)), (3, .int (zi x3)), (5, .int (zi x5))]) dX8_sum_87 rfl (by decide) rfl ?_
          refine p_goto (tgt := 20) dX8_sum_90 (by decide) ?_
          refine p_sub (lv' := [(0, .ref a), (1, .int (zi x1)), (2, .int (zi x2)), (3, .int (zi x3)), (4, .int (zi (zw (x4 + (im3 (a + 1) r2))))), (5, .int (zi x5)), (6, .int (zi (zw (x6 + 1))))]) [3, 4, 5, 6, 1, 7, 0] (by simp only [zi_zw, zl_zwl]; rfl) ?_
          exact h
    · have h := h.2 b2
      refine p_iload_n dX8_sum_36 rfl (q := 2) rfl ?_
      refine p_iload dX8_sum_37 (q := 5) rfl ?_
      refine p_icmp_ne (tgt := 57) dX8_sum_39 (by decide) (nf_r c_x2) (nf_r c_x5) (fun b2 => ?_) (fun b2 => ?_)
      · have h := h.1 b2
        refine p_iconst dX8_sum_57 ?_
        refine p_istore (lv' := [(7, .int (zi 0)), (0, .ref a), (1, .int (zi x1)), (2, .int (zi x2)), (3, .int (zi x3)), (4, .int (zi x4)), (5, .int (zi x5)), (6, .int (zi x6))]) dX8_sum_58 (by decide) rfl ?_
        refine p_iload dX8_sum_60 (q := 5) rfl ?_
        refine p_iload dX8_sum_62 (q := 0) rfl ?_
        refine p_if_eq (tgt := 83) dX8_sum_64 (by decide) (nf_k (by decide)) (fun _ => ?_) (fun h9 => absurd h9 (by decide))
        refine p_iconst dX8_sum_83 ?_
        refine p_iadd dX8_sum_84 ?_
        refine p_istore (lv' := [(4, .int (zi (x4 + 0))), (7, .int (zi 0)), (0, .ref a), (1, .int (zi x1)), (2, .int (zi x2)), (3, .int (zi x3)), (5, .int (zi x5)), (6, .int (zi x6))]) dX8_sum_85 (by decide) rfl ?_
        refine p_iinc (q := 7) (lv' := [(6, .int (zi (x6 + 1))), (4, .int (zi (x4 + 0))), (7, .int (zi 0)), (0, .ref a), (1, .int (zi x1)), (2, .int (zi x2)), (3, .int (zi x3)), (5, .int (zi x5))]) dX8_sum_87 rfl (by decide) rfl ?_
        refine p_goto (tgt := 20) dX8_sum_90 (by decide) ?_
        refine p_sub (lv' := [(0, .ref a), (1, .int (zi x1)), (2, .int (zi x2)), (3, .int (zi x3)), (4, .int (zi (zw (x4 + 0)))), (5, .int (zi x5)), (6, .int (zi (zw (x6 + 1))))]) [3, 4, 5, 6, 1, 7, 0] (by simp only [zi_zw, zl_zwl]; rfl) ?_
        exact h
      · have h := h.2 b2
        refine p_iload_n dX8_sum_42 rfl (q := 3) rfl ?_
        refine p_iconst dX8_sum_43 ?_
        refine p_icmp_eq (tgt := 53) dX8_sum_44 (by decide) (nf_r c_x3) (nf_k (by decide)) (fun b2 => ?_) (fun b2 => ?_)
        · have h := h.1 b2
          refine p_iconst dX8_sum_53 ?_
          refine p_goto (tgt := 58) dX8_sum_54 (by decide) ?_
          refine p_istore (lv' := [(7, .int (zi 1)), (0, .ref a), (1, .int (zi x1)), (2, .int (zi x2)), (3, .int (zi x3)), (4, .int (zi x4)), (5, .int (zi x5)), (6, .int (zi x6))]) dX8_sum_58 (by decide) rfl ?_
          refine p_iload dX8_sum_60 (q := 5) rfl ?_
          refine p_iload dX8_sum_62 (q := 0) rfl ?_
          refine p_if_eq (tgt := 83) dX8_sum_64 (by decide) (nf_k (by decide)) (fun h9 => absurd h9 (by decide)) (fun _ => ?_)
          refine p_aload_n dX8_sum_67 rfl (q := 1) rfl ?_
          refine p_getR (b := (a + 1)) G f_RX8_7 rfl (hS 0 (by decide)).1 ((hS 0 (by decide)).2.2 0 (by decide)) dX8_sum_68 ?_
          refine p_iload_n dX8_sum_71 rfl (q := 2) rfl ?_
          refine p_iload dX8_sum_72 (q := 6) rfl ?_
          refine p_iload dX8_sum_74 (q := 7) rfl ?_
          refine p_SI G k_RX8_62 rfl rfl (Nat.le_of_ble_eq_true rfl) ⟨by decide, by decide⟩ ⟨by decide, by decide⟩ dX8_sum_76 h (fun r2 im3 c4 h => ?_)
          have g6 := h.1
          have h := h.2
          refine p_iald G (hS 1 (by decide)).1 (nf_r c4) g6.1 (zln_lt (hS 1 (by decide)).2.1 g6.2) dX8_sum_79 (fun c5 => ?_)
          refine p_goto (tgt := 84) dX8_sum_80 (by decide) ?_
          refine p_iadd dX8_sum_84 ?_
          refine p_istore (lv' := [(4, .int (zi (x4 + (im3 (a + 1) r2)))), (7, .int (zi 1)), (0, .ref a), (1, .int (zi x1)), (2, .int (zi x2)), (3, .int (zi x3)), (5, .int (zi x5)), (6, .int (zi x6))]) dX8_sum_85 (by decide) rfl ?_
          refine p_iinc (q := 7) (lv' := [(6, .int (zi (x6 + 1))), (4, .int (zi (x4 + (im3 (a + 1) r2)))), (7, .int (zi 1)), (0, .ref a), (1, .int (zi x1)), (2, .int (zi x2)), (3, .int (zi x3)), (5, .int (zi x5))]) dX8_sum_87 rfl (by decide) rfl ?_
          refine p_goto (tgt := 20) dX8_sum_90 (by decide) ?_
          refine p_sub (lv' := [(0, .ref a), (1, .int (zi x1)), (2, .int (zi x2)), (3, .int (zi x3)), (4, .int (zi (zw (x4 + (im3 (a + 1) r2))))), (5, .int (zi x5)), (6, .int (zi (zw (x6 + 1))))]) [3, 4, 5, 6, 1, 7, 0] (by simp only [zi_zw, zl_zwl]; rfl) ?_
          exact h
        · have h := h.2 b2
          refine p_iload_n dX8_sum_47 rfl (q := 3) rfl ?_
          refine p_iload dX8_sum_48 (q := 6) rfl ?_
          refine p_icmp_ne (tgt := 57) dX8_sum_50 (by decide) (nf_r c_x3) (nf_r c_x6) (fun b2 => ?_) (fun b2 => ?_)
          · have h := h.1 b2
            refine p_iconst dX8_sum_57 ?_
            refine p_istore (lv' := [(7, .int (zi 0)), (0, .ref a), (1, .int (zi x1)), (2, .int (zi x2)), (3, .int (zi x3)), (4, .int (zi x4)), (5, .int (zi x5)), (6, .int (zi x6))]) dX8_sum_58 (by decide) rfl ?_
            refine p_iload dX8_sum_60 (q := 5) rfl ?_
            refine p_iload dX8_sum_62 (q := 0) rfl ?_
            refine p_if_eq (tgt := 83) dX8_sum_64 (by decide) (nf_k (by decide)) (fun _ => ?_) (fun h9 => absurd h9 (by decide))
            refine p_iconst dX8_sum_83 ?_
            refine p_iadd dX8_sum_84 ?_
            refine p_istore (lv' := [(4, .int (zi (x4 + 0))), (7, .int (zi 0)), (0, .ref a), (1, .int (zi x1)), (2, .int (zi x2)), (3, .int (zi x3)), (5, .int (zi x5)), (6, .int (zi x6))]) dX8_sum_85 (by decide) rfl ?_
            refine p_iinc (q := 7) (lv' := [(6, .int (zi (x6 + 1))), (4, .int (zi (x4 + 0))), (7, .int (zi 0)), (0, .ref a), (1, .int (zi x1)), (2, .int (zi x2)), (3, .int (zi x3)), (5, .int (zi x5))]) dX8_sum_87 rfl (by decide) rfl ?_
            refine p_goto (tgt := 20) dX8_sum_90 (by decide) ?_
            refine p_sub (lv' := [(0, .ref a), (1, .int (zi x1)), (2, .int (zi x2)), (3, .int (zi x3)), (4, .int (zi (zw (x4 + 0)))), (5, .int (zi x5)), (6, .int (zi (zw (x6 + 1))))]) [3, 4, 5, 6, 1, 7, 0] (by simp only [zi_zw, zl_zwl]; rfl) ?_
            exact h
          · have h := h.2 b2
            refine p_iconst dX8_sum_53 ?_
            refine p_goto (tgt := 58) dX8_sum_54 (by decide) ?_
            refine p_istore (lv' := [(7, .int (zi 1)), (0, .ref a), (1, .int (zi x1)), (2, .int (zi x2)), (3, .int (zi x3)), (4, .int (zi x4)), (5, .int (zi x5)), (6, .int (zi x6))]) dX8_sum_58 (by decide) rfl ?_
            refine p_iload dX8_sum_60 (q := 5) rfl ?_
            refine p_iload dX8_sum_62 (q := 0) rfl ?_
            refine p_if_eq (tgt := 83) dX8_sum_64 (by decide) (nf_k (by decide)) (fun h9 => absurd h9 (by decide)) (fun _ => ?_)
            refine p_aload_n dX8_sum_67 rfl (q := 1) rfl ?_
            refine p_getR (b := (a + 1)) G f_RX8_7 rfl (hS 0 (by decide)).1 ((hS 0 (by decide)).2.2 0 (by decide)) dX8_sum_68 ?_
            refine p_iload_n dX8_sum_71 rfl (q := 2) rfl ?_
            refine p_iload dX8_sum_72 (q := 6) rfl ?_
            refine p_iload dX8_sum_74 (q := 7) rfl ?_
            refine p_SI G k_RX8_62 rfl rfl (Nat.le_of_ble_eq_true rfl) ⟨by decide, by decide⟩ ⟨by decide, by decide⟩ dX8_sum_76 h (fun r2 im3 c4 h => ?_)
            have g6 := h.1
            have h := h.2
            refine p_iald G (hS 1 (by decide)).1 (nf_r c4) g6.1 (zln_lt (hS 1 (by decide)).2.1 g6.2) dX8_sum_79 (fun c5 => ?_)
            refine p_goto (tgt := 84) dX8_sum_80 (by decide) ?_
            refine p_iadd dX8_sum_84 ?_
            refine p_istore (lv' := [(4, .int (zi (x4 + (im3 (a + 1) r2)))), (7, .int (zi 1)), (0, .ref a), (1, .int (zi x1)), (2, .int (zi x2)), (3, .int (zi x3)), (5, .int (zi x5)), (6, .int (zi x6))]) dX8_sum_85 (by decide) rfl ?_
            refine p_iinc (q := 7) (lv' := [(6, .int (zi (x6 + 1))), (4, .int (zi (x4 + (im3 (a + 1) r2)))), (7, .int (zi 1)), (0, .ref a), (1, .int (zi x1)), (2, .int (zi x2)), (3, .int (zi x3)), (5, .int (zi x5))]) dX8_sum_87 rfl (by decide) rfl ?_
            refine p_goto (tgt := 20) dX8_sum_90 (by decide) ?_
            refine p_sub (lv' := [(0, .ref a), (1, .int (zi x1)), (2, .int (zi x2)), (3, .int (zi x3)), (4, .int (zi (zw (x4 + (im3 (a + 1) r2))))), (5, .int (zi x5)), (6, .int (zi (zw (x6 + 1))))]) [3, 4, 5, 6, 1, 7, 0] (by simp only [zi_zw, zl_zwl]; rfl) ?_
            exact h
set_option maxRecDepth 20000 in
set_option maxHeartbeats 4000000 in
theorem v_X8_figure {g : zG} (G : zOK g) {S : zSh} {im : zIm} {a : Nat} {p1 : Int} {p2 : Int} {p3 : Int} {Q : Int → zIm → Prop} (hS : zS_M S a) (c_p1 : zc p1) (c_p2 : zc p2) (c_p3 : zc p3)
    (h : ∀ im1, im1 = zst im a 4 0 → zCI g yX8_areMeant M_X8_areMeant [.ref a, .int (zi p2), .int (zi p3)] S im1 (fun r3 im4 => ((r3 = 0 → zCI g yX8_fail M_X8_fail [.ref a, .int (zi 1)] S im4 (fun r6 im7 => Q r6 im7)) ∧ (¬ r3 = 0 → zCI g yX8_sum M_X8_sum [.ref a, .int (zi p1), .int (zi p2), .int (zi p3)] S im4 (fun r6 im7 => Q r6 im7))))) :
    zCI g yX8_figure M_X8_figure [.ref a, .int (zi p1), .int (zi p2), .int (zi p3)] S im Q := by
  refine zC_of (by decide) rfl rfl rfl rfl (Nat.le_of_ble_eq_true rfl) ?_
  refine p_aload_n dX8_figure_0 rfl (q := 0) rfl ?_
  refine p_iconst dX8_figure_1 ?_
  refine p_putI (j := 4) G f_RX8_30 rfl rfl rfl (hS 0 (by decide)).1 (nf_k (by decide)) dX8_figure_2 ?_
  refine p_gen (fun im1 e2 => ?_)
  have h := h im1 e2
  refine p_aload_n dX8_figure_5 rfl (q := 0) rfl ?_
  refine p_iload_n dX8_figure_6 rfl (q := 2) rfl ?_
  refine p_iload_n dX8_figure_7 rfl (q := 3) rfl ?_
  refine p_VI G k_RX8_208 (by decide) (hS 0 (by decide)).1 rfl rfl (Nat.le_of_ble_eq_true rfl) ⟨by decide, by decide⟩ ⟨by decide, by decide⟩ dX8_figure_8 h (fun r3 im4 c5 h => ?_)
  refine p_if_eq (tgt := 24) dX8_figure_11 (by decide) (nf_r c5) (fun b6 => ?_) (fun b6 => ?_)
  · have h := h.1 b6
    refine p_aload_n dX8_figure_24 rfl (q := 0) rfl ?_
    refine p_iconst dX8_figure_25 ?_
    refine p_VI G k_RX8_41 (by decide) (hS 0 (by decide)).1 rfl rfl (Nat.le_of_ble_eq_true rfl) ⟨by decide, by decide⟩ ⟨by decide, by decide⟩ dX8_figure_26 h (fun r6 im7 c8 h => ?_)
    exact p_iretI (by decide) (by decide) rfl (nf_r c8) dX8_figure_29 h
  · have h := h.2 b6
    refine p_aload_n dX8_figure_14 rfl (q := 0) rfl ?_
    refine p_iload_n dX8_figure_15 rfl (q := 1) rfl ?_
    refine p_iload_n dX8_figure_16 rfl (q := 2) rfl ?_
    refine p_iload_n dX8_figure_17 rfl (q := 3) rfl ?_
    refine p_VI G k_RX8_211 (by decide) (hS 0 (by decide)).1 rfl rfl (Nat.le_of_ble_eq_true rfl) ⟨by decide, by decide⟩ ⟨by decide, by decide⟩ dX8_figure_18 h (fun r6 im7 c8 h => ?_)
    refine p_goto (tgt := 29) dX8_figure_21 (by decide) ?_
    exact p_iretI (by decide) (by decide) rfl (nf_r c8) dX8_figure_29 h
set_option maxRecDepth 20000 in
set_option maxHeartbeats 4000000 in
theorem v_X8_demands {g : zG} (G : zOK g) {S : zSh} {im : zIm} {a : Nat} {p1 : Int} {p2 : Int} {Q : Int → zIm → Prop} (hS : zS_M S a) (c_p1 : zc p1) (c_p2 : zc p2)
    (h : zCI g yX8_figure M_X8_figure [.ref a, .int (zi 252), .int (zi p1), .int (zi p2)] S im (fun r1 im2 => Q r1 im2)) :
    zCI g yX8_demands M_X8_demands [.ref a, .int (zi p1), .int (zi p2)] S im Q := by
  refine zC_of (by decide) rfl rfl rfl rfl (Nat.le_of_ble_eq_true rfl) ?_
  refine p_aload_n dX8_demands_0 rfl (q := 0) rfl ?_
  refine p_sipush dX8_demands_1 (by decide) ?_
  refine p_iload_n dX8_demands_4 rfl (q := 1) rfl ?_
  refine p_iload_n dX8_demands_5 rfl (q := 2) rfl ?_
  refine p_VI G k_RX8_214 (by decide) (hS 0 (by decide)).1 rfl rfl (Nat.le_of_ble_eq_true rfl) ⟨by decide, by decide⟩ ⟨by decide, by decide⟩ dX8_demands_6 h (fun r1 im2 c3 h => ?_)
  exact p_iretI (by decide) (by decide) rfl (nf_r c3) dX8_demands_9 h
set_option maxRecDepth 20000 in
set_option maxHeartbeats 4000000 in
theorem v_X8_commonDivisor {g : zG} (G : zOK g) {S : zSh} {im : zIm} {p1 : Int} {p2 : Int} {Q : Int → zIm → Prop} (c_p1 : zc p1) (c_p2 : zc p2)
    (h : zPI g M_X8_commonDivisor 4 [(2, .int (zi p1)), (3, .int (zi p2))] S im Q) :
    zCI g yX8_commonDivisor M_X8_commonDivisor [.int (zi p1), .int (zi p2)] S im Q := by
  refine zC_of (by decide) rfl rfl rfl rfl (Nat.le_of_ble_eq_true rfl) ?_
  refine p_iload_n dX8_commonDivisor_0 rfl (q := 0) rfl ?_
  refine p_istore_n (lv' := [(2, .int (zi p1)), (0, .int (zi p1)), (1, .int (zi p2))]) dX8_commonDivisor_1 rfl (by decide) rfl ?_
  refine p_iload_n dX8_commonDivisor_2 rfl (q := 2) rfl ?_
  refine p_istore_n (lv' := [(3, .int (zi p2)), (2, .int (zi p1)), (0, .int (zi p1)), (1, .int (zi p2))]) dX8_commonDivisor_3 rfl (by decide) rfl ?_
  refine p_sub (lv' := [(2, .int (zi p1)), (3, .int (zi p2))]) [1, 0] rfl ?_
  exact h
set_option maxRecDepth 20000 in
set_option maxHeartbeats 4000000 in
theorem v_X8_commonDivisor_4 {g : zG} (G : zOK g) {S : zSh} {im : zIm} {x2 : Int} {x3 : Int} {Q : Int → zIm → Prop} (c_x2 : zc x2) (c_x3 : zc x3)
    (h : ((x3 = 0 → Q x2 im) ∧ (¬ x3 = 0 → (¬ x3 = 0) ∧ zPI g M_X8_commonDivisor 4 [(2, .int (zi x3)), (3, .int (zi (zw (Int.tmod x2 x3))))] S im Q))) :
    zPI g M_X8_commonDivisor 4 [(2, .int (zi x2)), (3, .int (zi x3))] S im Q := by
  refine p_iload_n dX8_commonDivisor_4 rfl (q := 1) rfl ?_
  refine p_if_eq (tgt := 21) dX8_commonDivisor_5 (by decide) (nf_r c_x3) (fun b1 => ?_) (fun b1 => ?_)
  · have h := h.1 b1
    refine p_iload_n dX8_commonDivisor_21 rfl (q := 0) rfl ?_
    exact p_iretI (by decide) (by decide) rfl (nf_r c_x2) dX8_commonDivisor_22 h
  · have h := h.2 b1
    refine p_iload_n dX8_commonDivisor_8 rfl (q := 0) rfl ?_
    refine p_iload_n dX8_commonDivisor_9 rfl (q := 1) rfl ?_
    have h0_10 := h.1
    have h := h.2
    refine p_irem dX8_commonDivisor_10 (nf_r c_x2) (nf_r c_x3) h0_10 ?_
    refine p_istore (lv' := [(4, .int (zi (Int.tmod x2 x3))), (2, .int (zi x2)), (3, .int (zi x3))]) dX8_commonDivisor_11 (by decide) rfl ?_
    refine p_iload_n dX8_commonDivisor_13 rfl (q := 2) rfl ?_
    refine p_istore_n (lv' := [(2, .int (zi x3)), (4, .int (zi (Int.tmod x2 x3))), (3, .int (zi x3))]) dX8_commonDivisor_14 rfl (by decide) rfl ?_
    refine p_iload dX8_commonDivisor_15 (q := 1) rfl ?_
    refine p_istore_n (lv' := [(3, .int (zi (Int.tmod x2 x3))), (2, .int (zi x3)), (4, .int (zi (Int.tmod x2 x3)))]) dX8_commonDivisor_17 rfl (by decide) rfl ?_
    refine p_goto (tgt := 4) dX8_commonDivisor_18 (by decide) ?_
    refine p_sub (lv' := [(2, .int (zi x3)), (3, .int (zi (zw (Int.tmod x2 x3))))]) [1, 0] (by simp only [zi_zw, zl_zwl]; rfl) ?_
    exact h
set_option maxRecDepth 20000 in
set_option maxHeartbeats 4000000 in
theorem v_X8_fillRate {g : zG} (G : zOK g) {S : zSh} {im : zIm} {a : Nat} {p1 : Int} {p2 : Int} {p3 : Int} {Q : Int → zIm → Prop} (hS : zS_M S a) (c_p1 : zc p1) (c_p2 : zc p2) (c_p3 : zc p3)
    (h : ∀ im1, im1 = zst im a 4 0 → zCI g yX8_areMeant M_X8_areMeant [.ref a, .int (zi p1), .int (zi p2)] S im1 (fun r3 im4 => ((¬ r3 = 0 → zCI g yX8_sum M_X8_sum [.ref a, .int (zi 284), .int (zi p1), .int (zi p2)] S im4 (fun r6 im7 => zCI g yX8_sum M_X8_sum [.ref a, .int (zi 252), .int (zi p1), .int (zi p2)] S im7 (fun r9 im10 => ((¬ r6 = 0 → ((p3 = 0 → zCI g yX8_commonDivisor M_X8_commonDivisor [.int (zi r6), .int (zi r9)] S im10 (fun r12 im13 => (¬ r12 = 0) ∧ Q (zw (Int.tdiv r9 r12)) im13)) ∧ (¬ p3 = 0 → zCI g yX8_commonDivisor M_X8_commonDivisor [.int (zi r6), .int (zi r9)] S im10 (fun r12 im13 => (¬ r12 = 0) ∧ Q (zw (Int.tdiv r6 r12)) im13)))) ∧ (r6 = 0 → ((p3 = 0 → Q 1 im10) ∧ (¬ p3 = 0 → Q 0 im10))))))) ∧ (r3 = 0 → zCI g yX8_fail M_X8_fail [.ref a, .int (zi 1)] S im4 (fun r6 im7 => Q r6 im7))))) :
    zCI g yX8_fillRate M_X8_fillRate [.ref a, .int (zi p1), .int (zi p2), .int (zi p3)] S im Q := by
  refine zC_of (by decide) rfl rfl rfl rfl (Nat.le_of_ble_eq_true rfl) ?_
  refine p_aload_n dX8_fillRate_0 rfl (q := 0) rfl ?_
  refine p_iconst dX8_fillRate_1 ?_
  refine p_putI (j := 4) G f_RX8_30 rfl rfl rfl (hS 0 (by decide)).1 (nf_k (by decide)) dX8_fillRate_2 ?_
  refine p_gen (fun im1 e2 => ?_)
  have h := h im1 e2
  refine p_aload_n dX8_fillRate_5 rfl (q := 0) rfl ?_
  refine p_iload_n dX8_fillRate_6 rfl (q := 1) rfl ?_
  refine p_iload_n dX8_fillRate_7 rfl (q := 2) rfl ?_
  refine p_VI G k_RX8_208 (by decide) (hS 0 (by decide)).1 rfl rfl (Nat.le_of_ble_eq_true rfl) ⟨by decide, by decide⟩ ⟨by decide, by decide⟩ dX8_fillRate_8 h (fun r3 im4 c5 h => ?_)
  refine p_if_ne (tgt := 20) dX8_fillRate_11 (by decide) (nf_r c5) (fun b6 => ?_) (fun b6 => ?_)
  · have h := h.1 b6
    refine p_aload_n dX8_fillRate_20 rfl (q := 0) rfl ?_
    refine p_sipush dX8_fillRate_21 (by decide) ?_
    refine p_iload_n dX8_fillRate_24 rfl (q := 1) rfl ?_
    refine p_iload_n dX8_fillRate_25 rfl (q := 2) rfl ?_
    refine p_VI G k_RX8_211 (by decide) (hS 0 (by decide)).1 rfl rfl (Nat.le_of_ble_eq_true rfl) ⟨by decide, by decide⟩ ⟨by decide, by decide⟩ dX8_fillRate_26 h (fun r6 im7 c8 h => ?_)
    refine p_istore (lv' := [(4, .int (zi r6)), (0, .ref a), (1, .int (zi p1)), (2, .int (zi p2)), (3, .int (zi p3))]) dX8_fillRate_29 (by decide) rfl ?_
    refine p_aload_n dX8_fillRate_31 rfl (q := 1) rfl ?_
    refine p_sipush dX8_fillRate_32 (by decide) ?_
    refine p_iload_n dX8_fillRate_35 rfl (q := 2) rfl ?_
    refine p_iload_n dX8_fillRate_36 rfl (q := 3) rfl ?_
    refine p_VI G k_RX8_211 (by decide) (hS 0 (by decide)).1 rfl rfl (Nat.le_of_ble_eq_true rfl) ⟨by decide, by decide⟩ ⟨by decide, by decide⟩ dX8_fillRate_37 h (fun r9 im10 c11 h => ?_)
    refine p_istore (lv' := [(5, .int (zi r9)), (4, .int (zi r6)), (0, .ref a), (1, .int (zi p1)), (2, .int (zi p2)), (3, .int (zi p3))]) dX8_fillRate_40 (by decide) rfl ?_
    refine p_iload dX8_fillRate_42 (q := 1) rfl ?_
    refine p_if_ne (tgt := 57) dX8_fillRate_44 (by decide) (nf_r c8) (fun b12 => ?_) (fun b12 => ?_)
    · have h := h.1 b12
      refine p_iload_n dX8_fillRate_57 rfl (q := 5) rfl ?_
      refine p_if_eq (tgt := 66) dX8_fillRate_58 (by decide) (nf_r c_p3) (fun b12 => ?_) (fun b12 => ?_)
      · have h := h.1 b12
        refine p_iload dX8_fillRate_66 (q := 0) rfl ?_
        refine p_iload dX8_fillRate_68 (q := 1) rfl ?_
        refine p_iload dX8_fillRate_70 (q := 0) rfl ?_
        refine p_SI G k_RX8_217 rfl rfl (Nat.le_of_ble_eq_true rfl) ⟨by decide, by decide⟩ ⟨by decide, by decide⟩ dX8_fillRate_72 h (fun r12 im13 c14 h => ?_)
        have h0_75 := h.1
        have h := h.2
        refine p_idiv dX8_fillRate_75 (nf_r c11) (nf_r c14) h0_75 ?_
        exact p_iretI (by decide) (by decide) rfl (nf_w _) dX8_fillRate_76 h
      · have h := h.2 b12
        refine p_iload dX8_fillRate_61 (q := 1) rfl ?_
        refine p_goto (tgt := 68) dX8_fillRate_63 (by decide) ?_
        refine p_iload dX8_fillRate_68 (q := 1) rfl ?_
        refine p_iload dX8_fillRate_70 (q := 0) rfl ?_
        refine p_SI G k_RX8_217 rfl rfl (Nat.le_of_ble_eq_true rfl) ⟨by decide, by decide⟩ ⟨by decide, by decide⟩ dX8_fillRate_72 h (fun r12 im13 c14 h => ?_)
        have h0_75 := h.1
        have h := h.2
        refine p_idiv dX8_fillRate_75 (nf_r c8) (nf_r c14) h0_75 ?_
        exact p_iretI (by decide) (by decide) rfl (nf_w _) dX8_fillRate_76 h
    · have h := h.2 b12
      refine p_iload_n dX8_fillRate_47 rfl (q := 5) rfl ?_
      refine p_if_eq (tgt := 55) dX8_fillRate_48 (by decide) (nf_r c_p3) (fun b12 => ?_) (fun b12 => ?_)
      · have h := h.1 b12
        refine p_iconst dX8_fillRate_55 ?_
        exact p_iretI (by decide) (by decide) rfl (nf_k (by decide)) dX8_fillRate_56 h
      · have h := h.2 b12
        refine p_iconst dX8_fillRate_51 ?_
        refine p_goto (tgt := 56) dX8_fillRate_52 (by decide) ?_
        exact p_iretI (by decide) (by decide) rfl (nf_k (by decide)) dX8_fillRate_56 h
  · have h := h.2 b6
    refine p_aload_n dX8_fillRate_14 rfl (q := 0) rfl ?_
    refine p_iconst dX8_fillRate_15 ?_
    refine p_VI G k_RX8_41 (by decide) (hS 0 (by decide)).1 rfl rfl (Nat.le_of_ble_eq_true rfl) ⟨by decide, by decide⟩ ⟨by decide, by decide⟩ dX8_fillRate_16 h (fun r6 im7 c8 h => ?_)
    exact p_iretI (by decide) (by decide) rfl (nf_r c8) dX8_fillRate_19 h
set_option maxRecDepth 20000 in
set_option maxHeartbeats 4000000 in
theorem v_X8_fillNumerator {g : zG} (G : zOK g) {S : zSh} {im : zIm} {a : Nat} {p1 : Int} {p2 : Int} {Q : Int → zIm → Prop} (hS : zS_M S a) (c_p1 : zc p1) (c_p2 : zc p2)
    (h : zCI g yX8_fillRate M_X8_fillRate [.ref a, .int (zi p1), .int (zi p2), .int (zi 1)] S im (fun r1 im2 => Q r1 im2)) :
    zCI g yX8_fillNumerator M_X8_fillNumerator [.ref a, .int (zi p1), .int (zi p2)] S im Q := by
  refine zC_of (by decide) rfl rfl rfl rfl (Nat.le_of_ble_eq_true rfl) ?_
  refine p_aload_n dX8_fillNumerator_0 rfl (q := 0) rfl ?_
  refine p_iload_n dX8_fillNumerator_1 rfl (q := 1) rfl ?_
  refine p_iload_n dX8_fillNumerator_2 rfl (q := 2) rfl ?_
  refine p_iconst dX8_fillNumerator_3 ?_
  refine p_VI G k_RX8_220 (by decide) (hS 0 (by decide)).1 rfl rfl (Nat.le_of_ble_eq_true rfl) ⟨by decide, by decide⟩ ⟨by decide, by decide⟩ dX8_fillNumerator_4 h (fun r1 im2 c3 h => ?_)
  exact p_iretI (by decide) (by decide) rfl (nf_r c3) dX8_fillNumerator_7 h
set_option maxRecDepth 20000 in
set_option maxHeartbeats 4000000 in
theorem v_X8_fillDenominator {g : zG} (G : zOK g) {S : zSh} {im : zIm} {a : Nat} {p1 : Int} {p2 : Int} {Q : Int → zIm → Prop} (hS : zS_M S a) (c_p1 : zc p1) (c_p2 : zc p2)
    (h : zCI g yX8_fillRate M_X8_fillRate [.ref a, .int (zi p1), .int (zi p2), .int (zi 0)] S im (fun r1 im2 => Q r1 im2)) :
    zCI g yX8_fillDenominator M_X8_fillDenominator [.ref a, .int (zi p1), .int (zi p2)] S im Q := by
  refine zC_of (by decide) rfl rfl rfl rfl (Nat.le_of_ble_eq_true rfl) ?_
  refine p_aload_n dX8_fillDenominator_0 rfl (q := 0) rfl ?_
  refine p_iload_n dX8_fillDenominator_1 rfl (q := 1) rfl ?_
  refine p_iload_n dX8_fillDenominator_2 rfl (q := 2) rfl ?_
  refine p_iconst dX8_fillDenominator_3 ?_
  refine p_VI G k_RX8_220 (by decide) (hS 0 (by decide)).1 rfl rfl (Nat.le_of_ble_eq_true rfl) ⟨by decide, by decide⟩ ⟨by decide, by decide⟩ dX8_fillDenominator_4 h (fun r1 im2 c3 h => ?_)
  exact p_iretI (by decide) (by decide) rfl (nf_r c3) dX8_fillDenominator_7 h
set_option maxRecDepth 20000 in
set_option maxHeartbeats 4000000 in
theorem v_X8_delays {g : zG} (G : zOK g) {S : zSh} {im : zIm} {a : Nat} {p1 : Int} {p2 : Int} {Q : Int → zIm → Prop} (hS : zS_M S a) (c_p1 : zc p1) (c_p2 : zc p2)
    (h : zCI g yX8_figure M_X8_figure [.ref a, .int (zi 316), .int (zi p1), .int (zi p2)] S im (fun r1 im2 => Q r1 im2)) :
    zCI g yX8_delays M_X8_delays [.ref a, .int (zi p1), .int (zi p2)] S im Q := by
  refine zC_of (by decide) rfl rfl rfl rfl (Nat.le_of_ble_eq_true rfl) ?_
  refine p_aload_n dX8_delays_0 rfl (q := 0) rfl ?_
  refine p_sipush dX8_delays_1 (by decide) ?_
  refine p_iload_n dX8_delays_4 rfl (q := 1) rfl ?_
  refine p_iload_n dX8_delays_5 rfl (q := 2) rfl ?_
  refine p_VI G k_RX8_214 (by decide) (hS 0 (by decide)).1 rfl rfl (Nat.le_of_ble_eq_true rfl) ⟨by decide, by decide⟩ ⟨by decide, by decide⟩ dX8_delays_6 h (fun r1 im2 c3 h => ?_)
  exact p_iretI (by decide) (by decide) rfl (nf_r c3) dX8_delays_9 h
set_option maxRecDepth 20000 in
set_option maxHeartbeats 4000000 in
theorem v_X8_backorderDays {g : zG} (G : zOK g) {S : zSh} {im : zIm} {a : Nat} {p1 : Int} {p2 : Int} {Q : Int → zIm → Prop} (hS : zS_M S a) (c_p1 : zc p1) (c_p2 : zc p2)
    (h : zCI g yX8_figure M_X8_figure [.ref a, .int (zi 348), .int (zi p1), .int (zi p2)] S im (fun r1 im2 => Q r1 im2)) :
    zCI g yX8_backorderDays M_X8_backorderDays [.ref a, .int (zi p1), .int (zi p2)] S im Q := by
  refine zC_of (by decide) rfl rfl rfl rfl (Nat.le_of_ble_eq_true rfl) ?_
  refine p_aload_n dX8_backorderDays_0 rfl (q := 0) rfl ?_
  refine p_sipush dX8_backorderDays_1 (by decide) ?_
  refine p_iload_n dX8_backorderDays_4 rfl (q := 1) rfl ?_
  refine p_iload_n dX8_backorderDays_5 rfl (q := 2) rfl ?_
  refine p_VI G k_RX8_214 (by decide) (hS 0 (by decide)).1 rfl rfl (Nat.le_of_ble_eq_true rfl) ⟨by decide, by decide⟩ ⟨by decide, by decide⟩ dX8_backorderDays_6 h (fun r1 im2 c3 h => ?_)
  exact p_iretI (by decide) (by decide) rfl (nf_r c3) dX8_backorderDays_9 h
set_option maxRecDepth 20000 in
set_option maxHeartbeats 4000000 in
theorem v_X8_helped {g : zG} (G : zOK g) {S : zSh} {im : zIm} {a : Nat} {p1 : Int} {p2 : Int} {Q : Int → zIm → Prop} (hS : zS_M S a) (c_p1 : zc p1) (c_p2 : zc p2)
    (h : zCI g yX8_figure M_X8_figure [.ref a, .int (zi 380), .int (zi p1), .int (zi p2)] S im (fun r1 im2 => Q r1 im2)) :
    zCI g yX8_helped M_X8_helped [.ref a, .int (zi p1), .int (zi p2)] S im Q := by
  refine zC_of (by decide) rfl rfl rfl rfl (Nat.le_of_ble_eq_true rfl) ?_
  refine p_aload_n dX8_helped_0 rfl (q := 0) rfl ?_
  refine p_sipush dX8_helped_1 (by decide) ?_
  refine p_iload_n dX8_helped_4 rfl (q := 1) rfl ?_
  refine p_iload_n dX8_helped_5 rfl (q := 2) rfl ?_
  refine p_VI G k_RX8_214 (by decide) (hS 0 (by decide)).1 rfl rfl (Nat.le_of_ble_eq_true rfl) ⟨by decide, by decide⟩ ⟨by decide, by decide⟩ dX8_helped_6 h (fun r1 im2 c3 h => ?_)
  exact p_iretI (by decide) (by decide) rfl (nf_r c3) dX8_helped_9 h
set_option maxRecDepth 20000 in
set_option maxHeartbeats 4000000 in
theorem v_X8_copy {g : zG} (G : zOK g) {S : zSh} {im : zIm} {p1 : Nat} {p2 : Int} {p3 : Nat} {p4 : Int} {Q : zIm → Prop} (hk_p1 : zkd S p1 = 9) (c_p2 : zc p2) (hk_p3 : zkd S p3 = 9) (c_p4 : zc p4)
    (h : zPV g M_X8_copy 3 [(0, .ref p1), (1, .int (zi p2)), (2, .ref p3), (3, .int (zi p4)), (4, .int (zi 0))] S im Q) :
    zCV g yX8_copy M_X8_copy [.ref p1, .int (zi p2), .ref p3, .int (zi p4)] S im Q := by
  refine zC_of (by decide) rfl rfl rfl rfl (Nat.le_of_ble_eq_true rfl) ?_
  refine p_iconst dX8_copy_0 ?_
  refine p_istore (lv' := [(4, .int (zi 0)), (0, .ref p1), (1, .int (zi p2)), (2, .ref p3), (3, .int (zi p4))]) dX8_copy_1 (by decide) rfl ?_
  refine p_sub (lv' := [(0, .ref p1), (1, .int (zi p2)), (2, .ref p3), (3, .int (zi p4)), (4, .int (zi 0))]) [1, 2, 3, 4, 0] rfl ?_
  exact h
set_option maxRecDepth 20000 in
set_option maxHeartbeats 4000000 in
theorem v_X8_copy_3 {g : zG} (G : zOK g) {S : zSh} {im : zIm} {p1 : Nat} {p3 : Nat} {x1 : Int} {x3 : Int} {x4 : Int} {Q : zIm → Prop} (hk_p1 : zkd S p1 = 9) (hk_p3 : zkd S p3 = 9) (c_x1 : zc x1) (c_x3 : zc x3) (c_x4 : zc x4)
    (h : ((7692 ≤ x4 → Q im) ∧ (x4 < 7692 → ((0 ≤ (zw (x1 + x4)) ∧ (zw (x1 + x4)) < (zln S p1 : Int)) ∧ ((0 ≤ (zw (x3 + x4)) ∧ (zw (x3 + x4)) < (zln S p3 : Int)) ∧ ∀ im3, im3 = zst im p3 (zw (x3 + x4)) (im p1 (zw (x1 + x4))) → zPV g M_X8_copy 3 [(0, .ref p1), (1, .int (zi x1)), (2, .ref p3), (3, .int (zi x3)), (4, .int (zi (zw (x4 + 1))))] S im3 Q))))) :
    zPV g M_X8_copy 3 [(0, .ref p1), (1, .int (zi x1)), (2, .ref p3), (3, .int (zi x3)), (4, .int (zi x4))] S im Q := by
  refine p_iload dX8_copy_3 (q := 4) rfl ?_
  refine p_sipush dX8_copy_5 (by decide) ?_
  refine p_icmp_ge (tgt := 29) dX8_copy_8 (by decide) (nf_r c_x4) (nf_k (by decide)) (fun b1 => ?_) (fun b1 => ?_)
  · have h := h.1 b1
    exact p_retV (by decide) (by decide) rfl dX8_copy_29 h
  · have h := h.2 b1
    refine p_aload_n dX8_copy_11 rfl (q := 2) rfl ?_
    refine p_iload_n dX8_copy_12 rfl (q := 3) rfl ?_
    refine p_iload dX8_copy_13 (q := 4) rfl ?_
    refine p_iadd dX8_copy_15 ?_
    refine p_aload_n dX8_copy_16 rfl (q := 0) rfl ?_
    refine p_iload_n dX8_copy_17 rfl (q := 1) rfl ?_
    refine p_iload dX8_copy_18 (q := 4) rfl ?_
    refine p_iadd dX8_copy_20 ?_
    have g2 := h.1
    have h := h.2
    refine p_iald G hk_p1 (nf_w _) g2.1 g2.2 dX8_copy_21 (fun c1 => ?_)
    have g5 := h.1
    have h := h.2
    refine p_iast G hk_p3 (nf_w _) g5.1 g5.2 (nf_r c1) dX8_copy_22 ?_
    refine p_gen (fun im3 e4 => ?_)
    have h := h im3 e4
    refine p_iinc (q := 4) (lv' := [(4, .int (zi (x4 + 1))), (0, .ref p1), (1, .int (zi x1)), (2, .ref p3), (3, .int (zi x3))]) dX8_copy_23 rfl (by decide) rfl ?_
    refine p_goto (tgt := 3) dX8_copy_26 (by decide) ?_
    refine p_sub (lv' := [(0, .ref p1), (1, .int (zi x1)), (2, .ref p3), (3, .int (zi x3)), (4, .int (zi (zw (x4 + 1))))]) [1, 2, 3, 4, 0] (by simp only [zi_zw, zl_zwl]; rfl) ?_
    exact h
set_option maxRecDepth 20000 in
set_option maxHeartbeats 4000000 in
theorem v_X8_bestSite {g : zG} (G : zOK g) {S : zSh} {im : zIm} {a : Nat} {p1 : Int} {p2 : Int} {p3 : Int} {Q : Int → zIm → Prop} (hS : zS_M S a) (c_p1 : zc p1) (c_p2 : zc p2) (c_p3 : zc p3)
    (h : ∀ im1, im1 = zst im a 4 0 → zCI g yX8_isItem M_X8_isItem [.ref a, .int (zi p1)] S im1 (fun r3 im4 => ((¬ r3 = 0 → ((p2 < 0 → zCI g yX8_fail M_X8_fail [.ref a, .int (zi 2)] S im4 (fun r6 im7 => Q r6 im7)) ∧ (0 ≤ p2 → zCI g yX8_isBetween M_X8_isBetween [.int (zi p3), .int (zi 1), .int (zi 10)] S im4 (fun r6 im7 => ((¬ r6 = 0 → (((zw ((im7 (a + 1) 0) + p3)) ≤ 9999 → zCV g yX8_copy M_X8_copy [.ref (a + 1), .int (zi 0), .ref (a + 2), .int (zi 0)] S im7 (fun im10 => zPI g M_X8_bestSite 89 [(0, .ref a), (1, .int (zi p1)), (2, .int (zi p2)), (3, .int (zi p3)), (4, .int (zi (im10 (a + 1) 3))), (5, .int (zi (-1))), (6, .int (zi 0)), (7, .int (zi 0))] S im10 Q)) ∧ (9999 < (zw ((im7 (a + 1) 0) + p3)) → zCI g yX8_fail M_X8_fail [.ref a, .int (zi 3)] S im7 (fun r10 im11 => Q r10 im11)))) ∧ (r6 = 0 → zCI g yX8_fail M_X8_fail [.ref a, .int (zi 2)] S im7 (fun r9 im10 => Q r9 im10))))))) ∧ (r3 = 0 → zCI g yX8_fail M_X8_fail [.ref a, .int (zi 1)] S im4 (fun r6 im7 => Q r6 im7))))) :
    zCI g yX8_bestSite M_X8_bestSite [.ref a, .int (zi p1), .int (zi p2), .int (zi p3)] S im Q := by
  refine zC_of (by decide) rfl rfl rfl rfl (Nat.le_of_ble_eq_true rfl) ?_
  refine p_aload_n dX8_bestSite_0 rfl (q := 0) rfl ?_
  refine p_iconst dX8_bestSite_1 ?_
  refine p_putI (j := 4) G f_RX8_30 rfl rfl rfl (hS 0 (by decide)).1 (nf_k (by decide)) dX8_bestSite_2 ?_
  refine p_gen (fun im1 e2 => ?_)
  have h := h im1 e2
  refine p_aload_n dX8_bestSite_5 rfl (q := 0) rfl ?_
  refine p_iload_n dX8_bestSite_6 rfl (q := 1) rfl ?_
  refine p_VI G k_RX8_81 (by decide) (hS 0 (by decide)).1 rfl rfl (Nat.le_of_ble_eq_true rfl) ⟨by decide, by decide⟩ ⟨by decide, by decide⟩ dX8_bestSite_7 h (fun r3 im4 c5 h => ?_)
  refine p_if_ne (tgt := 19) dX8_bestSite_10 (by decide) (nf_r c5) (fun b6 => ?_) (fun b6 => ?_)
  · have h := h.1 b6
    refine p_iload_n dX8_bestSite_19 rfl (q := 2) rfl ?_
    refine p_if_lt (tgt := 33) dX8_bestSite_20 (by decide) (nf_r c_p2) (fun b6 => ?_) (fun b6 => ?_)
    · have h := h.1 b6
      refine p_aload_n dX8_bestSite_33 rfl (q := 0) rfl ?_
      refine p_iconst dX8_bestSite_34 ?_
      refine p_VI G k_RX8_41 (by decide) (hS 0 (by decide)).1 rfl rfl (Nat.le_of_ble_eq_true rfl) ⟨by decide, by decide⟩ ⟨by decide, by decide⟩ dX8_bestSite_35 h (fun r6 im7 c8 h => ?_)
      exact p_iretI (by decide) (by decide) rfl (nf_r c8) dX8_bestSite_38 h
    · have h := h.2 b6
      refine p_iload_n dX8_bestSite_23 rfl (q := 3) rfl ?_
      refine p_iconst dX8_bestSite_24 ?_
      refine p_bipush dX8_bestSite_25 (by decide) ?_
      refine p_SI G k_RX8_33 rfl rfl (Nat.le_of_ble_eq_true rfl) ⟨by decide, by decide⟩ ⟨by decide, by decide⟩ dX8_bestSite_27 h (fun r6 im7 c8 h => ?_)
      refine p_if_ne (tgt := 39) dX8_bestSite_30 (by decide) (nf_r c8) (fun b9 => ?_) (fun b9 => ?_)
      · have h := h.1 b9
        refine p_aload_n dX8_bestSite_39 rfl (q := 0) rfl ?_
        refine p_getR (b := (a + 1)) G f_RX8_7 rfl (hS 0 (by decide)).1 ((hS 0 (by decide)).2.2 0 (by decide)) dX8_bestSite_40 ?_
        refine p_iconst dX8_bestSite_43 ?_
        refine p_iald G (hS 1 (by decide)).1 (nf_k (by decide)) (by decide) (zln_lt (hS 1 (by decide)).2.1 (by decide)) dX8_bestSite_44 (fun c9 => ?_)
        refine p_iload_n dX8_bestSite_45 rfl (q := 3) rfl ?_
        refine p_iadd dX8_bestSite_46 ?_
        refine p_sipush dX8_bestSite_47 (by decide) ?_
        refine p_icmp_le (tgt := 59) dX8_bestSite_50 (by decide) (nf_w _) (nf_k (by decide)) (fun b10 => ?_) (fun b10 => ?_)
        · have h := h.1 b10
          refine p_aload_n dX8_bestSite_59 rfl (q := 0) rfl ?_
          refine p_getR (b := (a + 1)) G f_RX8_7 rfl (hS 0 (by decide)).1 ((hS 0 (by decide)).2.2 0 (by decide)) dX8_bestSite_60 ?_
          refine p_iconst dX8_bestSite_63 ?_
          refine p_aload_n dX8_bestSite_64 rfl (q := 0) rfl ?_
          refine p_getR (b := (a + 2)) G f_RX8_13 rfl (hS 0 (by decide)).1 ((hS 0 (by decide)).2.2 1 (by decide)) dX8_bestSite_65 ?_
          refine p_iconst dX8_bestSite_68 ?_
          refine p_SV G k_RX8_224 rfl rfl (Nat.le_of_ble_eq_true rfl) ⟨by decide, by decide⟩ ⟨by decide, by decide⟩ dX8_bestSite_69 h (fun im10 h => ?_)
          refine p_aload_n dX8_bestSite_72 rfl (q := 0) rfl ?_
          refine p_getR (b := (a + 1)) G f_RX8_7 rfl (hS 0 (by decide)).1 ((hS 0 (by decide)).2.2 0 (by decide)) dX8_bestSite_73 ?_
          refine p_iconst dX8_bestSite_76 ?_
          refine p_iald G (hS 1 (by decide)).1 (nf_k (by decide)) (by decide) (zln_lt (hS 1 (by decide)).2.1 (by decide)) dX8_bestSite_77 (fun c12 => ?_)
          refine p_istore (lv' := [(4, .int (zi (im10 (a + 1) 3))), (0, .ref a), (1, .int (zi p1)), (2, .int (zi p2)), (3, .int (zi p3))]) dX8_bestSite_78 (by decide) rfl ?_
          refine p_iconst dX8_bestSite_80 ?_
          refine p_istore (lv' := [(5, .int (zi (-1))), (4, .int (zi (im10 (a + 1) 3))), (0, .ref a), (1, .int (zi p1)), (2, .int (zi p2)), (3, .int (zi p3))]) dX8_bestSite_81 (by decide) rfl ?_
          refine p_iconst dX8_bestSite_83 ?_
          refine p_istore (lv' := [(6, .int (zi 0)), (5, .int (zi (-1))), (4, .int (zi (im10 (a + 1) 3))), (0, .ref a), (1, .int (zi p1)), (2, .int (zi p2)), (3, .int (zi p3))]) dX8_bestSite_84 (by decide) rfl ?_
          refine p_iconst dX8_bestSite_86 ?_
          refine p_istore (lv' := [(7, .int (zi 0)), (6, .int (zi 0)), (5, .int (zi (-1))), (4, .int (zi (im10 (a + 1) 3))), (0, .ref a), (1, .int (zi p1)), (2, .int (zi p2)), (3, .int (zi p3))]) dX8_bestSite_87 (by decide) rfl ?_
          refine p_sub (lv' := [(0, .ref a), (1, .int (zi p1)), (2, .int (zi p2)), (3, .int (zi p3)), (4, .int (zi (im10 (a + 1) 3))), (5, .int (zi (-1))), (6, .int (zi 0)), (7, .int (zi 0))]) [4, 5, 6, 7, 3, 2, 1, 0] rfl ?_
          exact h
        · have h := h.2 b10
          refine p_aload_n dX8_bestSite_53 rfl (q := 0) rfl ?_
          refine p_iconst dX8_bestSite_54 ?_
          refine p_VI G k_RX8_41 (by decide) (hS 0 (by decide)).1 rfl rfl (Nat.le_of_ble_eq_true rfl) ⟨by decide, by decide⟩ ⟨by decide, by decide⟩ dX8_bestSite_55 h (fun r10 im11 c12 h => ?_)
          exact p_iretI (by decide) (by decide) rfl (nf_r c12) dX8_bestSite_58 h
      · have h := h.2 b9
        refine p_aload_n dX8_bestSite_33 rfl (q := 0) rfl ?_
        refine p_iconst dX8_bestSite_34 ?_
        refine p_VI G k_RX8_41 (by decide) (hS 0 (by decide)).1 rfl rfl (Nat.le_of_ble_eq_true rfl) ⟨by decide, by decide⟩ ⟨by decide, by decide⟩ dX8_bestSite_35 h (fun r9 im10 c11 h => ?_)
        exact p_iretI (by decide) (by decide) rfl (nf_r c11) dX8_bestSite_38 h
  · have h := h.2 b6
    refine p_aload_n dX8_bestSite_13 rfl (q := 0) rfl ?_
    refine p_iconst dX8_bestSite_14 ?_
    refine p_VI G k_RX8_41 (by decide) (hS 0 (by decide)).1 rfl rfl (Nat.le_of_ble_eq_true rfl) ⟨by decide, by decide⟩ ⟨by decide, by decide⟩ dX8_bestSite_15 h (fun r6 im7 c8 h => ?_)
    exact p_iretI (by decide) (by decide) rfl (nf_r c8) dX8_bestSite_18 h
set_option maxRecDepth 20000 in
set_option maxHeartbeats 4000000 in
theorem v_X8_bestSite_89 {g : zG} (G : zOK g) {S : zSh} {im : zIm} {a : Nat} {x1 : Int} {x2 : Int} {x3 : Int} {x4 : Int} {x5 : Int} {x6 : Int} {x7 : Int} {Q : Int → zIm → Prop} (hS : zS_M S a) (c_x1 : zc x1) (c_x2 : zc x2) (c_x3 : zc x3) (c_x4 : zc x4) (c_x5 : zc x5) (c_x6 : zc x6) (c_x7 : zc x7)
    (h : ((x4 ≤ x7 → Q x5 im) ∧ (x7 < x4 → zCI g yX8_at M_X8_at [.int (zi 92), .int (zi x7), .int (zi x1)] S im (fun r1 im2 => ((0 ≤ r1 ∧ r1 < 7692) ∧ ((¬ (im2 (a + 2) r1) = 20 → zCI g yX8_at M_X8_at [.int (zi 92), .int (zi x7), .int (zi x1)] S im2 (fun r6 im7 => ((0 ≤ r6 ∧ r6 < 7692) ∧ zCV g yX8_putLevel M_X8_putLevel [.ref a, .int (zi x7), .int (zi x1), .int (zi (zw ((im7 (a + 1) r6) + 1)))] S im7 (fun im11 => zCI g yX8_runDays M_X8_runDays [.ref a, .int (zi x2), .int (zi x3)] S im11 (fun r13 im14 => zCI g yX8_sum M_X8_sum [.ref a, .int (zi 348), .int (zi (-1)), .int (zi (-1))] S im14 (fun r16 im17 => ((x5 = (-1) → zCV g yX8_copy M_X8_copy [.ref (a + 2), .int (zi 0), .ref (a + 1), .int (zi 0)] S im17 (fun im19 => zPI g M_X8_bestSite 89 [(0, .ref a), (1, .int (zi x1)), (2, .int (zi x2)), (3, .int (zi x3)), (4, .int (zi x4)), (5, .int (zi x7)), (6, .int (zi r16)), (7, .int (zi (zw (x7 + 1))))] S im19 Q)) ∧ (¬ x5 = (-1) → ((x6 ≤ r16 → zCV g yX8_copy M_X8_copy [.ref (a + 2), .int (zi 0), .ref (a + 1), .int (zi 0)] S im17 (fun im19 => zPI g M_X8_bestSite 89 [(0, .ref a), (1, .int (zi x1)), (2, .int (zi x2)), (3, .int (zi x3)), (4, .int (zi x4)), (5, .int (zi x5)), (6, .int (zi x6)), (7, .int (zi (zw (x7 + 1))))] S im19 Q)) ∧ (r16 < x6 → zCV g yX8_copy M_X8_copy [.ref (a + 2), .int (zi 0), .ref (a + 1), .int (zi 0)] S im17 (fun im19 => zPI g M_X8_bestSite 89 [(0, .ref a), (1, .int (zi x1)), (2, .int (zi x2)), (3, .int (zi x3)), (4, .int (zi x4)), (5, .int (zi x7)), (6, .int (zi r16)), (7, .int (zi (zw (x7 + 1))))] S im19 Q))))))))))) ∧ ((im2 (a + 2) r1) = 20 → zPI g M_X8_bestSite 89 [(0, .ref a), (1, .int (zi x1)), (2, .int (zi x2)), (3, .int (zi x3)), (4, .int (zi x4)), (5, .int (zi x5)), (6, .int (zi x6)), (7, .int (zi (zw (x7 + 1))))] S im2 Q))))))) :
    zPI g M_X8_bestSite 89 [(0, .ref a), (1, .int (zi x1)), (2, .int (zi x2)), (3, .int (zi x3)), (4, .int (zi x4)), (5, .int (zi x5)), (6, .int (zi x6)), (7, .int (zi x7))] S im Q := by
  refine p_iload dX8_bestSite_89 (q := 7) rfl ?_
  refine p_iload dX8_bestSite_91 (q := 4) rfl ?_
  refine p_icmp_ge (tgt := 198) dX8_bestSite_93 (by decide) (nf_r c_x7) (nf_r c_x4) (fun b1 => ?_) (fun b1 => ?_)
  · have h := h.1 b1
    refine p_iload dX8_bestSite_198 (q := 5) rfl ?_
    exact p_iretI (by decide) (by decide) rfl (nf_r c_x5) dX8_bestSite_200 h
  · have h := h.2 b1
    refine p_aload_n dX8_bestSite_96 rfl (q := 0) rfl ?_
    refine p_getR (b := (a + 2)) G f_RX8_13 rfl (hS 0 (by decide)).1 ((hS 0 (by decide)).2.2 1 (by decide)) dX8_bestSite_97 ?_
    refine p_bipush dX8_bestSite_100 (by decide) ?_
    refine p_iload dX8_bestSite_102 (q := 7) rfl ?_
    refine p_iload_n dX8_bestSite_104 rfl (q := 1) rfl ?_
    refine p_SI G k_RX8_62 rfl rfl (Nat.le_of_ble_eq_true rfl) ⟨by decide, by decide⟩ ⟨by decide, by decide⟩ dX8_bestSite_105 h (fun r1 im2 c3 h => ?_)
    have g5 := h.1
    have h := h.2
    refine p_iald G (hS 2 (by decide)).1 (nf_r c3) g5.1 (zln_lt (hS 2 (by decide)).2.1 g5.2) dX8_bestSite_108 (fun c4 => ?_)
    refine p_bipush dX8_bestSite_109 (by decide) ?_
    refine p_icmp_ne (tgt := 117) dX8_bestSite_111 (by decide) (nf_r c4) (nf_k (by decide)) (fun b6 => ?_) (fun b6 => ?_)
    · have h := h.1 b6
      refine p_aload_n dX8_bestSite_117 rfl (q := 0) rfl ?_
      refine p_iload dX8_bestSite_118 (q := 7) rfl ?_
      refine p_iload_n dX8_bestSite_120 rfl (q := 1) rfl ?_
      refine p_aload_n dX8_bestSite_121 rfl (q := 0) rfl ?_
      refine p_getR (b := (a + 1)) G f_RX8_7 rfl (hS 0 (by decide)).1 ((hS 0 (by decide)).2.2 0 (by decide)) dX8_bestSite_122 ?_
      refine p_bipush dX8_bestSite_125 (by decide) ?_
      refine p_iload dX8_bestSite_127 (q := 7) rfl ?_
      refine p_iload_n dX8_bestSite_129 rfl (q := 1) rfl ?_
      refine p_SI G k_RX8_62 rfl rfl (Nat.le_of_ble_eq_true rfl) ⟨by decide, by decide⟩ ⟨by decide, by decide⟩ dX8_bestSite_130 h (fun r6 im7 c8 h => ?_)
      have g10 := h.1
      have h := h.2
      refine p_iald G (hS 1 (by decide)).1 (nf_r c8) g10.1 (zln_lt (hS 1 (by decide)).2.1 g10.2) dX8_bestSite_133 (fun c9 => ?_)
      refine p_iconst dX8_bestSite_134 ?_
      refine p_iadd dX8_bestSite_135 ?_
      refine p_VV G k_RX8_84 (by decide) (hS 0 (by decide)).1 rfl (by simp only [zi_zw]; rfl) (Nat.le_of_ble_eq_true rfl) ⟨by decide, by decide⟩ ⟨by decide, by decide⟩ dX8_bestSite_136 h (fun im11 h => ?_)
      refine p_aload_n dX8_bestSite_139 rfl (q := 0) rfl ?_
      refine p_iload_n dX8_bestSite_140 rfl (q := 2) rfl ?_
      refine p_iload_n dX8_bestSite_141 rfl (q := 3) rfl ?_
      refine p_VI G k_RX8_183 (by decide) (hS 0 (by decide)).1 rfl rfl (Nat.le_of_ble_eq_true rfl) ⟨by decide, by decide⟩ ⟨by decide, by decide⟩ dX8_bestSite_142 h (fun r13 im14 c15 h => ?_)
      refine p_istore (lv' := [(8, .int (zi r13)), (0, .ref a), (1, .int (zi x1)), (2, .int (zi x2)), (3, .int (zi x3)), (4, .int (zi x4)), (5, .int (zi x5)), (6, .int (zi x6)), (7, .int (zi x7))]) dX8_bestSite_145 (by decide) rfl ?_
      refine p_aload_n dX8_bestSite_147 rfl (q := 1) rfl ?_
      refine p_sipush dX8_bestSite_148 (by decide) ?_
      refine p_iconst dX8_bestSite_151 ?_
      refine p_iconst dX8_bestSite_152 ?_
      refine p_VI G k_RX8_211 (by decide) (hS 0 (by decide)).1 rfl rfl (Nat.le_of_ble_eq_true rfl) ⟨by decide, by decide⟩ ⟨by decide, by decide⟩ dX8_bestSite_153 h (fun r16 im17 c18 h => ?_)
      refine p_istore (lv' := [(9, .int (zi r16)), (8, .int (zi r13)), (0, .ref a), (1, .int (zi x1)), (2, .int (zi x2)), (3, .int (zi x3)), (4, .int (zi x4)), (5, .int (zi x5)), (6, .int (zi x6)), (7, .int (zi x7))]) dX8_bestSite_156 (by decide) rfl ?_
      refine p_iload dX8_bestSite_158 (q := 7) rfl ?_
      refine p_iconst dX8_bestSite_160 ?_
      refine p_icmp_eq (tgt := 171) dX8_bestSite_161 (by decide) (nf_r c_x5) (nf_k (by decide)) (fun b19 => ?_) (fun b19 => ?_)
      · have h := h.1 b19
        refine p_iload dX8_bestSite_171 (q := 9) rfl ?_
        refine p_istore (lv' := [(5, .int (zi x7)), (9, .int (zi r16)), (8, .int (zi r13)), (0, .ref a), (1, .int (zi x1)), (2, .int (zi x2)), (3, .int (zi x3)), (4, .int (zi x4)), (6, .int (zi x6)), (7, .int (zi x7))]) dX8_bestSite_173 (by decide) rfl ?_
        refine p_iload dX8_bestSite_175 (q := 1) rfl ?_
        refine p_istore (lv' := [(6, .int (zi r16)), (5, .int (zi x7)), (9, .int (zi r16)), (8, .int (zi r13)), (0, .ref a), (1, .int (zi x1)), (2, .int (zi x2)), (3, .int (zi x3)), (4, .int (zi x4)), (7, .int (zi x7))]) dX8_bestSite_177 (by decide) rfl ?_
        refine p_aload_n dX8_bestSite_179 rfl (q := 4) rfl ?_
        refine p_getR (b := (a + 2)) G f_RX8_13 rfl (hS 0 (by decide)).1 ((hS 0 (by decide)).2.2 1 (by decide)) dX8_bestSite_180 ?_
        refine p_iconst dX8_bestSite_183 ?_
        refine p_aload_n dX8_bestSite_184 rfl (q := 4) rfl ?_
        refine p_getR (b := (a + 1)) G f_RX8_7 rfl (hS 0 (by decide)).1 ((hS 0 (by decide)).2.2 0 (by decide)) dX8_bestSite_185 ?_
        refine p_iconst dX8_bestSite_188 ?_
        refine p_SV G k_RX8_224 rfl rfl (Nat.le_of_ble_eq_true rfl) ⟨by decide, by decide⟩ ⟨by decide, by decide⟩ dX8_bestSite_189 h (fun im19 h => ?_)
        refine p_iinc (q := 9) (lv' := [(7, .int (zi (x7 + 1))), (6, .int (zi r16)), (5, .int (zi x7)), (9, .int (zi r16)), (8, .int (zi r13)), (0, .ref a), (1, .int (zi x1)), (2, .int (zi x2)), (3, .int (zi x3)), (4, .int (zi x4))]) dX8_bestSite_192 rfl (by decide) rfl ?_
        refine p_goto (tgt := 89) dX8_bestSite_195 (by decide) ?_
        refine p_sub (lv' := [(0, .ref a), (1, .int (zi x1)), (2, .int (zi x2)), (3, .int (zi x3)), (4, .int (zi x4)), (5, .int (zi x7)), (6, .int (zi r16)), (7, .int (zi (zw (x7 + 1))))]) [5, 6, 7, 8, 9, 2, 1, 0] (by simp only [zi_zw, zl_zwl]; rfl) ?_
        exact h
      · have h := h.2 b19
        refine p_iload dX8_bestSite_164 (q := 0) rfl ?_
        refine p_iload dX8_bestSite_166 (q := 8) rfl ?_
        refine p_icmp_ge (tgt := 179) dX8_bestSite_168 (by decide) (nf_r c18) (nf_r c_x6) (fun b19 => ?_) (fun b19 => ?_)
        · have h := h.1 b19
          refine p_aload_n dX8_bestSite_179 rfl (q := 2) rfl ?_
          refine p_getR (b := (a + 2)) G f_RX8_13 rfl (hS 0 (by decide)).1 ((hS 0 (by decide)).2.2 1 (by decide)) dX8_bestSite_180 ?_
          refine p_iconst dX8_bestSite_183 ?_
          refine p_aload_n dX8_bestSite_184 rfl (q := 2) rfl ?_
          refine p_getR (b := (a + 1)) G f_RX8_7 rfl (hS 0 (by decide)).1 ((hS 0 (by decide)).2.2 0 (by decide)) dX8_bestSite_185 ?_
          refine p_iconst dX8_bestSite_188 ?_
          refine p_SV G k_RX8_224 rfl rfl (Nat.le_of_ble_eq_true rfl) ⟨by decide, by decide⟩ ⟨by decide, by decide⟩ dX8_bestSite_189 h (fun im19 h => ?_)
          refine p_iinc (q := 9) (lv' := [(7, .int (zi (x7 + 1))), (9, .int (zi r16)), (8, .int (zi r13)), (0, .ref a), (1, .int (zi x1)), (2, .int (zi x2)), (3, .int (zi x3)), (4, .int (zi x4)), (5, .int (zi x5)), (6, .int (zi x6))]) dX8_bestSite_192 rfl (by decide) rfl ?_
          refine p_goto (tgt := 89) dX8_bestSite_195 (by decide) ?_
          refine p_sub (lv' := [(0, .ref a), (1, .int (zi x1)), (2, .int (zi x2)), (3, .int (zi x3)), (4, .int (zi x4)), (5, .int (zi x5)), (6, .int (zi x6)), (7, .int (zi (zw (x7 + 1))))]) [3, 4, 5, 6, 7, 8, 9, 0] (by simp only [zi_zw, zl_zwl]; rfl) ?_
          exact h
        · have h := h.2 b19
          refine p_iload dX8_bestSite_171 (q := 9) rfl ?_
          refine p_istore (lv' := [(5, .int (zi x7)), (9, .int (zi r16)), (8, .int (zi r13)), (0, .ref a), (1, .int (zi x1)), (2, .int (zi x2)), (3, .int (zi x3)), (4, .int (zi x4)), (6, .int (zi x6)), (7, .int (zi x7))]) dX8_bestSite_173 (by decide) rfl ?_
          refine p_iload dX8_bestSite_175 (q := 1) rfl ?_
          refine p_istore (lv' := [(6, .int (zi r16)), (5, .int (zi x7)), (9, .int (zi r16)), (8, .int (zi r13)), (0, .ref a), (1, .int (zi x1)), (2, .int (zi x2)), (3, .int (zi x3)), (4, .int (zi x4)), (7, .int (zi x7))]) dX8_bestSite_177 (by decide) rfl ?_
          refine p_aload_n dX8_bestSite_179 rfl (q := 4) rfl ?_
          refine p_getR (b := (a + 2)) G f_RX8_13 rfl (hS 0 (by decide)).1 ((hS 0 (by decide)).2.2 1 (by decide)) dX8_bestSite_180 ?_
          refine p_iconst dX8_bestSite_183 ?_
          refine p_aload_n dX8_bestSite_184 rfl (q := 4) rfl ?_
          refine p_getR (b := (a + 1)) G f_RX8_7 rfl (hS 0 (by decide)).1 ((hS 0 (by decide)).2.2 0 (by decide)) dX8_bestSite_185 ?_
          refine p_iconst dX8_bestSite_188 ?_
          refine p_SV G k_RX8_224 rfl rfl (Nat.le_of_ble_eq_true rfl) ⟨by decide, by decide⟩ ⟨by decide, by decide⟩ dX8_bestSite_189 h (fun im19 h => ?_)
          refine p_iinc (q := 9) (lv' := [(7, .int (zi (x7 + 1))), (6, .int (zi r16)), (5, .int (zi x7)), (9, .int (zi r16)), (8, .int (zi r13)), (0, .ref a), (1, .int (zi x1)), (2, .int (zi x2)), (3, .int (zi x3)), (4, .int (zi x4))]) dX8_bestSite_192 rfl (by decide) rfl ?_
          refine p_goto (tgt := 89) dX8_bestSite_195 (by decide) ?_
          refine p_sub (lv' := [(0, .ref a), (1, .int (zi x1)), (2, .int (zi x2)), (3, .int (zi x3)), (4, .int (zi x4)), (5, .int (zi x7)), (6, .int (zi r16)), (7, .int (zi (zw (x7 + 1))))]) [5, 6, 7, 8, 9, 2, 1, 0] (by simp only [zi_zw, zl_zwl]; rfl) ?_
          exact h
    · have h := h.2 b6
      refine p_goto (tgt := 192) dX8_bestSite_114 (by decide) ?_
      refine p_iinc (q := 7) (lv' := [(7, .int (zi (x7 + 1))), (0, .ref a), (1, .int (zi x1)), (2, .int (zi x2)), (3, .int (zi x3)), (4, .int (zi x4)), (5, .int (zi x5)), (6, .int (zi x6))]) dX8_bestSite_192 rfl (by decide) rfl ?_
      refine p_goto (tgt := 89) dX8_bestSite_195 (by decide) ?_
      refine p_sub (lv' := [(0, .ref a), (1, .int (zi x1)), (2, .int (zi x2)), (3, .int (zi x3)), (4, .int (zi x4)), (5, .int (zi x5)), (6, .int (zi x6)), (7, .int (zi (zw (x7 + 1))))]) [1, 2, 3, 4, 5, 6, 7, 0] (by simp only [zi_zw, zl_zwl]; rfl) ?_
      exact h
set_option maxRecDepth 20000 in
set_option maxHeartbeats 4000000 in
theorem v_X8_appendText {g : zG} (G : zOK g) {S : zSh} {im : zIm} {a : Nat} {p1 : Int} {Q : Int → zIm → Prop} (hS : zS_M S a) (c_p1 : zc p1)
    (h : ∀ im1, im1 = zst im a 4 0 → (((zw ((im1 a 7) + 4)) ≤ 500 → zPI g M_X8_appendText 26 [(0, .ref a), (1, .int (zi p1)), (2, .int (zi 24))] S im1 Q) ∧ (500 < (zw ((im1 a 7) + 4)) → zCI g yX8_fail M_X8_fail [.ref a, .int (zi 1)] S im1 (fun r4 im5 => Q r4 im5)))) :
    zCI g yX8_appendText M_X8_appendText [.ref a, .int (zi p1)] S im Q := by
  refine zC_of (by decide) rfl rfl rfl rfl (Nat.le_of_ble_eq_true rfl) ?_
  refine p_aload_n dX8_appendText_0 rfl (q := 0) rfl ?_
  refine p_iconst dX8_appendText_1 ?_
  refine p_putI (j := 4) G f_RX8_30 rfl rfl rfl (hS 0 (by decide)).1 (nf_k (by decide)) dX8_appendText_2 ?_
  refine p_gen (fun im1 e2 => ?_)
  have h := h im1 e2
  refine p_aload_n dX8_appendText_5 rfl (q := 0) rfl ?_
  refine p_getI (j := 7) G f_RX8_228 rfl (hS 0 (by decide)).1 dX8_appendText_6 (fun c3 => ?_)
  refine p_iconst dX8_appendText_9 ?_
  refine p_iadd dX8_appendText_10 ?_
  refine p_sipush dX8_appendText_11 (by decide) ?_
  refine p_icmp_le (tgt := 23) dX8_appendText_14 (by decide) (nf_w _) (nf_k (by decide)) (fun b4 => ?_) (fun b4 => ?_)
  · have h := h.1 b4
    refine p_bipush dX8_appendText_23 (by decide) ?_
    refine p_istore_n (lv' := [(2, .int (zi 24)), (0, .ref a), (1, .int (zi p1))]) dX8_appendText_25 rfl (by decide) rfl ?_
    refine p_sub (lv' := [(0, .ref a), (1, .int (zi p1)), (2, .int (zi 24))]) [1, 2, 0] rfl ?_
    exact h
  · have h := h.2 b4
    refine p_aload_n dX8_appendText_17 rfl (q := 0) rfl ?_
    refine p_iconst dX8_appendText_18 ?_
    refine p_VI G k_RX8_41 (by decide) (hS 0 (by decide)).1 rfl rfl (Nat.le_of_ble_eq_true rfl) ⟨by decide, by decide⟩ ⟨by decide, by decide⟩ dX8_appendText_19 h (fun r4 im5 c6 h => ?_)
    exact p_iretI (by decide) (by decide) rfl (nf_r c6) dX8_appendText_22 h
set_option maxRecDepth 20000 in
set_option maxHeartbeats 4000000 in
theorem v_X8_appendText_26 {g : zG} (G : zOK g) {S : zSh} {im : zIm} {a : Nat} {x1 : Int} {x2 : Int} {Q : Int → zIm → Prop} (hS : zS_M S a) (c_x1 : zc x1) (c_x2 : zc x2)
    (h : ((x2 < 0 → Q (im a 7) im) ∧ (0 ≤ x2 → ((0 ≤ (im a 7) ∧ (im a 7) < 500) ∧ ∀ im2, im2 = zst im (a + 5) (im a 7) (zand (zshr x1 x2) 255) → ∀ im6, im6 = zst im2 a 7 (zw ((im2 a 7) + 1)) → zPI g M_X8_appendText 26 [(0, .ref a), (1, .int (zi x1)), (2, .int (zi (zw (x2 + (-8)))))] S im6 Q)))) :
    zPI g M_X8_appendText 26 [(0, .ref a), (1, .int (zi x1)), (2, .int (zi x2))] S im Q := by
  refine p_iload_n dX8_appendText_26 rfl (q := 2) rfl ?_
  refine p_if_lt (tgt := 62) dX8_appendText_27 (by decide) (nf_r c_x2) (fun b1 => ?_) (fun b1 => ?_)
  · have h := h.1 b1
    refine p_aload_n dX8_appendText_62 rfl (q := 0) rfl ?_
    refine p_getI (j := 7) G f_RX8_228 rfl (hS 0 (by decide)).1 dX8_appendText_63 (fun c1 => ?_)
    exact p_iretI (by decide) (by decide) rfl (nf_r c1) dX8_appendText_66 h
  · have h := h.2 b1
    refine p_aload_n dX8_appendText_30 rfl (q := 0) rfl ?_
    refine p_getR (b := (a + 5)) G f_RX8_23 rfl (hS 0 (by decide)).1 ((hS 0 (by decide)).2.2 6 (by decide)) dX8_appendText_31 ?_
    refine p_aload_n dX8_appendText_34 rfl (q := 0) rfl ?_
    refine p_getI (j := 7) G f_RX8_228 rfl (hS 0 (by decide)).1 dX8_appendText_35 (fun c1 => ?_)
    refine p_iload_n dX8_appendText_38 rfl (q := 1) rfl ?_
    refine p_iload_n dX8_appendText_39 rfl (q := 2) rfl ?_
    refine p_ishr dX8_appendText_40 ?_
    refine p_sipush dX8_appendText_41 (by decide) ?_
    refine p_iand dX8_appendText_44 ?_
    have g4 := h.1
    have h := h.2
    refine p_iast G (hS 5 (by decide)).1 (nf_r c1) g4.1 (zln_lt (hS 5 (by decide)).2.1 g4.2) (nf_r (zc_t _)) dX8_appendText_45 ?_
    refine p_gen (fun im2 e3 => ?_)
    have h := h im2 e3
    refine p_aload_n dX8_appendText_46 rfl (q := 0) rfl ?_
    refine p_dup dX8_appendText_47 rfl ?_
    refine p_getI (j := 7) G f_RX8_228 rfl (hS 0 (by decide)).1 dX8_appendText_48 (fun c5 => ?_)
    refine p_iconst dX8_appendText_51 ?_
    refine p_iadd dX8_appendText_52 ?_
    refine p_putI (j := 7) G f_RX8_228 rfl rfl rfl (hS 0 (by decide)).1 (nf_w _) dX8_appendText_53 ?_
    refine p_gen (fun im6 e7 => ?_)
    have h := h im6 e7
    refine p_iinc (q := 2) (lv' := [(2, .int (zi (x2 + (-8)))), (0, .ref a), (1, .int (zi x1))]) dX8_appendText_56 rfl (by decide) rfl ?_
    refine p_goto (tgt := 26) dX8_appendText_59 (by decide) ?_
    refine p_sub (lv' := [(0, .ref a), (1, .int (zi x1)), (2, .int (zi (zw (x2 + (-8)))))]) [1, 2, 0] (by simp only [zi_zw, zl_zwl]; rfl) ?_
    exact h
set_option maxRecDepth 20000 in
set_option maxHeartbeats 4000000 in
theorem v_X8_truncateText {g : zG} (G : zOK g) {S : zSh} {im : zIm} {a : Nat} {p1 : Int} {Q : Int → zIm → Prop} (hS : zS_M S a) (c_p1 : zc p1)
    (h : ∀ im1, im1 = zst im a 4 0 → zCI g yX8_isBetween M_X8_isBetween [.int (zi p1), .int (zi 0), .int (zi (im1 a 7))] S im1 (fun r4 im5 => ((¬ r4 = 0 → ∀ im7, im7 = zst im5 a 7 p1 → Q (im7 a 7) im7) ∧ (r4 = 0 → zCI g yX8_fail M_X8_fail [.ref a, .int (zi 1)] S im5 (fun r7 im8 => Q r7 im8))))) :
    zCI g yX8_truncateText M_X8_truncateText [.ref a, .int (zi p1)] S im Q := by
  refine zC_of (by decide) rfl rfl rfl rfl (Nat.le_of_ble_eq_true rfl) ?_
  refine p_aload_n dX8_truncateText_0 rfl (q := 0) rfl ?_
  refine p_iconst dX8_truncateText_1 ?_
  refine p_putI (j := 4) G f_RX8_30 rfl rfl rfl (hS 0 (by decide)).1 (nf_k (by decide)) dX8_truncateText_2 ?_
  refine p_gen (fun im1 e2 => ?_)
  have h := h im1 e2
  refine p_iload_n dX8_truncateText_5 rfl (q := 1) rfl ?_
  refine p_iconst dX8_truncateText_6 ?_
  refine p_aload_n dX8_truncateText_7 rfl (q := 0) rfl ?_
  refine p_getI (j := 7) G f_RX8_228 rfl (hS 0 (by decide)).1 dX8_truncateText_8 (fun c3 => ?_)
  refine p_SI G k_RX8_33 rfl rfl (Nat.le_of_ble_eq_true rfl) ⟨by decide, by decide⟩ ⟨by decide, by decide⟩ dX8_truncateText_11 h (fun r4 im5 c6 h => ?_)
  refine p_if_ne (tgt := 23) dX8_truncateText_14 (by decide) (nf_r c6) (fun b7 => ?_) (fun b7 => ?_)
  · have h := h.1 b7
    refine p_aload_n dX8_truncateText_23 rfl (q := 0) rfl ?_
    refine p_iload_n dX8_truncateText_24 rfl (q := 1) rfl ?_
    refine p_putI (j := 7) G f_RX8_228 rfl rfl rfl (hS 0 (by decide)).1 (nf_r c_p1) dX8_truncateText_25 ?_
    refine p_gen (fun im7 e8 => ?_)
    have h := h im7 e8
    refine p_aload_n dX8_truncateText_28 rfl (q := 0) rfl ?_
    refine p_getI (j := 7) G f_RX8_228 rfl (hS 0 (by decide)).1 dX8_truncateText_29 (fun c9 => ?_)
    exact p_iretI (by decide) (by decide) rfl (nf_r c9) dX8_truncateText_32 h
  · have h := h.2 b7
    refine p_aload_n dX8_truncateText_17 rfl (q := 0) rfl ?_
    refine p_iconst dX8_truncateText_18 ?_
    refine p_VI G k_RX8_41 (by decide) (hS 0 (by decide)).1 rfl rfl (Nat.le_of_ble_eq_true rfl) ⟨by decide, by decide⟩ ⟨by decide, by decide⟩ dX8_truncateText_19 h (fun r7 im8 c9 h => ?_)
    exact p_iretI (by decide) (by decide) rfl (nf_r c9) dX8_truncateText_22 h
set_option maxRecDepth 20000 in
set_option maxHeartbeats 4000000 in
theorem v_X8_clearNetwork {g : zG} (G : zOK g) {S : zSh} {im : zIm} {a : Nat} {Q : zIm → Prop} (hS : zS_M S a)
    (h : zPV g M_X8_clearNetwork 2 [(0, .ref a), (1, .int (zi 0))] S im Q) :
    zCV g yX8_clearNetwork M_X8_clearNetwork [.ref a] S im Q := by
  refine zC_of (by decide) rfl rfl rfl rfl (Nat.le_of_ble_eq_true rfl) ?_
  refine p_iconst dX8_clearNetwork_0 ?_
  refine p_istore_n (lv' := [(1, .int (zi 0)), (0, .ref a)]) dX8_clearNetwork_1 rfl (by decide) rfl ?_
  refine p_sub (lv' := [(0, .ref a), (1, .int (zi 0))]) [1, 0] rfl ?_
  exact h
set_option maxRecDepth 20000 in
set_option maxHeartbeats 4000000 in
theorem v_X8_clearNetwork_2 {g : zG} (G : zOK g) {S : zSh} {im : zIm} {a : Nat} {x1 : Int} {Q : zIm → Prop} (hS : zS_M S a) (c_x1 : zc x1)
    (h : ((7692 ≤ x1 → ∀ im1, im1 = zst im (a + 1) 3 1 → Q im1) ∧ (x1 < 7692 → ((0 ≤ x1 ∧ x1 < 7692) ∧ ∀ im1, im1 = zst im (a + 1) x1 0 → zPV g M_X8_clearNetwork 2 [(0, .ref a), (1, .int (zi (zw (x1 + 1))))] S im1 Q)))) :
    zPV g M_X8_clearNetwork 2 [(0, .ref a), (1, .int (zi x1))] S im Q := by
  refine p_iload_n dX8_clearNetwork_2 rfl (q := 1) rfl ?_
  refine p_sipush dX8_clearNetwork_3 (by decide) ?_
  refine p_icmp_ge (tgt := 22) dX8_clearNetwork_6 (by decide) (nf_r c_x1) (nf_k (by decide)) (fun b1 => ?_) (fun b1 => ?_)
  · have h := h.1 b1
    refine p_aload_n dX8_clearNetwork_22 rfl (q := 0) rfl ?_
    refine p_getR (b := (a + 1)) G f_RX8_7 rfl (hS 0 (by decide)).1 ((hS 0 (by decide)).2.2 0 (by decide)) dX8_clearNetwork_23 ?_
    refine p_iconst dX8_clearNetwork_26 ?_
    refine p_iconst dX8_clearNetwork_27 ?_
    refine p_iast G (hS 1 (by decide)).1 (nf_k (by decide)) (by decide) (zln_lt (hS 1 (by decide)).2.1 (by decide)) (nf_k (by decide)) dX8_clearNetwork_28 ?_
    refine p_gen (fun im1 e2 => ?_)
    have h := h im1 e2
    exact p_retV (by decide) (by decide) rfl dX8_clearNetwork_29 h
  · have h := h.2 b1
    refine p_aload_n dX8_clearNetwork_9 rfl (q := 0) rfl ?_
    refine p_getR (b := (a + 1)) G f_RX8_7 rfl (hS 0 (by decide)).1 ((hS 0 (by decide)).2.2 0 (by decide)) dX8_clearNetwork_10 ?_
    refine p_iload_n dX8_clearNetwork_13 rfl (q := 1) rfl ?_
    refine p_iconst dX8_clearNetwork_14 ?_
    have g3 := h.1
    have h := h.2
    refine p_iast G (hS 1 (by decide)).1 (nf_r c_x1) g3.1 (zln_lt (hS 1 (by decide)).2.1 g3.2) (nf_k (by decide)) dX8_clearNetwork_15 ?_
    refine p_gen (fun im1 e2 => ?_)
    have h := h im1 e2
    refine p_iinc (q := 1) (lv' := [(1, .int (zi (x1 + 1))), (0, .ref a)]) dX8_clearNetwork_16 rfl (by decide) rfl ?_
    refine p_goto (tgt := 2) dX8_clearNetwork_19 (by decide) ?_
    refine p_sub (lv' := [(0, .ref a), (1, .int (zi (zw (x1 + 1))))]) [1, 0] (by simp only [zi_zw, zl_zwl]; rfl) ?_
    exact h
set_option maxRecDepth 20000 in
set_option maxHeartbeats 4000000 in
theorem v_X8_byteAt {g : zG} (G : zOK g) {S : zSh} {im : zIm} {a : Nat} {p1 : Int} {Q : Int → zIm → Prop} (hS : zS_M S a) (c_p1 : zc p1)
    (h : (((im a 7) ≤ p1 → Q (-1) im) ∧ (p1 < (im a 7) → ((0 ≤ p1 ∧ p1 < 500) ∧ Q (im (a + 5) p1) im)))) :
    zCI g yX8_byteAt M_X8_byteAt [.ref a, .int (zi p1)] S im Q := by
  refine zC_of (by decide) rfl rfl rfl rfl (Nat.le_of_ble_eq_true rfl) ?_
  refine p_iload_n dX8_byteAt_0 rfl (q := 1) rfl ?_
  refine p_aload_n dX8_byteAt_1 rfl (q := 0) rfl ?_
  refine p_getI (j := 7) G f_RX8_228 rfl (hS 0 (by decide)).1 dX8_byteAt_2 (fun c1 => ?_)
  refine p_icmp_ge (tgt := 17) dX8_byteAt_5 (by decide) (nf_r c_p1) (nf_r c1) (fun b2 => ?_) (fun b2 => ?_)
  · have h := h.1 b2
    refine p_iconst dX8_byteAt_17 ?_
    exact p_iretI (by decide) (by decide) rfl (nf_k (by decide)) dX8_byteAt_18 h
  · have h := h.2 b2
    refine p_aload_n dX8_byteAt_8 rfl (q := 0) rfl ?_
    refine p_getR (b := (a + 5)) G f_RX8_23 rfl (hS 0 (by decide)).1 ((hS 0 (by decide)).2.2 6 (by decide)) dX8_byteAt_9 ?_
    refine p_iload_n dX8_byteAt_12 rfl (q := 1) rfl ?_
    have g3 := h.1
    have h := h.2
    refine p_iald G (hS 5 (by decide)).1 (nf_r c_p1) g3.1 (zln_lt (hS 5 (by decide)).2.1 g3.2) dX8_byteAt_13 (fun c2 => ?_)
    refine p_goto (tgt := 18) dX8_byteAt_14 (by decide) ?_
    exact p_iretI (by decide) (by decide) rfl (nf_r c2) dX8_byteAt_18 h
set_option maxRecDepth 20000 in
set_option maxHeartbeats 4000000 in
theorem v_X8_isLetter {g : zG} (G : zOK g) {S : zSh} {im : zIm} {p1 : Int} {Q : Int → zIm → Prop} (c_p1 : zc p1)
    (h : zCI g yX8_isBetween M_X8_isBetween [.int (zi p1), .int (zi 97), .int (zi 122)] S im (fun r1 im2 => ((r1 = 0 ∨ r1 = 1) ∧ Q r1 im2))) :
    zCI g yX8_isLetter M_X8_isLetter [.int (zi p1)] S im Q := by
  refine zC_of (by decide) rfl rfl rfl rfl (Nat.le_of_ble_eq_true rfl) ?_
  refine p_iload_n dX8_isLetter_0 rfl (q := 0) rfl ?_
  refine p_bipush dX8_isLetter_1 (by decide) ?_
  refine p_bipush dX8_isLetter_3 (by decide) ?_
  refine p_SI G k_RX8_33 rfl rfl (Nat.le_of_ble_eq_true rfl) ⟨by decide, by decide⟩ ⟨by decide, by decide⟩ dX8_isLetter_5 h (fun r1 im2 c3 h => ?_)
  exact p_zretI (by decide) (by decide) rfl (nf_r c3) h.1 dX8_isLetter_8 h.2
set_option maxRecDepth 20000 in
set_option maxHeartbeats 4000000 in
theorem v_X8_isDigit {g : zG} (G : zOK g) {S : zSh} {im : zIm} {p1 : Int} {Q : Int → zIm → Prop} (c_p1 : zc p1)
    (h : zCI g yX8_isBetween M_X8_isBetween [.int (zi p1), .int (zi 48), .int (zi 57)] S im (fun r1 im2 => ((r1 = 0 ∨ r1 = 1) ∧ Q r1 im2))) :
    zCI g yX8_isDigit M_X8_isDigit [.int (zi p1)] S im Q := by
  refine zC_of (by decide) rfl rfl rfl rfl (Nat.le_of_ble_eq_true rfl) ?_
  refine p_iload_n dX8_isDigit_0 rfl (q := 0) rfl ?_
  refine p_bipush dX8_isDigit_1 (by decide) ?_
  refine p_bipush dX8_isDigit_3 (by decide) ?_
  refine p_SI G k_RX8_33 rfl rfl (Nat.le_of_ble_eq_true rfl) ⟨by decide, by decide⟩ ⟨by decide, by decide⟩ dX8_isDigit_5 h (fun r1 im2 c3 h => ?_)
  exact p_zretI (by decide) (by decide) rfl (nf_r c3) h.1 dX8_isDigit_8 h.2
set_option maxRecDepth 20000 in
set_option maxHeartbeats 4000000 in
theorem v_X8_nextToken {g : zG} (G : zOK g) {S : zSh} {im : zIm} {a : Nat} {Q : zIm → Prop} (hS : zS_M S a)
    (h : zCI g yX8_byteAt M_X8_byteAt [.ref a, .int (zi (im a 8))] S im (fun r2 im3 => ((r2 = 32 → ∀ im6, im6 = zst im3 a 8 (zw ((im3 a 8) + 1)) → zPV g M_X8_nextToken 0 [(0, .ref a)] S im6 Q) ∧ (¬ r2 = 32 → zCI g yX8_byteAt M_X8_byteAt [.ref a, .int (zi (im3 a 8))] S im3 (fun r6 im7 => ((¬ r6 = 10 → ∀ im10, im10 = zst im7 a 9 (im7 a 8) → ∀ im12, im12 = zst im10 a 11 0 → ∀ im14, im14 = zst im12 a 15 0 → ∀ im16, im16 = zst im14 a 12 0 → zCI g yX8_byteAt M_X8_byteAt [.ref a, .int (zi (im16 a 8))] S im16 (fun r19 im20 => ((¬ r19 = (-1) → zCI g yX8_isLetter M_X8_isLetter [.int (zi r19)] S im20 (fun r22 im23 => ((r22 = 0 → zCI g yX8_isDigit M_X8_isDigit [.int (zi r19)] S im23 (fun r25 im26 => ((r25 = 0 → ((¬ r19 = 59 → ∀ im28, im28 = zst im26 a 10 1 → ∀ im31, im31 = zst im28 a 8 (zw ((im28 a 8) + 1)) → Q im31) ∧ (r19 = 59 → ∀ im28, im28 = zst im26 a 10 4 → ∀ im31, im31 = zst im28 a 8 (zw ((im28 a 8) + 1)) → Q im31))) ∧ (¬ r25 = 0 → ∀ im28, im28 = zst im26 a 10 3 → zPV g M_X8_nextToken 187 [(0, .ref a)] S im28 Q)))) ∧ (¬ r22 = 0 → ∀ im25, im25 = zst im23 a 10 2 → zPV g M_X8_nextToken 96 [(0, .ref a)] S im25 Q)))) ∧ (r19 = (-1) → ∀ im22, im22 = zst im20 a 10 0 → Q im22)))) ∧ (r6 = 10 → ∀ im10, im10 = zst im7 a 8 (zw ((im7 a 8) + 1)) → zPV g M_X8_nextToken 0 [(0, .ref a)] S im10 Q))))))) :
    zCV g yX8_nextToken M_X8_nextToken [.ref a] S im Q := by
  refine zC_of (by decide) rfl rfl rfl rfl (Nat.le_of_ble_eq_true rfl) ?_
  refine p_aload_n dX8_nextToken_0 rfl (q := 0) rfl ?_
  refine p_aload_n dX8_nextToken_1 rfl (q := 0) rfl ?_
  refine p_getI (j := 8) G f_RX8_231 rfl (hS 0 (by decide)).1 dX8_nextToken_2 (fun c1 => ?_)
  refine p_VI G k_RX8_234 (by decide) (hS 0 (by decide)).1 rfl rfl (Nat.le_of_ble_eq_true rfl) ⟨by decide, by decide⟩ ⟨by decide, by decide⟩ dX8_nextToken_5 h (fun r2 im3 c4 h => ?_)
  refine p_bipush dX8_nextToken_8 (by decide) ?_
  refine p_icmp_eq (tgt := 26) dX8_nextToken_10 (by decide) (nf_r c4) (nf_k (by decide)) (fun b5 => ?_) (fun b5 => ?_)
  · have h := h.1 b5
    refine p_aload_n dX8_nextToken_26 rfl (q := 0) rfl ?_
    refine p_dup dX8_nextToken_27 rfl ?_
    refine p_getI (j := 8) G f_RX8_231 rfl (hS 0 (by decide)).1 dX8_nextToken_28 (fun c5 => ?_)
    refine p_iconst dX8_nextToken_31 ?_
    refine p_iadd dX8_nextToken_32 ?_
    refine p_putI (j := 8) G f_RX8_231 rfl rfl rfl (hS 0 (by decide)).1 (nf_w _) dX8_nextToken_33 ?_
    refine p_gen (fun im6 e7 => ?_)
    have h := h im6 e7
    refine p_goto (tgt := 0) dX8_nextToken_36 (by decide) ?_
    refine p_sub (lv' := [(0, .ref a)]) [0] rfl ?_
    exact h
  · have h := h.2 b5
    refine p_aload_n dX8_nextToken_13 rfl (q := 0) rfl ?_
    refine p_aload_n dX8_nextToken_14 rfl (q := 0) rfl ?_
    refine p_getI (j := 8) G f_RX8_231 rfl (hS 0 (by decide)).1 dX8_nextToken_15 (fun c5 => ?_)
    refine p_VI G k_RX8_234 (by decide) (hS 0 (by decide)).1 rfl rfl (Nat.le_of_ble_eq_true rfl) ⟨by decide, by decide⟩ ⟨by decide, by decide⟩ dX8_nextToken_18 h (fun r6 im7 c8 h => ?_)
    refine p_bipush dX8_nextToken_21 (by decide) ?_
    refine p_icmp_ne (tgt := 39) dX8_nextToken_23 (by decide) (nf_r c8) (nf_k (by decide)) (fun b9 => ?_) (fun b9 => ?_)
    · have h := h.1 b9
      refine p_aload_n dX8_nextToken_39 rfl (q := 0) rfl ?_
      refine p_aload_n dX8_nextToken_40 rfl (q := 0) rfl ?_
      refine p_getI (j := 8) G f_RX8_231 rfl (hS 0 (by decide)).1 dX8_nextToken_41 (fun c9 => ?_)
      refine p_putI (j := 9) G f_RX8_237 rfl rfl rfl (hS 0 (by decide)).1 (nf_r c9) dX8_nextToken_44 ?_
      refine p_gen (fun im10 e11 => ?_)
      have h := h im10 e11
      refine p_aload_n dX8_nextToken_47 rfl (q := 0) rfl ?_
      refine p_iconst dX8_nextToken_48 ?_
      refine p_putI (j := 11) G f_RX8_240 rfl rfl rfl (hS 0 (by decide)).1 (nf_k (by decide)) dX8_nextToken_49 ?_
      refine p_gen (fun im12 e13 => ?_)
      have h := h im12 e13
      refine p_aload_n dX8_nextToken_52 rfl (q := 0) rfl ?_
      refine p_lconst (x := 0) dX8_nextToken_53 rfl ?_
      refine p_putJ (j := 15) G f_RX8_243 rfl rfl rfl (hS 0 (by decide)).1 (nfl_k (by decide)) dX8_nextToken_54 ?_
      refine p_gen (fun im14 e15 => ?_)
      have h := h im14 e15
      refine p_aload_n dX8_nextToken_57 rfl (q := 0) rfl ?_
      refine p_iconst dX8_nextToken_58 ?_
      refine p_putI (j := 12) G f_RX8_246 rfl rfl rfl (hS 0 (by decide)).1 (nf_k (by decide)) dX8_nextToken_59 ?_
      refine p_gen (fun im16 e17 => ?_)
      have h := h im16 e17
      refine p_aload_n dX8_nextToken_62 rfl (q := 0) rfl ?_
      refine p_aload_n dX8_nextToken_63 rfl (q := 0) rfl ?_
      refine p_getI (j := 8) G f_RX8_231 rfl (hS 0 (by decide)).1 dX8_nextToken_64 (fun c18 => ?_)
      refine p_VI G k_RX8_234 (by decide) (hS 0 (by decide)).1 rfl rfl (Nat.le_of_ble_eq_true rfl) ⟨by decide, by decide⟩ ⟨by decide, by decide⟩ dX8_nextToken_67 h (fun r19 im20 c21 h => ?_)
      refine p_istore_n (lv' := [(1, .int (zi r19)), (0, .ref a)]) dX8_nextToken_70 rfl (by decide) rfl ?_
      refine p_iload_n dX8_nextToken_71 rfl (q := 0) rfl ?_
      refine p_iconst dX8_nextToken_72 ?_
      refine p_icmp_ne (tgt := 84) dX8_nextToken_73 (by decide) (nf_r c21) (nf_k (by decide)) (fun b22 => ?_) (fun b22 => ?_)
      · have h := h.1 b22
        refine p_iload_n dX8_nextToken_84 rfl (q := 0) rfl ?_
        refine p_SI G k_RX8_252 rfl rfl (Nat.le_of_ble_eq_true rfl) ⟨by decide, by decide⟩ ⟨by decide, by decide⟩ dX8_nextToken_85 h (fun r22 im23 c24 h => ?_)
        refine p_if_eq (tgt := 175) dX8_nextToken_88 (by decide) (nf_r c24) (fun b25 => ?_) (fun b25 => ?_)
        · have h := h.1 b25
          refine p_iload_n dX8_nextToken_175 rfl (q := 0) rfl ?_
          refine p_SI G k_RX8_259 rfl rfl (Nat.le_of_ble_eq_true rfl) ⟨by decide, by decide⟩ ⟨by decide, by decide⟩ dX8_nextToken_176 h (fun r25 im26 c27 h => ?_)
          refine p_if_eq (tgt := 254) dX8_nextToken_179 (by decide) (nf_r c27) (fun b28 => ?_) (fun b28 => ?_)
          · have h := h.1 b28
            refine p_aload_n dX8_nextToken_254 rfl (q := 1) rfl ?_
            refine p_iload_n dX8_nextToken_255 rfl (q := 0) rfl ?_
            refine p_bipush dX8_nextToken_256 (by decide) ?_
            refine p_icmp_ne (tgt := 265) dX8_nextToken_258 (by decide) (nf_r c21) (nf_k (by decide)) (fun b28 => ?_) (fun b28 => ?_)
            · have h := h.1 b28
              refine p_iconst dX8_nextToken_265 ?_
              refine p_putI (j := 10) G f_RX8_249 rfl rfl rfl (hS 0 (by decide)).1 (nf_k (by decide)) dX8_nextToken_266 ?_
              refine p_gen (fun im28 e29 => ?_)
              have h := h im28 e29
              refine p_aload_n dX8_nextToken_269 rfl (q := 1) rfl ?_
              refine p_dup dX8_nextToken_270 rfl ?_
              refine p_getI (j := 8) G f_RX8_231 rfl (hS 0 (by decide)).1 dX8_nextToken_271 (fun c30 => ?_)
              refine p_iconst dX8_nextToken_274 ?_
              refine p_iadd dX8_nextToken_275 ?_
              refine p_putI (j := 8) G f_RX8_231 rfl rfl rfl (hS 0 (by decide)).1 (nf_w _) dX8_nextToken_276 ?_
              refine p_gen (fun im31 e32 => ?_)
              have h := h im31 e32
              exact p_retV (by decide) (by decide) rfl dX8_nextToken_279 h
            · have h := h.2 b28
              refine p_iconst dX8_nextToken_261 ?_
              refine p_goto (tgt := 266) dX8_nextToken_262 (by decide) ?_
              refine p_putI (j := 10) G f_RX8_249 rfl rfl rfl (hS 0 (by decide)).1 (nf_k (by decide)) dX8_nextToken_266 ?_
              refine p_gen (fun im28 e29 => ?_)
              have h := h im28 e29
              refine p_aload_n dX8_nextToken_269 rfl (q := 1) rfl ?_
              refine p_dup dX8_nextToken_270 rfl ?_
              refine p_getI (j := 8) G f_RX8_231 rfl (hS 0 (by decide)).1 dX8_nextToken_271 (fun c30 => ?_)
              refine p_iconst dX8_nextToken_274 ?_
              refine p_iadd dX8_nextToken_275 ?_
              refine p_putI (j := 8) G f_RX8_231 rfl rfl rfl (hS 0 (by decide)).1 (nf_w _) dX8_nextToken_276 ?_
              refine p_gen (fun im31 e32 => ?_)
              have h := h im31 e32
              exact p_retV (by decide) (by decide) rfl dX8_nextToken_279 h
          · have h := h.2 b28
            refine p_aload_n dX8_nextToken_182 rfl (q := 1) rfl ?_
            refine p_iconst dX8_nextToken_183 ?_
            refine p_putI (j := 10) G f_RX8_249 rfl rfl rfl (hS 0 (by decide)).1 (nf_k (by decide)) dX8_nextToken_184 ?_
            refine p_gen (fun im28 e29 => ?_)
            have h := h im28 e29
            refine p_sub (lv' := [(0, .ref a)]) [1] rfl ?_
            exact h
        · have h := h.2 b25
          refine p_aload_n dX8_nextToken_91 rfl (q := 1) rfl ?_
          refine p_iconst dX8_nextToken_92 ?_
          refine p_putI (j := 10) G f_RX8_249 rfl rfl rfl (hS 0 (by decide)).1 (nf_k (by decide)) dX8_nextToken_93 ?_
          refine p_gen (fun im25 e26 => ?_)
          have h := h im25 e26
          refine p_sub (lv' := [(0, .ref a)]) [1] rfl ?_
          exact h
      · have h := h.2 b22
        refine p_aload_n dX8_nextToken_76 rfl (q := 1) rfl ?_
        refine p_iconst dX8_nextToken_77 ?_
        refine p_putI (j := 10) G f_RX8_249 rfl rfl rfl (hS 0 (by decide)).1 (nf_k (by decide)) dX8_nextToken_78 ?_
        refine p_gen (fun im22 e23 => ?_)
        have h := h im22 e23
        refine p_goto (tgt := 279) dX8_nextToken_81 (by decide) ?_
        exact p_retV (by decide) (by decide) rfl dX8_nextToken_279 h
    · have h := h.2 b9
      refine p_aload_n dX8_nextToken_26 rfl (q := 0) rfl ?_
      refine p_dup dX8_nextToken_27 rfl ?_
      refine p_getI (j := 8) G f_RX8_231 rfl (hS 0 (by decide)).1 dX8_nextToken_28 (fun c9 => ?_)
      refine p_iconst dX8_nextToken_31 ?_
      refine p_iadd dX8_nextToken_32 ?_
      refine p_putI (j := 8) G f_RX8_231 rfl rfl rfl (hS 0 (by decide)).1 (nf_w _) dX8_nextToken_33 ?_
      refine p_gen (fun im10 e11 => ?_)
      have h := h im10 e11
      refine p_goto (tgt := 0) dX8_nextToken_36 (by decide) ?_
      refine p_sub (lv' := [(0, .ref a)]) [0] rfl ?_
      exact h
set_option maxRecDepth 20000 in
set_option maxHeartbeats 4000000 in
theorem v_X8_nextToken_0 {g : zG} (G : zOK g) {S : zSh} {im : zIm} {a : Nat} {Q : zIm → Prop} (hS : zS_M S a)
    (h : zCI g yX8_byteAt M_X8_byteAt [.ref a, .int (zi (im a 8))] S im (fun r2 im3 => ((r2 = 32 → ∀ im6, im6 = zst im3 a 8 (zw ((im3 a 8) + 1)) → zPV g M_X8_nextToken 0 [(0, .ref a)] S im6 Q) ∧ (¬ r2 = 32 → zCI g yX8_byteAt M_X8_byteAt [.ref a, .int (zi (im3 a 8))] S im3 (fun r6 im7 => ((¬ r6 = 10 → ∀ im10, im10 = zst im7 a 9 (im7 a 8) → ∀ im12, im12 = zst im10 a 11 0 → ∀ im14, im14 = zst im12 a 15 0 → ∀ im16, im16 = zst im14 a 12 0 → zCI g yX8_byteAt M_X8_byteAt [.ref a, .int (zi (im16 a 8))] S im16 (fun r19 im20 => ((¬ r19 = (-1) → zCI g yX8_isLetter M_X8_isLetter [.int (zi r19)] S im20 (fun r22 im23 => ((r22 = 0 → zCI g yX8_isDigit M_X8_isDigit [.int (zi r19)] S im23 (fun r25 im26 => ((r25 = 0 → ((¬ r19 = 59 → ∀ im28, im28 = zst im26 a 10 1 → ∀ im31, im31 = zst im28 a 8 (zw ((im28 a 8) + 1)) → Q im31) ∧ (r19 = 59 → ∀ im28, im28 = zst im26 a 10 4 → ∀ im31, im31 = zst im28 a 8 (zw ((im28 a 8) + 1)) → Q im31))) ∧ (¬ r25 = 0 → ∀ im28, im28 = zst im26 a 10 3 → zPV g M_X8_nextToken 187 [(0, .ref a)] S im28 Q)))) ∧ (¬ r22 = 0 → ∀ im25, im25 = zst im23 a 10 2 → zPV g M_X8_nextToken 96 [(0, .ref a)] S im25 Q)))) ∧ (r19 = (-1) → ∀ im22, im22 = zst im20 a 10 0 → Q im22)))) ∧ (r6 = 10 → ∀ im10, im10 = zst im7 a 8 (zw ((im7 a 8) + 1)) → zPV g M_X8_nextToken 0 [(0, .ref a)] S im10 Q))))))) :
    zPV g M_X8_nextToken 0 [(0, .ref a)] S im Q := by
  refine p_aload_n dX8_nextToken_0 rfl (q := 0) rfl ?_
  refine p_aload_n dX8_nextToken_1 rfl (q := 0) rfl ?_
  refine p_getI (j := 8) G f_RX8_231 rfl (hS 0 (by decide)).1 dX8_nextToken_2 (fun c1 => ?_)
  refine p_VI G k_RX8_234 (by decide) (hS 0 (by decide)).1 rfl rfl (Nat.le_of_ble_eq_true rfl) ⟨by decide, by decide⟩ ⟨by decide, by decide⟩ dX8_nextToken_5 h (fun r2 im3 c4 h => ?_)
  refine p_bipush dX8_nextToken_8 (by decide) ?_
  refine p_icmp_eq (tgt := 26) dX8_nextToken_10 (by decide) (nf_r c4) (nf_k (by decide)) (fun b5 => ?_) (fun b5 => ?_)
  · have h := h.1 b5
    refine p_aload_n dX8_nextToken_26 rfl (q := 0) rfl ?_
    refine p_dup dX8_nextToken_27 rfl ?_
    refine p_getI (j := 8) G f_RX8_231 rfl (hS 0 (by decide)).1 dX8_nextToken_28 (fun c5 => ?_)
    refine p_iconst dX8_nextToken_31 ?_
    refine p_iadd dX8_nextToken_32 ?_
    refine p_putI (j := 8) G f_RX8_231 rfl rfl rfl (hS 0 (by decide)).1 (nf_w _) dX8_nextToken_33 ?_
    refine p_gen (fun im6 e7 => ?_)
    have h := h im6 e7
    refine p_goto (tgt := 0) dX8_nextToken_36 (by decide) ?_
    refine p_sub (lv' := [(0, .ref a)]) [0] rfl ?_
    exact h
  · have h := h.2 b5
    refine p_aload_n dX8_nextToken_13 rfl (q := 0) rfl ?_
    refine p_aload_n dX8_nextToken_14 rfl (q := 0) rfl ?_
    refine p_getI (j := 8) G f_RX8_231 rfl (hS 0 (by decide)).1 dX8_nextToken_15 (fun c5 => ?_)
    refine p_VI G k_RX8_234 (by decide) (hS 0 (by decide)).1 rfl rfl (Nat.le_of_ble_eq_true rfl) ⟨by decide, by decide⟩ ⟨by decide, by decide⟩ dX8_nextToken_18 h (fun r6 im7 c8 h => ?_)
    refine p_bipush dX8_nextToken_21 (by decide) ?_
    refine p_icmp_ne (tgt := 39) dX8_nextToken_23 (by decide) (nf_r c8) (nf_k (by decide)) (fun b9 => ?_) (fun b9 => ?_)
    · have h := h.1 b9
      refine p_aload_n dX8_nextToken_39 rfl (q := 0) rfl ?_
      refine p_aload_n dX8_nextToken_40 rfl (q := 0) rfl ?_
      refine p_getI (j := 8) G f_RX8_231 rfl (hS 0 (by decide)).1 dX8_nextToken_41 (fun c9 => ?_)
      refine p_putI (j := 9) G f_RX8_237 rfl rfl rfl (hS 0 (by decide)).1 (nf_r c9) dX8_nextToken_44 ?_
      refine p_gen (fun im10 e11 => ?_)
      have h := h im10 e11
      refine p_aload_n dX8_nextToken_47 rfl (q := 0) rfl ?_
      refine p_iconst dX8_nextToken_48 ?_
      refine p_putI (j := 11) G f_RX8_240 rfl rfl rfl (hS 0 (by decide)).1 (nf_k (by decide)) dX8_nextToken_49 ?_
      refine p_gen (fun im12 e13 => ?_)
      have h := h im12 e13
      refine p_aload_n dX8_nextToken_52 rfl (q := 0) rfl ?_
      refine p_lconst (x := 0) dX8_nextToken_53 rfl ?_
      refine p_putJ (j := 15) G f_RX8_243 rfl rfl rfl (hS 0 (by decide)).1 (nfl_k (by decide)) dX8_nextToken_54 ?_
      refine p_gen (fun im14 e15 => ?_)
      have h := h im14 e15
      refine p_aload_n dX8_nextToken_57 rfl (q := 0) rfl ?_
      refine p_iconst dX8_nextToken_58 ?_
      refine p_putI (j := 12) G f_RX8_246 rfl rfl rfl (hS 0 (by decide)).1 (nf_k (by decide)) dX8_nextToken_59 ?_
      refine p_gen (fun im16 e17 => ?_)
      have h := h im16 e17
      refine p_aload_n dX8_nextToken_62 rfl (q := 0) rfl ?_
      refine p_aload_n dX8_nextToken_63 rfl (q := 0) rfl ?_
      refine p_getI (j := 8) G f_RX8_231 rfl (hS 0 (by decide)).1 dX8_nextToken_64 (fun c18 => ?_)
      refine p_VI G k_RX8_234 (by decide) (hS 0 (by decide)).1 rfl rfl (Nat.le_of_ble_eq_true rfl) ⟨by decide, by decide⟩ ⟨by decide, by decide⟩ dX8_nextToken_67 h (fun r19 im20 c21 h => ?_)
      refine p_istore_n (lv' := [(1, .int (zi r19)), (0, .ref a)]) dX8_nextToken_70 rfl (by decide) rfl ?_
      refine p_iload_n dX8_nextToken_71 rfl (q := 0) rfl ?_
      refine p_iconst dX8_nextToken_72 ?_
      refine p_icmp_ne (tgt := 84) dX8_nextToken_73 (by decide) (nf_r c21) (nf_k (by decide)) (fun b22 => ?_) (fun b22 => ?_)
      · have h := h.1 b22
        refine p_iload_n dX8_nextToken_84 rfl (q := 0) rfl ?_
        refine p_SI G k_RX8_252 rfl rfl (Nat.le_of_ble_eq_true rfl) ⟨by decide, by decide⟩ ⟨by decide, by decide⟩ dX8_nextToken_85 h (fun r22 im23 c24 h => ?_)
        refine p_if_eq (tgt := 175) dX8_nextToken_88 (by decide) (nf_r c24) (fun b25 => ?_) (fun b25 => ?_)
        · have h := h.1 b25
          refine p_iload_n dX8_nextToken_175 rfl (q := 0) rfl ?_
          refine p_SI G k_RX8_259 rfl rfl (Nat.le_of_ble_eq_true rfl) ⟨by decide, by decide⟩ ⟨by decide, by decide⟩ dX8_nextToken_176 h (fun r25 im26 c27 h => ?_)
          refine p_if_eq (tgt := 254) dX8_nextToken_179 (by decide) (nf_r c27) (fun b28 => ?_) (fun b28 => ?_)
          · have h := h.1 b28
            refine p_aload_n dX8_nextToken_254 rfl (q := 1) rfl ?_
            refine p_iload_n dX8_nextToken_255 rfl (q := 0) rfl ?_
            refine p_bipush dX8_nextToken_256 (by decide) ?_
            refine p_icmp_ne (tgt := 265) dX8_nextToken_258 (by decide) (nf_r c21) (nf_k (by decide)) (fun b28 => ?_) (fun b28 => ?_)
            · have h := h.1 b28
              refine p_iconst dX8_nextToken_265 ?_
              refine p_putI (j := 10) G f_RX8_249 rfl rfl rfl (hS 0 (by decide)).1 (nf_k (by decide)) dX8_nextToken_266 ?_
              refine p_gen (fun im28 e29 => ?_)
              have h := h im28 e29
              refine p_aload_n dX8_nextToken_269 rfl (q := 1) rfl ?_
              refine p_dup dX8_nextToken_270 rfl ?_
              refine p_getI (j := 8) G f_RX8_231 rfl (hS 0 (by decide)).1 dX8_nextToken_271 (fun c30 => ?_)
              refine p_iconst dX8_nextToken_274 ?_
              refine p_iadd dX8_nextToken_275 ?_
              refine p_putI (j := 8) G f_RX8_231 rfl rfl rfl (hS 0 (by decide)).1 (nf_w _) dX8_nextToken_276 ?_
              refine p_gen (fun im31 e32 => ?_)
              have h := h im31 e32
              exact p_retV (by decide) (by decide) rfl dX8_nextToken_279 h
            · have h := h.2 b28
              refine p_iconst dX8_nextToken_261 ?_
              refine p_goto (tgt := 266) dX8_nextToken_262 (by decide) ?_
              refine p_putI (j := 10) G f_RX8_249 rfl rfl rfl (hS 0 (by decide)).1 (nf_k (by decide)) dX8_nextToken_266 ?_
              refine p_gen (fun im28 e29 => ?_)
              have h := h im28 e29
              refine p_aload_n dX8_nextToken_269 rfl (q := 1) rfl ?_
              refine p_dup dX8_nextToken_270 rfl ?_
              refine p_getI (j := 8) G f_RX8_231 rfl (hS 0 (by decide)).1 dX8_nextToken_271 (fun c30 => ?_)
              refine p_iconst dX8_nextToken_274 ?_
              refine p_iadd dX8_nextToken_275 ?_
              refine p_putI (j := 8) G f_RX8_231 rfl rfl rfl (hS 0 (by decide)).1 (nf_w _) dX8_nextToken_276 ?_
              refine p_gen (fun im31 e32 => ?_)
              have h := h im31 e32
              exact p_retV (by decide) (by decide) rfl dX8_nextToken_279 h
          · have h := h.2 b28
            refine p_aload_n dX8_nextToken_182 rfl (q := 1) rfl ?_
            refine p_iconst dX8_nextToken_183 ?_
            refine p_putI (j := 10) G f_RX8_249 rfl rfl rfl (hS 0 (by decide)).1 (nf_k (by decide)) dX8_nextToken_184 ?_
            refine p_gen (fun im28 e29 => ?_)
            have h := h im28 e29
            refine p_sub (lv' := [(0, .ref a)]) [1] rfl ?_
            exact h
        · have h := h.2 b25
          refine p_aload_n dX8_nextToken_91 rfl (q := 1) rfl ?_
          refine p_iconst dX8_nextToken_92 ?_
          refine p_putI (j := 10) G f_RX8_249 rfl rfl rfl (hS 0 (by decide)).1 (nf_k (by decide)) dX8_nextToken_93 ?_
          refine p_gen (fun im25 e26 => ?_)
          have h := h im25 e26
          refine p_sub (lv' := [(0, .ref a)]) [1] rfl ?_
          exact h
      · have h := h.2 b22
        refine p_aload_n dX8_nextToken_76 rfl (q := 1) rfl ?_
        refine p_iconst dX8_nextToken_77 ?_
        refine p_putI (j := 10) G f_RX8_249 rfl rfl rfl (hS 0 (by decide)).1 (nf_k (by decide)) dX8_nextToken_78 ?_
        refine p_gen (fun im22 e23 => ?_)
        have h := h im22 e23
        refine p_goto (tgt := 279) dX8_nextToken_81 (by decide) ?_
        exact p_retV (by decide) (by decide) rfl dX8_nextToken_279 h
    · have h := h.2 b9
      refine p_aload_n dX8_nextToken_26 rfl (q := 0) rfl ?_
      refine p_dup dX8_nextToken_27 rfl ?_
      refine p_getI (j := 8) G f_RX8_231 rfl (hS 0 (by decide)).1 dX8_nextToken_28 (fun c9 => ?_)
      refine p_iconst dX8_nextToken_31 ?_
      refine p_iadd dX8_nextToken_32 ?_
      refine p_putI (j := 8) G f_RX8_231 rfl rfl rfl (hS 0 (by decide)).1 (nf_w _) dX8_nextToken_33 ?_
      refine p_gen (fun im10 e11 => ?_)
      have h := h im10 e11
      refine p_goto (tgt := 0) dX8_nextToken_36 (by decide) ?_
      refine p_sub (lv' := [(0, .ref a)]) [0] rfl ?_
      exact h
set_option maxRecDepth 20000 in
set_option maxHeartbeats 4000000 in
theorem v_X8_nextToken_187 {g : zG} (G : zOK g) {S : zSh} {im : zIm} {a : Nat} {Q : zIm → Prop} (hS : zS_M S a)
    (h : zCI g yX8_byteAt M_X8_byteAt [.ref a, .int (zi (im a 8))] S im (fun r2 im3 => zCI g yX8_isDigit M_X8_isDigit [.int (zi r2)] S im3 (fun r5 im6 => ((r5 = 0 → Q im6) ∧ (¬ r5 = 0 → (((im6 a 12) ≤ 9999 → zCI g yX8_byteAt M_X8_byteAt [.ref a, .int (zi (im6 a 8))] S im6 (fun r11 im12 => ∀ im14, im14 = zst im12 a 12 (zw (((10 * (im6 a 12)) + r11) - 48)) → ∀ im17, im17 = zst im14 a 8 (zw ((im14 a 8) + 1)) → zPV g M_X8_nextToken 187 [(0, .ref a)] S im17 Q)) ∧ (9999 < (im6 a 12) → ∀ im10, im10 = zst im6 a 12 (im6 a 12) → ∀ im13, im13 = zst im10 a 8 (zw ((im10 a 8) + 1)) → zPV g M_X8_nextToken 187 [(0, .ref a)] S im13 Q))))))) :
    zPV g M_X8_nextToken 187 [(0, .ref a)] S im Q := by
  refine p_aload_n dX8_nextToken_187 rfl (q := 0) rfl ?_
  refine p_aload_n dX8_nextToken_188 rfl (q := 0) rfl ?_
  refine p_getI (j := 8) G f_RX8_231 rfl (hS 0 (by decide)).1 dX8_nextToken_189 (fun c1 => ?_)
  refine p_VI G k_RX8_234 (by decide) (hS 0 (by decide)).1 rfl rfl (Nat.le_of_ble_eq_true rfl) ⟨by decide, by decide⟩ ⟨by decide, by decide⟩ dX8_nextToken_192 h (fun r2 im3 c4 h => ?_)
  refine p_SI G k_RX8_259 rfl rfl (Nat.le_of_ble_eq_true rfl) ⟨by decide, by decide⟩ ⟨by decide, by decide⟩ dX8_nextToken_195 h (fun r5 im6 c7 h => ?_)
  refine p_if_eq (tgt := 279) dX8_nextToken_198 (by decide) (nf_r c7) (fun b8 => ?_) (fun b8 => ?_)
  · have h := h.1 b8
    exact p_retV (by decide) (by decide) rfl dX8_nextToken_279 h
  · have h := h.2 b8
    refine p_aload_n dX8_nextToken_201 rfl (q := 0) rfl ?_
    refine p_aload_n dX8_nextToken_202 rfl (q := 0) rfl ?_
    refine p_getI (j := 12) G f_RX8_246 rfl (hS 0 (by decide)).1 dX8_nextToken_203 (fun c8 => ?_)
    refine p_sipush dX8_nextToken_206 (by decide) ?_
    refine p_icmp_le (tgt := 219) dX8_nextToken_209 (by decide) (nf_r c8) (nf_k (by decide)) (fun b9 => ?_) (fun b9 => ?_)
    · have h := h.1 b9
      refine p_bipush dX8_nextToken_219 (by decide) ?_
      refine p_aload_n dX8_nextToken_221 rfl (q := 0) rfl ?_
      refine p_getI (j := 12) G f_RX8_246 rfl (hS 0 (by decide)).1 dX8_nextToken_222 (fun c9 => ?_)
      refine p_imul dX8_nextToken_225 ?_
      refine p_aload_n dX8_nextToken_226 rfl (q := 0) rfl ?_
      refine p_aload_n dX8_nextToken_227 rfl (q := 0) rfl ?_
      refine p_getI (j := 8) G f_RX8_231 rfl (hS 0 (by decide)).1 dX8_nextToken_228 (fun c10 => ?_)
      refine p_VI G k_RX8_234 (by decide) (hS 0 (by decide)).1 rfl rfl (Nat.le_of_ble_eq_true rfl) ⟨by decide, by decide⟩ ⟨by decide, by decide⟩ dX8_nextToken_231 h (fun r11 im12 c13 h => ?_)
      refine p_iadd dX8_nextToken_234 ?_
      refine p_bipush dX8_nextToken_235 (by decide) ?_
      refine p_isub dX8_nextToken_237 ?_
      refine p_putI (j := 12) G f_RX8_246 rfl rfl rfl (hS 0 (by decide)).1 (nf_w _) dX8_nextToken_238 ?_
      refine p_gen (fun im14 e15 => ?_)
      have h := h im14 e15
      refine p_aload_n dX8_nextToken_241 rfl (q := 0) rfl ?_
      refine p_dup dX8_nextToken_242 rfl ?_
      refine p_getI (j := 8) G f_RX8_231 rfl (hS 0 (by decide)).1 dX8_nextToken_243 (fun c16 => ?_)
      refine p_iconst dX8_nextToken_246 ?_
      refine p_iadd dX8_nextToken_247 ?_
      refine p_putI (j := 8) G f_RX8_231 rfl rfl rfl (hS 0 (by decide)).1 (nf_w _) dX8_nextToken_248 ?_
      refine p_gen (fun im17 e18 => ?_)
      have h := h im17 e18
      refine p_goto (tgt := 187) dX8_nextToken_251 (by decide) ?_
      refine p_sub (lv' := [(0, .ref a)]) [0] rfl ?_
      exact h
    · have h := h.2 b9
      refine p_aload_n dX8_nextToken_212 rfl (q := 0) rfl ?_
      refine p_getI (j := 12) G f_RX8_246 rfl (hS 0 (by decide)).1 dX8_nextToken_213 (fun c9 => ?_)
      refine p_goto (tgt := 238) dX8_nextToken_216 (by decide) ?_
      refine p_putI (j := 12) G f_RX8_246 rfl rfl rfl (hS 0 (by decide)).1 (nf_r c9) dX8_nextToken_238 ?_
      refine p_gen (fun im10 e11 => ?_)
      have h := h im10 e11
      refine p_aload_n dX8_nextToken_241 rfl (q := 0) rfl ?_
      refine p_dup dX8_nextToken_242 rfl ?_
      refine p_getI (j := 8) G f_RX8_231 rfl (hS 0 (by decide)).1 dX8_nextToken_243 (fun c12 => ?_)
      refine p_iconst dX8_nextToken_246 ?_
      refine p_iadd dX8_nextToken_247 ?_
      refine p_putI (j := 8) G f_RX8_231 rfl rfl rfl (hS 0 (by decide)).1 (nf_w _) dX8_nextToken_248 ?_
      refine p_gen (fun im13 e14 => ?_)
      have h := h im13 e14
      refine p_goto (tgt := 187) dX8_nextToken_251 (by decide) ?_
      refine p_sub (lv' := [(0, .ref a)]) [0] rfl ?_
      exact h
set_option maxRecDepth 20000 in
set_option maxHeartbeats 4000000 in
theorem v_X8_nextToken_96 {g : zG} (G : zOK g) {S : zSh} {im : zIm} {a : Nat} {Q : zIm → Prop} (hS : zS_M S a)
    (h : zCI g yX8_byteAt M_X8_byteAt [.ref a, .int (zi (im a 8))] S im (fun r2 im3 => zCI g yX8_isLetter M_X8_isLetter [.int (zi r2)] S im3 (fun r5 im6 => ((r5 = 0 → Q im6) ∧ (¬ r5 = 0 → ((8 ≤ (im6 a 11) → ∀ im10, im10 = zst im6 a 15 (im6 a 15) → ∀ im13, im13 = zst im10 a 11 (zw ((im10 a 11) + 1)) → ∀ im16, im16 = zst im13 a 8 (zw ((im13 a 8) + 1)) → zPV g M_X8_nextToken 96 [(0, .ref a)] S im16 Q) ∧ ((im6 a 11) < 8 → zCI g yX8_byteAt M_X8_byteAt [.ref a, .int (zi (im6 a 8))] S im6 (fun r11 im12 => ∀ im14, im14 = zst im12 a 15 (zwl (((27 * (im6 a 15)) + r11) - 96)) → ∀ im17, im17 = zst im14 a 11 (zw ((im14 a 11) + 1)) → ∀ im20, im20 = zst im17 a 8 (zw ((im17 a 8) + 1)) → zPV g M_X8_nextToken 96 [(0, .ref a)] S im20 Q)))))))) :
    zPV g M_X8_nextToken 96 [(0, .ref a)] S im Q := by
  refine p_aload_n dX8_nextToken_96 rfl (q := 0) rfl ?_
  refine p_aload_n dX8_nextToken_97 rfl (q := 0) rfl ?_
  refine p_getI (j := 8) G f_RX8_231 rfl (hS 0 (by decide)).1 dX8_nextToken_98 (fun c1 => ?_)
  refine p_VI G k_RX8_234 (by decide) (hS 0 (by decide)).1 rfl rfl (Nat.le_of_ble_eq_true rfl) ⟨by decide, by decide⟩ ⟨by decide, by decide⟩ dX8_nextToken_101 h (fun r2 im3 c4 h => ?_)
  refine p_SI G k_RX8_252 rfl rfl (Nat.le_of_ble_eq_true rfl) ⟨by decide, by decide⟩ ⟨by decide, by decide⟩ dX8_nextToken_104 h (fun r5 im6 c7 h => ?_)
  refine p_if_eq (tgt := 279) dX8_nextToken_107 (by decide) (nf_r c7) (fun b8 => ?_) (fun b8 => ?_)
  · have h := h.1 b8
    exact p_retV (by decide) (by decide) rfl dX8_nextToken_279 h
  · have h := h.2 b8
    refine p_aload_n dX8_nextToken_110 rfl (q := 0) rfl ?_
    refine p_aload_n dX8_nextToken_111 rfl (q := 0) rfl ?_
    refine p_getI (j := 11) G f_RX8_240 rfl (hS 0 (by decide)).1 dX8_nextToken_112 (fun c8 => ?_)
    refine p_bipush dX8_nextToken_115 (by decide) ?_
    refine p_icmp_ge (tgt := 145) dX8_nextToken_117 (by decide) (nf_r c8) (nf_k (by decide)) (fun b9 => ?_) (fun b9 => ?_)
    · have h := h.1 b9
      refine p_aload_n dX8_nextToken_145 rfl (q := 0) rfl ?_
      refine p_getJ (j := 15) G f_RX8_243 rfl (hS 0 (by decide)).1 dX8_nextToken_146 (fun c9 => ?_)
      refine p_putJ (j := 15) G f_RX8_243 rfl rfl rfl (hS 0 (by decide)).1 (nfl_r c9) dX8_nextToken_149 ?_
      refine p_gen (fun im10 e11 => ?_)
      have h := h im10 e11
      refine p_aload_n dX8_nextToken_152 rfl (q := 0) rfl ?_
      refine p_dup dX8_nextToken_153 rfl ?_
      refine p_getI (j := 11) G f_RX8_240 rfl (hS 0 (by decide)).1 dX8_nextToken_154 (fun c12 => ?_)
      refine p_iconst dX8_nextToken_157 ?_
      refine p_iadd dX8_nextToken_158 ?_
      refine p_putI (j := 11) G f_RX8_240 rfl rfl rfl (hS 0 (by decide)).1 (nf_w _) dX8_nextToken_159 ?_
      refine p_gen (fun im13 e14 => ?_)
      have h := h im13 e14
      refine p_aload_n dX8_nextToken_162 rfl (q := 0) rfl ?_
      refine p_dup dX8_nextToken_163 rfl ?_
      refine p_getI (j := 8) G f_RX8_231 rfl (hS 0 (by decide)).1 dX8_nextToken_164 (fun c15 => ?_)
      refine p_iconst dX8_nextToken_167 ?_
      refine p_iadd dX8_nextToken_168 ?_
      refine p_putI (j := 8) G f_RX8_231 rfl rfl rfl (hS 0 (by decide)).1 (nf_w _) dX8_nextToken_169 ?_
      refine p_gen (fun im16 e17 => ?_)
      have h := h im16 e17
      refine p_goto (tgt := 96) dX8_nextToken_172 (by decide) ?_
      refine p_sub (lv' := [(0, .ref a)]) [0] rfl ?_
      exact h
    · have h := h.2 b9
      refine p_ldc2 G q_7_120 (v := 27) (by decide) dX8_nextToken_120 ?_
      refine p_aload_n dX8_nextToken_123 rfl (q := 0) rfl ?_
      refine p_getJ (j := 15) G f_RX8_243 rfl (hS 0 (by decide)).1 dX8_nextToken_124 (fun c9 => ?_)
      refine p_lmul dX8_nextToken_127 ?_
      refine p_aload_n dX8_nextToken_128 rfl (q := 0) rfl ?_
      refine p_aload_n dX8_nextToken_129 rfl (q := 0) rfl ?_
      refine p_getI (j := 8) G f_RX8_231 rfl (hS 0 (by decide)).1 dX8_nextToken_130 (fun c10 => ?_)
      refine p_VI G k_RX8_234 (by decide) (hS 0 (by decide)).1 rfl rfl (Nat.le_of_ble_eq_true rfl) ⟨by decide, by decide⟩ ⟨by decide, by decide⟩ dX8_nextToken_133 h (fun r11 im12 c13 h => ?_)
      refine p_i2l dX8_nextToken_136 (nf_r c13) ?_
      refine p_ladd dX8_nextToken_137 ?_
      refine p_ldc2 G q_7_121 (v := 96) (by decide) dX8_nextToken_138 ?_
      refine p_lsub dX8_nextToken_141 ?_
      refine p_goto (tgt := 149) dX8_nextToken_142 (by decide) ?_
      refine p_putJ (j := 15) G f_RX8_243 rfl rfl rfl (hS 0 (by decide)).1 (nfl_w _) dX8_nextToken_149 ?_
      refine p_gen (fun im14 e15 => ?_)
      have h := h im14 e15
      refine p_aload_n dX8_nextToken_152 rfl (q := 0) rfl ?_
      refine p_dup dX8_nextToken_153 rfl ?_
      refine p_getI (j := 11) G f_RX8_240 rfl (hS 0 (by decide)).1 dX8_nextToken_154 (fun c16 => ?_)
      refine p_iconst dX8_nextToken_157 ?_
      refine p_iadd dX8_nextToken_158 ?_
      refine p_putI (j := 11) G f_RX8_240 rfl rfl rfl (hS 0 (by decide)).1 (nf_w _) dX8_nextToken_159 ?_
      refine p_gen (fun im17 e18 => ?_)
      have h := h im17 e18
      refine p_aload_n dX8_nextToken_162 rfl (q := 0) rfl ?_
      refine p_dup dX8_nextToken_163 rfl ?_
      refine p_getI (j := 8) G f_RX8_231 rfl (hS 0 (by decide)).1 dX8_nextToken_164 (fun c19 => ?_)
      refine p_iconst dX8_nextToken_167 ?_
      refine p_iadd dX8_nextToken_168 ?_
      refine p_putI (j := 8) G f_RX8_231 rfl rfl rfl (hS 0 (by decide)).1 (nf_w _) dX8_nextToken_169 ?_
      refine p_gen (fun im20 e21 => ?_)
      have h := h im20 e21
      refine p_goto (tgt := 96) dX8_nextToken_172 (by decide) ?_
      refine p_sub (lv' := [(0, .ref a)]) [0] rfl ?_
      exact h
set_option maxRecDepth 20000 in
set_option maxHeartbeats 4000000 in
theorem v_X8_isWord {g : zG} (G : zOK g) {S : zSh} {im : zIm} {a : Nat} {p1 : Nat} {b_p1 : List Int} {Q : Int → zIm → Prop} (hS : zS_M S a) (h_p1 : zStrAt g p1 b_p1) (l_p1 : b_p1.length < 2147483648) (a_p1 : ∀ b ∈ b_p1, 0 ≤ b ∧ b < 128)
    (h : ((¬ (im a 10) = 2 → Q 0 im) ∧ ((im a 10) = 2 → (((im a 11) = (b_p1.length : Int) → zPI g M_X8_isWord 26 [(0, .ref a), (1, .ref p1), (2, .long (zl 0)), (4, .int (zi 0))] S im Q) ∧ (¬ (im a 11) = (b_p1.length : Int) → Q 0 im))))) :
    zCI g yX8_isWord M_X8_isWord [.ref a, .ref p1] S im Q := by
  refine zC_of (by decide) rfl rfl rfl rfl (Nat.le_of_ble_eq_true rfl) ?_
  refine p_aload_n dX8_isWord_0 rfl (q := 0) rfl ?_
  refine p_getI (j := 10) G f_RX8_249 rfl (hS 0 (by decide)).1 dX8_isWord_1 (fun c1 => ?_)
  refine p_iconst dX8_isWord_4 ?_
  refine p_icmp_ne (tgt := 19) dX8_isWord_5 (by decide) (nf_r c1) (nf_k (by decide)) (fun b2 => ?_) (fun b2 => ?_)
  · have h := h.1 b2
    refine p_iconst dX8_isWord_19 ?_
    exact p_zretI (by decide) (by decide) rfl (nf_k (by decide)) (by decide) dX8_isWord_20 h
  · have h := h.2 b2
    refine p_aload_n dX8_isWord_8 rfl (q := 0) rfl ?_
    refine p_getI (j := 11) G f_RX8_240 rfl (hS 0 (by decide)).1 dX8_isWord_9 (fun c2 => ?_)
    refine p_aload_n dX8_isWord_12 rfl (q := 1) rfl ?_
    refine p_slen G h_p1 l_p1 ks_RX8_262 (Nat.le_of_ble_eq_true rfl) ⟨by decide, by decide⟩ ⟨by decide, by decide⟩ dX8_isWord_13 ?_
    refine p_icmp_eq (tgt := 21) dX8_isWord_16 (by decide) (nf_r c2) (nf_r (zc_of (by omega) (by omega))) (fun b3 => ?_) (fun b3 => ?_)
    · have h := h.1 b3
      refine p_lconst (x := 0) dX8_isWord_21 rfl ?_
      refine p_lstore_n (lv' := [(2, .long (zl 0)), (0, .ref a), (1, .ref p1)]) dX8_isWord_22 rfl (by decide) rfl ?_
      refine p_iconst dX8_isWord_23 ?_
      refine p_istore (lv' := [(4, .int (zi 0)), (2, .long (zl 0)), (0, .ref a), (1, .ref p1)]) dX8_isWord_24 (by decide) rfl ?_
      refine p_sub (lv' := [(0, .ref a), (1, .ref p1), (2, .long (zl 0)), (4, .int (zi 0))]) [2, 3, 1, 0] rfl ?_
      exact h
    · have h := h.2 b3
      refine p_iconst dX8_isWord_19 ?_
      exact p_zretI (by decide) (by decide) rfl (nf_k (by decide)) (by decide) dX8_isWord_20 h
set_option maxRecDepth 20000 in
set_option maxHeartbeats 4000000 in
theorem v_X8_isWord_26 {g : zG} (G : zOK g) {S : zSh} {im : zIm} {a : Nat} {p1 : Nat} {b_p1 : List Int} {x2 : Int} {x4 : Int} {Q : Int → zIm → Prop} (hS : zS_M S a) (h_p1 : zStrAt g p1 b_p1) (l_p1 : b_p1.length < 2147483648) (a_p1 : ∀ b ∈ b_p1, 0 ≤ b ∧ b < 128) (c_x2 : zcl x2) (c_x4 : zc x4)
    (h : (((b_p1.length : Int) ≤ x4 → ((¬ (zcmp (im a 15) x2) = 0 → Q 0 im) ∧ ((zcmp (im a 15) x2) = 0 → Q 1 im))) ∧ (x4 < (b_p1.length : Int) → ((0 ≤ x4 ∧ x4 < b_p1.length) ∧ zPI g M_X8_isWord 26 [(0, .ref a), (1, .ref p1), (2, .long (zl (zwl (((27 * x2) + (b_p1.getD (x4).toNat 0)) - 96)))), (4, .int (zi (zw (x4 + 1))))] S im Q)))) :
    zPI g M_X8_isWord 26 [(0, .ref a), (1, .ref p1), (2, .long (zl x2)), (4, .int (zi x4))] S im Q := by
  refine p_iload dX8_isWord_26 (q := 3) rfl ?_
  refine p_aload_n dX8_isWord_28 rfl (q := 1) rfl ?_
  refine p_slen G h_p1 l_p1 ks_RX8_262 (Nat.le_of_ble_eq_true rfl) ⟨by decide, by decide⟩ ⟨by decide, by decide⟩ dX8_isWord_29 ?_
  refine p_icmp_ge (tgt := 59) dX8_isWord_32 (by decide) (nf_r c_x4) (nf_r (zc_of (by omega) (by omega))) (fun b1 => ?_) (fun b1 => ?_)
  · have h := h.1 b1
    refine p_aload_n dX8_isWord_59 rfl (q := 0) rfl ?_
    refine p_getJ (j := 15) G f_RX8_243 rfl (hS 0 (by decide)).1 dX8_isWord_60 (fun c1 => ?_)
    refine p_lload_n dX8_isWord_63 rfl (q := 2) rfl ?_
    refine p_lcmp dX8_isWord_64 (nfl_r c1) (nfl_r c_x2) ?_
    refine p_if_ne (tgt := 72) dX8_isWord_65 (by decide) (nf_r (zc_zcmp _ _)) (fun b2 => ?_) (fun b2 => ?_)
    · have h := h.1 b2
      refine p_iconst dX8_isWord_72 ?_
      exact p_zretI (by decide) (by decide) rfl (nf_k (by decide)) (by decide) dX8_isWord_73 h
    · have h := h.2 b2
      refine p_iconst dX8_isWord_68 ?_
      refine p_goto (tgt := 73) dX8_isWord_69 (by decide) ?_
      exact p_zretI (by decide) (by decide) rfl (nf_k (by decide)) (by decide) dX8_isWord_73 h
  · have h := h.2 b1
    refine p_ldc2 G q_7_120 (v := 27) (by decide) dX8_isWord_35 ?_
    refine p_lload_n dX8_isWord_38 rfl (q := 2) rfl ?_
    refine p_lmul dX8_isWord_39 ?_
    refine p_aload_n dX8_isWord_40 rfl (q := 1) rfl ?_
    refine p_iload dX8_isWord_41 (q := 3) rfl ?_
    refine p_schar G h_p1 l_p1 a_p1 ks_RX8_267 (nf_r c_x4) h.1.1 h.1.2 (Nat.le_of_ble_eq_true rfl) ⟨by decide, by decide⟩ ⟨by decide, by decide⟩ dX8_isWord_43 (fun c1 => ?_)
    have h := h.2
    refine p_i2l dX8_isWord_46 (nf_r c1) ?_
    refine p_ladd dX8_isWord_47 ?_
    refine p_ldc2 G q_7_121 (v := 96) (by decide) dX8_isWord_48 ?_
    refine p_lsub dX8_isWord_51 ?_
    refine p_lstore_n (lv' := [(2, .long (zl (((27 * x2) + (b_p1.getD (x4).toNat 0)) - 96))), (0, .ref a), (1, .ref p1), (4, .int (zi x4))]) dX8_isWord_52 rfl (by decide) rfl ?_
    refine p_iinc (q := 3) (lv' := [(4, .int (zi (x4 + 1))), (2, .long (zl (((27 * x2) + (b_p1.getD (x4).toNat 0)) - 96))), (0, .ref a), (1, .ref p1)]) dX8_isWord_53 rfl (by decide) rfl ?_
    refine p_goto (tgt := 26) dX8_isWord_56 (by decide) ?_
    refine p_sub (lv' := [(0, .ref a), (1, .ref p1), (2, .long (zl (zwl (((27 * x2) + (b_p1.getD (x4).toNat 0)) - 96)))), (4, .int (zi (zw (x4 + 1))))]) [2, 3, 1, 0] (by simp only [zi_zw, zl_zwl]; rfl) ?_
    exact h
set_option maxRecDepth 20000 in
set_option maxHeartbeats 4000000 in
theorem v_X8_require {g : zG} (G : zOK g) {S : zSh} {im : zIm} {a : Nat} {p1 : Int} {p2 : Int} {Q : zIm → Prop} (hS : zS_M S a) (c_p1 : zc p1) (c_p2 : zc p2)
    (h : ((¬ p1 = 0 → Q im) ∧ (p1 = 0 → ((¬ (im a 13) = 0 → Q im) ∧ ((im a 13) = 0 → ∀ im2, im2 = zst im a 13 p2 → ∀ im5, im5 = zst im2 a 14 (im2 a 9) → Q im5))))) :
    zCV g yX8_require M_X8_require [.ref a, .int (zi p1), .int (zi p2)] S im Q := by
  refine zC_of (by decide) rfl rfl rfl rfl (Nat.le_of_ble_eq_true rfl) ?_
  refine p_iload_n dX8_require_0 rfl (q := 1) rfl ?_
  refine p_if_ne (tgt := 24) dX8_require_1 (by decide) (nf_r c_p1) (fun b1 => ?_) (fun b1 => ?_)
  · have h := h.1 b1
    exact p_retV (by decide) (by decide) rfl dX8_require_24 h
  · have h := h.2 b1
    refine p_aload_n dX8_require_4 rfl (q := 0) rfl ?_
    refine p_getI (j := 13) G f_RX8_271 rfl (hS 0 (by decide)).1 dX8_require_5 (fun c1 => ?_)
    refine p_if_ne (tgt := 24) dX8_require_8 (by decide) (nf_r c1) (fun b2 => ?_) (fun b2 => ?_)
    · have h := h.1 b2
      exact p_retV (by decide) (by decide) rfl dX8_require_24 h
    · have h := h.2 b2
      refine p_aload_n dX8_require_11 rfl (q := 0) rfl ?_
      refine p_iload_n dX8_require_12 rfl (q := 2) rfl ?_
      refine p_putI (j := 13) G f_RX8_271 rfl rfl rfl (hS 0 (by decide)).1 (nf_r c_p2) dX8_require_13 ?_
      refine p_gen (fun im2 e3 => ?_)
      have h := h im2 e3
      refine p_aload_n dX8_require_16 rfl (q := 0) rfl ?_
      refine p_aload_n dX8_require_17 rfl (q := 0) rfl ?_
      refine p_getI (j := 9) G f_RX8_237 rfl (hS 0 (by decide)).1 dX8_require_18 (fun c4 => ?_)
      refine p_putI (j := 14) G f_RX8_26 rfl rfl rfl (hS 0 (by decide)).1 (nf_r c4) dX8_require_21 ?_
      refine p_gen (fun im5 e6 => ?_)
      have h := h im5 e6
      exact p_retV (by decide) (by decide) rfl dX8_require_24 h
set_option maxRecDepth 20000 in
set_option maxHeartbeats 4000000 in
theorem v_X8_advanceToken {g : zG} (G : zOK g) {S : zSh} {im : zIm} {a : Nat} {Q : zIm → Prop} (hS : zS_M S a)
    (h : ((¬ (im a 13) = 0 → Q im) ∧ ((im a 13) = 0 → zCV g yX8_nextToken M_X8_nextToken [.ref a] S im (fun im2 => Q im2)))) :
    zCV g yX8_advanceToken M_X8_advanceToken [.ref a] S im Q := by
  refine zC_of (by decide) rfl rfl rfl rfl (Nat.le_of_ble_eq_true rfl) ?_
  refine p_aload_n dX8_advanceToken_0 rfl (q := 0) rfl ?_
  refine p_getI (j := 13) G f_RX8_271 rfl (hS 0 (by decide)).1 dX8_advanceToken_1 (fun c1 => ?_)
  refine p_if_ne (tgt := 11) dX8_advanceToken_4 (by decide) (nf_r c1) (fun b2 => ?_) (fun b2 => ?_)
  · have h := h.1 b2
    exact p_retV (by decide) (by decide) rfl dX8_advanceToken_11 h
  · have h := h.2 b2
    refine p_aload_n dX8_advanceToken_7 rfl (q := 0) rfl ?_
    refine p_VV G k_RX8_274 (by decide) (hS 0 (by decide)).1 rfl rfl (Nat.le_of_ble_eq_true rfl) ⟨by decide, by decide⟩ ⟨by decide, by decide⟩ dX8_advanceToken_8 h (fun im2 h => ?_)
    exact p_retV (by decide) (by decide) rfl dX8_advanceToken_11 h
set_option maxRecDepth 20000 in
set_option maxHeartbeats 4000000 in
theorem v_X8_parseNumber {g : zG} (G : zOK g) {S : zSh} {im : zIm} {a : Nat} {p1 : Int} {p2 : Int} {Q : Int → zIm → Prop} (hS : zS_M S a) (c_p1 : zc p1) (c_p2 : zc p2)
    (h : ((¬ (im a 10) = 3 → zCV g yX8_require M_X8_require [.ref a, .int (zi 0), .int (zi 1)] S im (fun im2 => zCI g yX8_isBetween M_X8_isBetween [.int (zi (im2 a 12)), .int (zi p1), .int (zi p2)] S im2 (fun r5 im6 => zCV g yX8_require M_X8_require [.ref a, .int (zi r5), .int (zi 2)] S im6 (fun im8 => zCV g yX8_advanceToken M_X8_advanceToken [.ref a] S im8 (fun im11 => Q (im8 a 12) im11))))) ∧ ((im a 10) = 3 → zCV g yX8_require M_X8_require [.ref a, .int (zi 1), .int (zi 1)] S im (fun im2 => zCI g yX8_isBetween M_X8_isBetween [.int (zi (im2 a 12)), .int (zi p1), .int (zi p2)] S im2 (fun r5 im6 => zCV g yX8_require M_X8_require [.ref a, .int (zi r5), .int (zi 2)] S im6 (fun im8 => zCV g yX8_advanceToken M_X8_advanceToken [.ref a] S im8 (fun im11 => Q (im8 a 12) im11))))))) :
    zCI g yX8_parseNumber M_X8_parseNumber [.ref a, .int (zi p1), .int (zi p2)] S im Q := by
  refine zC_of (by decide) rfl rfl rfl rfl (Nat.le_of_ble_eq_true rfl) ?_
  refine p_aload_n dX8_parseNumber_0 rfl (q := 0) rfl ?_
  refine p_aload_n dX8_parseNumber_1 rfl (q := 0) rfl ?_
  refine p_getI (j := 10) G f_RX8_249 rfl (hS 0 (by decide)).1 dX8_parseNumber_2 (fun c1 => ?_)
  refine p_iconst dX8_parseNumber_5 ?_
  refine p_icmp_ne (tgt := 13) dX8_parseNumber_6 (by decide) (nf_r c1) (nf_k (by decide)) (fun b2 => ?_) (fun b2 => ?_)
  · have h := h.1 b2
    refine p_iconst dX8_parseNumber_13 ?_
    refine p_iconst dX8_parseNumber_14 ?_
    refine p_VV G k_RX8_277 (by decide) (hS 0 (by decide)).1 rfl rfl (Nat.le_of_ble_eq_true rfl) ⟨by decide, by decide⟩ ⟨by decide, by decide⟩ dX8_parseNumber_15 h (fun im2 h => ?_)
    refine p_aload_n dX8_parseNumber_18 rfl (q := 0) rfl ?_
    refine p_aload_n dX8_parseNumber_19 rfl (q := 0) rfl ?_
    refine p_getI (j := 12) G f_RX8_246 rfl (hS 0 (by decide)).1 dX8_parseNumber_20 (fun c4 => ?_)
    refine p_iload_n dX8_parseNumber_23 rfl (q := 1) rfl ?_
    refine p_iload_n dX8_parseNumber_24 rfl (q := 2) rfl ?_
    refine p_SI G k_RX8_33 rfl rfl (Nat.le_of_ble_eq_true rfl) ⟨by decide, by decide⟩ ⟨by decide, by decide⟩ dX8_parseNumber_25 h (fun r5 im6 c7 h => ?_)
    refine p_iconst dX8_parseNumber_28 ?_
    refine p_VV G k_RX8_277 (by decide) (hS 0 (by decide)).1 rfl rfl (Nat.le_of_ble_eq_true rfl) ⟨by decide, by decide⟩ ⟨by decide, by decide⟩ dX8_parseNumber_29 h (fun im8 h => ?_)
    refine p_aload_n dX8_parseNumber_32 rfl (q := 0) rfl ?_
    refine p_getI (j := 12) G f_RX8_246 rfl (hS 0 (by decide)).1 dX8_parseNumber_33 (fun c10 => ?_)
    refine p_istore_n (lv' := [(3, .int (zi (im8 a 12))), (0, .ref a), (1, .int (zi p1)), (2, .int (zi p2))]) dX8_parseNumber_36 rfl (by decide) rfl ?_
    refine p_aload_n dX8_parseNumber_37 rfl (q := 1) rfl ?_
    refine p_VV G k_RX8_281 (by decide) (hS 0 (by decide)).1 rfl rfl (Nat.le_of_ble_eq_true rfl) ⟨by decide, by decide⟩ ⟨by decide, by decide⟩ dX8_parseNumber_38 h (fun im11 h => ?_)
    refine p_iload_n dX8_parseNumber_41 rfl (q := 0) rfl ?_
    exact p_iretI (by decide) (by decide) rfl (nf_r c10) dX8_parseNumber_42 h
  · have h := h.2 b2
    refine p_iconst dX8_parseNumber_9 ?_
    refine p_goto (tgt := 14) dX8_parseNumber_10 (by decide) ?_
    refine p_iconst dX8_parseNumber_14 ?_
    refine p_VV G k_RX8_277 (by decide) (hS 0 (by decide)).1 rfl rfl (Nat.le_of_ble_eq_true rfl) ⟨by decide, by decide⟩ ⟨by decide, by decide⟩ dX8_parseNumber_15 h (fun im2 h => ?_)
    refine p_aload_n dX8_parseNumber_18 rfl (q := 0) rfl ?_
    refine p_aload_n dX8_parseNumber_19 rfl (q := 0) rfl ?_
    refine p_getI (j := 12) G f_RX8_246 rfl (hS 0 (by decide)).1 dX8_parseNumber_20 (fun c4 => ?_)
    refine p_iload_n dX8_parseNumber_23 rfl (q := 1) rfl ?_
    refine p_iload_n dX8_parseNumber_24 rfl (q := 2) rfl ?_
    refine p_SI G k_RX8_33 rfl rfl (Nat.le_of_ble_eq_true rfl) ⟨by decide, by decide⟩ ⟨by decide, by decide⟩ dX8_parseNumber_25 h (fun r5 im6 c7 h => ?_)
    refine p_iconst dX8_parseNumber_28 ?_
    refine p_VV G k_RX8_277 (by decide) (hS 0 (by decide)).1 rfl rfl (Nat.le_of_ble_eq_true rfl) ⟨by decide, by decide⟩ ⟨by decide, by decide⟩ dX8_parseNumber_29 h (fun im8 h => ?_)
    refine p_aload_n dX8_parseNumber_32 rfl (q := 0) rfl ?_
    refine p_getI (j := 12) G f_RX8_246 rfl (hS 0 (by decide)).1 dX8_parseNumber_33 (fun c10 => ?_)
    refine p_istore_n (lv' := [(3, .int (zi (im8 a 12))), (0, .ref a), (1, .int (zi p1)), (2, .int (zi p2))]) dX8_parseNumber_36 rfl (by decide) rfl ?_
    refine p_aload_n dX8_parseNumber_37 rfl (q := 1) rfl ?_
    refine p_VV G k_RX8_281 (by decide) (hS 0 (by decide)).1 rfl rfl (Nat.le_of_ble_eq_true rfl) ⟨by decide, by decide⟩ ⟨by decide, by decide⟩ dX8_parseNumber_38 h (fun im11 h => ?_)
    refine p_iload_n dX8_parseNumber_41 rfl (q := 0) rfl ?_
    exact p_iretI (by decide) (by decide) rfl (nf_r c10) dX8_parseNumber_42 h
set_option maxRecDepth 20000 in
set_option maxHeartbeats 4000000 in
theorem v_X8_parseItemStatement {g : zG} (G : zOK g) {S : zSh} {im : zIm} {a : Nat} {Q : zIm → Prop} (hS : zS_M S a)
    (h : ((4 ≤ (im (a + 1) 2) → zCV g yX8_require M_X8_require [.ref a, .int (zi 0), .int (zi 3)] S im (fun im2 => zCV g yX8_advanceToken M_X8_advanceToken [.ref a] S im2 (fun im4 => zCI g yX8_parseNumber M_X8_parseNumber [.ref a, .int (zi 1), .int (zi 30)] S im4 (fun r6 im7 => zCI g yX8_parseNumber M_X8_parseNumber [.ref a, .int (zi 1), .int (zi 5)] S im7 (fun r9 im10 => zCI g yX8_parseNumber M_X8_parseNumber [.ref a, .int (zi 1), .int (zi 30)] S im10 (fun r12 im13 => ((¬ (im13 a 13) = 0 → Q im13) ∧ ((im13 a 13) = 0 → zCI g yX8_appendItem M_X8_appendItem [.ref a, .int (zi r6), .int (zi r9), .int (zi r12)] S im13 (fun r16 im17 => Q im17))))))))) ∧ ((im (a + 1) 2) < 4 → zCV g yX8_require M_X8_require [.ref a, .int (zi 1), .int (zi 3)] S im (fun im2 => zCV g yX8_advanceToken M_X8_advanceToken [.ref a] S im2 (fun im4 => zCI g yX8_parseNumber M_X8_parseNumber [.ref a, .int (zi 1), .int (zi 30)] S im4 (fun r6 im7 => zCI g yX8_parseNumber M_X8_parseNumber [.ref a, .int (zi 1), .int (zi 5)] S im7 (fun r9 im10 => zCI g yX8_parseNumber M_X8_parseNumber [.ref a, .int (zi 1), .int (zi 30)] S im10 (fun r12 im13 => ((¬ (im13 a 13) = 0 → Q im13) ∧ ((im13 a 13) = 0 → zCI g yX8_appendItem M_X8_appendItem [.ref a, .int (zi r6), .int (zi r9), .int (zi r12)] S im13 (fun r16 im17 => Q im17))))))))))) :
    zCV g yX8_parseItemStatement M_X8_parseItemStatement [.ref a] S im Q := by
  refine zC_of (by decide) rfl rfl rfl rfl (Nat.le_of_ble_eq_true rfl) ?_
  refine p_aload_n dX8_parseItemStatement_0 rfl (q := 0) rfl ?_
  refine p_aload_n dX8_parseItemStatement_1 rfl (q := 0) rfl ?_
  refine p_getR (b := (a + 1)) G f_RX8_7 rfl (hS 0 (by decide)).1 ((hS 0 (by decide)).2.2 0 (by decide)) dX8_parseItemStatement_2 ?_
  refine p_iconst dX8_parseItemStatement_5 ?_
  refine p_iald G (hS 1 (by decide)).1 (nf_k (by decide)) (by decide) (zln_lt (hS 1 (by decide)).2.1 (by decide)) dX8_parseItemStatement_6 (fun c1 => ?_)
  refine p_iconst dX8_parseItemStatement_7 ?_
  refine p_icmp_ge (tgt := 15) dX8_parseItemStatement_8 (by decide) (nf_r c1) (nf_k (by decide)) (fun b2 => ?_) (fun b2 => ?_)
  · have h := h.1 b2
    refine p_iconst dX8_parseItemStatement_15 ?_
    refine p_iconst dX8_parseItemStatement_16 ?_
    refine p_VV G k_RX8_277 (by decide) (hS 0 (by decide)).1 rfl rfl (Nat.le_of_ble_eq_true rfl) ⟨by decide, by decide⟩ ⟨by decide, by decide⟩ dX8_parseItemStatement_17 h (fun im2 h => ?_)
    refine p_aload_n dX8_parseItemStatement_20 rfl (q := 0) rfl ?_
    refine p_VV G k_RX8_281 (by decide) (hS 0 (by decide)).1 rfl rfl (Nat.le_of_ble_eq_true rfl) ⟨by decide, by decide⟩ ⟨by decide, by decide⟩ dX8_parseItemStatement_21 h (fun im4 h => ?_)
    refine p_aload_n dX8_parseItemStatement_24 rfl (q := 0) rfl ?_
    refine p_iconst dX8_parseItemStatement_25 ?_
    refine p_bipush dX8_parseItemStatement_26 (by decide) ?_
    refine p_VI G k_RX8_284 (by decide) (hS 0 (by decide)).1 rfl rfl (Nat.le_of_ble_eq_true rfl) ⟨by decide, by decide⟩ ⟨by decide, by decide⟩ dX8_parseItemStatement_28 h (fun r6 im7 c8 h => ?_)
    refine p_istore_n (lv' := [(1, .int (zi r6)), (0, .ref a)]) dX8_parseItemStatement_31 rfl (by decide) rfl ?_
    refine p_aload_n dX8_parseItemStatement_32 rfl (q := 1) rfl ?_
    refine p_iconst dX8_parseItemStatement_33 ?_
    refine p_iconst dX8_parseItemStatement_34 ?_
    refine p_VI G k_RX8_284 (by decide) (hS 0 (by decide)).1 rfl rfl (Nat.le_of_ble_eq_true rfl) ⟨by decide, by decide⟩ ⟨by decide, by decide⟩ dX8_parseItemStatement_35 h (fun r9 im10 c11 h => ?_)
    refine p_istore_n (lv' := [(2, .int (zi r9)), (1, .int (zi r6)), (0, .ref a)]) dX8_parseItemStatement_38 rfl (by decide) rfl ?_
    refine p_aload_n dX8_parseItemStatement_39 rfl (q := 2) rfl ?_
    refine p_iconst dX8_parseItemStatement_40 ?_
    refine p_bipush dX8_parseItemStatement_41 (by decide) ?_
    refine p_VI G k_RX8_284 (by decide) (hS 0 (by decide)).1 rfl rfl (Nat.le_of_ble_eq_true rfl) ⟨by decide, by decide⟩ ⟨by decide, by decide⟩ dX8_parseItemStatement_43 h (fun r12 im13 c14 h => ?_)
    refine p_istore_n (lv' := [(3, .int (zi r12)), (2, .int (zi r9)), (1, .int (zi r6)), (0, .ref a)]) dX8_parseItemStatement_46 rfl (by decide) rfl ?_
    refine p_aload_n dX8_parseItemStatement_47 rfl (q := 3) rfl ?_
    refine p_getI (j := 13) G f_RX8_271 rfl (hS 0 (by decide)).1 dX8_parseItemStatement_48 (fun c15 => ?_)
    refine p_if_ne (tgt := 63) dX8_parseItemStatement_51 (by decide) (nf_r c15) (fun b16 => ?_) (fun b16 => ?_)
    · have h := h.1 b16
      exact p_retV (by decide) (by decide) rfl dX8_parseItemStatement_63 h
    · have h := h.2 b16
      refine p_aload_n dX8_parseItemStatement_54 rfl (q := 3) rfl ?_
      refine p_iload_n dX8_parseItemStatement_55 rfl (q := 2) rfl ?_
      refine p_iload_n dX8_parseItemStatement_56 rfl (q := 1) rfl ?_
      refine p_iload_n dX8_parseItemStatement_57 rfl (q := 0) rfl ?_
      refine p_VI G k_RX8_45 (by decide) (hS 0 (by decide)).1 rfl rfl (Nat.le_of_ble_eq_true rfl) ⟨by decide, by decide⟩ ⟨by decide, by decide⟩ dX8_parseItemStatement_58 h (fun r16 im17 c18 h => ?_)
      refine p_istore (lv' := [(4, .int (zi r16)), (3, .int (zi r12)), (2, .int (zi r9)), (1, .int (zi r6)), (0, .ref a)]) dX8_parseItemStatement_61 (by decide) rfl ?_
      exact p_retV (by decide) (by decide) rfl dX8_parseItemStatement_63 h
  · have h := h.2 b2
    refine p_iconst dX8_parseItemStatement_11 ?_
    refine p_goto (tgt := 16) dX8_parseItemStatement_12 (by decide) ?_
    refine p_iconst dX8_parseItemStatement_16 ?_
    refine p_VV G k_RX8_277 (by decide) (hS 0 (by decide)).1 rfl rfl (Nat.le_of_ble_eq_true rfl) ⟨by decide, by decide⟩ ⟨by decide, by decide⟩ dX8_parseItemStatement_17 h (fun im2 h => ?_)
    refine p_aload_n dX8_parseItemStatement_20 rfl (q := 0) rfl ?_
    refine p_VV G k_RX8_281 (by decide) (hS 0 (by decide)).1 rfl rfl (Nat.le_of_ble_eq_true rfl) ⟨by decide, by decide⟩ ⟨by decide, by decide⟩ dX8_parseItemStatement_21 h (fun im4 h => ?_)
    refine p_aload_n dX8_parseItemStatement_24 rfl (q := 0) rfl ?_
    refine p_iconst dX8_parseItemStatement_25 ?_
    refine p_bipush dX8_parseItemStatement_26 (by decide) ?_
    refine p_VI G k_RX8_284 (by decide) (hS 0 (by decide)).1 rfl rfl (Nat.le_of_ble_eq_true rfl) ⟨by decide, by decide⟩ ⟨by decide, by decide⟩ dX8_parseItemStatement_28 h (fun r6 im7 c8 h => ?_)
    refine p_istore_n (lv' := [(1, .int (zi r6)), (0, .ref a)]) dX8_parseItemStatement_31 rfl (by decide) rfl ?_
    refine p_aload_n dX8_parseItemStatement_32 rfl (q := 1) rfl ?_
    refine p_iconst dX8_parseItemStatement_33 ?_
    refine p_iconst dX8_parseItemStatement_34 ?_
    refine p_VI G k_RX8_284 (by decide) (hS 0 (by decide)).1 rfl rfl (Nat.le_of_ble_eq_true rfl) ⟨by decide, by decide⟩ ⟨by decide, by decide⟩ dX8_parseItemStatement_35 h (fun r9 im10 c11 h => ?_)
    refine p_istore_n (lv' := [(2, .int (zi r9)), (1, .int (zi r6)), (0, .ref a)]) dX8_parseItemStatement_38 rfl (by decide) rfl ?_
    refine p_aload_n dX8_parseItemStatement_39 rfl (q := 2) rfl ?_
    refine p_iconst dX8_parseItemStatement_40 ?_
    refine p_bipush dX8_parseItemStatement_41 (by decide) ?_
    refine p_VI G k_RX8_284 (by decide) (hS 0 (by decide)).1 rfl rfl (Nat.le_of_ble_eq_true rfl) ⟨by decide, by decide⟩ ⟨by decide, by decide⟩ dX8_parseItemStatement_43 h (fun r12 im13 c14 h => ?_)
    refine p_istore_n (lv' := [(3, .int (zi r12)), (2, .int (zi r9)), (1, .int (zi r6)), (0, .ref a)]) dX8_parseItemStatement_46 rfl (by decide) rfl ?_
    refine p_aload_n dX8_parseItemStatement_47 rfl (q := 3) rfl ?_
    refine p_getI (j := 13) G f_RX8_271 rfl (hS 0 (by decide)).1 dX8_parseItemStatement_48 (fun c15 => ?_)
    refine p_if_ne (tgt := 63) dX8_parseItemStatement_51 (by decide) (nf_r c15) (fun b16 => ?_) (fun b16 => ?_)
    · have h := h.1 b16
      exact p_retV (by decide) (by decide) rfl dX8_parseItemStatement_63 h
    · have h := h.2 b16
      refine p_aload_n dX8_parseItemStatement_54 rfl (q := 3) rfl ?_
      refine p_iload_n dX8_parseItemStatement_55 rfl (q := 2) rfl ?_
      refine p_iload_n dX8_parseItemStatement_56 rfl (q := 1) rfl ?_
      refine p_iload_n dX8_parseItemStatement_57 rfl (q := 0) rfl ?_
      refine p_VI G k_RX8_45 (by decide) (hS 0 (by decide)).1 rfl rfl (Nat.le_of_ble_eq_true rfl) ⟨by decide, by decide⟩ ⟨by decide, by decide⟩ dX8_parseItemStatement_58 h (fun r16 im17 c18 h => ?_)
      refine p_istore (lv' := [(4, .int (zi r16)), (3, .int (zi r12)), (2, .int (zi r9)), (1, .int (zi r6)), (0, .ref a)]) dX8_parseItemStatement_61 (by decide) rfl ?_
      exact p_retV (by decide) (by decide) rfl dX8_parseItemStatement_63 h
set_option maxRecDepth 20000 in
set_option maxHeartbeats 4000000 in
theorem v_X8_parseBaseStatement {g : zG} (G : zOK g) {S : zSh} {im : zIm} {a : Nat} {Q : zIm → Prop} (hS : zS_M S a)
    (h : ((8 ≤ (im (a + 1) 3) → zCV g yX8_require M_X8_require [.ref a, .int (zi 0), .int (zi 3)] S im (fun im2 => zCV g yX8_advanceToken M_X8_advanceToken [.ref a] S im2 (fun im4 => zCI g yX8_parseNumber M_X8_parseNumber [.ref a, .int (zi 1), .int (zi 20)] S im4 (fun r6 im7 => ((¬ (im7 a 13) = 0 → Q im7) ∧ ((im7 a 13) = 0 → zCI g yX8_appendBase M_X8_appendBase [.ref a, .int (zi r6)] S im7 (fun r10 im11 => Q im11))))))) ∧ ((im (a + 1) 3) < 8 → zCV g yX8_require M_X8_require [.ref a, .int (zi 1), .int (zi 3)] S im (fun im2 => zCV g yX8_advanceToken M_X8_advanceToken [.ref a] S im2 (fun im4 => zCI g yX8_parseNumber M_X8_parseNumber [.ref a, .int (zi 1), .int (zi 20)] S im4 (fun r6 im7 => ((¬ (im7 a 13) = 0 → Q im7) ∧ ((im7 a 13) = 0 → zCI g yX8_appendBase M_X8_appendBase [.ref a, .int (zi r6)] S im7 (fun r10 im11 => Q im11))))))))) :
    zCV g yX8_parseBaseStatement M_X8_parseBaseStatement [.ref a] S im Q := by
  refine zC_of (by decide) rfl rfl rfl rfl (Nat.le_of_ble_eq_true rfl) ?_
  refine p_aload_n dX8_parseBaseStatement_0 rfl (q := 0) rfl ?_
  refine p_aload_n dX8_parseBaseStatement_1 rfl (q := 0) rfl ?_
  refine p_getR (b := (a + 1)) G f_RX8_7 rfl (hS 0 (by decide)).1 ((hS 0 (by decide)).2.2 0 (by decide)) dX8_parseBaseStatement_2 ?_
  refine p_iconst dX8_parseBaseStatement_5 ?_
  refine p_iald G (hS 1 (by decide)).1 (nf_k (by decide)) (by decide) (zln_lt (hS 1 (by decide)).2.1 (by decide)) dX8_parseBaseStatement_6 (fun c1 => ?_)
  refine p_bipush dX8_parseBaseStatement_7 (by decide) ?_
  refine p_icmp_ge (tgt := 16) dX8_parseBaseStatement_9 (by decide) (nf_r c1) (nf_k (by decide)) (fun b2 => ?_) (fun b2 => ?_)
  · have h := h.1 b2
    refine p_iconst dX8_parseBaseStatement_16 ?_
    refine p_iconst dX8_parseBaseStatement_17 ?_
    refine p_VV G k_RX8_277 (by decide) (hS 0 (by decide)).1 rfl rfl (Nat.le_of_ble_eq_true rfl) ⟨by decide, by decide⟩ ⟨by decide, by decide⟩ dX8_parseBaseStatement_18 h (fun im2 h => ?_)
    refine p_aload_n dX8_parseBaseStatement_21 rfl (q := 0) rfl ?_
    refine p_VV G k_RX8_281 (by decide) (hS 0 (by decide)).1 rfl rfl (Nat.le_of_ble_eq_true rfl) ⟨by decide, by decide⟩ ⟨by decide, by decide⟩ dX8_parseBaseStatement_22 h (fun im4 h => ?_)
    refine p_aload_n dX8_parseBaseStatement_25 rfl (q := 0) rfl ?_
    refine p_iconst dX8_parseBaseStatement_26 ?_
    refine p_bipush dX8_parseBaseStatement_27 (by decide) ?_
    refine p_VI G k_RX8_284 (by decide) (hS 0 (by decide)).1 rfl rfl (Nat.le_of_ble_eq_true rfl) ⟨by decide, by decide⟩ ⟨by decide, by decide⟩ dX8_parseBaseStatement_29 h (fun r6 im7 c8 h => ?_)
    refine p_istore_n (lv' := [(1, .int (zi r6)), (0, .ref a)]) dX8_parseBaseStatement_32 rfl (by decide) rfl ?_
    refine p_aload_n dX8_parseBaseStatement_33 rfl (q := 1) rfl ?_
    refine p_getI (j := 13) G f_RX8_271 rfl (hS 0 (by decide)).1 dX8_parseBaseStatement_34 (fun c9 => ?_)
    refine p_if_ne (tgt := 46) dX8_parseBaseStatement_37 (by decide) (nf_r c9) (fun b10 => ?_) (fun b10 => ?_)
    · have h := h.1 b10
      exact p_retV (by decide) (by decide) rfl dX8_parseBaseStatement_46 h
    · have h := h.2 b10
      refine p_aload_n dX8_parseBaseStatement_40 rfl (q := 1) rfl ?_
      refine p_iload_n dX8_parseBaseStatement_41 rfl (q := 0) rfl ?_
      refine p_VI G k_RX8_48 (by decide) (hS 0 (by decide)).1 rfl rfl (Nat.le_of_ble_eq_true rfl) ⟨by decide, by decide⟩ ⟨by decide, by decide⟩ dX8_parseBaseStatement_42 h (fun r10 im11 c12 h => ?_)
      refine p_istore_n (lv' := [(2, .int (zi r10)), (1, .int (zi r6)), (0, .ref a)]) dX8_parseBaseStatement_45 rfl (by decide) rfl ?_
      exact p_retV (by decide) (by decide) rfl dX8_parseBaseStatement_46 h
  · have h := h.2 b2
    refine p_iconst dX8_parseBaseStatement_12 ?_
    refine p_goto (tgt := 17) dX8_parseBaseStatement_13 (by decide) ?_
    refine p_iconst dX8_parseBaseStatement_17 ?_
    refine p_VV G k_RX8_277 (by decide) (hS 0 (by decide)).1 rfl rfl (Nat.le_of_ble_eq_true rfl) ⟨by decide, by decide⟩ ⟨by decide, by decide⟩ dX8_parseBaseStatement_18 h (fun im2 h => ?_)
    refine p_aload_n dX8_parseBaseStatement_21 rfl (q := 0) rfl ?_
    refine p_VV G k_RX8_281 (by decide) (hS 0 (by decide)).1 rfl rfl (Nat.le_of_ble_eq_true rfl) ⟨by decide, by decide⟩ ⟨by decide, by decide⟩ dX8_parseBaseStatement_22 h (fun im4 h => ?_)
    refine p_aload_n dX8_parseBaseStatement_25 rfl (q := 0) rfl ?_
    refine p_iconst dX8_parseBaseStatement_26 ?_
    refine p_bipush dX8_parseBaseStatement_27 (by decide) ?_
    refine p_VI G k_RX8_284 (by decide) (hS 0 (by decide)).1 rfl rfl (Nat.le_of_ble_eq_true rfl) ⟨by decide, by decide⟩ ⟨by decide, by decide⟩ dX8_parseBaseStatement_29 h (fun r6 im7 c8 h => ?_)
    refine p_istore_n (lv' := [(1, .int (zi r6)), (0, .ref a)]) dX8_parseBaseStatement_32 rfl (by decide) rfl ?_
    refine p_aload_n dX8_parseBaseStatement_33 rfl (q := 1) rfl ?_
    refine p_getI (j := 13) G f_RX8_271 rfl (hS 0 (by decide)).1 dX8_parseBaseStatement_34 (fun c9 => ?_)
    refine p_if_ne (tgt := 46) dX8_parseBaseStatement_37 (by decide) (nf_r c9) (fun b10 => ?_) (fun b10 => ?_)
    · have h := h.1 b10
      exact p_retV (by decide) (by decide) rfl dX8_parseBaseStatement_46 h
    · have h := h.2 b10
      refine p_aload_n dX8_parseBaseStatement_40 rfl (q := 1) rfl ?_
      refine p_iload_n dX8_parseBaseStatement_41 rfl (q := 0) rfl ?_
      refine p_VI G k_RX8_48 (by decide) (hS 0 (by decide)).1 rfl rfl (Nat.le_of_ble_eq_true rfl) ⟨by decide, by decide⟩ ⟨by decide, by decide⟩ dX8_parseBaseStatement_42 h (fun r10 im11 c12 h => ?_)
      refine p_istore_n (lv' := [(2, .int (zi r10)), (1, .int (zi r6)), (0, .ref a)]) dX8_parseBaseStatement_45 rfl (by decide) rfl ?_
      exact p_retV (by decide) (by decide) rfl dX8_parseBaseStatement_46 h
set_option maxRecDepth 20000 in
set_option maxHeartbeats 4000000 in
theorem v_X8_parseItem {g : zG} (G : zOK g) {S : zSh} {im : zIm} {a : Nat} {Q : Int → zIm → Prop} (hS : zS_M S a)
    (h : zCI g yX8_parseNumber M_X8_parseNumber [.ref a, .int (zi 0), .int (zi (zw ((im (a + 1) 2) - 1)))] S im (fun r2 im3 => Q r2 im3)) :
    zCI g yX8_parseItem M_X8_parseItem [.ref a] S im Q := by
  refine zC_of (by decide) rfl rfl rfl rfl (Nat.le_of_ble_eq_true rfl) ?_
  refine p_aload_n dX8_parseItem_0 rfl (q := 0) rfl ?_
  refine p_iconst dX8_parseItem_1 ?_
  refine p_aload_n dX8_parseItem_2 rfl (q := 0) rfl ?_
  refine p_getR (b := (a + 1)) G f_RX8_7 rfl (hS 0 (by decide)).1 ((hS 0 (by decide)).2.2 0 (by decide)) dX8_parseItem_3 ?_
  refine p_iconst dX8_parseItem_6 ?_
  refine p_iald G (hS 1 (by decide)).1 (nf_k (by decide)) (by decide) (zln_lt (hS 1 (by decide)).2.1 (by decide)) dX8_parseItem_7 (fun c1 => ?_)
  refine p_iconst dX8_parseItem_8 ?_
  refine p_isub dX8_parseItem_9 ?_
  refine p_VI G k_RX8_284 (by decide) (hS 0 (by decide)).1 rfl (by simp only [zi_zw]; rfl) (Nat.le_of_ble_eq_true rfl) ⟨by decide, by decide⟩ ⟨by decide, by decide⟩ dX8_parseItem_10 h (fun r2 im3 c4 h => ?_)
  exact p_iretI (by decide) (by decide) rfl (nf_r c4) dX8_parseItem_13 h
set_option maxRecDepth 20000 in
set_option maxHeartbeats 4000000 in
theorem v_X8_parseLevelStatement {g : zG} (G : zOK g) {S : zSh} {im : zIm} {a : Nat} {Q : zIm → Prop} (hS : zS_M S a)
    (h : zCV g yX8_advanceToken M_X8_advanceToken [.ref a] S im (fun im1 => zCI g yX8_parseNumber M_X8_parseNumber [.ref a, .int (zi 0), .int (zi (zw ((im1 (a + 1) 3) - 1)))] S im1 (fun r4 im5 => zCI g yX8_parseItem M_X8_parseItem [.ref a] S im5 (fun r7 im8 => zCI g yX8_parseNumber M_X8_parseNumber [.ref a, .int (zi 0), .int (zi 20)] S im8 (fun r10 im11 => ((¬ (im11 a 13) = 0 → Q im11) ∧ ((im11 a 13) = 0 → zCV g yX8_putLevel M_X8_putLevel [.ref a, .int (zi r4), .int (zi r7), .int (zi r10)] S im11 (fun im14 => Q im14)))))))) :
    zCV g yX8_parseLevelStatement M_X8_parseLevelStatement [.ref a] S im Q := by
  refine zC_of (by decide) rfl rfl rfl rfl (Nat.le_of_ble_eq_true rfl) ?_
  refine p_aload_n dX8_parseLevelStatement_0 rfl (q := 0) rfl ?_
  refine p_VV G k_RX8_281 (by decide) (hS 0 (by decide)).1 rfl rfl (Nat.le_of_ble_eq_true rfl) ⟨by decide, by decide⟩ ⟨by decide, by decide⟩ dX8_parseLevelStatement_1 h (fun im1 h => ?_)
  refine p_aload_n dX8_parseLevelStatement_4 rfl (q := 0) rfl ?_
  refine p_iconst dX8_parseLevelStatement_5 ?_
  refine p_aload_n dX8_parseLevelStatement_6 rfl (q := 0) rfl ?_
  refine p_getR (b := (a + 1)) G f_RX8_7 rfl (hS 0 (by decide)).1 ((hS 0 (by decide)).2.2 0 (by decide)) dX8_parseLevelStatement_7 ?_
  refine p_iconst dX8_parseLevelStatement_10 ?_
  refine p_iald G (hS 1 (by decide)).1 (nf_k (by decide)) (by decide) (zln_lt (hS 1 (by decide)).2.1 (by decide)) dX8_parseLevelStatement_11 (fun c3 => ?_)
  refine p_iconst dX8_parseLevelStatement_12 ?_
  refine p_isub dX8_parseLevelStatement_13 ?_
  refine p_VI G k_RX8_284 (by decide) (hS 0 (by decide)).1 rfl (by simp only [zi_zw]; rfl) (Nat.le_of_ble_eq_true rfl) ⟨by decide, by decide⟩ ⟨by decide, by decide⟩ dX8_parseLevelStatement_14 h (fun r4 im5 c6 h => ?_)
  refine p_istore_n (lv' := [(1, .int (zi r4)), (0, .ref a)]) dX8_parseLevelStatement_17 rfl (by decide) rfl ?_
  refine p_aload_n dX8_parseLevelStatement_18 rfl (q := 1) rfl ?_
  refine p_VI G k_RX8_287 (by decide) (hS 0 (by decide)).1 rfl rfl (Nat.le_of_ble_eq_true rfl) ⟨by decide, by decide⟩ ⟨by decide, by decide⟩ dX8_parseLevelStatement_19 h (fun r7 im8 c9 h => ?_)
  refine p_istore_n (lv' := [(2, .int (zi r7)), (1, .int (zi r4)), (0, .ref a)]) dX8_parseLevelStatement_22 rfl (by decide) rfl ?_
  refine p_aload_n dX8_parseLevelStatement_23 rfl (q := 2) rfl ?_
  refine p_iconst dX8_parseLevelStatement_24 ?_
  refine p_bipush dX8_parseLevelStatement_25 (by decide) ?_
  refine p_VI G k_RX8_284 (by decide) (hS 0 (by decide)).1 rfl rfl (Nat.le_of_ble_eq_true rfl) ⟨by decide, by decide⟩ ⟨by decide, by decide⟩ dX8_parseLevelStatement_27 h (fun r10 im11 c12 h => ?_)
  refine p_istore_n (lv' := [(3, .int (zi r10)), (2, .int (zi r7)), (1, .int (zi r4)), (0, .ref a)]) dX8_parseLevelStatement_30 rfl (by decide) rfl ?_
  refine p_aload_n dX8_parseLevelStatement_31 rfl (q := 3) rfl ?_
  refine p_getI (j := 13) G f_RX8_271 rfl (hS 0 (by decide)).1 dX8_parseLevelStatement_32 (fun c13 => ?_)
  refine p_if_ne (tgt := 45) dX8_parseLevelStatement_35 (by decide) (nf_r c13) (fun b14 => ?_) (fun b14 => ?_)
  · have h := h.1 b14
    exact p_retV (by decide) (by decide) rfl dX8_parseLevelStatement_45 h
  · have h := h.2 b14
    refine p_aload_n dX8_parseLevelStatement_38 rfl (q := 3) rfl ?_
    refine p_iload_n dX8_parseLevelStatement_39 rfl (q := 2) rfl ?_
    refine p_iload_n dX8_parseLevelStatement_40 rfl (q := 1) rfl ?_
    refine p_iload_n dX8_parseLevelStatement_41 rfl (q := 0) rfl ?_
    refine p_VV G k_RX8_84 (by decide) (hS 0 (by decide)).1 rfl rfl (Nat.le_of_ble_eq_true rfl) ⟨by decide, by decide⟩ ⟨by decide, by decide⟩ dX8_parseLevelStatement_42 h (fun im14 h => ?_)
    exact p_retV (by decide) (by decide) rfl dX8_parseLevelStatement_45 h
set_option maxRecDepth 20000 in
set_option maxHeartbeats 4000000 in
theorem v_X8_parseBase {g : zG} (G : zOK g) {S : zSh} {im : zIm} {a : Nat} {Q : Int → zIm → Prop} (hS : zS_M S a)
    (h : zCI g yX8_parseNumber M_X8_parseNumber [.ref a, .int (zi 1), .int (zi (zw ((im (a + 1) 3) - 1)))] S im (fun r2 im3 => Q r2 im3)) :
    zCI g yX8_parseBase M_X8_parseBase [.ref a] S im Q := by
  refine zC_of (by decide) rfl rfl rfl rfl (Nat.le_of_ble_eq_true rfl) ?_
  refine p_aload_n dX8_parseBase_0 rfl (q := 0) rfl ?_
  refine p_iconst dX8_parseBase_1 ?_
  refine p_aload_n dX8_parseBase_2 rfl (q := 0) rfl ?_
  refine p_getR (b := (a + 1)) G f_RX8_7 rfl (hS 0 (by decide)).1 ((hS 0 (by decide)).2.2 0 (by decide)) dX8_parseBase_3 ?_
  refine p_iconst dX8_parseBase_6 ?_
  refine p_iald G (hS 1 (by decide)).1 (nf_k (by decide)) (by decide) (zln_lt (hS 1 (by decide)).2.1 (by decide)) dX8_parseBase_7 (fun c1 => ?_)
  refine p_iconst dX8_parseBase_8 ?_
  refine p_isub dX8_parseBase_9 ?_
  refine p_VI G k_RX8_284 (by decide) (hS 0 (by decide)).1 rfl (by simp only [zi_zw]; rfl) (Nat.le_of_ble_eq_true rfl) ⟨by decide, by decide⟩ ⟨by decide, by decide⟩ dX8_parseBase_10 h (fun r2 im3 c4 h => ?_)
  exact p_iretI (by decide) (by decide) rfl (nf_r c4) dX8_parseBase_13 h
set_option maxRecDepth 20000 in
set_option maxHeartbeats 4000000 in
theorem v_X8_parseLinkStatement {g : zG} (G : zOK g) {S : zSh} {im : zIm} {a : Nat} {Q : zIm → Prop} (hS : zS_M S a)
    (h : zCV g yX8_advanceToken M_X8_advanceToken [.ref a] S im (fun im1 => zCI g yX8_parseBase M_X8_parseBase [.ref a] S im1 (fun r3 im4 => ((¬ (im4 a 10) = 3 → zCV g yX8_require M_X8_require [.ref a, .int (zi 1), .int (zi 2)] S im4 (fun im7 => zCI g yX8_parseBase M_X8_parseBase [.ref a] S im7 (fun r9 im10 => zCI g yX8_parseNumber M_X8_parseNumber [.ref a, .int (zi 1), .int (zi 20)] S im10 (fun r12 im13 => ((¬ (im13 a 13) = 0 → Q im13) ∧ ((im13 a 13) = 0 → zCI g yX8_putLink M_X8_putLink [.ref a, .int (zi r3), .int (zi r9), .int (zi r12)] S im13 (fun r16 im17 => Q im17))))))) ∧ ((im4 a 10) = 3 → (((im4 a 12) = r3 → zCV g yX8_require M_X8_require [.ref a, .int (zi 0), .int (zi 2)] S im4 (fun im8 => zCI g yX8_parseBase M_X8_parseBase [.ref a] S im8 (fun r10 im11 => zCI g yX8_parseNumber M_X8_parseNumber [.ref a, .int (zi 1), .int (zi 20)] S im11 (fun r13 im14 => ((¬ (im14 a 13) = 0 → Q im14) ∧ ((im14 a 13) = 0 → zCI g yX8_putLink M_X8_putLink [.ref a, .int (zi r3), .int (zi r10), .int (zi r13)] S im14 (fun r17 im18 => Q im18))))))) ∧ (¬ (im4 a 12) = r3 → zCV g yX8_require M_X8_require [.ref a, .int (zi 1), .int (zi 2)] S im4 (fun im8 => zCI g yX8_parseBase M_X8_parseBase [.ref a] S im8 (fun r10 im11 => zCI g yX8_parseNumber M_X8_parseNumber [.ref a, .int (zi 1), .int (zi 20)] S im11 (fun r13 im14 => ((¬ (im14 a 13) = 0 → Q im14) ∧ ((im14 a 13) = 0 → zCI g yX8_putLink M_X8_putLink [.ref a, .int (zi r3), .int (zi r10), .int (zi r13)] S im14 (fun r17 im18 => Q im18))))))))))))) :
    zCV g yX8_parseLinkStatement M_X8_parseLinkStatement [.ref a] S im Q := by
  refine zC_of (by decide) rfl rfl rfl rfl (Nat.le_of_ble_eq_true rfl) ?_
  refine p_aload_n dX8_parseLinkStatement_0 rfl (q := 0) rfl ?_
  refine p_VV G k_RX8_281 (by decide) (hS 0 (by decide)).1 rfl rfl (Nat.le_of_ble_eq_true rfl) ⟨by decide, by decide⟩ ⟨by decide, by decide⟩ dX8_parseLinkStatement_1 h (fun im1 h => ?_)
  refine p_aload_n dX8_parseLinkStatement_4 rfl (q := 0) rfl ?_
  refine p_VI G k_RX8_290 (by decide) (hS 0 (by decide)).1 rfl rfl (Nat.le_of_ble_eq_true rfl) ⟨by decide, by decide⟩ ⟨by decide, by decide⟩ dX8_parseLinkStatement_5 h (fun r3 im4 c5 h => ?_)
  refine p_istore_n (lv' := [(1, .int (zi r3)), (0, .ref a)]) dX8_parseLinkStatement_8 rfl (by decide) rfl ?_
  refine p_aload_n dX8_parseLinkStatement_9 rfl (q := 1) rfl ?_
  refine p_aload_n dX8_parseLinkStatement_10 rfl (q := 1) rfl ?_
  refine p_getI (j := 10) G f_RX8_249 rfl (hS 0 (by decide)).1 dX8_parseLinkStatement_11 (fun c6 => ?_)
  refine p_iconst dX8_parseLinkStatement_14 ?_
  refine p_icmp_ne (tgt := 26) dX8_parseLinkStatement_15 (by decide) (nf_r c6) (nf_k (by decide)) (fun b7 => ?_) (fun b7 => ?_)
  · have h := h.1 b7
    refine p_iconst dX8_parseLinkStatement_26 ?_
    refine p_goto (tgt := 31) dX8_parseLinkStatement_27 (by decide) ?_
    refine p_iconst dX8_parseLinkStatement_31 ?_
    refine p_VV G k_RX8_277 (by decide) (hS 0 (by decide)).1 rfl rfl (Nat.le_of_ble_eq_true rfl) ⟨by decide, by decide⟩ ⟨by decide, by decide⟩ dX8_parseLinkStatement_32 h (fun im7 h => ?_)
    refine p_aload_n dX8_parseLinkStatement_35 rfl (q := 1) rfl ?_
    refine p_VI G k_RX8_290 (by decide) (hS 0 (by decide)).1 rfl rfl (Nat.le_of_ble_eq_true rfl) ⟨by decide, by decide⟩ ⟨by decide, by decide⟩ dX8_parseLinkStatement_36 h (fun r9 im10 c11 h => ?_)
    refine p_istore_n (lv' := [(2, .int (zi r9)), (1, .int (zi r3)), (0, .ref a)]) dX8_parseLinkStatement_39 rfl (by decide) rfl ?_
    refine p_aload_n dX8_parseLinkStatement_40 rfl (q := 2) rfl ?_
    refine p_iconst dX8_parseLinkStatement_41 ?_
    refine p_bipush dX8_parseLinkStatement_42 (by decide) ?_
    refine p_VI G k_RX8_284 (by decide) (hS 0 (by decide)).1 rfl rfl (Nat.le_of_ble_eq_true rfl) ⟨by decide, by decide⟩ ⟨by decide, by decide⟩ dX8_parseLinkStatement_44 h (fun r12 im13 c14 h => ?_)
    refine p_istore_n (lv' := [(3, .int (zi r12)), (2, .int (zi r9)), (1, .int (zi r3)), (0, .ref a)]) dX8_parseLinkStatement_47 rfl (by decide) rfl ?_
    refine p_aload_n dX8_parseLinkStatement_48 rfl (q := 3) rfl ?_
    refine p_getI (j := 13) G f_RX8_271 rfl (hS 0 (by decide)).1 dX8_parseLinkStatement_49 (fun c15 => ?_)
    refine p_if_ne (tgt := 64) dX8_parseLinkStatement_52 (by decide) (nf_r c15) (fun b16 => ?_) (fun b16 => ?_)
    · have h := h.1 b16
      exact p_retV (by decide) (by decide) rfl dX8_parseLinkStatement_64 h
    · have h := h.2 b16
      refine p_aload_n dX8_parseLinkStatement_55 rfl (q := 3) rfl ?_
      refine p_iload_n dX8_parseLinkStatement_56 rfl (q := 2) rfl ?_
      refine p_iload_n dX8_parseLinkStatement_57 rfl (q := 1) rfl ?_
      refine p_iload_n dX8_parseLinkStatement_58 rfl (q := 0) rfl ?_
      refine p_VI G k_RX8_59 (by decide) (hS 0 (by decide)).1 rfl rfl (Nat.le_of_ble_eq_true rfl) ⟨by decide, by decide⟩ ⟨by decide, by decide⟩ dX8_parseLinkStatement_59 h (fun r16 im17 c18 h => ?_)
      refine p_istore (lv' := [(4, .int (zi r16)), (3, .int (zi r12)), (2, .int (zi r9)), (1, .int (zi r3)), (0, .ref a)]) dX8_parseLinkStatement_62 (by decide) rfl ?_
      exact p_retV (by decide) (by decide) rfl dX8_parseLinkStatement_64 h
  · have h := h.2 b7
    refine p_aload_n dX8_parseLinkStatement_18 rfl (q := 1) rfl ?_
    refine p_getI (j := 12) G f_RX8_246 rfl (hS 0 (by decide)).1 dX8_parseLinkStatement_19 (fun c7 => ?_)
    refine p_iload_n dX8_parseLinkStatement_22 rfl (q := 0) rfl ?_
    refine p_icmp_eq (tgt := 30) dX8_parseLinkStatement_23 (by decide) (nf_r c7) (nf_r c5) (fun b8 => ?_) (fun b8 => ?_)
    · have h := h.1 b8
      refine p_iconst dX8_parseLinkStatement_30 ?_
      refine p_iconst dX8_parseLinkStatement_31 ?_
      refine p_VV G k_RX8_277 (by decide) (hS 0 (by decide)).1 rfl rfl (Nat.le_of_ble_eq_true rfl) ⟨by decide, by decide⟩ ⟨by decide, by decide⟩ dX8_parseLinkStatement_32 h (fun im8 h => ?_)
      refine p_aload_n dX8_parseLinkStatement_35 rfl (q := 1) rfl ?_
      refine p_VI G k_RX8_290 (by decide) (hS 0 (by decide)).1 rfl rfl (Nat.le_of_ble_eq_true rfl) ⟨by decide, by decide⟩ ⟨by decide, by decide⟩ dX8_parseLinkStatement_36 h (fun r10 im11 c12 h => ?_)
      refine p_istore_n (lv' := [(2, .int (zi r10)), (1, .int (zi r3)), (0, .ref a)]) dX8_parseLinkStatement_39 rfl (by decide) rfl ?_
      refine p_aload_n dX8_parseLinkStatement_40 rfl (q := 2) rfl ?_
      refine p_iconst dX8_parseLinkStatement_41 ?_
      refine p_bipush dX8_parseLinkStatement_42 (by decide) ?_
      refine p_VI G k_RX8_284 (by decide) (hS 0 (by decide)).1 rfl rfl (Nat.le_of_ble_eq_true rfl) ⟨by decide, by decide⟩ ⟨by decide, by decide⟩ dX8_parseLinkStatement_44 h (fun r13 im14 c15 h => ?_)
      refine p_istore_n (lv' := [(3, .int (zi r13)), (2, .int (zi r10)), (1, .int (zi r3)), (0, .ref a)]) dX8_parseLinkStatement_47 rfl (by decide) rfl ?_
      refine p_aload_n dX8_parseLinkStatement_48 rfl (q := 3) rfl ?_
      refine p_getI (j := 13) G f_RX8_271 rfl (hS 0 (by decide)).1 dX8_parseLinkStatement_49 (fun c16 => ?_)
      refine p_if_ne (tgt := 64) dX8_parseLinkStatement_52 (by decide) (nf_r c16) (fun b17 => ?_) (fun b17 => ?_)
      · have h := h.1 b17
        exact p_retV (by decide) (by decide) rfl dX8_parseLinkStatement_64 h
      · have h := h.2 b17
        refine p_aload_n dX8_parseLinkStatement_55 rfl (q := 3) rfl ?_
        refine p_iload_n dX8_parseLinkStatement_56 rfl (q := 2) rfl ?_
        refine p_iload_n dX8_parseLinkStatement_57 rfl (q := 1) rfl ?_
        refine p_iload_n dX8_parseLinkStatement_58 rfl (q := 0) rfl ?_
        refine p_VI G k_RX8_59 (by decide) (hS 0 (by decide)).1 rfl rfl (Nat.le_of_ble_eq_true rfl) ⟨by decide, by decide⟩ ⟨by decide, by decide⟩ dX8_parseLinkStatement_59 h (fun r17 im18 c19 h => ?_)
        refine p_istore (lv' := [(4, .int (zi r17)), (3, .int (zi r13)), (2, .int (zi r10)), (1, .int (zi r3)), (0, .ref a)]) dX8_parseLinkStatement_62 (by decide) rfl ?_
        exact p_retV (by decide) (by decide) rfl dX8_parseLinkStatement_64 h
    · have h := h.2 b8
      refine p_iconst dX8_parseLinkStatement_26 ?_
      refine p_goto (tgt := 31) dX8_parseLinkStatement_27 (by decide) ?_
      refine p_iconst dX8_parseLinkStatement_31 ?_
      refine p_VV G k_RX8_277 (by decide) (hS 0 (by decide)).1 rfl rfl (Nat.le_of_ble_eq_true rfl) ⟨by decide, by decide⟩ ⟨by decide, by decide⟩ dX8_parseLinkStatement_32 h (fun im8 h => ?_)
      refine p_aload_n dX8_parseLinkStatement_35 rfl (q := 1) rfl ?_
      refine p_VI G k_RX8_290 (by decide) (hS 0 (by decide)).1 rfl rfl (Nat.le_of_ble_eq_true rfl) ⟨by decide, by decide⟩ ⟨by decide, by decide⟩ dX8_parseLinkStatement_36 h (fun r10 im11 c12 h => ?_)
      refine p_istore_n (lv' := [(2, .int (zi r10)), (1, .int (zi r3)), (0, .ref a)]) dX8_parseLinkStatement_39 rfl (by decide) rfl ?_
      refine p_aload_n dX8_parseLinkStatement_40 rfl (q := 2) rfl ?_
      refine p_iconst dX8_parseLinkStatement_41 ?_
      refine p_bipush dX8_parseLinkStatement_42 (by decide) ?_
      refine p_VI G k_RX8_284 (by decide) (hS 0 (by decide)).1 rfl rfl (Nat.le_of_ble_eq_true rfl) ⟨by decide, by decide⟩ ⟨by decide, by decide⟩ dX8_parseLinkStatement_44 h (fun r13 im14 c15 h => ?_)
      refine p_istore_n (lv' := [(3, .int (zi r13)), (2, .int (zi r10)), (1, .int (zi r3)), (0, .ref a)]) dX8_parseLinkStatement_47 rfl (by decide) rfl ?_
      refine p_aload_n dX8_parseLinkStatement_48 rfl (q := 3) rfl ?_
      refine p_getI (j := 13) G f_RX8_271 rfl (hS 0 (by decide)).1 dX8_parseLinkStatement_49 (fun c16 => ?_)
      refine p_if_ne (tgt := 64) dX8_parseLinkStatement_52 (by decide) (nf_r c16) (fun b17 => ?_) (fun b17 => ?_)
      · have h := h.1 b17
        exact p_retV (by decide) (by decide) rfl dX8_parseLinkStatement_64 h
      · have h := h.2 b17
        refine p_aload_n dX8_parseLinkStatement_55 rfl (q := 3) rfl ?_
        refine p_iload_n dX8_parseLinkStatement_56 rfl (q := 2) rfl ?_
        refine p_iload_n dX8_parseLinkStatement_57 rfl (q := 1) rfl ?_
        refine p_iload_n dX8_parseLinkStatement_58 rfl (q := 0) rfl ?_
        refine p_VI G k_RX8_59 (by decide) (hS 0 (by decide)).1 rfl rfl (Nat.le_of_ble_eq_true rfl) ⟨by decide, by decide⟩ ⟨by decide, by decide⟩ dX8_parseLinkStatement_59 h (fun r17 im18 c19 h => ?_)
        refine p_istore (lv' := [(4, .int (zi r17)), (3, .int (zi r13)), (2, .int (zi r10)), (1, .int (zi r3)), (0, .ref a)]) dX8_parseLinkStatement_62 (by decide) rfl ?_
        exact p_retV (by decide) (by decide) rfl dX8_parseLinkStatement_64 h
set_option maxRecDepth 20000 in
set_option maxHeartbeats 4000000 in
theorem v_X8_parseNumberStatement {g : zG} (G : zOK g) {S : zSh} {im : zIm} {a : Nat} {p1 : Int} {p2 : Int} {Q : zIm → Prop} (hS : zS_M S a) (c_p1 : zc p1) (c_p2 : zc p2)
    (h : zCV g yX8_advanceToken M_X8_advanceToken [.ref a] S im (fun im1 => zCI g yX8_parseBase M_X8_parseBase [.ref a] S im1 (fun r3 im4 => zCI g yX8_parseItem M_X8_parseItem [.ref a] S im4 (fun r6 im7 => zCI g yX8_parseNumber M_X8_parseNumber [.ref a, .int (zi 0), .int (zi p2)] S im7 (fun r9 im10 => ((¬ (im10 a 13) = 0 → Q im10) ∧ ((im10 a 13) = 0 → zCI g yX8_at M_X8_at [.int (zi p1), .int (zi r3), .int (zi r6)] S im10 (fun r13 im14 => ((0 ≤ r13 ∧ r13 < 7692) ∧ ∀ im16, im16 = zst im14 (a + 1) r13 r9 → Q im16))))))))) :
    zCV g yX8_parseNumberStatement M_X8_parseNumberStatement [.ref a, .int (zi p1), .int (zi p2)] S im Q := by
  refine zC_of (by decide) rfl rfl rfl rfl (Nat.le_of_ble_eq_true rfl) ?_
  refine p_aload_n dX8_parseNumberStatement_0 rfl (q := 0) rfl ?_
  refine p_VV G k_RX8_281 (by decide) (hS 0 (by decide)).1 rfl rfl (Nat.le_of_ble_eq_true rfl) ⟨by decide, by decide⟩ ⟨by decide, by decide⟩ dX8_parseNumberStatement_1 h (fun im1 h => ?_)
  refine p_aload_n dX8_parseNumberStatement_4 rfl (q := 0) rfl ?_
  refine p_VI G k_RX8_290 (by decide) (hS 0 (by decide)).1 rfl rfl (Nat.le_of_ble_eq_true rfl) ⟨by decide, by decide⟩ ⟨by decide, by decide⟩ dX8_parseNumberStatement_5 h (fun r3 im4 c5 h => ?_)
  refine p_istore_n (lv' := [(3, .int (zi r3)), (0, .ref a), (1, .int (zi p1)), (2, .int (zi p2))]) dX8_parseNumberStatement_8 rfl (by decide) rfl ?_
  refine p_aload_n dX8_parseNumberStatement_9 rfl (q := 1) rfl ?_
  refine p_VI G k_RX8_287 (by decide) (hS 0 (by decide)).1 rfl rfl (Nat.le_of_ble_eq_true rfl) ⟨by decide, by decide⟩ ⟨by decide, by decide⟩ dX8_parseNumberStatement_10 h (fun r6 im7 c8 h => ?_)
  refine p_istore (lv' := [(4, .int (zi r6)), (3, .int (zi r3)), (0, .ref a), (1, .int (zi p1)), (2, .int (zi p2))]) dX8_parseNumberStatement_13 (by decide) rfl ?_
  refine p_aload_n dX8_parseNumberStatement_15 rfl (q := 2) rfl ?_
  refine p_iconst dX8_parseNumberStatement_16 ?_
  refine p_iload_n dX8_parseNumberStatement_17 rfl (q := 4) rfl ?_
  refine p_VI G k_RX8_284 (by decide) (hS 0 (by decide)).1 rfl rfl (Nat.le_of_ble_eq_true rfl) ⟨by decide, by decide⟩ ⟨by decide, by decide⟩ dX8_parseNumberStatement_18 h (fun r9 im10 c11 h => ?_)
  refine p_istore (lv' := [(5, .int (zi r9)), (4, .int (zi r6)), (3, .int (zi r3)), (0, .ref a), (1, .int (zi p1)), (2, .int (zi p2))]) dX8_parseNumberStatement_21 (by decide) rfl ?_
  refine p_aload_n dX8_parseNumberStatement_23 rfl (q := 3) rfl ?_
  refine p_getI (j := 13) G f_RX8_271 rfl (hS 0 (by decide)).1 dX8_parseNumberStatement_24 (fun c12 => ?_)
  refine p_if_ne (tgt := 44) dX8_parseNumberStatement_27 (by decide) (nf_r c12) (fun b13 => ?_) (fun b13 => ?_)
  · have h := h.1 b13
    exact p_retV (by decide) (by decide) rfl dX8_parseNumberStatement_44 h
  · have h := h.2 b13
    refine p_aload_n dX8_parseNumberStatement_30 rfl (q := 3) rfl ?_
    refine p_getR (b := (a + 1)) G f_RX8_7 rfl (hS 0 (by decide)).1 ((hS 0 (by decide)).2.2 0 (by decide)) dX8_parseNumberStatement_31 ?_
    refine p_iload_n dX8_parseNumberStatement_34 rfl (q := 4) rfl ?_
    refine p_iload_n dX8_parseNumberStatement_35 rfl (q := 2) rfl ?_
    refine p_iload dX8_parseNumberStatement_36 (q := 1) rfl ?_
    refine p_SI G k_RX8_62 rfl rfl (Nat.le_of_ble_eq_true rfl) ⟨by decide, by decide⟩ ⟨by decide, by decide⟩ dX8_parseNumberStatement_38 h (fun r13 im14 c15 h => ?_)
    refine p_iload dX8_parseNumberStatement_41 (q := 0) rfl ?_
    have g18 := h.1
    have h := h.2
    refine p_iast G (hS 1 (by decide)).1 (nf_r c15) g18.1 (zln_lt (hS 1 (by decide)).2.1 g18.2) (nf_r c11) dX8_parseNumberStatement_43 ?_
    refine p_gen (fun im16 e17 => ?_)
    have h := h im16 e17
    exact p_retV (by decide) (by decide) rfl dX8_parseNumberStatement_44 h
set_option maxRecDepth 20000 in
set_option maxHeartbeats 4000000 in
theorem v_X8_parseStatement {g : zG} (G : zOK g) {S : zSh} {im : zIm} {a : Nat} {Q : zIm → Prop} (hS : zS_M S a)
    (h : ∀ w1, zStrAt g w1 [105, 116, 101, 109] → zCI g yX8_isWord M_X8_isWord [.ref a, .ref w1] S im (fun r3 im4 => ((r3 = 0 → ∀ w6, zStrAt g w6 [98, 97, 115, 101] → zCI g yX8_isWord M_X8_isWord [.ref a, .ref w6] S im4 (fun r8 im9 => ((r8 = 0 → ∀ w11, zStrAt g w11 [108, 101, 118, 101, 108] → zCI g yX8_isWord M_X8_isWord [.ref a, .ref w11] S im9 (fun r13 im14 => ((r13 = 0 → ∀ w16, zStrAt g w16 [108, 105, 110, 107] → zCI g yX8_isWord M_X8_isWord [.ref a, .ref w16] S im14 (fun r18 im19 => ((r18 = 0 → ∀ w21, zStrAt g w21 [115, 104, 97, 114, 101] → zCI g yX8_isWord M_X8_isWord [.ref a, .ref w21] S im19 (fun r23 im24 => ((r23 = 0 → ∀ w26, zStrAt g w26 [114, 101, 115, 101, 114, 118, 101] → zCI g yX8_isWord M_X8_isWord [.ref a, .ref w26] S im24 (fun r28 im29 => ((r28 = 0 → ∀ w31, zStrAt g w31 [114, 97, 116, 101] → zCI g yX8_isWord M_X8_isWord [.ref a, .ref w31] S im29 (fun r33 im34 => ((r33 = 0 → ∀ w36, zStrAt g w36 [108, 105, 109, 105, 116] → zCI g yX8_isWord M_X8_isWord [.ref a, .ref w36] S im34 (fun r38 im39 => zCV g yX8_require M_X8_require [.ref a, .int (zi r38), .int (zi 1)] S im39 (fun im41 => zCV g yX8_advanceToken M_X8_advanceToken [.ref a] S im41 (fun im43 => zCI g yX8_parseNumber M_X8_parseNumber [.ref a, .int (zi 0), .int (zi 20)] S im43 (fun r45 im46 => ((¬ (im46 a 13) = 0 → ∀ im50, im50 = zst im46 (a + 1) 1 (im46 (a + 1) 1) → ((¬ (im50 a 10) = 4 → zCV g yX8_require M_X8_require [.ref a, .int (zi 0), .int (zi 1)] S im50 (fun im53 => zCV g yX8_advanceToken M_X8_advanceToken [.ref a] S im53 (fun im55 => Q im55))) ∧ ((im50 a 10) = 4 → zCV g yX8_require M_X8_require [.ref a, .int (zi 1), .int (zi 1)] S im50 (fun im53 => zCV g yX8_advanceToken M_X8_advanceToken [.ref a] S im53 (fun im55 => Q im55))))) ∧ ((im46 a 13) = 0 → ∀ im49, im49 = zst im46 (a + 1) 1 r45 → ((¬ (im49 a 10) = 4 → zCV g yX8_require M_X8_require [.ref a, .int (zi 0), .int (zi 1)] S im49 (fun im52 => zCV g yX8_advanceToken M_X8_advanceToken [.ref a] S im52 (fun im54 => Q im54))) ∧ ((im49 a 10) = 4 → zCV g yX8_require M_X8_require [.ref a, .int (zi 1), .int (zi 1)] S im49 (fun im52 => zCV g yX8_advanceToken M_X8_advanceToken [.ref a] S im52 (fun im54 => Q im54))))))))))) ∧ (¬ r33 = 0 → zCV g yX8_parseNumberStatement M_X8_parseNumberStatement [.ref a, .int (zi 220), .int (zi 100)] S im34 (fun im36 => ((¬ (im36 a 10) = 4 → zCV g yX8_require M_X8_require [.ref a, .int (zi 0), .int (zi 1)] S im36 (fun im39 => zCV g yX8_advanceToken M_X8_advanceToken [.ref a] S im39 (fun im41 => Q im41))) ∧ ((im36 a 10) = 4 → zCV g yX8_require M_X8_require [.ref a, .int (zi 1), .int (zi 1)] S im36 (fun im39 => zCV g yX8_advanceToken M_X8_advanceToken [.ref a] S im39 (fun im41 => Q im41))))))))) ∧ (¬ r28 = 0 → zCV g yX8_parseNumberStatement M_X8_parseNumberStatement [.ref a, .int (zi 156), .int (zi 20)] S im29 (fun im31 => ((¬ (im31 a 10) = 4 → zCV g yX8_require M_X8_require [.ref a, .int (zi 0), .int (zi 1)] S im31 (fun im34 => zCV g yX8_advanceToken M_X8_advanceToken [.ref a] S im34 (fun im36 => Q im36))) ∧ ((im31 a 10) = 4 → zCV g yX8_require M_X8_require [.ref a, .int (zi 1), .int (zi 1)] S im31 (fun im34 => zCV g yX8_advanceToken M_X8_advanceToken [.ref a] S im34 (fun im36 => Q im36))))))))) ∧ (¬ r23 = 0 → zCV g yX8_parseNumberStatement M_X8_parseNumberStatement [.ref a, .int (zi 188), .int (zi 10)] S im24 (fun im26 => ((¬ (im26 a 10) = 4 → zCV g yX8_require M_X8_require [.ref a, .int (zi 0), .int (zi 1)] S im26 (fun im29 => zCV g yX8_advanceToken M_X8_advanceToken [.ref a] S im29 (fun im31 => Q im31))) ∧ ((im26 a 10) = 4 → zCV g yX8_require M_X8_require [.ref a, .int (zi 1), .int (zi 1)] S im26 (fun im29 => zCV g yX8_advanceToken M_X8_advanceToken [.ref a] S im29 (fun im31 => Q im31))))))))) ∧ (¬ r18 = 0 → zCV g yX8_parseLinkStatement M_X8_parseLinkStatement [.ref a] S im19 (fun im21 => ((¬ (im21 a 10) = 4 → zCV g yX8_require M_X8_require [.ref a, .int (zi 0), .int (zi 1)] S im21 (fun im24 => zCV g yX8_advanceToken M_X8_advanceToken [.ref a] S im24 (fun im26 => Q im26))) ∧ ((im21 a 10) = 4 → zCV g yX8_require M_X8_require [.ref a, .int (zi 1), .int (zi 1)] S im21 (fun im24 => zCV g yX8_advanceToken M_X8_advanceToken [.ref a] S im24 (fun im26 => Q im26))))))))) ∧ (¬ r13 = 0 → zCV g yX8_parseLevelStatement M_X8_parseLevelStatement [.ref a] S im14 (fun im16 => ((¬ (im16 a 10) = 4 → zCV g yX8_require M_X8_require [.ref a, .int (zi 0), .int (zi 1)] S im16 (fun im19 => zCV g yX8_advanceToken M_X8_advanceToken [.ref a] S im19 (fun im21 => Q im21))) ∧ ((im16 a 10) = 4 → zCV g yX8_require M_X8_require [.ref a, .int (zi 1), .int (zi 1)] S im16 (fun im19 => zCV g yX8_advanceToken M_X8_advanceToken [.ref a] S im19 (fun im21 => Q im21))))))))) ∧ (¬ r8 = 0 → zCV g yX8_parseBaseStatement M_X8_parseBaseStatement [.ref a] S im9 (fun im11 => ((¬ (im11 a 10) = 4 → zCV g yX8_require M_X8_require [.ref a, .int (zi 0), .int (zi 1)] S im11 (fun im14 => zCV g yX8_advanceToken M_X8_advanceToken [.ref a] S im14 (fun im16 => Q im16))) ∧ ((im11 a 10) = 4 → zCV g yX8_require M_X8_require [.ref a, .int (zi 1), .int (zi 1)] S im11 (fun im14 => zCV g yX8_advanceToken M_X8_advanceToken [.ref a] S im14 (fun im16 => Q im16))))))))) ∧ (¬ r3 = 0 → zCV g yX8_parseItemStatement M_X8_parseItemStatement [.ref a] S im4 (fun im6 => ((¬ (im6 a 10) = 4 → zCV g yX8_require M_X8_require [.ref a, .int (zi 0), .int (zi 1)] S im6 (fun im9 => zCV g yX8_advanceToken M_X8_advanceToken [.ref a] S im9 (fun im11 => Q im11))) ∧ ((im6 a 10) = 4 → zCV g yX8_require M_X8_require [.ref a, .int (zi 1), .int (zi 1)] S im6 (fun im9 => zCV g yX8_advanceToken M_X8_advanceToken [.ref a] S im9 (fun im11 => Q im11))))))))) :
    zCV g yX8_parseStatement M_X8_parseStatement [.ref a] S im Q := by
  refine zC_of (by decide) rfl rfl rfl rfl (Nat.le_of_ble_eq_true rfl) ?_
  refine p_aload_n dX8_parseStatement_0 rfl (q := 0) rfl ?_
  refine p_ldcSW G (tx := "item") (bs := [105, 116, 101, 109]) (by decide +kernel) dX8_parseStatement_1 (fun w1 z2 => ?_)
  have h := h w1 z2
  refine p_VI G k_RX8_294 (by decide) (hS 0 (by decide)).1 rfl rfl (Nat.le_of_ble_eq_true rfl) ⟨by decide, by decide⟩ ⟨by decide, by decide⟩ dX8_parseStatement_4 h (fun r3 im4 c5 h => ?_)
  refine p_if_eq (tgt := 17) dX8_parseStatement_7 (by decide) (nf_r c5) (fun b6 => ?_) (fun b6 => ?_)
  · have h := h.1 b6
    refine p_aload_n dX8_parseStatement_17 rfl (q := 0) rfl ?_
    refine p_ldcSW G (tx := "base") (bs := [98, 97, 115, 101]) (by decide +kernel) dX8_parseStatement_18 (fun w6 z7 => ?_)
    have h := h w6 z7
    refine p_VI G k_RX8_294 (by decide) (hS 0 (by decide)).1 rfl rfl (Nat.le_of_ble_eq_true rfl) ⟨by decide, by decide⟩ ⟨by decide, by decide⟩ dX8_parseStatement_21 h (fun r8 im9 c10 h => ?_)
    refine p_if_eq (tgt := 34) dX8_parseStatement_24 (by decide) (nf_r c10) (fun b11 => ?_) (fun b11 => ?_)
    · have h := h.1 b11
      refine p_aload_n dX8_parseStatement_34 rfl (q := 0) rfl ?_
      refine p_ldcSW G (tx := "level") (bs := [108, 101, 118, 101, 108]) (by decide +kernel) dX8_parseStatement_35 (fun w11 z12 => ?_)
      have h := h w11 z12
      refine p_VI G k_RX8_294 (by decide) (hS 0 (by decide)).1 rfl rfl (Nat.le_of_ble_eq_true rfl) ⟨by decide, by decide⟩ ⟨by decide, by decide⟩ dX8_parseStatement_38 h (fun r13 im14 c15 h => ?_)
      refine p_if_eq (tgt := 51) dX8_parseStatement_41 (by decide) (nf_r c15) (fun b16 => ?_) (fun b16 => ?_)
      · have h := h.1 b16
        refine p_aload_n dX8_parseStatement_51 rfl (q := 0) rfl ?_
        refine p_ldcSW G (tx := "link") (bs := [108, 105, 110, 107]) (by decide +kernel) dX8_parseStatement_52 (fun w16 z17 => ?_)
        have h := h w16 z17
        refine p_VI G k_RX8_294 (by decide) (hS 0 (by decide)).1 rfl rfl (Nat.le_of_ble_eq_true rfl) ⟨by decide, by decide⟩ ⟨by decide, by decide⟩ dX8_parseStatement_55 h (fun r18 im19 c20 h => ?_)
        refine p_if_eq (tgt := 68) dX8_parseStatement_58 (by decide) (nf_r c20) (fun b21 => ?_) (fun b21 => ?_)
        · have h := h.1 b21
          refine p_aload_n dX8_parseStatement_68 rfl (q := 0) rfl ?_
          refine p_ldcSW G (tx := "share") (bs := [115, 104, 97, 114, 101]) (by decide +kernel) dX8_parseStatement_69 (fun w21 z22 => ?_)
          have h := h w21 z22
          refine p_VI G k_RX8_294 (by decide) (hS 0 (by decide)).1 rfl rfl (Nat.le_of_ble_eq_true rfl) ⟨by decide, by decide⟩ ⟨by decide, by decide⟩ dX8_parseStatement_72 h (fun r23 im24 c25 h => ?_)
          refine p_if_eq (tgt := 90) dX8_parseStatement_75 (by decide) (nf_r c25) (fun b26 => ?_) (fun b26 => ?_)
          · have h := h.1 b26
            refine p_aload_n dX8_parseStatement_90 rfl (q := 0) rfl ?_
            refine p_ldcSW G (tx := "reserve") (bs := [114, 101, 115, 101, 114, 118, 101]) (by decide +kernel) dX8_parseStatement_91 (fun w26 z27 => ?_)
            have h := h w26 z27
            refine p_VI G k_RX8_294 (by decide) (hS 0 (by decide)).1 rfl rfl (Nat.le_of_ble_eq_true rfl) ⟨by decide, by decide⟩ ⟨by decide, by decide⟩ dX8_parseStatement_94 h (fun r28 im29 c30 h => ?_)
            refine p_if_eq (tgt := 112) dX8_parseStatement_97 (by decide) (nf_r c30) (fun b31 => ?_) (fun b31 => ?_)
            · have h := h.1 b31
              refine p_aload_n dX8_parseStatement_112 rfl (q := 0) rfl ?_
              refine p_ldcSW G (tx := "rate") (bs := [114, 97, 116, 101]) (by decide +kernel) dX8_parseStatement_113 (fun w31 z32 => ?_)
              have h := h w31 z32
              refine p_VI G k_RX8_294 (by decide) (hS 0 (by decide)).1 rfl rfl (Nat.le_of_ble_eq_true rfl) ⟨by decide, by decide⟩ ⟨by decide, by decide⟩ dX8_parseStatement_116 h (fun r33 im34 c35 h => ?_)
              refine p_if_eq (tgt := 134) dX8_parseStatement_119 (by decide) (nf_r c35) (fun b36 => ?_) (fun b36 => ?_)
              · have h := h.1 b36
                refine p_aload_n dX8_parseStatement_134 rfl (q := 0) rfl ?_
                refine p_aload_n dX8_parseStatement_135 rfl (q := 0) rfl ?_
                refine p_ldcSW G (tx := "limit") (bs := [108, 105, 109, 105, 116]) (by decide +kernel) dX8_parseStatement_136 (fun w36 z37 => ?_)
                have h := h w36 z37
                refine p_VI G k_RX8_294 (by decide) (hS 0 (by decide)).1 rfl rfl (Nat.le_of_ble_eq_true rfl) ⟨by decide, by decide⟩ ⟨by decide, by decide⟩ dX8_parseStatement_139 h (fun r38 im39 c40 h => ?_)
                refine p_iconst dX8_parseStatement_142 ?_
                refine p_VV G k_RX8_277 (by decide) (hS 0 (by decide)).1 rfl rfl (Nat.le_of_ble_eq_true rfl) ⟨by decide, by decide⟩ ⟨by decide, by decide⟩ dX8_parseStatement_143 h (fun im41 h => ?_)
                refine p_aload_n dX8_parseStatement_146 rfl (q := 0) rfl ?_
                refine p_VV G k_RX8_281 (by decide) (hS 0 (by decide)).1 rfl rfl (Nat.le_of_ble_eq_true rfl) ⟨by decide, by decide⟩ ⟨by decide, by decide⟩ dX8_parseStatement_147 h (fun im43 h => ?_)
                refine p_aload_n dX8_parseStatement_150 rfl (q := 0) rfl ?_
                refine p_iconst dX8_parseStatement_151 ?_
                refine p_bipush dX8_parseStatement_152 (by decide) ?_
                refine p_VI G k_RX8_284 (by decide) (hS 0 (by decide)).1 rfl rfl (Nat.le_of_ble_eq_true rfl) ⟨by decide, by decide⟩ ⟨by decide, by decide⟩ dX8_parseStatement_154 h (fun r45 im46 c47 h => ?_)
                refine p_istore_n (lv' := [(1, .int (zi r45)), (0, .ref a)]) dX8_parseStatement_157 rfl (by decide) rfl ?_
                refine p_aload_n dX8_parseStatement_158 rfl (q := 1) rfl ?_
                refine p_getR (b := (a + 1)) G f_RX8_7 rfl (hS 0 (by decide)).1 ((hS 0 (by decide)).2.2 0 (by decide)) dX8_parseStatement_159 ?_
                refine p_iconst dX8_parseStatement_162 ?_
                refine p_aload_n dX8_parseStatement_163 rfl (q := 1) rfl ?_
                refine p_getI (j := 13) G f_RX8_271 rfl (hS 0 (by decide)).1 dX8_parseStatement_164 (fun c48 => ?_)
                refine p_if_ne (tgt := 174) dX8_parseStatement_167 (by decide) (nf_r c48) (fun b49 => ?_) (fun b49 => ?_)
                · have h := h.1 b49
                  refine p_aload_n dX8_parseStatement_174 rfl (q := 1) rfl ?_
                  refine p_getR (b := (a + 1)) G f_RX8_7 rfl (hS 0 (by decide)).1 ((hS 0 (by decide)).2.2 0 (by decide)) dX8_parseStatement_175 ?_
                  refine p_iconst dX8_parseStatement_178 ?_
                  refine p_iald G (hS 1 (by decide)).1 (nf_k (by decide)) (by decide) (zln_lt (hS 1 (by decide)).2.1 (by decide)) dX8_parseStatement_179 (fun c49 => ?_)
                  refine p_iast G (hS 1 (by decide)).1 (nf_k (by decide)) (by decide) (zln_lt (hS 1 (by decide)).2.1 (by decide)) (nf_r c49) dX8_parseStatement_180 ?_
                  refine p_gen (fun im50 e51 => ?_)
                  have h := h im50 e51
                  refine p_aload_n dX8_parseStatement_181 rfl (q := 1) rfl ?_
                  refine p_aload_n dX8_parseStatement_182 rfl (q := 1) rfl ?_
                  refine p_getI (j := 10) G f_RX8_249 rfl (hS 0 (by decide)).1 dX8_parseStatement_183 (fun c52 => ?_)
                  refine p_iconst dX8_parseStatement_186 ?_
                  refine p_icmp_ne (tgt := 194) dX8_parseStatement_187 (by decide) (nf_r c52) (nf_k (by decide)) (fun b53 => ?_) (fun b53 => ?_)
                  · have h := h.1 b53
                    refine p_iconst dX8_parseStatement_194 ?_
                    refine p_iconst dX8_parseStatement_195 ?_
                    refine p_VV G k_RX8_277 (by decide) (hS 0 (by decide)).1 rfl rfl (Nat.le_of_ble_eq_true rfl) ⟨by decide, by decide⟩ ⟨by decide, by decide⟩ dX8_parseStatement_196 h (fun im53 h => ?_)
                    refine p_aload_n dX8_parseStatement_199 rfl (q := 1) rfl ?_
                    refine p_VV G k_RX8_281 (by decide) (hS 0 (by decide)).1 rfl rfl (Nat.le_of_ble_eq_true rfl) ⟨by decide, by decide⟩ ⟨by decide, by decide⟩ dX8_parseStatement_200 h (fun im55 h => ?_)
                    exact p_retV (by decide) (by decide) rfl dX8_parseStatement_203 h
                  · have h := h.2 b53
                    refine p_iconst dX8_parseStatement_190 ?_
                    refine p_goto (tgt := 195) dX8_parseStatement_191 (by decide) ?_
                    refine p_iconst dX8_parseStatement_195 ?_
                    refine p_VV G k_RX8_277 (by decide) (hS 0 (by decide)).1 rfl rfl (Nat.le_of_ble_eq_true rfl) ⟨by decide, by decide⟩ ⟨by decide, by decide⟩ dX8_parseStatement_196 h (fun im53 h => ?_)
                    refine p_aload_n dX8_parseStatement_199 rfl (q := 1) rfl ?_
                    refine p_VV G k_RX8_281 (by decide) (hS 0 (by decide)).1 rfl rfl (Nat.le_of_ble_eq_true rfl) ⟨by decide, by decide⟩ ⟨by decide, by decide⟩ dX8_parseStatement_200 h (fun im55 h => ?_)
                    exact p_retV (by decide) (by decide) rfl dX8_parseStatement_203 h
                · have h := h.2 b49
                  refine p_iload_n dX8_parseStatement_170 rfl (q := 0) rfl ?_
                  refine p_goto (tgt := 180) dX8_parseStatement_171 (by decide) ?_
                  refine p_iast G (hS 1 (by decide)).1 (nf_k (by decide)) (by decide) (zln_lt (hS 1 (by decide)).2.1 (by decide)) (nf_r c47) dX8_parseStatement_180 ?_
                  refine p_gen (fun im49 e50 => ?_)
                  have h := h im49 e50
                  refine p_aload_n dX8_parseStatement_181 rfl (q := 1) rfl ?_
                  refine p_aload_n dX8_parseStatement_182 rfl (q := 1) rfl ?_
                  refine p_getI (j := 10) G f_RX8_249 rfl (hS 0 (by decide)).1 dX8_parseStatement_183 (fun c51 => ?_)
                  refine p_iconst dX8_parseStatement_186 ?_
                  refine p_icmp_ne (tgt := 194) dX8_parseStatement_187 (by decide) (nf_r c51) (nf_k (by decide)) (fun b52 => ?_) (fun b52 => ?_)
                  · have h := h.1 b52
                    refine p_iconst dX8_parseStatement_194 ?_
                    refine p_iconst dX8_parseStatement_195 ?_
                    refine p_VV G k_RX8_277 (by decide) (hS 0 (by decide)).1 rfl rfl (Nat.le_of_ble_eq_true rfl) ⟨by decide, by decide⟩ ⟨by decide, by decide⟩ dX8_parseStatement_196 h (fun im52 h => ?_)
                    refine p_aload_n dX8_parseStatement_199 rfl (q := 1) rfl ?_
                    refine p_VV G k_RX8_281 (by decide) (hS 0 (by decide)).1 rfl rfl (Nat.le_of_ble_eq_true rfl) ⟨by decide, by decide⟩ ⟨by decide, by decide⟩ dX8_parseStatement_200 h (fun im54 h => ?_)
                    exact p_retV (by decide) (by decide) rfl dX8_parseStatement_203 h
                  · have h := h.2 b52
                    refine p_iconst dX8_parseStatement_190 ?_
                    refine p_goto (tgt := 195) dX8_parseStatement_191 (by decide) ?_
                    refine p_iconst dX8_parseStatement_195 ?_
                    refine p_VV G k_RX8_277 (by decide) (hS 0 (by decide)).1 rfl rfl (Nat.le_of_ble_eq_true rfl) ⟨by decide, by decide⟩ ⟨by decide, by decide⟩ dX8_parseStatement_196 h (fun im52 h => ?_)
                    refine p_aload_n dX8_parseStatement_199 rfl (q := 1) rfl ?_
                    refine p_VV G k_RX8_281 (by decide) (hS 0 (by decide)).1 rfl rfl (Nat.le_of_ble_eq_true rfl) ⟨by decide, by decide⟩ ⟨by decide, by decide⟩ dX8_parseStatement_200 h (fun im54 h => ?_)
                    exact p_retV (by decide) (by decide) rfl dX8_parseStatement_203 h
              · have h := h.2 b36
                refine p_aload_n dX8_parseStatement_122 rfl (q := 0) rfl ?_
                refine p_sipush dX8_parseStatement_123 (by decide) ?_
                refine p_bipush dX8_parseStatement_126 (by decide) ?_
                refine p_VV G k_RX8_317 (by decide) (hS 0 (by decide)).1 rfl rfl (Nat.le_of_ble_eq_true rfl) ⟨by decide, by decide⟩ ⟨by decide, by decide⟩ dX8_parseStatement_128 h (fun im36 h => ?_)
                refine p_goto (tgt := 181) dX8_parseStatement_131 (by decide) ?_
                refine p_aload_n dX8_parseStatement_181 rfl (q := 0) rfl ?_
                refine p_aload_n dX8_parseStatement_182 rfl (q := 0) rfl ?_
                refine p_getI (j := 10) G f_RX8_249 rfl (hS 0 (by decide)).1 dX8_parseStatement_183 (fun c38 => ?_)
                refine p_iconst dX8_parseStatement_186 ?_
                refine p_icmp_ne (tgt := 194) dX8_parseStatement_187 (by decide) (nf_r c38) (nf_k (by decide)) (fun b39 => ?_) (fun b39 => ?_)
                · have h := h.1 b39
                  refine p_iconst dX8_parseStatement_194 ?_
                  refine p_iconst dX8_parseStatement_195 ?_
                  refine p_VV G k_RX8_277 (by decide) (hS 0 (by decide)).1 rfl rfl (Nat.le_of_ble_eq_true rfl) ⟨by decide, by decide⟩ ⟨by decide, by decide⟩ dX8_parseStatement_196 h (fun im39 h => ?_)
                  refine p_aload_n dX8_parseStatement_199 rfl (q := 0) rfl ?_
                  refine p_VV G k_RX8_281 (by decide) (hS 0 (by decide)).1 rfl rfl (Nat.le_of_ble_eq_true rfl) ⟨by decide, by decide⟩ ⟨by decide, by decide⟩ dX8_parseStatement_200 h (fun im41 h => ?_)
                  exact p_retV (by decide) (by decide) rfl dX8_parseStatement_203 h
                · have h := h.2 b39
                  refine p_iconst dX8_parseStatement_190 ?_
                  refine p_goto (tgt := 195) dX8_parseStatement_191 (by decide) ?_
                  refine p_iconst dX8_parseStatement_195 ?_
                  refine p_VV G k_RX8_277 (by decide) (hS 0 (by decide)).1 rfl rfl (Nat.le_of_ble_eq_true rfl) ⟨by decide, by decide⟩ ⟨by decide, by decide⟩ dX8_parseStatement_196 h (fun im39 h => ?_)
                  refine p_aload_n dX8_parseStatement_199 rfl (q := 0) rfl ?_
                  refine p_VV G k_RX8_281 (by decide) (hS 0 (by decide)).1 rfl rfl (Nat.le_of_ble_eq_true rfl) ⟨by decide, by decide⟩ ⟨by decide, by decide⟩ dX8_parseStatement_200 h (fun im41 h => ?_)
                  exact p_retV (by decide) (by decide) rfl dX8_parseStatement_203 h
            · have h := h.2 b31
              refine p_aload_n dX8_parseStatement_100 rfl (q := 0) rfl ?_
              refine p_sipush dX8_parseStatement_101 (by decide) ?_
              refine p_bipush dX8_parseStatement_104 (by decide) ?_
              refine p_VV G k_RX8_317 (by decide) (hS 0 (by decide)).1 rfl rfl (Nat.le_of_ble_eq_true rfl) ⟨by decide, by decide⟩ ⟨by decide, by decide⟩ dX8_parseStatement_106 h (fun im31 h => ?_)
              refine p_goto (tgt := 181) dX8_parseStatement_109 (by decide) ?_
              refine p_aload_n dX8_parseStatement_181 rfl (q := 0) rfl ?_
              refine p_aload_n dX8_parseStatement_182 rfl (q := 0) rfl ?_
              refine p_getI (j := 10) G f_RX8_249 rfl (hS 0 (by decide)).1 dX8_parseStatement_183 (fun c33 => ?_)
              refine p_iconst dX8_parseStatement_186 ?_
              refine p_icmp_ne (tgt := 194) dX8_parseStatement_187 (by decide) (nf_r c33) (nf_k (by decide)) (fun b34 => ?_) (fun b34 => ?_)
              · have h := h.1 b34
                refine p_iconst dX8_parseStatement_194 ?_
                refine p_iconst dX8_parseStatement_195 ?_
                refine p_VV G k_RX8_277 (by decide) (hS 0 (by decide)).1 rfl rfl (Nat.le_of_ble_eq_true rfl) ⟨by decide, by decide⟩ ⟨by decide, by decide⟩ dX8_parseStatement_196 h (fun im34 h => ?_)
                refine p_aload_n dX8_parseStatement_199 rfl (q := 0) rfl ?_
                refine p_VV G k_RX8_281 (by decide) (hS 0 (by decide)).1 rfl rfl (Nat.le_of_ble_eq_true rfl) ⟨by decide, by decide⟩ ⟨by decide, by decide⟩ dX8_parseStatement_200 h (fun im36 h => ?_)
                exact p_retV (by decide) (by decide) rfl dX8_parseStatement_203 h
              · have h := h.2 b34
                refine p_iconst dX8_parseStatement_190 ?_
                refine p_goto (tgt := 195) dX8_parseStatement_191 (by decide) ?_
                refine p_iconst dX8_parseStatement_195 ?_
                refine p_VV G k_RX8_277 (by decide) (hS 0 (by decide)).1 rfl rfl (Nat.le_of_ble_eq_true rfl) ⟨by decide, by decide⟩ ⟨by decide, by decide⟩ dX8_parseStatement_196 h (fun im34 h => ?_)
                refine p_aload_n dX8_parseStatement_199 rfl (q := 0) rfl ?_
                refine p_VV G k_RX8_281 (by decide) (hS 0 (by decide)).1 rfl rfl (Nat.le_of_ble_eq_true rfl) ⟨by decide, by decide⟩ ⟨by decide, by decide⟩ dX8_parseStatement_200 h (fun im36 h => ?_)
                exact p_retV (by decide) (by decide) rfl dX8_parseStatement_203 h
          · have h := h.2 b26
            refine p_aload_n dX8_parseStatement_78 rfl (q := 0) rfl ?_
            refine p_sipush dX8_parseStatement_79 (by decide) ?_
            refine p_bipush dX8_parseStatement_82 (by decide) ?_
            refine p_VV G k_RX8_317 (by decide) (hS 0 (by decide)).1 rfl rfl (Nat.le_of_ble_eq_true rfl) ⟨by decide, by decide⟩ ⟨by decide, by decide⟩ dX8_parseStatement_84 h (fun im26 h => ?_)
            refine p_goto (tgt := 181) dX8_parseStatement_87 (by decide) ?_
            refine p_aload_n dX8_parseStatement_181 rfl (q := 0) rfl ?_
            refine p_aload_n dX8_parseStatement_182 rfl (q := 0) rfl ?_
            refine p_getI (j := 10) G f_RX8_249 rfl (hS 0 (by decide)).1 dX8_parseStatement_183 (fun c28 => ?_)
            refine p_iconst dX8_parseStatement_186 ?_
            refine p_icmp_ne (tgt := 194) dX8_parseStatement_187 (by decide) (nf_r c28) (nf_k (by decide)) (fun b29 => ?_) (fun b29 => ?_)
            · have h := h.1 b29
              refine p_iconst dX8_parseStatement_194 ?_
              refine p_iconst dX8_parseStatement_195 ?_
              refine p_VV G k_RX8_277 (by decide) (hS 0 (by decide)).1 rfl rfl (Nat.le_of_ble_eq_true rfl) ⟨by decide, by decide⟩ ⟨by decide, by decide⟩ dX8_parseStatement_196 h (fun im29 h => ?_)
              refine p_aload_n dX8_parseStatement_199 rfl (q := 0) rfl ?_
              refine p_VV G k_RX8_281 (by decide) (hS 0 (by decide)).1 rfl rfl (Nat.le_of_ble_eq_true rfl) ⟨by decide, by decide⟩ ⟨by decide, by decide⟩ dX8_parseStatement_200 h (fun im31 h => ?_)
              exact p_retV (by decide) (by decide) rfl dX8_parseStatement_203 h
            · have h := h.2 b29
              refine p_iconst dX8_parseStatement_190 ?_
              refine p_goto (tgt := 195) dX8_parseStatement_191 (by decide) ?_
              refine p_iconst dX8_parseStatement_195 ?_
              refine p_VV G k_RX8_277 (by decide) (hS 0 (by decide)).1 rfl rfl (Nat.le_of_ble_eq_true rfl) ⟨by decide, by decide⟩ ⟨by decide, by decide⟩ dX8_parseStatement_196 h (fun im29 h => ?_)
              refine p_aload_n dX8_parseStatement_199 rfl (q := 0) rfl ?_
              refine p_VV G k_RX8_281 (by decide) (hS 0 (by decide)).1 rfl rfl (Nat.le_of_ble_eq_true rfl) ⟨by decide, by decide⟩ ⟨by decide, by decide⟩ dX8_parseStatement_200 h (fun im31 h => ?_)
              exact p_retV (by decide) (by decide) rfl dX8_parseStatement_203 h
        · have h := h.2 b21
          refine p_aload_n dX8_parseStatement_61 rfl (q := 0) rfl ?_
          refine p_VV G k_RX8_312 (by decide) (hS 0 (by decide)).1 rfl rfl (Nat.le_of_ble_eq_true rfl) ⟨by decide, by decide⟩ ⟨by decide, by decide⟩ dX8_parseStatement_62 h (fun im21 h => ?_)
          refine p_goto (tgt := 181) dX8_parseStatement_65 (by decide) ?_
          refine p_aload_n dX8_parseStatement_181 rfl (q := 0) rfl ?_
          refine p_aload_n dX8_parseStatement_182 rfl (q := 0) rfl ?_
          refine p_getI (j := 10) G f_RX8_249 rfl (hS 0 (by decide)).1 dX8_parseStatement_183 (fun c23 => ?_)
          refine p_iconst dX8_parseStatement_186 ?_
          refine p_icmp_ne (tgt := 194) dX8_parseStatement_187 (by decide) (nf_r c23) (nf_k (by decide)) (fun b24 => ?_) (fun b24 => ?_)
          · have h := h.1 b24
            refine p_iconst dX8_parseStatement_194 ?_
            refine p_iconst dX8_parseStatement_195 ?_
            refine p_VV G k_RX8_277 (by decide) (hS 0 (by decide)).1 rfl rfl (Nat.le_of_ble_eq_true rfl) ⟨by decide, by decide⟩ ⟨by decide, by decide⟩ dX8_parseStatement_196 h (fun im24 h => ?_)
            refine p_aload_n dX8_parseStatement_199 rfl (q := 0) rfl ?_
            refine p_VV G k_RX8_281 (by decide) (hS 0 (by decide)).1 rfl rfl (Nat.le_of_ble_eq_true rfl) ⟨by decide, by decide⟩ ⟨by decide, by decide⟩ dX8_parseStatement_200 h (fun im26 h => ?_)
            exact p_retV (by decide) (by decide) rfl dX8_parseStatement_203 h
          · have h := h.2 b24
            refine p_iconst dX8_parseStatement_190 ?_
            refine p_goto (tgt := 195) dX8_parseStatement_191 (by decide) ?_
            refine p_iconst dX8_parseStatement_195 ?_
            refine p_VV G k_RX8_277 (by decide) (hS 0 (by decide)).1 rfl rfl (Nat.le_of_ble_eq_true rfl) ⟨by decide, by decide⟩ ⟨by decide, by decide⟩ dX8_parseStatement_196 h (fun im24 h => ?_)
            refine p_aload_n dX8_parseStatement_199 rfl (q := 0) rfl ?_
            refine p_VV G k_RX8_281 (by decide) (hS 0 (by decide)).1 rfl rfl (Nat.le_of_ble_eq_true rfl) ⟨by decide, by decide⟩ ⟨by decide, by decide⟩ dX8_parseStatement_200 h (fun im26 h => ?_)
            exact p_retV (by decide) (by decide) rfl dX8_parseStatement_203 h
      · have h := h.2 b16
        refine p_aload_n dX8_parseStatement_44 rfl (q := 0) rfl ?_
        refine p_VV G k_RX8_308 (by decide) (hS 0 (by decide)).1 rfl rfl (Nat.le_of_ble_eq_true rfl) ⟨by decide, by decide⟩ ⟨by decide, by decide⟩ dX8_parseStatement_45 h (fun im16 h => ?_)
        refine p_goto (tgt := 181) dX8_parseStatement_48 (by decide) ?_
        refine p_aload_n dX8_parseStatement_181 rfl (q := 0) rfl ?_
        refine p_aload_n dX8_parseStatement_182 rfl (q := 0) rfl ?_
        refine p_getI (j := 10) G f_RX8_249 rfl (hS 0 (by decide)).1 dX8_parseStatement_183 (fun c18 => ?_)
        refine p_iconst dX8_parseStatement_186 ?_
        refine p_icmp_ne (tgt := 194) dX8_parseStatement_187 (by decide) (nf_r c18) (nf_k (by decide)) (fun b19 => ?_) (fun b19 => ?_)
        · have h := h.1 b19
          refine p_iconst dX8_parseStatement_194 ?_
          refine p_iconst dX8_parseStatement_195 ?_
          refine p_VV G k_RX8_277 (by decide) (hS 0 (by decide)).1 rfl rfl (Nat.le_of_ble_eq_true rfl) ⟨by decide, by decide⟩ ⟨by decide, by decide⟩ dX8_parseStatement_196 h (fun im19 h => ?_)
          refine p_aload_n dX8_parseStatement_199 rfl (q := 0) rfl ?_
          refine p_VV G k_RX8_281 (by decide) (hS 0 (by decide)).1 rfl rfl (Nat.le_of_ble_eq_true rfl) ⟨by decide, by decide⟩ ⟨by decide, by decide⟩ dX8_parseStatement_200 h (fun im21 h => ?_)
          exact p_retV (by decide) (by decide) rfl dX8_parseStatement_203 h
        · have h := h.2 b19
          refine p_iconst dX8_parseStatement_190 ?_
          refine p_goto (tgt := 195) dX8_parseStatement_191 (by decide) ?_
          refine p_iconst dX8_parseStatement_195 ?_
          refine p_VV G k_RX8_277 (by decide) (hS 0 (by decide)).1 rfl rfl (Nat.le_of_ble_eq_true rfl) ⟨by decide, by decide⟩ ⟨by decide, by decide⟩ dX8_parseStatement_196 h (fun im19 h => ?_)
          refine p_aload_n dX8_parseStatement_199 rfl (q := 0) rfl ?_
          refine p_VV G k_RX8_281 (by decide) (hS 0 (by decide)).1 rfl rfl (Nat.le_of_ble_eq_true rfl) ⟨by decide, by decide⟩ ⟨by decide, by decide⟩ dX8_parseStatement_200 h (fun im21 h => ?_)
          exact p_retV (by decide) (by decide) rfl dX8_parseStatement_203 h
    · have h := h.2 b11
      refine p_aload_n dX8_parseStatement_27 rfl (q := 0) rfl ?_
      refine p_VV G k_RX8_303 (by decide) (hS 0 (by decide)).1 rfl rfl (Nat.le_of_ble_eq_true rfl) ⟨by decide, by decide⟩ ⟨by decide, by decide⟩ dX8_parseStatement_28 h (fun im11 h => ?_)
      refine p_goto (tgt := 181) dX8_parseStatement_31 (by decide) ?_
      refine p_aload_n dX8_parseStatement_181 rfl (q := 0) rfl ?_
      refine p_aload_n dX8_parseStatement_182 rfl (q := 0) rfl ?_
      refine p_getI (j := 10) G f_RX8_249 rfl (hS 0 (by decide)).1 dX8_parseStatement_183 (fun c13 => ?_)
      refine p_iconst dX8_parseStatement_186 ?_
      refine p_icmp_ne (tgt := 194) dX8_parseStatement_187 (by decide) (nf_r c13) (nf_k (by decide)) (fun b14 => ?_) (fun b14 => ?_)
      · have h := h.1 b14
        refine p_iconst dX8_parseStatement_194 ?_
        refine p_iconst dX8_parseStatement_195 ?_
        refine p_VV G k_RX8_277 (by decide) (hS 0 (by decide)).1 rfl rfl (Nat.le_of_ble_eq_true rfl) ⟨by decide, by decide⟩ ⟨by decide, by decide⟩ dX8_parseStatement_196 h (fun im14 h => ?_)
        refine p_aload_n dX8_parseStatement_199 rfl (q := 0) rfl ?_
        refine p_VV G k_RX8_281 (by decide) (hS 0 (by decide)).1 rfl rfl (Nat.le_of_ble_eq_true rfl) ⟨by decide, by decide⟩ ⟨by decide, by decide⟩ dX8_parseStatement_200 h (fun im16 h => ?_)
        exact p_retV (by decide) (by decide) rfl dX8_parseStatement_203 h
      · have h := h.2 b14
        refine p_iconst dX8_parseStatement_190 ?_
        refine p_goto (tgt := 195) dX8_parseStatement_191 (by decide) ?_
        refine p_iconst dX8_parseStatement_195 ?_
        refine p_VV G k_RX8_277 (by decide) (hS 0 (by decide)).1 rfl rfl (Nat.le_of_ble_eq_true rfl) ⟨by decide, by decide⟩ ⟨by decide, by decide⟩ dX8_parseStatement_196 h (fun im14 h => ?_)
        refine p_aload_n dX8_parseStatement_199 rfl (q := 0) rfl ?_
        refine p_VV G k_RX8_281 (by decide) (hS 0 (by decide)).1 rfl rfl (Nat.le_of_ble_eq_true rfl) ⟨by decide, by decide⟩ ⟨by decide, by decide⟩ dX8_parseStatement_200 h (fun im16 h => ?_)
        exact p_retV (by decide) (by decide) rfl dX8_parseStatement_203 h
  · have h := h.2 b6
    refine p_aload_n dX8_parseStatement_10 rfl (q := 0) rfl ?_
    refine p_VV G k_RX8_298 (by decide) (hS 0 (by decide)).1 rfl rfl (Nat.le_of_ble_eq_true rfl) ⟨by decide, by decide⟩ ⟨by decide, by decide⟩ dX8_parseStatement_11 h (fun im6 h => ?_)
    refine p_goto (tgt := 181) dX8_parseStatement_14 (by decide) ?_
    refine p_aload_n dX8_parseStatement_181 rfl (q := 0) rfl ?_
    refine p_aload_n dX8_parseStatement_182 rfl (q := 0) rfl ?_
    refine p_getI (j := 10) G f_RX8_249 rfl (hS 0 (by decide)).1 dX8_parseStatement_183 (fun c8 => ?_)
    refine p_iconst dX8_parseStatement_186 ?_
    refine p_icmp_ne (tgt := 194) dX8_parseStatement_187 (by decide) (nf_r c8) (nf_k (by decide)) (fun b9 => ?_) (fun b9 => ?_)
    · have h := h.1 b9
      refine p_iconst dX8_parseStatement_194 ?_
      refine p_iconst dX8_parseStatement_195 ?_
      refine p_VV G k_RX8_277 (by decide) (hS 0 (by decide)).1 rfl rfl (Nat.le_of_ble_eq_true rfl) ⟨by decide, by decide⟩ ⟨by decide, by decide⟩ dX8_parseStatement_196 h (fun im9 h => ?_)
      refine p_aload_n dX8_parseStatement_199 rfl (q := 0) rfl ?_
      refine p_VV G k_RX8_281 (by decide) (hS 0 (by decide)).1 rfl rfl (Nat.le_of_ble_eq_true rfl) ⟨by decide, by decide⟩ ⟨by decide, by decide⟩ dX8_parseStatement_200 h (fun im11 h => ?_)
      exact p_retV (by decide) (by decide) rfl dX8_parseStatement_203 h
    · have h := h.2 b9
      refine p_iconst dX8_parseStatement_190 ?_
      refine p_goto (tgt := 195) dX8_parseStatement_191 (by decide) ?_
      refine p_iconst dX8_parseStatement_195 ?_
      refine p_VV G k_RX8_277 (by decide) (hS 0 (by decide)).1 rfl rfl (Nat.le_of_ble_eq_true rfl) ⟨by decide, by decide⟩ ⟨by decide, by decide⟩ dX8_parseStatement_196 h (fun im9 h => ?_)
      refine p_aload_n dX8_parseStatement_199 rfl (q := 0) rfl ?_
      refine p_VV G k_RX8_281 (by decide) (hS 0 (by decide)).1 rfl rfl (Nat.le_of_ble_eq_true rfl) ⟨by decide, by decide⟩ ⟨by decide, by decide⟩ dX8_parseStatement_200 h (fun im11 h => ?_)
      exact p_retV (by decide) (by decide) rfl dX8_parseStatement_203 h
set_option maxRecDepth 20000 in
set_option maxHeartbeats 4000000 in
theorem v_X8_load {g : zG} (G : zOK g) {S : zSh} {im : zIm} {a : Nat} {Q : Int → zIm → Prop} (hS : zS_M S a)
    (h : ∀ im1, im1 = zst im a 4 0 → zCV g yX8_copy M_X8_copy [.ref (a + 1), .int (zi 0), .ref (a + 2), .int (zi 0)] S im1 (fun im3 => zCV g yX8_clearNetwork M_X8_clearNetwork [.ref a] S im3 (fun im5 => ∀ im7, im7 = zst im5 a 13 0 → ∀ im9, im9 = zst im7 a 14 (-1) → ∀ im11, im11 = zst im9 a 8 0 → zCV g yX8_nextToken M_X8_nextToken [.ref a] S im11 (fun im13 => zPI g M_X8_load 43 [(0, .ref a), (1, .int (zi 0))] S im13 Q)))) :
    zCI g yX8_load M_X8_load [.ref a] S im Q := by
  refine zC_of (by decide) rfl rfl rfl rfl (Nat.le_of_ble_eq_true rfl) ?_
  refine p_aload_n dX8_load_0 rfl (q := 0) rfl ?_
  refine p_iconst dX8_load_1 ?_
  refine p_putI (j := 4) G f_RX8_30 rfl rfl rfl (hS 0 (by decide)).1 (nf_k (by decide)) dX8_load_2 ?_
  refine p_gen (fun im1 e2 => ?_)
  have h := h im1 e2
  refine p_aload_n dX8_load_5 rfl (q := 0) rfl ?_
  refine p_getR (b := (a + 1)) G f_RX8_7 rfl (hS 0 (by decide)).1 ((hS 0 (by decide)).2.2 0 (by decide)) dX8_load_6 ?_
  refine p_iconst dX8_load_9 ?_
  refine p_aload_n dX8_load_10 rfl (q := 0) rfl ?_
  refine p_getR (b := (a + 2)) G f_RX8_13 rfl (hS 0 (by decide)).1 ((hS 0 (by decide)).2.2 1 (by decide)) dX8_load_11 ?_
  refine p_iconst dX8_load_14 ?_
  refine p_SV G k_RX8_224 rfl rfl (Nat.le_of_ble_eq_true rfl) ⟨by decide, by decide⟩ ⟨by decide, by decide⟩ dX8_load_15 h (fun im3 h => ?_)
  refine p_aload_n dX8_load_18 rfl (q := 0) rfl ?_
  refine p_VV G k_RX8_326 (by decide) (hS 0 (by decide)).1 rfl rfl (Nat.le_of_ble_eq_true rfl) ⟨by decide, by decide⟩ ⟨by decide, by decide⟩ dX8_load_19 h (fun im5 h => ?_)
  refine p_aload_n dX8_load_22 rfl (q := 0) rfl ?_
  refine p_iconst dX8_load_23 ?_
  refine p_putI (j := 13) G f_RX8_271 rfl rfl rfl (hS 0 (by decide)).1 (nf_k (by decide)) dX8_load_24 ?_
  refine p_gen (fun im7 e8 => ?_)
  have h := h im7 e8
  refine p_aload_n dX8_load_27 rfl (q := 0) rfl ?_
  refine p_iconst dX8_load_28 ?_
  refine p_putI (j := 14) G f_RX8_26 rfl rfl rfl (hS 0 (by decide)).1 (nf_k (by decide)) dX8_load_29 ?_
  refine p_gen (fun im9 e10 => ?_)
  have h := h im9 e10
  refine p_aload_n dX8_load_32 rfl (q := 0) rfl ?_
  refine p_iconst dX8_load_33 ?_
  refine p_putI (j := 8) G f_RX8_231 rfl rfl rfl (hS 0 (by decide)).1 (nf_k (by decide)) dX8_load_34 ?_
  refine p_gen (fun im11 e12 => ?_)
  have h := h im11 e12
  refine p_aload_n dX8_load_37 rfl (q := 0) rfl ?_
  refine p_VV G k_RX8_274 (by decide) (hS 0 (by decide)).1 rfl rfl (Nat.le_of_ble_eq_true rfl) ⟨by decide, by decide⟩ ⟨by decide, by decide⟩ dX8_load_38 h (fun im13 h => ?_)
  refine p_iconst dX8_load_41 ?_
  refine p_istore_n (lv' := [(1, .int (zi 0)), (0, .ref a)]) dX8_load_42 rfl (by decide) rfl ?_
  refine p_sub (lv' := [(0, .ref a), (1, .int (zi 0))]) [1, 0] rfl ?_
  exact h
set_option maxRecDepth 20000 in
set_option maxHeartbeats 4000000 in
theorem v_X8_load_43 {g : zG} (G : zOK g) {S : zSh} {im : zIm} {a : Nat} {x1 : Int} {Q : Int → zIm → Prop} (hS : zS_M S a) (c_x1 : zc x1)
    (h : ((¬ (im a 13) = 0 → ∀ im2, im2 = zst im a 7 0 → (((im2 a 13) = 0 → Q x1 im2) ∧ (¬ (im2 a 13) = 0 → zCV g yX8_copy M_X8_copy [.ref (a + 2), .int (zi 0), .ref (a + 1), .int (zi 0)] S im2 (fun im5 => Q (-1) im5)))) ∧ ((im a 13) = 0 → (((im a 10) = 0 → ∀ im3, im3 = zst im a 7 0 → (((im3 a 13) = 0 → Q x1 im3) ∧ (¬ (im3 a 13) = 0 → zCV g yX8_copy M_X8_copy [.ref (a + 2), .int (zi 0), .ref (a + 1), .int (zi 0)] S im3 (fun im6 => Q (-1) im6)))) ∧ (¬ (im a 10) = 0 → zCV g yX8_parseStatement M_X8_parseStatement [.ref a] S im (fun im3 => zPI g M_X8_load 43 [(0, .ref a), (1, .int (zi (zw (x1 + 1))))] S im3 Q)))))) :
    zPI g M_X8_load 43 [(0, .ref a), (1, .int (zi x1))] S im Q := by
  refine p_aload_n dX8_load_43 rfl (q := 0) rfl ?_
  refine p_getI (j := 13) G f_RX8_271 rfl (hS 0 (by decide)).1 dX8_load_44 (fun c1 => ?_)
  refine p_if_ne (tgt := 67) dX8_load_47 (by decide) (nf_r c1) (fun b2 => ?_) (fun b2 => ?_)
  · have h := h.1 b2
    refine p_aload_n dX8_load_67 rfl (q := 0) rfl ?_
    refine p_iconst dX8_load_68 ?_
    refine p_putI (j := 7) G f_RX8_228 rfl rfl rfl (hS 0 (by decide)).1 (nf_k (by decide)) dX8_load_69 ?_
    refine p_gen (fun im2 e3 => ?_)
    have h := h im2 e3
    refine p_aload_n dX8_load_72 rfl (q := 0) rfl ?_
    refine p_getI (j := 13) G f_RX8_271 rfl (hS 0 (by decide)).1 dX8_load_73 (fun c4 => ?_)
    refine p_if_eq (tgt := 94) dX8_load_76 (by decide) (nf_r c4) (fun b5 => ?_) (fun b5 => ?_)
    · have h := h.1 b5
      refine p_iload_n dX8_load_94 rfl (q := 1) rfl ?_
      exact p_iretI (by decide) (by decide) rfl (nf_r c_x1) dX8_load_95 h
    · have h := h.2 b5
      refine p_aload_n dX8_load_79 rfl (q := 0) rfl ?_
      refine p_getR (b := (a + 2)) G f_RX8_13 rfl (hS 0 (by decide)).1 ((hS 0 (by decide)).2.2 1 (by decide)) dX8_load_80 ?_
      refine p_iconst dX8_load_83 ?_
      refine p_aload_n dX8_load_84 rfl (q := 0) rfl ?_
      refine p_getR (b := (a + 1)) G f_RX8_7 rfl (hS 0 (by decide)).1 ((hS 0 (by decide)).2.2 0 (by decide)) dX8_load_85 ?_
      refine p_iconst dX8_load_88 ?_
      refine p_SV G k_RX8_224 rfl rfl (Nat.le_of_ble_eq_true rfl) ⟨by decide, by decide⟩ ⟨by decide, by decide⟩ dX8_load_89 h (fun im5 h => ?_)
      refine p_iconst dX8_load_92 ?_
      exact p_iretI (by decide) (by decide) rfl (nf_k (by decide)) dX8_load_93 h
  · have h := h.2 b2
    refine p_aload_n dX8_load_50 rfl (q := 0) rfl ?_
    refine p_getI (j := 10) G f_RX8_249 rfl (hS 0 (by decide)).1 dX8_load_51 (fun c2 => ?_)
    refine p_if_eq (tgt := 67) dX8_load_54 (by decide) (nf_r c2) (fun b3 => ?_) (fun b3 => ?_)
    · have h := h.1 b3
      refine p_aload_n dX8_load_67 rfl (q := 0) rfl ?_
      refine p_iconst dX8_load_68 ?_
      refine p_putI (j := 7) G f_RX8_228 rfl rfl rfl (hS 0 (by decide)).1 (nf_k (by decide)) dX8_load_69 ?_
      refine p_gen (fun im3 e4 => ?_)
      have h := h im3 e4
      refine p_aload_n dX8_load_72 rfl (q := 0) rfl ?_
      refine p_getI (j := 13) G f_RX8_271 rfl (hS 0 (by decide)).1 dX8_load_73 (fun c5 => ?_)
      refine p_if_eq (tgt := 94) dX8_load_76 (by decide) (nf_r c5) (fun b6 => ?_) (fun b6 => ?_)
      · have h := h.1 b6
        refine p_iload_n dX8_load_94 rfl (q := 1) rfl ?_
        exact p_iretI (by decide) (by decide) rfl (nf_r c_x1) dX8_load_95 h
      · have h := h.2 b6
        refine p_aload_n dX8_load_79 rfl (q := 0) rfl ?_
        refine p_getR (b := (a + 2)) G f_RX8_13 rfl (hS 0 (by decide)).1 ((hS 0 (by decide)).2.2 1 (by decide)) dX8_load_80 ?_
        refine p_iconst dX8_load_83 ?_
        refine p_aload_n dX8_load_84 rfl (q := 0) rfl ?_
        refine p_getR (b := (a + 1)) G f_RX8_7 rfl (hS 0 (by decide)).1 ((hS 0 (by decide)).2.2 0 (by decide)) dX8_load_85 ?_
        refine p_iconst dX8_load_88 ?_
        refine p_SV G k_RX8_224 rfl rfl (Nat.le_of_ble_eq_true rfl) ⟨by decide, by decide⟩ ⟨by decide, by decide⟩ dX8_load_89 h (fun im6 h => ?_)
        refine p_iconst dX8_load_92 ?_
        exact p_iretI (by decide) (by decide) rfl (nf_k (by decide)) dX8_load_93 h
    · have h := h.2 b3
      refine p_aload_n dX8_load_57 rfl (q := 0) rfl ?_
      refine p_VV G k_RX8_329 (by decide) (hS 0 (by decide)).1 rfl rfl (Nat.le_of_ble_eq_true rfl) ⟨by decide, by decide⟩ ⟨by decide, by decide⟩ dX8_load_58 h (fun im3 h => ?_)
      refine p_iinc (q := 1) (lv' := [(1, .int (zi (x1 + 1))), (0, .ref a)]) dX8_load_61 rfl (by decide) rfl ?_
      refine p_goto (tgt := 43) dX8_load_64 (by decide) ?_
      refine p_sub (lv' := [(0, .ref a), (1, .int (zi (zw (x1 + 1))))]) [1, 0] (by simp only [zi_zw, zl_zwl]; rfl) ?_
      exact h
set_option maxRecDepth 20000 in
set_option maxHeartbeats 4000000 in
theorem v_X8_errorCode {g : zG} (G : zOK g) {S : zSh} {im : zIm} {a : Nat} {Q : Int → zIm → Prop} (hS : zS_M S a)
    (h : ∀ im1, im1 = zst im a 4 0 → Q (im1 a 13) im1) :
    zCI g yX8_errorCode M_X8_errorCode [.ref a] S im Q := by
  refine zC_of (by decide) rfl rfl rfl rfl (Nat.le_of_ble_eq_true rfl) ?_
  refine p_aload_n dX8_errorCode_0 rfl (q := 0) rfl ?_
  refine p_iconst dX8_errorCode_1 ?_
  refine p_putI (j := 4) G f_RX8_30 rfl rfl rfl (hS 0 (by decide)).1 (nf_k (by decide)) dX8_errorCode_2 ?_
  refine p_gen (fun im1 e2 => ?_)
  have h := h im1 e2
  refine p_aload_n dX8_errorCode_5 rfl (q := 0) rfl ?_
  refine p_getI (j := 13) G f_RX8_271 rfl (hS 0 (by decide)).1 dX8_errorCode_6 (fun c3 => ?_)
  exact p_iretI (by decide) (by decide) rfl (nf_r c3) dX8_errorCode_9 h
set_option maxRecDepth 20000 in
set_option maxHeartbeats 4000000 in
theorem v_X8_errorPosition {g : zG} (G : zOK g) {S : zSh} {im : zIm} {a : Nat} {Q : Int → zIm → Prop} (hS : zS_M S a)
    (h : ∀ im1, im1 = zst im a 4 0 → Q (im1 a 14) im1) :
    zCI g yX8_errorPosition M_X8_errorPosition [.ref a] S im Q := by
  refine zC_of (by decide) rfl rfl rfl rfl (Nat.le_of_ble_eq_true rfl) ?_
  refine p_aload_n dX8_errorPosition_0 rfl (q := 0) rfl ?_
  refine p_iconst dX8_errorPosition_1 ?_
  refine p_putI (j := 4) G f_RX8_30 rfl rfl rfl (hS 0 (by decide)).1 (nf_k (by decide)) dX8_errorPosition_2 ?_
  refine p_gen (fun im1 e2 => ?_)
  have h := h im1 e2
  refine p_aload_n dX8_errorPosition_5 rfl (q := 0) rfl ?_
  refine p_getI (j := 14) G f_RX8_26 rfl (hS 0 (by decide)).1 dX8_errorPosition_6 (fun c3 => ?_)
  exact p_iretI (by decide) (by decide) rfl (nf_r c3) dX8_errorPosition_9 h
set_option maxRecDepth 20000 in
set_option maxHeartbeats 4000000 in
theorem v_X8_save {g : zG} (G : zOK g) {S : zSh} {im : zIm} {a : Nat} {p1 : Int} {Q : zIm → Prop} (hS : zS_M S a) (c_p1 : zc p1)
    (h : zCI g yX8_isBetween M_X8_isBetween [.int (zi p1), .int (zi 0), .int (zi 1)] S im (fun r1 im2 => ((r1 = 0 → ∀ im4, im4 = zst im2 a 4 1 → ((¬ (im4 a 4) = 0 → Q im4) ∧ ((im4 a 4) = 0 → zCV g yX8_copy M_X8_copy [.ref (a + 1), .int (zi 0), .ref (a + 3), .int (zi (zw (7692 * p1)))] S im4 (fun im7 => ((0 ≤ p1 ∧ p1 < 2) ∧ ∀ im9, im9 = zst im7 (a + 4) p1 1 → Q im9))))) ∧ (¬ r1 = 0 → ∀ im4, im4 = zst im2 a 4 0 → ((¬ (im4 a 4) = 0 → Q im4) ∧ ((im4 a 4) = 0 → zCV g yX8_copy M_X8_copy [.ref (a + 1), .int (zi 0), .ref (a + 3), .int (zi (zw (7692 * p1)))] S im4 (fun im7 => ((0 ≤ p1 ∧ p1 < 2) ∧ ∀ im9, im9 = zst im7 (a + 4) p1 1 → Q im9)))))))) :
    zCV g yX8_save M_X8_save [.ref a, .int (zi p1)] S im Q := by
  refine zC_of (by decide) rfl rfl rfl rfl (Nat.le_of_ble_eq_true rfl) ?_
  refine p_aload_n dX8_save_0 rfl (q := 0) rfl ?_
  refine p_iload_n dX8_save_1 rfl (q := 1) rfl ?_
  refine p_iconst dX8_save_2 ?_
  refine p_iconst dX8_save_3 ?_
  refine p_SI G k_RX8_33 rfl rfl (Nat.le_of_ble_eq_true rfl) ⟨by decide, by decide⟩ ⟨by decide, by decide⟩ dX8_save_4 h (fun r1 im2 c3 h => ?_)
  refine p_if_eq (tgt := 14) dX8_save_7 (by decide) (nf_r c3) (fun b4 => ?_) (fun b4 => ?_)
  · have h := h.1 b4
    refine p_iconst dX8_save_14 ?_
    refine p_putI (j := 4) G f_RX8_30 rfl rfl rfl (hS 0 (by decide)).1 (nf_k (by decide)) dX8_save_15 ?_
    refine p_gen (fun im4 e5 => ?_)
    have h := h im4 e5
    refine p_aload_n dX8_save_18 rfl (q := 0) rfl ?_
    refine p_getI (j := 4) G f_RX8_30 rfl (hS 0 (by decide)).1 dX8_save_19 (fun c6 => ?_)
    refine p_if_ne (tgt := 49) dX8_save_22 (by decide) (nf_r c6) (fun b7 => ?_) (fun b7 => ?_)
    · have h := h.1 b7
      exact p_retV (by decide) (by decide) rfl dX8_save_49 h
    · have h := h.2 b7
      refine p_aload_n dX8_save_25 rfl (q := 0) rfl ?_
      refine p_getR (b := (a + 1)) G f_RX8_7 rfl (hS 0 (by decide)).1 ((hS 0 (by decide)).2.2 0 (by decide)) dX8_save_26 ?_
      refine p_iconst dX8_save_29 ?_
      refine p_aload_n dX8_save_30 rfl (q := 0) rfl ?_
      refine p_getR (b := (a + 3)) G f_RX8_16 rfl (hS 0 (by decide)).1 ((hS 0 (by decide)).2.2 2 (by decide)) dX8_save_31 ?_
      refine p_sipush dX8_save_34 (by decide) ?_
      refine p_iload_n dX8_save_37 rfl (q := 1) rfl ?_
      refine p_imul dX8_save_38 ?_
      refine p_SV G k_RX8_224 rfl (by simp only [zi_zw]; rfl) (Nat.le_of_ble_eq_true rfl) ⟨by decide, by decide⟩ ⟨by decide, by decide⟩ dX8_save_39 h (fun im7 h => ?_)
      refine p_aload_n dX8_save_42 rfl (q := 0) rfl ?_
      refine p_getR (b := (a + 4)) G f_RX8_19 rfl (hS 0 (by decide)).1 ((hS 0 (by decide)).2.2 3 (by decide)) dX8_save_43 ?_
      refine p_iload_n dX8_save_46 rfl (q := 1) rfl ?_
      refine p_iconst dX8_save_47 ?_
      have g11 := h.1
      have h := h.2
      refine p_zast G (hS 4 (by decide)).1 (nf_r c_p1) g11.1 (zln_lt (hS 4 (by decide)).2.1 g11.2) dX8_save_48 ?_
      refine p_gen (fun im9 e10 => ?_)
      have h := h im9 e10
      exact p_retV (by decide) (by decide) rfl dX8_save_49 h
  · have h := h.2 b4
    refine p_iconst dX8_save_10 ?_
    refine p_goto (tgt := 15) dX8_save_11 (by decide) ?_
    refine p_putI (j := 4) G f_RX8_30 rfl rfl rfl (hS 0 (by decide)).1 (nf_k (by decide)) dX8_save_15 ?_
    refine p_gen (fun im4 e5 => ?_)
    have h := h im4 e5
    refine p_aload_n dX8_save_18 rfl (q := 0) rfl ?_
    refine p_getI (j := 4) G f_RX8_30 rfl (hS 0 (by decide)).1 dX8_save_19 (fun c6 => ?_)
    refine p_if_ne (tgt := 49) dX8_save_22 (by decide) (nf_r c6) (fun b7 => ?_) (fun b7 => ?_)
    · have h := h.1 b7
      exact p_retV (by decide) (by decide) rfl dX8_save_49 h
    · have h := h.2 b7
      refine p_aload_n dX8_save_25 rfl (q := 0) rfl ?_
      refine p_getR (b := (a + 1)) G f_RX8_7 rfl (hS 0 (by decide)).1 ((hS 0 (by decide)).2.2 0 (by decide)) dX8_save_26 ?_
      refine p_iconst dX8_save_29 ?_
      refine p_aload_n dX8_save_30 rfl (q := 0) rfl ?_
      refine p_getR (b := (a + 3)) G f_RX8_16 rfl (hS 0 (by decide)).1 ((hS 0 (by decide)).2.2 2 (by decide)) dX8_save_31 ?_
      refine p_sipush dX8_save_34 (by decide) ?_
      refine p_iload_n dX8_save_37 rfl (q := 1) rfl ?_
      refine p_imul dX8_save_38 ?_
      refine p_SV G k_RX8_224 rfl (by simp only [zi_zw]; rfl) (Nat.le_of_ble_eq_true rfl) ⟨by decide, by decide⟩ ⟨by decide, by decide⟩ dX8_save_39 h (fun im7 h => ?_)
      refine p_aload_n dX8_save_42 rfl (q := 0) rfl ?_
      refine p_getR (b := (a + 4)) G f_RX8_19 rfl (hS 0 (by decide)).1 ((hS 0 (by decide)).2.2 3 (by decide)) dX8_save_43 ?_
      refine p_iload_n dX8_save_46 rfl (q := 1) rfl ?_
      refine p_iconst dX8_save_47 ?_
      have g11 := h.1
      have h := h.2
      refine p_zast G (hS 4 (by decide)).1 (nf_r c_p1) g11.1 (zln_lt (hS 4 (by decide)).2.1 g11.2) dX8_save_48 ?_
      refine p_gen (fun im9 e10 => ?_)
      have h := h im9 e10
      exact p_retV (by decide) (by decide) rfl dX8_save_49 h
set_option maxRecDepth 20000 in
set_option maxHeartbeats 4000000 in
theorem v_X8_restore {g : zG} (G : zOK g) {S : zSh} {im : zIm} {a : Nat} {p1 : Int} {Q : zIm → Prop} (hS : zS_M S a) (c_p1 : zc p1)
    (h : zCI g yX8_isBetween M_X8_isBetween [.int (zi p1), .int (zi 0), .int (zi 1)] S im (fun r1 im2 => ((¬ r1 = 0 → ((0 ≤ p1 ∧ p1 < 2) ∧ ((¬ (im2 (a + 4) p1) = 0 → ∀ im6, im6 = zst im2 a 4 0 → ((¬ (im6 a 4) = 0 → Q im6) ∧ ((im6 a 4) = 0 → zCV g yX8_copy M_X8_copy [.ref (a + 3), .int (zi (zw (7692 * p1))), .ref (a + 1), .int (zi 0)] S im6 (fun im9 => Q im9)))) ∧ ((im2 (a + 4) p1) = 0 → ∀ im6, im6 = zst im2 a 4 2 → ((¬ (im6 a 4) = 0 → Q im6) ∧ ((im6 a 4) = 0 → zCV g yX8_copy M_X8_copy [.ref (a + 3), .int (zi (zw (7692 * p1))), .ref (a + 1), .int (zi 0)] S im6 (fun im9 => Q im9))))))) ∧ (r1 = 0 → ∀ im4, im4 = zst im2 a 4 1 → ((¬ (im4 a 4) = 0 → Q im4) ∧ ((im4 a 4) = 0 → zCV g yX8_copy M_X8_copy [.ref (a + 3), .int (zi (zw (7692 * p1))), .ref (a + 1), .int (zi 0)] S im4 (fun im7 => Q im7))))))) :
    zCV g yX8_restore M_X8_restore [.ref a, .int (zi p1)] S im Q := by
  refine zC_of (by decide) rfl rfl rfl rfl (Nat.le_of_ble_eq_true rfl) ?_
  refine p_aload_n dX8_restore_0 rfl (q := 0) rfl ?_
  refine p_iload_n dX8_restore_1 rfl (q := 1) rfl ?_
  refine p_iconst dX8_restore_2 ?_
  refine p_iconst dX8_restore_3 ?_
  refine p_SI G k_RX8_33 rfl rfl (Nat.le_of_ble_eq_true rfl) ⟨by decide, by decide⟩ ⟨by decide, by decide⟩ dX8_restore_4 h (fun r1 im2 c3 h => ?_)
  refine p_if_ne (tgt := 14) dX8_restore_7 (by decide) (nf_r c3) (fun b4 => ?_) (fun b4 => ?_)
  · have h := h.1 b4
    refine p_aload_n dX8_restore_14 rfl (q := 0) rfl ?_
    refine p_getR (b := (a + 4)) G f_RX8_19 rfl (hS 0 (by decide)).1 ((hS 0 (by decide)).2.2 3 (by decide)) dX8_restore_15 ?_
    refine p_iload_n dX8_restore_18 rfl (q := 1) rfl ?_
    have g5 := h.1
    have h := h.2
    refine p_zald G (hS 4 (by decide)).1 (nf_r c_p1) g5.1 (zln_lt (hS 4 (by decide)).2.1 g5.2) dX8_restore_19 (fun c4 => ?_)
    refine p_if_ne (tgt := 27) dX8_restore_20 (by decide) (nf_r (zc_01 c4)) (fun b6 => ?_) (fun b6 => ?_)
    · have h := h.1 b6
      refine p_iconst dX8_restore_27 ?_
      refine p_putI (j := 4) G f_RX8_30 rfl rfl rfl (hS 0 (by decide)).1 (nf_k (by decide)) dX8_restore_28 ?_
      refine p_gen (fun im6 e7 => ?_)
      have h := h im6 e7
      refine p_aload_n dX8_restore_31 rfl (q := 0) rfl ?_
      refine p_getI (j := 4) G f_RX8_30 rfl (hS 0 (by decide)).1 dX8_restore_32 (fun c8 => ?_)
      refine p_if_ne (tgt := 55) dX8_restore_35 (by decide) (nf_r c8) (fun b9 => ?_) (fun b9 => ?_)
      · have h := h.1 b9
        exact p_retV (by decide) (by decide) rfl dX8_restore_55 h
      · have h := h.2 b9
        refine p_aload_n dX8_restore_38 rfl (q := 0) rfl ?_
        refine p_getR (b := (a + 3)) G f_RX8_16 rfl (hS 0 (by decide)).1 ((hS 0 (by decide)).2.2 2 (by decide)) dX8_restore_39 ?_
        refine p_sipush dX8_restore_42 (by decide) ?_
        refine p_iload_n dX8_restore_45 rfl (q := 1) rfl ?_
        refine p_imul dX8_restore_46 ?_
        refine p_aload_n dX8_restore_47 rfl (q := 0) rfl ?_
        refine p_getR (b := (a + 1)) G f_RX8_7 rfl (hS 0 (by decide)).1 ((hS 0 (by decide)).2.2 0 (by decide)) dX8_restore_48 ?_
        refine p_iconst dX8_restore_51 ?_
        refine p_SV G k_RX8_224 rfl (by simp only [zi_zw]; rfl) (Nat.le_of_ble_eq_true rfl) ⟨by decide, by decide⟩ ⟨by decide, by decide⟩ dX8_restore_52 h (fun im9 h => ?_)
        exact p_retV (by decide) (by decide) rfl dX8_restore_55 h
    · have h := h.2 b6
      refine p_iconst dX8_restore_23 ?_
      refine p_goto (tgt := 28) dX8_restore_24 (by decide) ?_
      refine p_putI (j := 4) G f_RX8_30 rfl rfl rfl (hS 0 (by decide)).1 (nf_k (by decide)) dX8_restore_28 ?_
      refine p_gen (fun im6 e7 => ?_)
      have h := h im6 e7
      refine p_aload_n dX8_restore_31 rfl (q := 0) rfl ?_
      refine p_getI (j := 4) G f_RX8_30 rfl (hS 0 (by decide)).1 dX8_restore_32 (fun c8 => ?_)
      refine p_if_ne (tgt := 55) dX8_restore_35 (by decide) (nf_r c8) (fun b9 => ?_) (fun b9 => ?_)
      · have h := h.1 b9
        exact p_retV (by decide) (by decide) rfl dX8_restore_55 h
      · have h := h.2 b9
        refine p_aload_n dX8_restore_38 rfl (q := 0) rfl ?_
        refine p_getR (b := (a + 3)) G f_RX8_16 rfl (hS 0 (by decide)).1 ((hS 0 (by decide)).2.2 2 (by decide)) dX8_restore_39 ?_
        refine p_sipush dX8_restore_42 (by decide) ?_
        refine p_iload_n dX8_restore_45 rfl (q := 1) rfl ?_
        refine p_imul dX8_restore_46 ?_
        refine p_aload_n dX8_restore_47 rfl (q := 0) rfl ?_
        refine p_getR (b := (a + 1)) G f_RX8_7 rfl (hS 0 (by decide)).1 ((hS 0 (by decide)).2.2 0 (by decide)) dX8_restore_48 ?_
        refine p_iconst dX8_restore_51 ?_
        refine p_SV G k_RX8_224 rfl (by simp only [zi_zw]; rfl) (Nat.le_of_ble_eq_true rfl) ⟨by decide, by decide⟩ ⟨by decide, by decide⟩ dX8_restore_52 h (fun im9 h => ?_)
        exact p_retV (by decide) (by decide) rfl dX8_restore_55 h
  · have h := h.2 b4
    refine p_iconst dX8_restore_10 ?_
    refine p_goto (tgt := 28) dX8_restore_11 (by decide) ?_
    refine p_putI (j := 4) G f_RX8_30 rfl rfl rfl (hS 0 (by decide)).1 (nf_k (by decide)) dX8_restore_28 ?_
    refine p_gen (fun im4 e5 => ?_)
    have h := h im4 e5
    refine p_aload_n dX8_restore_31 rfl (q := 0) rfl ?_
    refine p_getI (j := 4) G f_RX8_30 rfl (hS 0 (by decide)).1 dX8_restore_32 (fun c6 => ?_)
    refine p_if_ne (tgt := 55) dX8_restore_35 (by decide) (nf_r c6) (fun b7 => ?_) (fun b7 => ?_)
    · have h := h.1 b7
      exact p_retV (by decide) (by decide) rfl dX8_restore_55 h
    · have h := h.2 b7
      refine p_aload_n dX8_restore_38 rfl (q := 0) rfl ?_
      refine p_getR (b := (a + 3)) G f_RX8_16 rfl (hS 0 (by decide)).1 ((hS 0 (by decide)).2.2 2 (by decide)) dX8_restore_39 ?_
      refine p_sipush dX8_restore_42 (by decide) ?_
      refine p_iload_n dX8_restore_45 rfl (q := 1) rfl ?_
      refine p_imul dX8_restore_46 ?_
      refine p_aload_n dX8_restore_47 rfl (q := 0) rfl ?_
      refine p_getR (b := (a + 1)) G f_RX8_7 rfl (hS 0 (by decide)).1 ((hS 0 (by decide)).2.2 0 (by decide)) dX8_restore_48 ?_
      refine p_iconst dX8_restore_51 ?_
      refine p_SV G k_RX8_224 rfl (by simp only [zi_zw]; rfl) (Nat.le_of_ble_eq_true rfl) ⟨by decide, by decide⟩ ⟨by decide, by decide⟩ dX8_restore_52 h (fun im7 h => ?_)
      exact p_retV (by decide) (by decide) rfl dX8_restore_55 h
