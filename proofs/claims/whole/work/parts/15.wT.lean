set_option maxRecDepth 20000 in
set_option maxHeartbeats 4000000 in
theorem v_X5_init {g : zG} (G : zOK g) {S : zSh} {im : zIm} {a : Nat} {Q : Option Value → zSh → zIm → Prop}  
    (h : ∀ o1, o1 = ztop S → ∀ S3, S3 = zpush S 10 500 → ∀ im5, im5 = zsr im o1 (fun _ => 0) → (zkd S3 a = 5 ∧ ∀ S8, S8 = zsf S3 a 3 (some o1) → ∀ o10, o10 = ztop S8 → ∀ S12, S12 = zpush S8 9 3 → ∀ im14, im14 = zsr im5 o10 (fun _ => 0) → (zkd S12 a = 5 ∧ ∀ S17, S17 = zsf S12 a 4 (some o10) → (zkd S17 a = 5 ∧ ∀ im20, im20 = zst im14 a 2 (-1) → Q none S17 im20)))) :
    zC g yX5_init M_X5_init [.ref a] S im Q zX0 := by
  refine zC_of (by decide) rfl rfl rfl rfl (Nat.le_of_ble_eq_true rfl) ?_
  refine p_aload_n dX5_init_0 rfl (q := 0) rfl ?_
  refine p_objInit G q_2_21 q_1_29 q_1_30 (by decide) (Nat.le_of_ble_eq_true rfl) dX5_init_1 ?_
  refine p_aload_n dX5_init_4 rfl (q := 0) rfl ?_
  refine p_sipush dX5_init_5 (by decide) ?_
  refine p_newB G (N := 500) (nf_k (by decide)) (by decide) (Nat.le_of_ble_eq_true rfl) (by decide) (by decide) dX5_init_8 ?_
  obtain ⟨o1, e2⟩ : ∃ o, o = ztop S := ⟨_, rfl⟩
  rw [← e2]
  have h := h o1 e2
  refine p_genS (fun S3 e4 => ?_)
  have h := h S3 e4
  refine p_gen (fun im5 e6 => ?_)
  have h := h im5 e6
  have k7 := h.1
  have h := h.2
  refine p_putF (b := o1) (j := 3) G f_RX5_11 rfl rfl rfl rfl k7 rfl rfl dX5_init_10 ?_
  refine p_genS (fun S8 e9 => ?_)
  have h := h S8 e9
  refine p_aload_n dX5_init_13 rfl (q := 0) rfl ?_
  refine p_iconst dX5_init_14 ?_
  refine p_newI G (N := 3) (nf_k (by decide)) (by decide) (Nat.le_of_ble_eq_true rfl) (by decide) (by decide) dX5_init_15 ?_
  obtain ⟨o10, e11⟩ : ∃ o, o = ztop S8 := ⟨_, rfl⟩
  rw [← e11]
  have h := h o10 e11
  refine p_genS (fun S12 e13 => ?_)
  have h := h S12 e13
  refine p_gen (fun im14 e15 => ?_)
  have h := h im14 e15
  have k16 := h.1
  have h := h.2
  refine p_putF (b := o10) (j := 4) G f_RX5_15 rfl rfl rfl rfl k16 rfl rfl dX5_init_17 ?_
  refine p_genS (fun S17 e18 => ?_)
  have h := h S17 e18
  refine p_aload_n dX5_init_20 rfl (q := 0) rfl ?_
  refine p_iconst dX5_init_21 ?_
  have k19 := h.1
  have h := h.2
  refine p_putI (j := 2) G f_RX5_19 rfl rfl rfl k19 (nf_k (by decide)) dX5_init_22 ?_
  refine p_gen (fun im20 e21 => ?_)
  have h := h im20 e21
  exact p_return (by decide) (by decide) rfl dX5_init_25 h
set_option maxRecDepth 20000 in
set_option maxHeartbeats 4000000 in
theorem v_X5_isBlank {g : zG} (G : zOK g) {S : zSh} {im : zIm} {p1 : Int} {Q : Int → zIm → Prop} (c_p1 : zc p1)
    (h : ((p1 = 32 → Q 1 im) ∧ (¬ p1 = 32 → ((¬ p1 = 10 → Q 0 im) ∧ (p1 = 10 → Q 1 im))))) :
    zCI g yX5_isBlank M_X5_isBlank [.int (zi p1)] S im Q := by
  refine zC_of (by decide) rfl rfl rfl rfl (Nat.le_of_ble_eq_true rfl) ?_
  refine p_iload_n dX5_isBlank_0 rfl (q := 0) rfl ?_
  refine p_bipush dX5_isBlank_1 (by decide) ?_
  refine p_icmp_eq (tgt := 12) dX5_isBlank_3 (by decide) (nf_r c_p1) (nf_k (by decide)) (fun b1 => ?_) (fun b1 => ?_)
  · have h := h.1 b1
    refine p_iconst dX5_isBlank_12 ?_
    refine p_goto (tgt := 17) dX5_isBlank_13 (by decide) ?_
    exact p_zretI (by decide) (by decide) rfl (nf_k (by decide)) (by decide) dX5_isBlank_17 h
  · have h := h.2 b1
    refine p_iload_n dX5_isBlank_6 rfl (q := 0) rfl ?_
    refine p_bipush dX5_isBlank_7 (by decide) ?_
    refine p_icmp_ne (tgt := 16) dX5_isBlank_9 (by decide) (nf_r c_p1) (nf_k (by decide)) (fun b1 => ?_) (fun b1 => ?_)
    · have h := h.1 b1
      refine p_iconst dX5_isBlank_16 ?_
      exact p_zretI (by decide) (by decide) rfl (nf_k (by decide)) (by decide) dX5_isBlank_17 h
    · have h := h.2 b1
      refine p_iconst dX5_isBlank_12 ?_
      refine p_goto (tgt := 17) dX5_isBlank_13 (by decide) ?_
      exact p_zretI (by decide) (by decide) rfl (nf_k (by decide)) (by decide) dX5_isBlank_17 h
set_option maxRecDepth 20000 in
set_option maxHeartbeats 4000000 in
theorem v_X5_isLetter {g : zG} (G : zOK g) {S : zSh} {im : zIm} {p1 : Int} {Q : Int → zIm → Prop} (c_p1 : zc p1)
    (h : ((p1 < 97 → Q 0 im) ∧ (97 ≤ p1 → ((122 < p1 → Q 0 im) ∧ (p1 ≤ 122 → Q 1 im))))) :
    zCI g yX5_isLetter M_X5_isLetter [.int (zi p1)] S im Q := by
  refine zC_of (by decide) rfl rfl rfl rfl (Nat.le_of_ble_eq_true rfl) ?_
  refine p_iload_n dX5_isLetter_0 rfl (q := 0) rfl ?_
  refine p_bipush dX5_isLetter_1 (by decide) ?_
  refine p_icmp_lt (tgt := 16) dX5_isLetter_3 (by decide) (nf_r c_p1) (nf_k (by decide)) (fun b1 => ?_) (fun b1 => ?_)
  · have h := h.1 b1
    refine p_iconst dX5_isLetter_16 ?_
    exact p_zretI (by decide) (by decide) rfl (nf_k (by decide)) (by decide) dX5_isLetter_17 h
  · have h := h.2 b1
    refine p_iload_n dX5_isLetter_6 rfl (q := 0) rfl ?_
    refine p_bipush dX5_isLetter_7 (by decide) ?_
    refine p_icmp_gt (tgt := 16) dX5_isLetter_9 (by decide) (nf_r c_p1) (nf_k (by decide)) (fun b1 => ?_) (fun b1 => ?_)
    · have h := h.1 b1
      refine p_iconst dX5_isLetter_16 ?_
      exact p_zretI (by decide) (by decide) rfl (nf_k (by decide)) (by decide) dX5_isLetter_17 h
    · have h := h.2 b1
      refine p_iconst dX5_isLetter_12 ?_
      refine p_goto (tgt := 17) dX5_isLetter_13 (by decide) ?_
      exact p_zretI (by decide) (by decide) rfl (nf_k (by decide)) (by decide) dX5_isLetter_17 h
set_option maxRecDepth 20000 in
set_option maxHeartbeats 4000000 in
theorem v_X5_readWord {g : zG} (G : zOK g) {S : zSh} {im : zIm} {a : Nat} {Q : zIm → Prop} (hS : zS_T S a)
    (h : ∀ im1, im1 = zst im a 6 1 → zPV g M_X5_readWord 5 [(0, .ref a)] S im1 Q) :
    zCV g yX5_readWord M_X5_readWord [.ref a] S im Q := by
  refine zC_of (by decide) rfl rfl rfl rfl (Nat.le_of_ble_eq_true rfl) ?_
  refine p_aload_n dX5_readWord_0 rfl (q := 0) rfl ?_
  refine p_iconst dX5_readWord_1 ?_
  refine p_putI (j := 6) G f_RX5_39 rfl rfl rfl (hS 0 (by decide)).1 (nf_k (by decide)) dX5_readWord_2 ?_
  refine p_gen (fun im1 e2 => ?_)
  have h := h im1 e2
  refine p_sub (lv' := [(0, .ref a)]) [0] rfl ?_
  exact h
set_option maxRecDepth 20000 in
set_option maxHeartbeats 4000000 in
theorem v_X5_readWord_5 {g : zG} (G : zOK g) {S : zSh} {im : zIm} {a : Nat} {Q : zIm → Prop} (hS : zS_T S a)
    (h : (((im a 0) ≤ (im a 5) → Q im) ∧ ((im a 5) < (im a 0) → ((0 ≤ (im a 5) ∧ (im a 5) < 500) ∧ zCI g yX5_isLetter M_X5_isLetter [.int (zi (im (a + 1) (im a 5)))] S im (fun r6 im7 => ((r6 = 0 → Q im7) ∧ (¬ r6 = 0 → ∀ im10, im10 = zst im7 a 5 (zw ((im7 a 5) + 1)) → zPV g M_X5_readWord 5 [(0, .ref a)] S im10 Q))))))) :
    zPV g M_X5_readWord 5 [(0, .ref a)] S im Q := by
  refine p_aload_n dX5_readWord_5 rfl (q := 0) rfl ?_
  refine p_getI (j := 5) G f_RX5_33 rfl (hS 0 (by decide)).1 dX5_readWord_6 (fun c1 => ?_)
  refine p_aload_n dX5_readWord_9 rfl (q := 0) rfl ?_
  refine p_getI (j := 0) G f_RX5_23 rfl (hS 0 (by decide)).1 dX5_readWord_10 (fun c2 => ?_)
  refine p_icmp_ge (tgt := 44) dX5_readWord_13 (by decide) (nf_r c1) (nf_r c2) (fun b3 => ?_) (fun b3 => ?_)
  · have h := h.1 b3
    exact p_retV (by decide) (by decide) rfl dX5_readWord_44 h
  · have h := h.2 b3
    refine p_aload_n dX5_readWord_16 rfl (q := 0) rfl ?_
    refine p_getR (b := (a + 1)) G f_RX5_11 rfl (hS 0 (by decide)).1 ((hS 0 (by decide)).2.2 3 (by decide)) dX5_readWord_17 ?_
    refine p_aload_n dX5_readWord_20 rfl (q := 0) rfl ?_
    refine p_getI (j := 5) G f_RX5_33 rfl (hS 0 (by decide)).1 dX5_readWord_21 (fun c3 => ?_)
    have g5 := h.1
    have h := h.2
    refine p_bald G (hS 1 (by decide)).1 (nf_r c3) g5.1 (zln_lt (hS 1 (by decide)).2.1 g5.2) dX5_readWord_24 (fun c4 => ?_)
    refine p_SI G k_RX5_164 rfl rfl (Nat.le_of_ble_eq_true rfl) ⟨by decide, by decide⟩ ⟨by decide, by decide⟩ dX5_readWord_25 h (fun r6 im7 c8 h => ?_)
    refine p_if_eq (tgt := 44) dX5_readWord_28 (by decide) (nf_r c8) (fun b9 => ?_) (fun b9 => ?_)
    · have h := h.1 b9
      exact p_retV (by decide) (by decide) rfl dX5_readWord_44 h
    · have h := h.2 b9
      refine p_aload_n dX5_readWord_31 rfl (q := 0) rfl ?_
      refine p_dup dX5_readWord_32 rfl ?_
      refine p_getI (j := 5) G f_RX5_33 rfl (hS 0 (by decide)).1 dX5_readWord_33 (fun c9 => ?_)
      refine p_iconst dX5_readWord_36 ?_
      refine p_iadd dX5_readWord_37 ?_
      refine p_putI (j := 5) G f_RX5_33 rfl rfl rfl (hS 0 (by decide)).1 (nf_w _) dX5_readWord_38 ?_
      refine p_gen (fun im10 e11 => ?_)
      have h := h im10 e11
      refine p_goto (tgt := 5) dX5_readWord_41 (by decide) ?_
      refine p_sub (lv' := [(0, .ref a)]) [0] rfl ?_
      exact h
set_option maxRecDepth 20000 in
set_option maxHeartbeats 4000000 in
theorem v_X5_isDigit {g : zG} (G : zOK g) {S : zSh} {im : zIm} {p1 : Int} {Q : Int → zIm → Prop} (c_p1 : zc p1)
    (h : ((p1 < 48 → Q 0 im) ∧ (48 ≤ p1 → ((57 < p1 → Q 0 im) ∧ (p1 ≤ 57 → Q 1 im))))) :
    zCI g yX5_isDigit M_X5_isDigit [.int (zi p1)] S im Q := by
  refine zC_of (by decide) rfl rfl rfl rfl (Nat.le_of_ble_eq_true rfl) ?_
  refine p_iload_n dX5_isDigit_0 rfl (q := 0) rfl ?_
  refine p_bipush dX5_isDigit_1 (by decide) ?_
  refine p_icmp_lt (tgt := 16) dX5_isDigit_3 (by decide) (nf_r c_p1) (nf_k (by decide)) (fun b1 => ?_) (fun b1 => ?_)
  · have h := h.1 b1
    refine p_iconst dX5_isDigit_16 ?_
    exact p_zretI (by decide) (by decide) rfl (nf_k (by decide)) (by decide) dX5_isDigit_17 h
  · have h := h.2 b1
    refine p_iload_n dX5_isDigit_6 rfl (q := 0) rfl ?_
    refine p_bipush dX5_isDigit_7 (by decide) ?_
    refine p_icmp_gt (tgt := 16) dX5_isDigit_9 (by decide) (nf_r c_p1) (nf_k (by decide)) (fun b1 => ?_) (fun b1 => ?_)
    · have h := h.1 b1
      refine p_iconst dX5_isDigit_16 ?_
      exact p_zretI (by decide) (by decide) rfl (nf_k (by decide)) (by decide) dX5_isDigit_17 h
    · have h := h.2 b1
      refine p_iconst dX5_isDigit_12 ?_
      refine p_goto (tgt := 17) dX5_isDigit_13 (by decide) ?_
      exact p_zretI (by decide) (by decide) rfl (nf_k (by decide)) (by decide) dX5_isDigit_17 h
set_option maxRecDepth 20000 in
set_option maxHeartbeats 4000000 in
theorem v_X5_readNumber {g : zG} (G : zOK g) {S : zSh} {im : zIm} {a : Nat} {Q : zIm → Prop} (hS : zS_T S a)
    (h : ∀ im1, im1 = zst im a 6 2 → ∀ im3, im3 = zst im1 a 8 0 → zPV g M_X5_readNumber 10 [(0, .ref a)] S im3 Q) :
    zCV g yX5_readNumber M_X5_readNumber [.ref a] S im Q := by
  refine zC_of (by decide) rfl rfl rfl rfl (Nat.le_of_ble_eq_true rfl) ?_
  refine p_aload_n dX5_readNumber_0 rfl (q := 0) rfl ?_
  refine p_iconst dX5_readNumber_1 ?_
  refine p_putI (j := 6) G f_RX5_39 rfl rfl rfl (hS 0 (by decide)).1 (nf_k (by decide)) dX5_readNumber_2 ?_
  refine p_gen (fun im1 e2 => ?_)
  have h := h im1 e2
  refine p_aload_n dX5_readNumber_5 rfl (q := 0) rfl ?_
  refine p_iconst dX5_readNumber_6 ?_
  refine p_putI (j := 8) G f_RX5_76 rfl rfl rfl (hS 0 (by decide)).1 (nf_k (by decide)) dX5_readNumber_7 ?_
  refine p_gen (fun im3 e4 => ?_)
  have h := h im3 e4
  refine p_sub (lv' := [(0, .ref a)]) [0] rfl ?_
  exact h
set_option maxRecDepth 20000 in
set_option maxHeartbeats 4000000 in
theorem v_X5_readNumber_10 {g : zG} (G : zOK g) {S : zSh} {im : zIm} {a : Nat} {Q : zIm → Prop} (hS : zS_T S a)
    (h : (((im a 0) ≤ (im a 5) → Q im) ∧ ((im a 5) < (im a 0) → ((0 ≤ (im a 5) ∧ (im a 5) < 500) ∧ zCI g yX5_isDigit M_X5_isDigit [.int (zi (im (a + 1) (im a 5)))] S im (fun r6 im7 => ((r6 = 0 → Q im7) ∧ (¬ r6 = 0 → ((0 ≤ (im7 a 5) ∧ (im7 a 5) < 500) ∧ ∀ im13, im13 = zst im7 a 8 (min 1000 (zw (((im7 a 8) * 10) + ((im7 (a + 1) (im7 a 5)) - 48)))) → ∀ im16, im16 = zst im13 a 5 (zw ((im13 a 5) + 1)) → zPV g M_X5_readNumber 10 [(0, .ref a)] S im16 Q)))))))) :
    zPV g M_X5_readNumber 10 [(0, .ref a)] S im Q := by
  refine p_aload_n dX5_readNumber_10 rfl (q := 0) rfl ?_
  refine p_getI (j := 5) G f_RX5_33 rfl (hS 0 (by decide)).1 dX5_readNumber_11 (fun c1 => ?_)
  refine p_aload_n dX5_readNumber_14 rfl (q := 0) rfl ?_
  refine p_getI (j := 0) G f_RX5_23 rfl (hS 0 (by decide)).1 dX5_readNumber_15 (fun c2 => ?_)
  refine p_icmp_ge (tgt := 79) dX5_readNumber_18 (by decide) (nf_r c1) (nf_r c2) (fun b3 => ?_) (fun b3 => ?_)
  · have h := h.1 b3
    exact p_retV (by decide) (by decide) rfl dX5_readNumber_79 h
  · have h := h.2 b3
    refine p_aload_n dX5_readNumber_21 rfl (q := 0) rfl ?_
    refine p_getR (b := (a + 1)) G f_RX5_11 rfl (hS 0 (by decide)).1 ((hS 0 (by decide)).2.2 3 (by decide)) dX5_readNumber_22 ?_
    refine p_aload_n dX5_readNumber_25 rfl (q := 0) rfl ?_
    refine p_getI (j := 5) G f_RX5_33 rfl (hS 0 (by decide)).1 dX5_readNumber_26 (fun c3 => ?_)
    have g5 := h.1
    have h := h.2
    refine p_bald G (hS 1 (by decide)).1 (nf_r c3) g5.1 (zln_lt (hS 1 (by decide)).2.1 g5.2) dX5_readNumber_29 (fun c4 => ?_)
    refine p_SI G k_RX5_170 rfl rfl (Nat.le_of_ble_eq_true rfl) ⟨by decide, by decide⟩ ⟨by decide, by decide⟩ dX5_readNumber_30 h (fun r6 im7 c8 h => ?_)
    refine p_if_eq (tgt := 79) dX5_readNumber_33 (by decide) (nf_r c8) (fun b9 => ?_) (fun b9 => ?_)
    · have h := h.1 b9
      exact p_retV (by decide) (by decide) rfl dX5_readNumber_79 h
    · have h := h.2 b9
      refine p_aload_n dX5_readNumber_36 rfl (q := 0) rfl ?_
      refine p_sipush dX5_readNumber_37 (by decide) ?_
      refine p_aload_n dX5_readNumber_40 rfl (q := 0) rfl ?_
      refine p_getI (j := 8) G f_RX5_76 rfl (hS 0 (by decide)).1 dX5_readNumber_41 (fun c9 => ?_)
      refine p_bipush dX5_readNumber_44 (by decide) ?_
      refine p_imul dX5_readNumber_46 ?_
      refine p_aload_n dX5_readNumber_47 rfl (q := 0) rfl ?_
      refine p_getR (b := (a + 1)) G f_RX5_11 rfl (hS 0 (by decide)).1 ((hS 0 (by decide)).2.2 3 (by decide)) dX5_readNumber_48 ?_
      refine p_aload_n dX5_readNumber_51 rfl (q := 0) rfl ?_
      refine p_getI (j := 5) G f_RX5_33 rfl (hS 0 (by decide)).1 dX5_readNumber_52 (fun c10 => ?_)
      have g12 := h.1
      have h := h.2
      refine p_bald G (hS 1 (by decide)).1 (nf_r c10) g12.1 (zln_lt (hS 1 (by decide)).2.1 g12.2) dX5_readNumber_55 (fun c11 => ?_)
      refine p_bipush dX5_readNumber_56 (by decide) ?_
      refine p_isub dX5_readNumber_58 ?_
      refine p_iadd dX5_readNumber_59 ?_
      refine p_min G q_2_133 q_2_134 q_1_16 q_2_135 dX5_readNumber_60 (by decide) (Nat.le_of_ble_eq_true rfl) (by decide) (by decide) (nf_k (by decide)) (nf_w _) ?_
      refine p_putI (j := 8) G f_RX5_76 rfl rfl rfl (hS 0 (by decide)).1 (nf_r (zc_min ((nf_k (by decide))).2 ((nf_w _)).2)) dX5_readNumber_63 ?_
      refine p_gen (fun im13 e14 => ?_)
      have h := h im13 e14
      refine p_aload_n dX5_readNumber_66 rfl (q := 0) rfl ?_
      refine p_dup dX5_readNumber_67 rfl ?_
      refine p_getI (j := 5) G f_RX5_33 rfl (hS 0 (by decide)).1 dX5_readNumber_68 (fun c15 => ?_)
      refine p_iconst dX5_readNumber_71 ?_
      refine p_iadd dX5_readNumber_72 ?_
      refine p_putI (j := 5) G f_RX5_33 rfl rfl rfl (hS 0 (by decide)).1 (nf_w _) dX5_readNumber_73 ?_
      refine p_gen (fun im16 e17 => ?_)
      have h := h im16 e17
      refine p_goto (tgt := 10) dX5_readNumber_76 (by decide) ?_
      refine p_sub (lv' := [(0, .ref a)]) [0] rfl ?_
      exact h
set_option maxRecDepth 20000 in
set_option maxHeartbeats 4000000 in
theorem v_X5_nextToken {g : zG} (G : zOK g) {S : zSh} {im : zIm} {a : Nat} {Q : zIm → Prop} (hS : zS_T S a)
    (h : (((im a 0) ≤ (im a 5) → ∀ im4, im4 = zst im a 7 (im a 5) → (((im4 a 5) < (im4 a 0) → ((0 ≤ (im4 a 5) ∧ (im4 a 5) < 500) ∧ zCI g yX5_isLetter M_X5_isLetter [.int (zi (im4 (a + 1) (im4 a 5)))] S im4 (fun r11 im12 => ((r11 = 0 → ((0 ≤ (im12 a 5) ∧ (im12 a 5) < 500) ∧ zCI g yX5_isDigit M_X5_isDigit [.int (zi (im12 (a + 1) (im12 a 5)))] S im12 (fun r17 im18 => ((r17 = 0 → ((0 ≤ (im18 a 5) ∧ (im18 a 5) < 500) ∧ ((¬ (im18 (a + 1) (im18 a 5)) = 59 → ∀ im23, im23 = zst im18 a 6 4 → ∀ im26, im26 = zst im23 a 5 (zw ((im23 a 5) + 1)) → Q im26) ∧ ((im18 (a + 1) (im18 a 5)) = 59 → ∀ im23, im23 = zst im18 a 6 3 → ∀ im26, im26 = zst im23 a 5 (zw ((im23 a 5) + 1)) → Q im26)))) ∧ (¬ r17 = 0 → zCV g yX5_readNumber M_X5_readNumber [.ref a] S im18 (fun im20 => Q im20)))))) ∧ (¬ r11 = 0 → zCV g yX5_readWord M_X5_readWord [.ref a] S im12 (fun im14 => Q im14)))))) ∧ ((im4 a 0) ≤ (im4 a 5) → ∀ im8, im8 = zst im4 a 6 0 → Q im8))) ∧ ((im a 5) < (im a 0) → ((0 ≤ (im a 5) ∧ (im a 5) < 500) ∧ zCI g yX5_isBlank M_X5_isBlank [.int (zi (im (a + 1) (im a 5)))] S im (fun r6 im7 => ((r6 = 0 → ∀ im10, im10 = zst im7 a 7 (im7 a 5) → (((im10 a 5) < (im10 a 0) → ((0 ≤ (im10 a 5) ∧ (im10 a 5) < 500) ∧ zCI g yX5_isLetter M_X5_isLetter [.int (zi (im10 (a + 1) (im10 a 5)))] S im10 (fun r17 im18 => ((r17 = 0 → ((0 ≤ (im18 a 5) ∧ (im18 a 5) < 500) ∧ zCI g yX5_isDigit M_X5_isDigit [.int (zi (im18 (a + 1) (im18 a 5)))] S im18 (fun r23 im24 => ((r23 = 0 → ((0 ≤ (im24 a 5) ∧ (im24 a 5) < 500) ∧ ((¬ (im24 (a + 1) (im24 a 5)) = 59 → ∀ im29, im29 = zst im24 a 6 4 → ∀ im32, im32 = zst im29 a 5 (zw ((im29 a 5) + 1)) → Q im32) ∧ ((im24 (a + 1) (im24 a 5)) = 59 → ∀ im29, im29 = zst im24 a 6 3 → ∀ im32, im32 = zst im29 a 5 (zw ((im29 a 5) + 1)) → Q im32)))) ∧ (¬ r23 = 0 → zCV g yX5_readNumber M_X5_readNumber [.ref a] S im24 (fun im26 => Q im26)))))) ∧ (¬ r17 = 0 → zCV g yX5_readWord M_X5_readWord [.ref a] S im18 (fun im20 => Q im20)))))) ∧ ((im10 a 0) ≤ (im10 a 5) → ∀ im14, im14 = zst im10 a 6 0 → Q im14))) ∧ (¬ r6 = 0 → ∀ im10, im10 = zst im7 a 5 (zw ((im7 a 5) + 1)) → zPV g M_X5_nextToken 0 [(0, .ref a)] S im10 Q))))))) :
    zCV g yX5_nextToken M_X5_nextToken [.ref a] S im Q := by
  refine zC_of (by decide) rfl rfl rfl rfl (Nat.le_of_ble_eq_true rfl) ?_
  refine p_aload_n dX5_nextToken_0 rfl (q := 0) rfl ?_
  refine p_getI (j := 5) G f_RX5_33 rfl (hS 0 (by decide)).1 dX5_nextToken_1 (fun c1 => ?_)
  refine p_aload_n dX5_nextToken_4 rfl (q := 0) rfl ?_
  refine p_getI (j := 0) G f_RX5_23 rfl (hS 0 (by decide)).1 dX5_nextToken_5 (fun c2 => ?_)
  refine p_icmp_ge (tgt := 39) dX5_nextToken_8 (by decide) (nf_r c1) (nf_r c2) (fun b3 => ?_) (fun b3 => ?_)
  · have h := h.1 b3
    refine p_aload_n dX5_nextToken_39 rfl (q := 0) rfl ?_
    refine p_aload_n dX5_nextToken_40 rfl (q := 0) rfl ?_
    refine p_getI (j := 5) G f_RX5_33 rfl (hS 0 (by decide)).1 dX5_nextToken_41 (fun c3 => ?_)
    refine p_putI (j := 7) G f_RX5_79 rfl rfl rfl (hS 0 (by decide)).1 (nf_r c3) dX5_nextToken_44 ?_
    refine p_gen (fun im4 e5 => ?_)
    have h := h im4 e5
    refine p_aload_n dX5_nextToken_47 rfl (q := 0) rfl ?_
    refine p_getI (j := 5) G f_RX5_33 rfl (hS 0 (by decide)).1 dX5_nextToken_48 (fun c6 => ?_)
    refine p_aload_n dX5_nextToken_51 rfl (q := 0) rfl ?_
    refine p_getI (j := 0) G f_RX5_23 rfl (hS 0 (by decide)).1 dX5_nextToken_52 (fun c7 => ?_)
    refine p_icmp_lt (tgt := 66) dX5_nextToken_55 (by decide) (nf_r c6) (nf_r c7) (fun b8 => ?_) (fun b8 => ?_)
    · have h := h.1 b8
      refine p_aload_n dX5_nextToken_66 rfl (q := 0) rfl ?_
      refine p_getR (b := (a + 1)) G f_RX5_11 rfl (hS 0 (by decide)).1 ((hS 0 (by decide)).2.2 3 (by decide)) dX5_nextToken_67 ?_
      refine p_aload_n dX5_nextToken_70 rfl (q := 0) rfl ?_
      refine p_getI (j := 5) G f_RX5_33 rfl (hS 0 (by decide)).1 dX5_nextToken_71 (fun c8 => ?_)
      have g10 := h.1
      have h := h.2
      refine p_bald G (hS 1 (by decide)).1 (nf_r c8) g10.1 (zln_lt (hS 1 (by decide)).2.1 g10.2) dX5_nextToken_74 (fun c9 => ?_)
      refine p_SI G k_RX5_164 rfl rfl (Nat.le_of_ble_eq_true rfl) ⟨by decide, by decide⟩ ⟨by decide, by decide⟩ dX5_nextToken_75 h (fun r11 im12 c13 h => ?_)
      refine p_if_eq (tgt := 88) dX5_nextToken_78 (by decide) (nf_r c13) (fun b14 => ?_) (fun b14 => ?_)
      · have h := h.1 b14
        refine p_aload_n dX5_nextToken_88 rfl (q := 0) rfl ?_
        refine p_getR (b := (a + 1)) G f_RX5_11 rfl (hS 0 (by decide)).1 ((hS 0 (by decide)).2.2 3 (by decide)) dX5_nextToken_89 ?_
        refine p_aload_n dX5_nextToken_92 rfl (q := 0) rfl ?_
        refine p_getI (j := 5) G f_RX5_33 rfl (hS 0 (by decide)).1 dX5_nextToken_93 (fun c14 => ?_)
        have g16 := h.1
        have h := h.2
        refine p_bald G (hS 1 (by decide)).1 (nf_r c14) g16.1 (zln_lt (hS 1 (by decide)).2.1 g16.2) dX5_nextToken_96 (fun c15 => ?_)
        refine p_SI G k_RX5_170 rfl rfl (Nat.le_of_ble_eq_true rfl) ⟨by decide, by decide⟩ ⟨by decide, by decide⟩ dX5_nextToken_97 h (fun r17 im18 c19 h => ?_)
        refine p_if_eq (tgt := 110) dX5_nextToken_100 (by decide) (nf_r c19) (fun b20 => ?_) (fun b20 => ?_)
        · have h := h.1 b20
          refine p_aload_n dX5_nextToken_110 rfl (q := 0) rfl ?_
          refine p_aload_n dX5_nextToken_111 rfl (q := 0) rfl ?_
          refine p_getR (b := (a + 1)) G f_RX5_11 rfl (hS 0 (by decide)).1 ((hS 0 (by decide)).2.2 3 (by decide)) dX5_nextToken_112 ?_
          refine p_aload_n dX5_nextToken_115 rfl (q := 0) rfl ?_
          refine p_getI (j := 5) G f_RX5_33 rfl (hS 0 (by decide)).1 dX5_nextToken_116 (fun c20 => ?_)
          have g22 := h.1
          have h := h.2
          refine p_bald G (hS 1 (by decide)).1 (nf_r c20) g22.1 (zln_lt (hS 1 (by decide)).2.1 g22.2) dX5_nextToken_119 (fun c21 => ?_)
          refine p_bipush dX5_nextToken_120 (by decide) ?_
          refine p_icmp_ne (tgt := 129) dX5_nextToken_122 (by decide) (nf_r (zc_of (by omega) (by omega))) (nf_k (by decide)) (fun b23 => ?_) (fun b23 => ?_)
          · have h := h.1 b23
            refine p_iconst dX5_nextToken_129 ?_
            refine p_putI (j := 6) G f_RX5_39 rfl rfl rfl (hS 0 (by decide)).1 (nf_k (by decide)) dX5_nextToken_130 ?_
            refine p_gen (fun im23 e24 => ?_)
            have h := h im23 e24
            refine p_aload_n dX5_nextToken_133 rfl (q := 0) rfl ?_
            refine p_dup dX5_nextToken_134 rfl ?_
            refine p_getI (j := 5) G f_RX5_33 rfl (hS 0 (by decide)).1 dX5_nextToken_135 (fun c25 => ?_)
            refine p_iconst dX5_nextToken_138 ?_
            refine p_iadd dX5_nextToken_139 ?_
            refine p_putI (j := 5) G f_RX5_33 rfl rfl rfl (hS 0 (by decide)).1 (nf_w _) dX5_nextToken_140 ?_
            refine p_gen (fun im26 e27 => ?_)
            have h := h im26 e27
            exact p_retV (by decide) (by decide) rfl dX5_nextToken_143 h
          · have h := h.2 b23
            refine p_iconst dX5_nextToken_125 ?_
            refine p_goto (tgt := 130) dX5_nextToken_126 (by decide) ?_
            refine p_putI (j := 6) G f_RX5_39 rfl rfl rfl (hS 0 (by decide)).1 (nf_k (by decide)) dX5_nextToken_130 ?_
            refine p_gen (fun im23 e24 => ?_)
            have h := h im23 e24
            refine p_aload_n dX5_nextToken_133 rfl (q := 0) rfl ?_
            refine p_dup dX5_nextToken_134 rfl ?_
            refine p_getI (j := 5) G f_RX5_33 rfl (hS 0 (by decide)).1 dX5_nextToken_135 (fun c25 => ?_)
            refine p_iconst dX5_nextToken_138 ?_
            refine p_iadd dX5_nextToken_139 ?_
            refine p_putI (j := 5) G f_RX5_33 rfl rfl rfl (hS 0 (by decide)).1 (nf_w _) dX5_nextToken_140 ?_
            refine p_gen (fun im26 e27 => ?_)
            have h := h im26 e27
            exact p_retV (by decide) (by decide) rfl dX5_nextToken_143 h
        · have h := h.2 b20
          refine p_aload_n dX5_nextToken_103 rfl (q := 0) rfl ?_
          refine p_VV G k_RX5_173 (by decide) (hS 0 (by decide)).1 rfl rfl (Nat.le_of_ble_eq_true rfl) ⟨by decide, by decide⟩ ⟨by decide, by decide⟩ dX5_nextToken_104 h (fun im20 h => ?_)
          refine p_goto (tgt := 143) dX5_nextToken_107 (by decide) ?_
          exact p_retV (by decide) (by decide) rfl dX5_nextToken_143 h
      · have h := h.2 b14
        refine p_aload_n dX5_nextToken_81 rfl (q := 0) rfl ?_
        refine p_VV G k_RX5_167 (by decide) (hS 0 (by decide)).1 rfl rfl (Nat.le_of_ble_eq_true rfl) ⟨by decide, by decide⟩ ⟨by decide, by decide⟩ dX5_nextToken_82 h (fun im14 h => ?_)
        refine p_goto (tgt := 143) dX5_nextToken_85 (by decide) ?_
        exact p_retV (by decide) (by decide) rfl dX5_nextToken_143 h
    · have h := h.2 b8
      refine p_aload_n dX5_nextToken_58 rfl (q := 0) rfl ?_
      refine p_iconst dX5_nextToken_59 ?_
      refine p_putI (j := 6) G f_RX5_39 rfl rfl rfl (hS 0 (by decide)).1 (nf_k (by decide)) dX5_nextToken_60 ?_
      refine p_gen (fun im8 e9 => ?_)
      have h := h im8 e9
      refine p_goto (tgt := 143) dX5_nextToken_63 (by decide) ?_
      exact p_retV (by decide) (by decide) rfl dX5_nextToken_143 h
  · have h := h.2 b3
    refine p_aload_n dX5_nextToken_11 rfl (q := 0) rfl ?_
    refine p_getR (b := (a + 1)) G f_RX5_11 rfl (hS 0 (by decide)).1 ((hS 0 (by decide)).2.2 3 (by decide)) dX5_nextToken_12 ?_
    refine p_aload_n dX5_nextToken_15 rfl (q := 0) rfl ?_
    refine p_getI (j := 5) G f_RX5_33 rfl (hS 0 (by decide)).1 dX5_nextToken_16 (fun c3 => ?_)
    have g5 := h.1
    have h := h.2
    refine p_bald G (hS 1 (by decide)).1 (nf_r c3) g5.1 (zln_lt (hS 1 (by decide)).2.1 g5.2) dX5_nextToken_19 (fun c4 => ?_)
    refine p_SI G k_RX5_161 rfl rfl (Nat.le_of_ble_eq_true rfl) ⟨by decide, by decide⟩ ⟨by decide, by decide⟩ dX5_nextToken_20 h (fun r6 im7 c8 h => ?_)
    refine p_if_eq (tgt := 39) dX5_nextToken_23 (by decide) (nf_r c8) (fun b9 => ?_) (fun b9 => ?_)
    · have h := h.1 b9
      refine p_aload_n dX5_nextToken_39 rfl (q := 0) rfl ?_
      refine p_aload_n dX5_nextToken_40 rfl (q := 0) rfl ?_
      refine p_getI (j := 5) G f_RX5_33 rfl (hS 0 (by decide)).1 dX5_nextToken_41 (fun c9 => ?_)
      refine p_putI (j := 7) G f_RX5_79 rfl rfl rfl (hS 0 (by decide)).1 (nf_r c9) dX5_nextToken_44 ?_
      refine p_gen (fun im10 e11 => ?_)
      have h := h im10 e11
      refine p_aload_n dX5_nextToken_47 rfl (q := 0) rfl ?_
      refine p_getI (j := 5) G f_RX5_33 rfl (hS 0 (by decide)).1 dX5_nextToken_48 (fun c12 => ?_)
      refine p_aload_n dX5_nextToken_51 rfl (q := 0) rfl ?_
      refine p_getI (j := 0) G f_RX5_23 rfl (hS 0 (by decide)).1 dX5_nextToken_52 (fun c13 => ?_)
      refine p_icmp_lt (tgt := 66) dX5_nextToken_55 (by decide) (nf_r c12) (nf_r c13) (fun b14 => ?_) (fun b14 => ?_)
      · have h := h.1 b14
        refine p_aload_n dX5_nextToken_66 rfl (q := 0) rfl ?_
        refine p_getR (b := (a + 1)) G f_RX5_11 rfl (hS 0 (by decide)).1 ((hS 0 (by decide)).2.2 3 (by decide)) dX5_nextToken_67 ?_
        refine p_aload_n dX5_nextToken_70 rfl (q := 0) rfl ?_
        refine p_getI (j := 5) G f_RX5_33 rfl (hS 0 (by decide)).1 dX5_nextToken_71 (fun c14 => ?_)
        have g16 := h.1
        have h := h.2
        refine p_bald G (hS 1 (by decide)).1 (nf_r c14) g16.1 (zln_lt (hS 1 (by decide)).2.1 g16.2) dX5_nextToken_74 (fun c15 => ?_)
        refine p_SI G k_RX5_164 rfl rfl (Nat.le_of_ble_eq_true rfl) ⟨by decide, by decide⟩ ⟨by decide, by decide⟩ dX5_nextToken_75 h (fun r17 im18 c19 h => ?_)
        refine p_if_eq (tgt := 88) dX5_nextToken_78 (by decide) (nf_r c19) (fun b20 => ?_) (fun b20 => ?_)
        · have h := h.1 b20
          refine p_aload_n dX5_nextToken_88 rfl (q := 0) rfl ?_
          refine p_getR (b := (a + 1)) G f_RX5_11 rfl (hS 0 (by decide)).1 ((hS 0 (by decide)).2.2 3 (by decide)) dX5_nextToken_89 ?_
          refine p_aload_n dX5_nextToken_92 rfl (q := 0) rfl ?_
          refine p_getI (j := 5) G f_RX5_33 rfl (hS 0 (by decide)).1 dX5_nextToken_93 (fun c20 => ?_)
          have g22 := h.1
          have h := h.2
          refine p_bald G (hS 1 (by decide)).1 (nf_r c20) g22.1 (zln_lt (hS 1 (by decide)).2.1 g22.2) dX5_nextToken_96 (fun c21 => ?_)
          refine p_SI G k_RX5_170 rfl rfl (Nat.le_of_ble_eq_true rfl) ⟨by decide, by decide⟩ ⟨by decide, by decide⟩ dX5_nextToken_97 h (fun r23 im24 c25 h => ?_)
          refine p_if_eq (tgt := 110) dX5_nextToken_100 (by decide) (nf_r c25) (fun b26 => ?_) (fun b26 => ?_)
          · have h := h.1 b26
            refine p_aload_n dX5_nextToken_110 rfl (q := 0) rfl ?_
            refine p_aload_n dX5_nextToken_111 rfl (q := 0) rfl ?_
            refine p_getR (b := (a + 1)) G f_RX5_11 rfl (hS 0 (by decide)).1 ((hS 0 (by decide)).2.2 3 (by decide)) dX5_nextToken_112 ?_
            refine p_aload_n dX5_nextToken_115 rfl (q := 0) rfl ?_
            refine p_getI (j := 5) G f_RX5_33 rfl (hS 0 (by decide)).1 dX5_nextToken_116 (fun c26 => ?_)
            have g28 := h.1
            have h := h.2
            refine p_bald G (hS 1 (by decide)).1 (nf_r c26) g28.1 (zln_lt (hS 1 (by decide)).2.1 g28.2) dX5_nextToken_119 (fun c27 => ?_)
            refine p_bipush dX5_nextToken_120 (by decide) ?_
            refine p_icmp_ne (tgt := 129) dX5_nextToken_122 (by decide) (nf_r (zc_of (by omega) (by omega))) (nf_k (by decide)) (fun b29 => ?_) (fun b29 => ?_)
            · have h := h.1 b29
              refine p_iconst dX5_nextToken_129 ?_
              refine p_putI (j := 6) G f_RX5_39 rfl rfl rfl (hS 0 (by decide)).1 (nf_k (by decide)) dX5_nextToken_130 ?_
              refine p_gen (fun im29 e30 => ?_)
              have h := h im29 e30
              refine p_aload_n dX5_nextToken_133 rfl (q := 0) rfl ?_
              refine p_dup dX5_nextToken_134 rfl ?_
              refine p_getI (j := 5) G f_RX5_33 rfl (hS 0 (by decide)).1 dX5_nextToken_135 (fun c31 => ?_)
              refine p_iconst dX5_nextToken_138 ?_
              refine p_iadd dX5_nextToken_139 ?_
              refine p_putI (j := 5) G f_RX5_33 rfl rfl rfl (hS 0 (by decide)).1 (nf_w _) dX5_nextToken_140 ?_
              refine p_gen (fun im32 e33 => ?_)
              have h := h im32 e33
              exact p_retV (by decide) (by decide) rfl dX5_nextToken_143 h
            · have h := h.2 b29
              refine p_iconst dX5_nextToken_125 ?_
              refine p_goto (tgt := 130) dX5_nextToken_126 (by decide) ?_
              refine p_putI (j := 6) G f_RX5_39 rfl rfl rfl (hS 0 (by decide)).1 (nf_k (by decide)) dX5_nextToken_130 ?_
              refine p_gen (fun im29 e30 => ?_)
              have h := h im29 e30
              refine p_aload_n dX5_nextToken_133 rfl (q := 0) rfl ?_
              refine p_dup dX5_nextToken_134 rfl ?_
              refine p_getI (j := 5) G f_RX5_33 rfl (hS 0 (by decide)).1 dX5_nextToken_135 (fun c31 => ?_)
              refine p_iconst dX5_nextToken_138 ?_
              refine p_iadd dX5_nextToken_139 ?_
              refine p_putI (j := 5) G f_RX5_33 rfl rfl rfl (hS 0 (by decide)).1 (nf_w _) dX5_nextToken_140 ?_
              refine p_gen (fun im32 e33 => ?_)
              have h := h im32 e33
              exact p_retV (by decide) (by decide) rfl dX5_nextToken_143 h
          · have h := h.2 b26
            refine p_aload_n dX5_nextToken_103 rfl (q := 0) rfl ?_
            refine p_VV G k_RX5_173 (by decide) (hS 0 (by decide)).1 rfl rfl (Nat.le_of_ble_eq_true rfl) ⟨by decide, by decide⟩ ⟨by decide, by decide⟩ dX5_nextToken_104 h (fun im26 h => ?_)
            refine p_goto (tgt := 143) dX5_nextToken_107 (by decide) ?_
            exact p_retV (by decide) (by decide) rfl dX5_nextToken_143 h
        · have h := h.2 b20
          refine p_aload_n dX5_nextToken_81 rfl (q := 0) rfl ?_
          refine p_VV G k_RX5_167 (by decide) (hS 0 (by decide)).1 rfl rfl (Nat.le_of_ble_eq_true rfl) ⟨by decide, by decide⟩ ⟨by decide, by decide⟩ dX5_nextToken_82 h (fun im20 h => ?_)
          refine p_goto (tgt := 143) dX5_nextToken_85 (by decide) ?_
          exact p_retV (by decide) (by decide) rfl dX5_nextToken_143 h
      · have h := h.2 b14
        refine p_aload_n dX5_nextToken_58 rfl (q := 0) rfl ?_
        refine p_iconst dX5_nextToken_59 ?_
        refine p_putI (j := 6) G f_RX5_39 rfl rfl rfl (hS 0 (by decide)).1 (nf_k (by decide)) dX5_nextToken_60 ?_
        refine p_gen (fun im14 e15 => ?_)
        have h := h im14 e15
        refine p_goto (tgt := 143) dX5_nextToken_63 (by decide) ?_
        exact p_retV (by decide) (by decide) rfl dX5_nextToken_143 h
    · have h := h.2 b9
      refine p_aload_n dX5_nextToken_26 rfl (q := 0) rfl ?_
      refine p_dup dX5_nextToken_27 rfl ?_
      refine p_getI (j := 5) G f_RX5_33 rfl (hS 0 (by decide)).1 dX5_nextToken_28 (fun c9 => ?_)
      refine p_iconst dX5_nextToken_31 ?_
      refine p_iadd dX5_nextToken_32 ?_
      refine p_putI (j := 5) G f_RX5_33 rfl rfl rfl (hS 0 (by decide)).1 (nf_w _) dX5_nextToken_33 ?_
      refine p_gen (fun im10 e11 => ?_)
      have h := h im10 e11
      refine p_goto (tgt := 0) dX5_nextToken_36 (by decide) ?_
      refine p_sub (lv' := [(0, .ref a)]) [0] rfl ?_
      exact h
set_option maxRecDepth 20000 in
set_option maxHeartbeats 4000000 in
theorem v_X5_nextToken_0 {g : zG} (G : zOK g) {S : zSh} {im : zIm} {a : Nat} {Q : zIm → Prop} (hS : zS_T S a)
    (h : (((im a 0) ≤ (im a 5) → ∀ im4, im4 = zst im a 7 (im a 5) → (((im4 a 5) < (im4 a 0) → ((0 ≤ (im4 a 5) ∧ (im4 a 5) < 500) ∧ zCI g yX5_isLetter M_X5_isLetter [.int (zi (im4 (a + 1) (im4 a 5)))] S im4 (fun r11 im12 => ((r11 = 0 → ((0 ≤ (im12 a 5) ∧ (im12 a 5) < 500) ∧ zCI g yX5_isDigit M_X5_isDigit [.int (zi (im12 (a + 1) (im12 a 5)))] S im12 (fun r17 im18 => ((r17 = 0 → ((0 ≤ (im18 a 5) ∧ (im18 a 5) < 500) ∧ ((¬ (im18 (a + 1) (im18 a 5)) = 59 → ∀ im23, im23 = zst im18 a 6 4 → ∀ im26, im26 = zst im23 a 5 (zw ((im23 a 5) + 1)) → Q im26) ∧ ((im18 (a + 1) (im18 a 5)) = 59 → ∀ im23, im23 = zst im18 a 6 3 → ∀ im26, im26 = zst im23 a 5 (zw ((im23 a 5) + 1)) → Q im26)))) ∧ (¬ r17 = 0 → zCV g yX5_readNumber M_X5_readNumber [.ref a] S im18 (fun im20 => Q im20)))))) ∧ (¬ r11 = 0 → zCV g yX5_readWord M_X5_readWord [.ref a] S im12 (fun im14 => Q im14)))))) ∧ ((im4 a 0) ≤ (im4 a 5) → ∀ im8, im8 = zst im4 a 6 0 → Q im8))) ∧ ((im a 5) < (im a 0) → ((0 ≤ (im a 5) ∧ (im a 5) < 500) ∧ zCI g yX5_isBlank M_X5_isBlank [.int (zi (im (a + 1) (im a 5)))] S im (fun r6 im7 => ((r6 = 0 → ∀ im10, im10 = zst im7 a 7 (im7 a 5) → (((im10 a 5) < (im10 a 0) → ((0 ≤ (im10 a 5) ∧ (im10 a 5) < 500) ∧ zCI g yX5_isLetter M_X5_isLetter [.int (zi (im10 (a + 1) (im10 a 5)))] S im10 (fun r17 im18 => ((r17 = 0 → ((0 ≤ (im18 a 5) ∧ (im18 a 5) < 500) ∧ zCI g yX5_isDigit M_X5_isDigit [.int (zi (im18 (a + 1) (im18 a 5)))] S im18 (fun r23 im24 => ((r23 = 0 → ((0 ≤ (im24 a 5) ∧ (im24 a 5) < 500) ∧ ((¬ (im24 (a + 1) (im24 a 5)) = 59 → ∀ im29, im29 = zst im24 a 6 4 → ∀ im32, im32 = zst im29 a 5 (zw ((im29 a 5) + 1)) → Q im32) ∧ ((im24 (a + 1) (im24 a 5)) = 59 → ∀ im29, im29 = zst im24 a 6 3 → ∀ im32, im32 = zst im29 a 5 (zw ((im29 a 5) + 1)) → Q im32)))) ∧ (¬ r23 = 0 → zCV g yX5_readNumber M_X5_readNumber [.ref a] S im24 (fun im26 => Q im26)))))) ∧ (¬ r17 = 0 → zCV g yX5_readWord M_X5_readWord [.ref a] S im18 (fun im20 => Q im20)))))) ∧ ((im10 a 0) ≤ (im10 a 5) → ∀ im14, im14 = zst im10 a 6 0 → Q im14))) ∧ (¬ r6 = 0 → ∀ im10, im10 = zst im7 a 5 (zw ((im7 a 5) + 1)) → zPV g M_X5_nextToken 0 [(0, .ref a)] S im10 Q))))))) :
    zPV g M_X5_nextToken 0 [(0, .ref a)] S im Q := by
  refine p_aload_n dX5_nextToken_0 rfl (q := 0) rfl ?_
  refine p_getI (j := 5) G f_RX5_33 rfl (hS 0 (by decide)).1 dX5_nextToken_1 (fun c1 => ?_)
  refine p_aload_n dX5_nextToken_4 rfl (q := 0) rfl ?_
  refine p_getI (j := 0) G f_RX5_23 rfl (hS 0 (by decide)).1 dX5_nextToken_5 (fun c2 => ?_)
  refine p_icmp_ge (tgt := 39) dX5_nextToken_8 (by decide) (nf_r c1) (nf_r c2) (fun b3 => ?_) (fun b3 => ?_)
  · have h := h.1 b3
    refine p_aload_n dX5_nextToken_39 rfl (q := 0) rfl ?_
    refine p_aload_n dX5_nextToken_40 rfl (q := 0) rfl ?_
    refine p_getI (j := 5) G f_RX5_33 rfl (hS 0 (by decide)).1 dX5_nextToken_41 (fun c3 => ?_)
    refine p_putI (j := 7) G f_RX5_79 rfl rfl rfl (hS 0 (by decide)).1 (nf_r c3) dX5_nextToken_44 ?_
    refine p_gen (fun im4 e5 => ?_)
    have h := h im4 e5
    refine p_aload_n dX5_nextToken_47 rfl (q := 0) rfl ?_
    refine p_getI (j := 5) G f_RX5_33 rfl (hS 0 (by decide)).1 dX5_nextToken_48 (fun c6 => ?_)
    refine p_aload_n dX5_nextToken_51 rfl (q := 0) rfl ?_
    refine p_getI (j := 0) G f_RX5_23 rfl (hS 0 (by decide)).1 dX5_nextToken_52 (fun c7 => ?_)
    refine p_icmp_lt (tgt := 66) dX5_nextToken_55 (by decide) (nf_r c6) (nf_r c7) (fun b8 => ?_) (fun b8 => ?_)
    · have h := h.1 b8
      refine p_aload_n dX5_nextToken_66 rfl (q := 0) rfl ?_
      refine p_getR (b := (a + 1)) G f_RX5_11 rfl (hS 0 (by decide)).1 ((hS 0 (by decide)).2.2 3 (by decide)) dX5_nextToken_67 ?_
      refine p_aload_n dX5_nextToken_70 rfl (q := 0) rfl ?_
      refine p_getI (j := 5) G f_RX5_33 rfl (hS 0 (by decide)).1 dX5_nextToken_71 (fun c8 => ?_)
      have g10 := h.1
      have h := h.2
      refine p_bald G (hS 1 (by decide)).1 (nf_r c8) g10.1 (zln_lt (hS 1 (by decide)).2.1 g10.2) dX5_nextToken_74 (fun c9 => ?_)
      refine p_SI G k_RX5_164 rfl rfl (Nat.le_of_ble_eq_true rfl) ⟨by decide, by decide⟩ ⟨by decide, by decide⟩ dX5_nextToken_75 h (fun r11 im12 c13 h => ?_)
      refine p_if_eq (tgt := 88) dX5_nextToken_78 (by decide) (nf_r c13) (fun b14 => ?_) (fun b14 => ?_)
      · have h := h.1 b14
        refine p_aload_n dX5_nextToken_88 rfl (q := 0) rfl ?_
        refine p_getR (b := (a + 1)) G f_RX5_11 rfl (hS 0 (by decide)).1 ((hS 0 (by decide)).2.2 3 (by decide)) dX5_nextToken_89 ?_
        refine p_aload_n dX5_nextToken_92 rfl (q := 0) rfl ?_
        refine p_getI (j := 5) G f_RX5_33 rfl (hS 0 (by decide)).1 dX5_nextToken_93 (fun c14 => ?_)
        have g16 := h.1
        have h := h.2
        refine p_bald G (hS 1 (by decide)).1 (nf_r c14) g16.1 (zln_lt (hS 1 (by decide)).2.1 g16.2) dX5_nextToken_96 (fun c15 => ?_)
        refine p_SI G k_RX5_170 rfl rfl (Nat.le_of_ble_eq_true rfl) ⟨by decide, by decide⟩ ⟨by decide, by decide⟩ dX5_nextToken_97 h (fun r17 im18 c19 h => ?_)
        refine p_if_eq (tgt := 110) dX5_nextToken_100 (by decide) (nf_r c19) (fun b20 => ?_) (fun b20 => ?_)
        · have h := h.1 b20
          refine p_aload_n dX5_nextToken_110 rfl (q := 0) rfl ?_
          refine p_aload_n dX5_nextToken_111 rfl (q := 0) rfl ?_
          refine p_getR (b := (a + 1)) G f_RX5_11 rfl (hS 0 (by decide)).1 ((hS 0 (by decide)).2.2 3 (by decide)) dX5_nextToken_112 ?_
          refine p_aload_n dX5_nextToken_115 rfl (q := 0) rfl ?_
          refine p_getI (j := 5) G f_RX5_33 rfl (hS 0 (by decide)).1 dX5_nextToken_116 (fun c20 => ?_)
          have g22 := h.1
          have h := h.2
          refine p_bald G (hS 1 (by decide)).1 (nf_r c20) g22.1 (zln_lt (hS 1 (by decide)).2.1 g22.2) dX5_nextToken_119 (fun c21 => ?_)
          refine p_bipush dX5_nextToken_120 (by decide) ?_
          refine p_icmp_ne (tgt := 129) dX5_nextToken_122 (by decide) (nf_r (zc_of (by omega) (by omega))) (nf_k (by decide)) (fun b23 => ?_) (fun b23 => ?_)
          · have h := h.1 b23
            refine p_iconst dX5_nextToken_129 ?_
            refine p_putI (j := 6) G f_RX5_39 rfl rfl rfl (hS 0 (by decide)).1 (nf_k (by decide)) dX5_nextToken_130 ?_
            refine p_gen (fun im23 e24 => ?_)
            have h := h im23 e24
            refine p_aload_n dX5_nextToken_133 rfl (q := 0) rfl ?_
            refine p_dup dX5_nextToken_134 rfl ?_
            refine p_getI (j := 5) G f_RX5_33 rfl (hS 0 (by decide)).1 dX5_nextToken_135 (fun c25 => ?_)
            refine p_iconst dX5_nextToken_138 ?_
            refine p_iadd dX5_nextToken_139 ?_
            refine p_putI (j := 5) G f_RX5_33 rfl rfl rfl (hS 0 (by decide)).1 (nf_w _) dX5_nextToken_140 ?_
            refine p_gen (fun im26 e27 => ?_)
            have h := h im26 e27
            exact p_retV (by decide) (by decide) rfl dX5_nextToken_143 h
          · have h := h.2 b23
            refine p_iconst dX5_nextToken_125 ?_
            refine p_goto (tgt := 130) dX5_nextToken_126 (by decide) ?_
            refine p_putI (j := 6) G f_RX5_39 rfl rfl rfl (hS 0 (by decide)).1 (nf_k (by decide)) dX5_nextToken_130 ?_
            refine p_gen (fun im23 e24 => ?_)
            have h := h im23 e24
            refine p_aload_n dX5_nextToken_133 rfl (q := 0) rfl ?_
            refine p_dup dX5_nextToken_134 rfl ?_
            refine p_getI (j := 5) G f_RX5_33 rfl (hS 0 (by decide)).1 dX5_nextToken_135 (fun c25 => ?_)
            refine p_iconst dX5_nextToken_138 ?_
            refine p_iadd dX5_nextToken_139 ?_
            refine p_putI (j := 5) G f_RX5_33 rfl rfl rfl (hS 0 (by decide)).1 (nf_w _) dX5_nextToken_140 ?_
            refine p_gen (fun im26 e27 => ?_)
            have h := h im26 e27
            exact p_retV (by decide) (by decide) rfl dX5_nextToken_143 h
        · have h := h.2 b20
          refine p_aload_n dX5_nextToken_103 rfl (q := 0) rfl ?_
          refine p_VV G k_RX5_173 (by decide) (hS 0 (by decide)).1 rfl rfl (Nat.le_of_ble_eq_true rfl) ⟨by decide, by decide⟩ ⟨by decide, by decide⟩ dX5_nextToken_104 h (fun im20 h => ?_)
          refine p_goto (tgt := 143) dX5_nextToken_107 (by decide) ?_
          exact p_retV (by decide) (by decide) rfl dX5_nextToken_143 h
      · have h := h.2 b14
        refine p_aload_n dX5_nextToken_81 rfl (q := 0) rfl ?_
        refine p_VV G k_RX5_167 (by decide) (hS 0 (by decide)).1 rfl rfl (Nat.le_of_ble_eq_true rfl) ⟨by decide, by decide⟩ ⟨by decide, by decide⟩ dX5_nextToken_82 h (fun im14 h => ?_)
        refine p_goto (tgt := 143) dX5_nextToken_85 (by decide) ?_
        exact p_retV (by decide) (by decide) rfl dX5_nextToken_143 h
    · have h := h.2 b8
      refine p_aload_n dX5_nextToken_58 rfl (q := 0) rfl ?_
      refine p_iconst dX5_nextToken_59 ?_
      refine p_putI (j := 6) G f_RX5_39 rfl rfl rfl (hS 0 (by decide)).1 (nf_k (by decide)) dX5_nextToken_60 ?_
      refine p_gen (fun im8 e9 => ?_)
      have h := h im8 e9
      refine p_goto (tgt := 143) dX5_nextToken_63 (by decide) ?_
      exact p_retV (by decide) (by decide) rfl dX5_nextToken_143 h
  · have h := h.2 b3
    refine p_aload_n dX5_nextToken_11 rfl (q := 0) rfl ?_
    refine p_getR (b := (a + 1)) G f_RX5_11 rfl (hS 0 (by decide)).1 ((hS 0 (by decide)).2.2 3 (by decide)) dX5_nextToken_12 ?_
    refine p_aload_n dX5_nextToken_15 rfl (q := 0) rfl ?_
    refine p_getI (j := 5) G f_RX5_33 rfl (hS 0 (by decide)).1 dX5_nextToken_16 (fun c3 => ?_)
    have g5 := h.1
    have h := h.2
    refine p_bald G (hS 1 (by decide)).1 (nf_r c3) g5.1 (zln_lt (hS 1 (by decide)).2.1 g5.2) dX5_nextToken_19 (fun c4 => ?_)
    refine p_SI G k_RX5_161 rfl rfl (Nat.le_of_ble_eq_true rfl) ⟨by decide, by decide⟩ ⟨by decide, by decide⟩ dX5_nextToken_20 h (fun r6 im7 c8 h => ?_)
    refine p_if_eq (tgt := 39) dX5_nextToken_23 (by decide) (nf_r c8) (fun b9 => ?_) (fun b9 => ?_)
    · have h := h.1 b9
      refine p_aload_n dX5_nextToken_39 rfl (q := 0) rfl ?_
      refine p_aload_n dX5_nextToken_40 rfl (q := 0) rfl ?_
      refine p_getI (j := 5) G f_RX5_33 rfl (hS 0 (by decide)).1 dX5_nextToken_41 (fun c9 => ?_)
      refine p_putI (j := 7) G f_RX5_79 rfl rfl rfl (hS 0 (by decide)).1 (nf_r c9) dX5_nextToken_44 ?_
      refine p_gen (fun im10 e11 => ?_)
      have h := h im10 e11
      refine p_aload_n dX5_nextToken_47 rfl (q := 0) rfl ?_
      refine p_getI (j := 5) G f_RX5_33 rfl (hS 0 (by decide)).1 dX5_nextToken_48 (fun c12 => ?_)
      refine p_aload_n dX5_nextToken_51 rfl (q := 0) rfl ?_
      refine p_getI (j := 0) G f_RX5_23 rfl (hS 0 (by decide)).1 dX5_nextToken_52 (fun c13 => ?_)
      refine p_icmp_lt (tgt := 66) dX5_nextToken_55 (by decide) (nf_r c12) (nf_r c13) (fun b14 => ?_) (fun b14 => ?_)
      · have h := h.1 b14
        refine p_aload_n dX5_nextToken_66 rfl (q := 0) rfl ?_
        refine p_getR (b := (a + 1)) G f_RX5_11 rfl (hS 0 (by decide)).1 ((hS 0 (by decide)).2.2 3 (by decide)) dX5_nextToken_67 ?_
        refine p_aload_n dX5_nextToken_70 rfl (q := 0) rfl ?_
        refine p_getI (j := 5) G f_RX5_33 rfl (hS 0 (by decide)).1 dX5_nextToken_71 (fun c14 => ?_)
        have g16 := h.1
        have h := h.2
        refine p_bald G (hS 1 (by decide)).1 (nf_r c14) g16.1 (zln_lt (hS 1 (by decide)).2.1 g16.2) dX5_nextToken_74 (fun c15 => ?_)
        refine p_SI G k_RX5_164 rfl rfl (Nat.le_of_ble_eq_true rfl) ⟨by decide, by decide⟩ ⟨by decide, by decide⟩ dX5_nextToken_75 h (fun r17 im18 c19 h => ?_)
        refine p_if_eq (tgt := 88) dX5_nextToken_78 (by decide) (nf_r c19) (fun b20 => ?_) (fun b20 => ?_)
        · have h := h.1 b20
          refine p_aload_n dX5_nextToken_88 rfl (q := 0) rfl ?_
          refine p_getR (b := (a + 1)) G f_RX5_11 rfl (hS 0 (by decide)).1 ((hS 0 (by decide)).2.2 3 (by decide)) dX5_nextToken_89 ?_
          refine p_aload_n dX5_nextToken_92 rfl (q := 0) rfl ?_
          refine p_getI (j := 5) G f_RX5_33 rfl (hS 0 (by decide)).1 dX5_nextToken_93 (fun c20 => ?_)
          have g22 := h.1
          have h := h.2
          refine p_bald G (hS 1 (by decide)).1 (nf_r c20) g22.1 (zln_lt (hS 1 (by decide)).2.1 g22.2) dX5_nextToken_96 (fun c21 => ?_)
          refine p_SI G k_RX5_170 rfl rfl (Nat.le_of_ble_eq_true rfl) ⟨by decide, by decide⟩ ⟨by decide, by decide⟩ dX5_nextToken_97 h (fun r23 im24 c25 h => ?_)
          refine p_if_eq (tgt := 110) dX5_nextToken_100 (by decide) (nf_r c25) (fun b26 => ?_) (fun b26 => ?_)
          · have h := h.1 b26
            refine p_aload_n dX5_nextToken_110 rfl (q := 0) rfl ?_
            refine p_aload_n dX5_nextToken_111 rfl (q := 0) rfl ?_
            refine p_getR (b := (a + 1)) G f_RX5_11 rfl (hS 0 (by decide)).1 ((hS 0 (by decide)).2.2 3 (by decide)) dX5_nextToken_112 ?_
            refine p_aload_n dX5_nextToken_115 rfl (q := 0) rfl ?_
            refine p_getI (j := 5) G f_RX5_33 rfl (hS 0 (by decide)).1 dX5_nextToken_116 (fun c26 => ?_)
            have g28 := h.1
            have h := h.2
            refine p_bald G (hS 1 (by decide)).1 (nf_r c26) g28.1 (zln_lt (hS 1 (by decide)).2.1 g28.2) dX5_nextToken_119 (fun c27 => ?_)
            refine p_bipush dX5_nextToken_120 (by decide) ?_
            refine p_icmp_ne (tgt := 129) dX5_nextToken_122 (by decide) (nf_r (zc_of (by omega) (by omega))) (nf_k (by decide)) (fun b29 => ?_) (fun b29 => ?_)
            · have h := h.1 b29
              refine p_iconst dX5_nextToken_129 ?_
              refine p_putI (j := 6) G f_RX5_39 rfl rfl rfl (hS 0 (by decide)).1 (nf_k (by decide)) dX5_nextToken_130 ?_
              refine p_gen (fun im29 e30 => ?_)
              have h := h im29 e30
              refine p_aload_n dX5_nextToken_133 rfl (q := 0) rfl ?_
              refine p_dup dX5_nextToken_134 rfl ?_
              refine p_getI (j := 5) G f_RX5_33 rfl (hS 0 (by decide)).1 dX5_nextToken_135 (fun c31 => ?_)
              refine p_iconst dX5_nextToken_138 ?_
              refine p_iadd dX5_nextToken_139 ?_
              refine p_putI (j := 5) G f_RX5_33 rfl rfl rfl (hS 0 (by decide)).1 (nf_w _) dX5_nextToken_140 ?_
              refine p_gen (fun im32 e33 => ?_)
              have h := h im32 e33
              exact p_retV (by decide) (by decide) rfl dX5_nextToken_143 h
            · have h := h.2 b29
              refine p_iconst dX5_nextToken_125 ?_
              refine p_goto (tgt := 130) dX5_nextToken_126 (by decide) ?_
              refine p_putI (j := 6) G f_RX5_39 rfl rfl rfl (hS 0 (by decide)).1 (nf_k (by decide)) dX5_nextToken_130 ?_
              refine p_gen (fun im29 e30 => ?_)
              have h := h im29 e30
              refine p_aload_n dX5_nextToken_133 rfl (q := 0) rfl ?_
              refine p_dup dX5_nextToken_134 rfl ?_
              refine p_getI (j := 5) G f_RX5_33 rfl (hS 0 (by decide)).1 dX5_nextToken_135 (fun c31 => ?_)
              refine p_iconst dX5_nextToken_138 ?_
              refine p_iadd dX5_nextToken_139 ?_
              refine p_putI (j := 5) G f_RX5_33 rfl rfl rfl (hS 0 (by decide)).1 (nf_w _) dX5_nextToken_140 ?_
              refine p_gen (fun im32 e33 => ?_)
              have h := h im32 e33
              exact p_retV (by decide) (by decide) rfl dX5_nextToken_143 h
          · have h := h.2 b26
            refine p_aload_n dX5_nextToken_103 rfl (q := 0) rfl ?_
            refine p_VV G k_RX5_173 (by decide) (hS 0 (by decide)).1 rfl rfl (Nat.le_of_ble_eq_true rfl) ⟨by decide, by decide⟩ ⟨by decide, by decide⟩ dX5_nextToken_104 h (fun im26 h => ?_)
            refine p_goto (tgt := 143) dX5_nextToken_107 (by decide) ?_
            exact p_retV (by decide) (by decide) rfl dX5_nextToken_143 h
        · have h := h.2 b20
          refine p_aload_n dX5_nextToken_81 rfl (q := 0) rfl ?_
          refine p_VV G k_RX5_167 (by decide) (hS 0 (by decide)).1 rfl rfl (Nat.le_of_ble_eq_true rfl) ⟨by decide, by decide⟩ ⟨by decide, by decide⟩ dX5_nextToken_82 h (fun im20 h => ?_)
          refine p_goto (tgt := 143) dX5_nextToken_85 (by decide) ?_
          exact p_retV (by decide) (by decide) rfl dX5_nextToken_143 h
      · have h := h.2 b14
        refine p_aload_n dX5_nextToken_58 rfl (q := 0) rfl ?_
        refine p_iconst dX5_nextToken_59 ?_
        refine p_putI (j := 6) G f_RX5_39 rfl rfl rfl (hS 0 (by decide)).1 (nf_k (by decide)) dX5_nextToken_60 ?_
        refine p_gen (fun im14 e15 => ?_)
        have h := h im14 e15
        refine p_goto (tgt := 143) dX5_nextToken_63 (by decide) ?_
        exact p_retV (by decide) (by decide) rfl dX5_nextToken_143 h
    · have h := h.2 b9
      refine p_aload_n dX5_nextToken_26 rfl (q := 0) rfl ?_
      refine p_dup dX5_nextToken_27 rfl ?_
      refine p_getI (j := 5) G f_RX5_33 rfl (hS 0 (by decide)).1 dX5_nextToken_28 (fun c9 => ?_)
      refine p_iconst dX5_nextToken_31 ?_
      refine p_iadd dX5_nextToken_32 ?_
      refine p_putI (j := 5) G f_RX5_33 rfl rfl rfl (hS 0 (by decide)).1 (nf_w _) dX5_nextToken_33 ?_
      refine p_gen (fun im10 e11 => ?_)
      have h := h im10 e11
      refine p_goto (tgt := 0) dX5_nextToken_36 (by decide) ?_
      refine p_sub (lv' := [(0, .ref a)]) [0] rfl ?_
      exact h
set_option maxRecDepth 20000 in
set_option maxHeartbeats 4000000 in
theorem v_X5_wordIs {g : zG} (G : zOK g) {S : zSh} {im : zIm} {a : Nat} {p1 : Nat} {b_p1 : List Int} {Q : Int → zIm → Prop} (hS : zS_T S a) (h_p1 : zStrAt g p1 b_p1) (l_p1 : b_p1.length < 2147483648) (a_p1 : ∀ b ∈ b_p1, 0 ≤ b ∧ b < 128)
    (h : (((zw ((im a 5) - (im a 7))) = (b_p1.length : Int) → zPI g M_X5_wordIs 20 [(0, .ref a), (1, .ref p1), (2, .int (zi 0))] S im Q) ∧ (¬ (zw ((im a 5) - (im a 7))) = (b_p1.length : Int) → Q 0 im))) :
    zCI g yX5_wordIs M_X5_wordIs [.ref a, .ref p1] S im Q := by
  refine zC_of (by decide) rfl rfl rfl rfl (Nat.le_of_ble_eq_true rfl) ?_
  refine p_aload_n dX5_wordIs_0 rfl (q := 0) rfl ?_
  refine p_getI (j := 5) G f_RX5_33 rfl (hS 0 (by decide)).1 dX5_wordIs_1 (fun c1 => ?_)
  refine p_aload_n dX5_wordIs_4 rfl (q := 0) rfl ?_
  refine p_getI (j := 7) G f_RX5_79 rfl (hS 0 (by decide)).1 dX5_wordIs_5 (fun c2 => ?_)
  refine p_isub dX5_wordIs_8 ?_
  refine p_aload_n dX5_wordIs_9 rfl (q := 1) rfl ?_
  refine p_slen G h_p1 l_p1 ks_RX5_102 (Nat.le_of_ble_eq_true rfl) ⟨by decide, by decide⟩ ⟨by decide, by decide⟩ dX5_wordIs_10 ?_
  refine p_icmp_eq (tgt := 18) dX5_wordIs_13 (by decide) (nf_w _) (nf_r (zc_of (by omega) (by omega))) (fun b3 => ?_) (fun b3 => ?_)
  · have h := h.1 b3
    refine p_iconst dX5_wordIs_18 ?_
    refine p_istore_n (lv' := [(2, .int (zi 0)), (0, .ref a), (1, .ref p1)]) dX5_wordIs_19 rfl (by decide) rfl ?_
    refine p_sub (lv' := [(0, .ref a), (1, .ref p1), (2, .int (zi 0))]) [1, 2, 0] rfl ?_
    exact h
  · have h := h.2 b3
    refine p_iconst dX5_wordIs_16 ?_
    exact p_zretI (by decide) (by decide) rfl (nf_k (by decide)) (by decide) dX5_wordIs_17 h
set_option maxRecDepth 20000 in
set_option maxHeartbeats 4000000 in
theorem v_X5_wordIs_20 {g : zG} (G : zOK g) {S : zSh} {im : zIm} {a : Nat} {p1 : Nat} {b_p1 : List Int} {x2 : Int} {Q : Int → zIm → Prop} (hS : zS_T S a) (h_p1 : zStrAt g p1 b_p1) (l_p1 : b_p1.length < 2147483648) (a_p1 : ∀ b ∈ b_p1, 0 ≤ b ∧ b < 128) (c_x2 : zc x2)
    (h : (((b_p1.length : Int) ≤ x2 → Q 1 im) ∧ (x2 < (b_p1.length : Int) → ((0 ≤ (zw ((im a 7) + x2)) ∧ (zw ((im a 7) + x2)) < 500) ∧ ((0 ≤ x2 ∧ x2 < b_p1.length) ∧ (((im (a + 1) (zw ((im a 7) + x2))) = (b_p1.getD (x2).toNat 0) → zPI g M_X5_wordIs 20 [(0, .ref a), (1, .ref p1), (2, .int (zi (zw (x2 + 1))))] S im Q) ∧ (¬ (im (a + 1) (zw ((im a 7) + x2))) = (b_p1.getD (x2).toNat 0) → Q 0 im))))))) :
    zPI g M_X5_wordIs 20 [(0, .ref a), (1, .ref p1), (2, .int (zi x2))] S im Q := by
  refine p_iload_n dX5_wordIs_20 rfl (q := 2) rfl ?_
  refine p_aload_n dX5_wordIs_21 rfl (q := 1) rfl ?_
  refine p_slen G h_p1 l_p1 ks_RX5_102 (Nat.le_of_ble_eq_true rfl) ⟨by decide, by decide⟩ ⟨by decide, by decide⟩ dX5_wordIs_22 ?_
  refine p_icmp_ge (tgt := 55) dX5_wordIs_25 (by decide) (nf_r c_x2) (nf_r (zc_of (by omega) (by omega))) (fun b1 => ?_) (fun b1 => ?_)
  · have h := h.1 b1
    refine p_iconst dX5_wordIs_55 ?_
    exact p_zretI (by decide) (by decide) rfl (nf_k (by decide)) (by decide) dX5_wordIs_56 h
  · have h := h.2 b1
    refine p_aload_n dX5_wordIs_28 rfl (q := 0) rfl ?_
    refine p_getR (b := (a + 1)) G f_RX5_11 rfl (hS 0 (by decide)).1 ((hS 0 (by decide)).2.2 3 (by decide)) dX5_wordIs_29 ?_
    refine p_aload_n dX5_wordIs_32 rfl (q := 0) rfl ?_
    refine p_getI (j := 7) G f_RX5_79 rfl (hS 0 (by decide)).1 dX5_wordIs_33 (fun c1 => ?_)
    refine p_iload_n dX5_wordIs_36 rfl (q := 2) rfl ?_
    refine p_iadd dX5_wordIs_37 ?_
    have g3 := h.1
    have h := h.2
    refine p_bald G (hS 1 (by decide)).1 (nf_w _) g3.1 (zln_lt (hS 1 (by decide)).2.1 g3.2) dX5_wordIs_38 (fun c2 => ?_)
    refine p_aload_n dX5_wordIs_39 rfl (q := 1) rfl ?_
    refine p_iload_n dX5_wordIs_40 rfl (q := 2) rfl ?_
    refine p_schar G h_p1 l_p1 a_p1 ks_RX5_106 (nf_r c_x2) h.1.1 h.1.2 (Nat.le_of_ble_eq_true rfl) ⟨by decide, by decide⟩ ⟨by decide, by decide⟩ dX5_wordIs_41 (fun c4 => ?_)
    have h := h.2
    refine p_icmp_eq (tgt := 49) dX5_wordIs_44 (by decide) (nf_r (zc_of (by omega) (by omega))) (nf_r c4) (fun b5 => ?_) (fun b5 => ?_)
    · have h := h.1 b5
      refine p_iinc (q := 2) (lv' := [(2, .int (zi (x2 + 1))), (0, .ref a), (1, .ref p1)]) dX5_wordIs_49 rfl (by decide) rfl ?_
      refine p_goto (tgt := 20) dX5_wordIs_52 (by decide) ?_
      refine p_sub (lv' := [(0, .ref a), (1, .ref p1), (2, .int (zi (zw (x2 + 1))))]) [1, 2, 0] (by simp only [zi_zw, zl_zwl]; rfl) ?_
      exact h
    · have h := h.2 b5
      refine p_iconst dX5_wordIs_47 ?_
      exact p_zretI (by decide) (by decide) rfl (nf_k (by decide)) (by decide) dX5_wordIs_48 h
set_option maxRecDepth 20000 in
set_option maxHeartbeats 4000000 in
theorem v_X5_findStatement {g : zG} (G : zOK g) {S : zSh} {im : zIm} {a : Nat} {Q : Int → zIm → Prop} (hS : zS_T S a)
    (h : (((im a 6) = 1 → ∀ w2, zStrAt g w2 [105, 116, 101, 109] → zCI g yX5_wordIs M_X5_wordIs [.ref a, .ref w2] S im (fun r4 im5 => ((r4 = 0 → ∀ w7, zStrAt g w7 [98, 97, 115, 101] → zCI g yX5_wordIs M_X5_wordIs [.ref a, .ref w7] S im5 (fun r9 im10 => ((r9 = 0 → ∀ w12, zStrAt g w12 [108, 101, 118, 101, 108] → zCI g yX5_wordIs M_X5_wordIs [.ref a, .ref w12] S im10 (fun r14 im15 => ((r14 = 0 → ∀ w17, zStrAt g w17 [108, 105, 110, 107] → zCI g yX5_wordIs M_X5_wordIs [.ref a, .ref w17] S im15 (fun r19 im20 => ((r19 = 0 → ∀ w22, zStrAt g w22 [115, 104, 97, 114, 101] → zCI g yX5_wordIs M_X5_wordIs [.ref a, .ref w22] S im20 (fun r24 im25 => ((r24 = 0 → ∀ w27, zStrAt g w27 [114, 101, 115, 101, 114, 118, 101] → zCI g yX5_wordIs M_X5_wordIs [.ref a, .ref w27] S im25 (fun r29 im30 => ((r29 = 0 → ∀ w32, zStrAt g w32 [114, 97, 116, 101] → zCI g yX5_wordIs M_X5_wordIs [.ref a, .ref w32] S im30 (fun r34 im35 => ((r34 = 0 → ∀ w37, zStrAt g w37 [108, 105, 109, 105, 116] → zCI g yX5_wordIs M_X5_wordIs [.ref a, .ref w37] S im35 (fun r39 im40 => ((r39 = 0 → Q (-1) im40) ∧ (¬ r39 = 0 → Q 7 im40)))) ∧ (¬ r34 = 0 → Q 6 im35)))) ∧ (¬ r29 = 0 → Q 5 im30)))) ∧ (¬ r24 = 0 → Q 4 im25)))) ∧ (¬ r19 = 0 → Q 3 im20)))) ∧ (¬ r14 = 0 → Q 2 im15)))) ∧ (¬ r9 = 0 → Q 1 im10)))) ∧ (¬ r4 = 0 → Q 0 im5)))) ∧ (¬ (im a 6) = 1 → Q (-1) im))) :
    zCI g yX5_findStatement M_X5_findStatement [.ref a] S im Q := by
  refine zC_of (by decide) rfl rfl rfl rfl (Nat.le_of_ble_eq_true rfl) ?_
  refine p_aload_n dX5_findStatement_0 rfl (q := 0) rfl ?_
  refine p_getI (j := 6) G f_RX5_39 rfl (hS 0 (by decide)).1 dX5_findStatement_1 (fun c1 => ?_)
  refine p_iconst dX5_findStatement_4 ?_
  refine p_icmp_eq (tgt := 10) dX5_findStatement_5 (by decide) (nf_r c1) (nf_k (by decide)) (fun b2 => ?_) (fun b2 => ?_)
  · have h := h.1 b2
    refine p_aload_n dX5_findStatement_10 rfl (q := 0) rfl ?_
    refine p_ldcS G (tx := "item") (bs := [105, 116, 101, 109]) (by decide +kernel) dX5_findStatement_11 (fun w2 z3 => ?_)
    have h := h w2 z3
    refine p_VI G k_RX5_84 (by decide) (hS 0 (by decide)).1 rfl rfl (Nat.le_of_ble_eq_true rfl) ⟨by decide, by decide⟩ ⟨by decide, by decide⟩ dX5_findStatement_13 h (fun r4 im5 c6 h => ?_)
    refine p_if_eq (tgt := 21) dX5_findStatement_16 (by decide) (nf_r c6) (fun b7 => ?_) (fun b7 => ?_)
    · have h := h.1 b7
      refine p_aload_n dX5_findStatement_21 rfl (q := 0) rfl ?_
      refine p_ldcS G (tx := "base") (bs := [98, 97, 115, 101]) (by decide +kernel) dX5_findStatement_22 (fun w7 z8 => ?_)
      have h := h w7 z8
      refine p_VI G k_RX5_84 (by decide) (hS 0 (by decide)).1 rfl rfl (Nat.le_of_ble_eq_true rfl) ⟨by decide, by decide⟩ ⟨by decide, by decide⟩ dX5_findStatement_24 h (fun r9 im10 c11 h => ?_)
      refine p_if_eq (tgt := 32) dX5_findStatement_27 (by decide) (nf_r c11) (fun b12 => ?_) (fun b12 => ?_)
      · have h := h.1 b12
        refine p_aload_n dX5_findStatement_32 rfl (q := 0) rfl ?_
        refine p_ldcS G (tx := "level") (bs := [108, 101, 118, 101, 108]) (by decide +kernel) dX5_findStatement_33 (fun w12 z13 => ?_)
        have h := h w12 z13
        refine p_VI G k_RX5_84 (by decide) (hS 0 (by decide)).1 rfl rfl (Nat.le_of_ble_eq_true rfl) ⟨by decide, by decide⟩ ⟨by decide, by decide⟩ dX5_findStatement_35 h (fun r14 im15 c16 h => ?_)
        refine p_if_eq (tgt := 43) dX5_findStatement_38 (by decide) (nf_r c16) (fun b17 => ?_) (fun b17 => ?_)
        · have h := h.1 b17
          refine p_aload_n dX5_findStatement_43 rfl (q := 0) rfl ?_
          refine p_ldcS G (tx := "link") (bs := [108, 105, 110, 107]) (by decide +kernel) dX5_findStatement_44 (fun w17 z18 => ?_)
          have h := h w17 z18
          refine p_VI G k_RX5_84 (by decide) (hS 0 (by decide)).1 rfl rfl (Nat.le_of_ble_eq_true rfl) ⟨by decide, by decide⟩ ⟨by decide, by decide⟩ dX5_findStatement_46 h (fun r19 im20 c21 h => ?_)
          refine p_if_eq (tgt := 54) dX5_findStatement_49 (by decide) (nf_r c21) (fun b22 => ?_) (fun b22 => ?_)
          · have h := h.1 b22
            refine p_aload_n dX5_findStatement_54 rfl (q := 0) rfl ?_
            refine p_ldcS G (tx := "share") (bs := [115, 104, 97, 114, 101]) (by decide +kernel) dX5_findStatement_55 (fun w22 z23 => ?_)
            have h := h w22 z23
            refine p_VI G k_RX5_84 (by decide) (hS 0 (by decide)).1 rfl rfl (Nat.le_of_ble_eq_true rfl) ⟨by decide, by decide⟩ ⟨by decide, by decide⟩ dX5_findStatement_57 h (fun r24 im25 c26 h => ?_)
            refine p_if_eq (tgt := 65) dX5_findStatement_60 (by decide) (nf_r c26) (fun b27 => ?_) (fun b27 => ?_)
            · have h := h.1 b27
              refine p_aload_n dX5_findStatement_65 rfl (q := 0) rfl ?_
              refine p_ldcS G (tx := "reserve") (bs := [114, 101, 115, 101, 114, 118, 101]) (by decide +kernel) dX5_findStatement_66 (fun w27 z28 => ?_)
              have h := h w27 z28
              refine p_VI G k_RX5_84 (by decide) (hS 0 (by decide)).1 rfl rfl (Nat.le_of_ble_eq_true rfl) ⟨by decide, by decide⟩ ⟨by decide, by decide⟩ dX5_findStatement_68 h (fun r29 im30 c31 h => ?_)
              refine p_if_eq (tgt := 76) dX5_findStatement_71 (by decide) (nf_r c31) (fun b32 => ?_) (fun b32 => ?_)
              · have h := h.1 b32
                refine p_aload_n dX5_findStatement_76 rfl (q := 0) rfl ?_
                refine p_ldcS G (tx := "rate") (bs := [114, 97, 116, 101]) (by decide +kernel) dX5_findStatement_77 (fun w32 z33 => ?_)
                have h := h w32 z33
                refine p_VI G k_RX5_84 (by decide) (hS 0 (by decide)).1 rfl rfl (Nat.le_of_ble_eq_true rfl) ⟨by decide, by decide⟩ ⟨by decide, by decide⟩ dX5_findStatement_79 h (fun r34 im35 c36 h => ?_)
                refine p_if_eq (tgt := 88) dX5_findStatement_82 (by decide) (nf_r c36) (fun b37 => ?_) (fun b37 => ?_)
                · have h := h.1 b37
                  refine p_aload_n dX5_findStatement_88 rfl (q := 0) rfl ?_
                  refine p_ldcS G (tx := "limit") (bs := [108, 105, 109, 105, 116]) (by decide +kernel) dX5_findStatement_89 (fun w37 z38 => ?_)
                  have h := h w37 z38
                  refine p_VI G k_RX5_84 (by decide) (hS 0 (by decide)).1 rfl rfl (Nat.le_of_ble_eq_true rfl) ⟨by decide, by decide⟩ ⟨by decide, by decide⟩ dX5_findStatement_91 h (fun r39 im40 c41 h => ?_)
                  refine p_if_eq (tgt := 100) dX5_findStatement_94 (by decide) (nf_r c41) (fun b42 => ?_) (fun b42 => ?_)
                  · have h := h.1 b42
                    refine p_iconst dX5_findStatement_100 ?_
                    exact p_iretI (by decide) (by decide) rfl (nf_k (by decide)) dX5_findStatement_101 h
                  · have h := h.2 b42
                    refine p_bipush dX5_findStatement_97 (by decide) ?_
                    exact p_iretI (by decide) (by decide) rfl (nf_k (by decide)) dX5_findStatement_99 h
                · have h := h.2 b37
                  refine p_bipush dX5_findStatement_85 (by decide) ?_
                  exact p_iretI (by decide) (by decide) rfl (nf_k (by decide)) dX5_findStatement_87 h
              · have h := h.2 b32
                refine p_iconst dX5_findStatement_74 ?_
                exact p_iretI (by decide) (by decide) rfl (nf_k (by decide)) dX5_findStatement_75 h
            · have h := h.2 b27
              refine p_iconst dX5_findStatement_63 ?_
              exact p_iretI (by decide) (by decide) rfl (nf_k (by decide)) dX5_findStatement_64 h
          · have h := h.2 b22
            refine p_iconst dX5_findStatement_52 ?_
            exact p_iretI (by decide) (by decide) rfl (nf_k (by decide)) dX5_findStatement_53 h
        · have h := h.2 b17
          refine p_iconst dX5_findStatement_41 ?_
          exact p_iretI (by decide) (by decide) rfl (nf_k (by decide)) dX5_findStatement_42 h
      · have h := h.2 b12
        refine p_iconst dX5_findStatement_30 ?_
        exact p_iretI (by decide) (by decide) rfl (nf_k (by decide)) dX5_findStatement_31 h
    · have h := h.2 b7
      refine p_iconst dX5_findStatement_19 ?_
      exact p_iretI (by decide) (by decide) rfl (nf_k (by decide)) dX5_findStatement_20 h
  · have h := h.2 b2
    refine p_iconst dX5_findStatement_8 ?_
    exact p_iretI (by decide) (by decide) rfl (nf_k (by decide)) dX5_findStatement_9 h
set_option maxRecDepth 20000 in
set_option maxHeartbeats 4000000 in
theorem v_X5_fail {g : zG} (G : zOK g) {S : zSh} {im : zIm} {a : Nat} {p1 : Int} {Q : Int → zIm → Prop} (hS : zS_T S a) (c_p1 : zc p1)
    (h : ∀ im1, im1 = zst im a 1 p1 → ∀ im4, im4 = zst im1 a 2 (im1 a 7) → Q (-1) im4) :
    zCI g yX5_fail M_X5_fail [.ref a, .int (zi p1)] S im Q := by
  refine zC_of (by decide) rfl rfl rfl rfl (Nat.le_of_ble_eq_true rfl) ?_
  refine p_aload_n dX5_fail_0 rfl (q := 0) rfl ?_
  refine p_iload_n dX5_fail_1 rfl (q := 1) rfl ?_
  refine p_putI (j := 1) G f_RX5_30 rfl rfl rfl (hS 0 (by decide)).1 (nf_r c_p1) dX5_fail_2 ?_
  refine p_gen (fun im1 e2 => ?_)
  have h := h im1 e2
  refine p_aload_n dX5_fail_5 rfl (q := 0) rfl ?_
  refine p_aload_n dX5_fail_6 rfl (q := 0) rfl ?_
  refine p_getI (j := 7) G f_RX5_79 rfl (hS 0 (by decide)).1 dX5_fail_7 (fun c3 => ?_)
  refine p_putI (j := 2) G f_RX5_19 rfl rfl rfl (hS 0 (by decide)).1 (nf_r c3) dX5_fail_10 ?_
  refine p_gen (fun im4 e5 => ?_)
  have h := h im4 e5
  refine p_iconst dX5_fail_13 ?_
  exact p_iretI (by decide) (by decide) rfl (nf_k (by decide)) dX5_fail_14 h
set_option maxRecDepth 20000 in
set_option maxHeartbeats 4000000 in
theorem v_X5_isLinkArgument {g : zG} (G : zOK g) {S : zSh} {im : zIm} {a : Nat} {p1 : Int} {p2 : Nat} {Q : Int → zIm → Prop} (hS : zS_T S a) (c_p1 : zc p1) (h_p2 : zS_S S p2)
    (h : ((¬ p1 = 2 → zCI g yX4_isBase M_X4_isBase [.ref p2, .int (zi (im a 8))] S im (fun r2 im3 => ((r2 = 0 → Q 0 im3) ∧ (¬ r2 = 0 → ((p1 = 0 → Q 1 im3) ∧ (¬ p1 = 0 → (((im3 a 8) = (im3 (a + 2) 0) → Q 0 im3) ∧ (¬ (im3 a 8) = (im3 (a + 2) 0) → Q 1 im3)))))))) ∧ (p1 = 2 → zCI g yX7_within M_X7_within [.int (zi (im a 8)), .int (zi 1), .int (zi 20)] S im (fun r2 im3 => ((r2 = 0 ∨ r2 = 1) ∧ Q r2 im3))))) :
    zCI g yX5_isLinkArgument M_X5_isLinkArgument [.ref a, .int (zi p1), .ref p2] S im Q := by
  refine zC_of (by decide) rfl rfl rfl rfl (Nat.le_of_ble_eq_true rfl) ?_
  refine p_iload_n dX5_isLinkArgument_0 rfl (q := 1) rfl ?_
  refine p_iconst dX5_isLinkArgument_1 ?_
  refine p_icmp_ne (tgt := 16) dX5_isLinkArgument_2 (by decide) (nf_r c_p1) (nf_k (by decide)) (fun b1 => ?_) (fun b1 => ?_)
  · have h := h.1 b1
    refine p_aload_n dX5_isLinkArgument_16 rfl (q := 2) rfl ?_
    refine p_aload_n dX5_isLinkArgument_17 rfl (q := 0) rfl ?_
    refine p_getI (j := 8) G f_RX5_76 rfl (hS 0 (by decide)).1 dX5_isLinkArgument_18 (fun c1 => ?_)
    refine p_VI G k_RX5_121 (by decide) (h_p2 0 (by decide)).1 rfl rfl (Nat.le_of_ble_eq_true rfl) ⟨by decide, by decide⟩ ⟨by decide, by decide⟩ dX5_isLinkArgument_21 h (fun r2 im3 c4 h => ?_)
    refine p_if_eq (tgt := 48) dX5_isLinkArgument_24 (by decide) (nf_r c4) (fun b5 => ?_) (fun b5 => ?_)
    · have h := h.1 b5
      refine p_iconst dX5_isLinkArgument_48 ?_
      exact p_zretI (by decide) (by decide) rfl (nf_k (by decide)) (by decide) dX5_isLinkArgument_49 h
    · have h := h.2 b5
      refine p_iload_n dX5_isLinkArgument_27 rfl (q := 1) rfl ?_
      refine p_if_eq (tgt := 44) dX5_isLinkArgument_28 (by decide) (nf_r c_p1) (fun b5 => ?_) (fun b5 => ?_)
      · have h := h.1 b5
        refine p_iconst dX5_isLinkArgument_44 ?_
        refine p_goto (tgt := 49) dX5_isLinkArgument_45 (by decide) ?_
        exact p_zretI (by decide) (by decide) rfl (nf_k (by decide)) (by decide) dX5_isLinkArgument_49 h
      · have h := h.2 b5
        refine p_aload_n dX5_isLinkArgument_31 rfl (q := 0) rfl ?_
        refine p_getI (j := 8) G f_RX5_76 rfl (hS 0 (by decide)).1 dX5_isLinkArgument_32 (fun c5 => ?_)
        refine p_aload_n dX5_isLinkArgument_35 rfl (q := 0) rfl ?_
        refine p_getR (b := (a + 2)) G f_RX5_15 rfl (hS 0 (by decide)).1 ((hS 0 (by decide)).2.2 4 (by decide)) dX5_isLinkArgument_36 ?_
        refine p_iconst dX5_isLinkArgument_39 ?_
        refine p_iald G (hS 2 (by decide)).1 (nf_k (by decide)) (by decide) (zln_lt (hS 2 (by decide)).2.1 (by decide)) dX5_isLinkArgument_40 (fun c6 => ?_)
        refine p_icmp_eq (tgt := 48) dX5_isLinkArgument_41 (by decide) (nf_r c5) (nf_r c6) (fun b7 => ?_) (fun b7 => ?_)
        · have h := h.1 b7
          refine p_iconst dX5_isLinkArgument_48 ?_
          exact p_zretI (by decide) (by decide) rfl (nf_k (by decide)) (by decide) dX5_isLinkArgument_49 h
        · have h := h.2 b7
          refine p_iconst dX5_isLinkArgument_44 ?_
          refine p_goto (tgt := 49) dX5_isLinkArgument_45 (by decide) ?_
          exact p_zretI (by decide) (by decide) rfl (nf_k (by decide)) (by decide) dX5_isLinkArgument_49 h
  · have h := h.2 b1
    refine p_aload_n dX5_isLinkArgument_5 rfl (q := 0) rfl ?_
    refine p_getI (j := 8) G f_RX5_76 rfl (hS 0 (by decide)).1 dX5_isLinkArgument_6 (fun c1 => ?_)
    refine p_iconst dX5_isLinkArgument_9 ?_
    refine p_bipush dX5_isLinkArgument_10 (by decide) ?_
    refine p_SNI G k_RX5_110 rfl rfl (Nat.le_of_ble_eq_true rfl) ⟨by decide, by decide⟩ ⟨by decide, by decide⟩ dX5_isLinkArgument_12 h (fun r2 im3 c4 h => ?_)
    exact p_zretI (by decide) (by decide) rfl (nf_r c4) h.1 dX5_isLinkArgument_15 h.2
set_option maxRecDepth 20000 in
set_option maxHeartbeats 4000000 in
theorem v_X5_mostOf {g : zG} (G : zOK g) {S : zSh} {im : zIm} {p1 : Int} {Q : Int → zIm → Prop} (c_p1 : zc p1)
    (h : ((p1 = 2 → Q 20 im) ∧ (p1 = 3 → Q 100 im) ∧ (p1 = 4 → Q 10 im) ∧ (p1 = 5 → Q 20 im) ∧ (p1 < 2 ∨ 5 < p1 → Q 100 im))) :
    zCI g yX5_mostOf M_X5_mostOf [.int (zi p1)] S im Q := by
  refine zC_of (by decide) rfl rfl rfl rfl (Nat.le_of_ble_eq_true rfl) ?_
  refine p_iload_n dX5_mostOf_0 rfl (q := 0) rfl ?_
  by_cases b1 : p1 = 2
  · have h := h.1 b1
    refine p_tableIn (tgt := 32) (a' := p1) dX5_mostOf_1 (nf_r c_p1) (by omega) (by omega) (by rw [b1]; rfl) (by decide) ?_
    refine p_bipush dX5_mostOf_32 (by decide) ?_
    exact p_iretI (by decide) (by decide) rfl (nf_k (by decide)) dX5_mostOf_34 h
  · have b9_0 := b1
    by_cases b1 : p1 = 3
    · have h := h.2.1 b1
      refine p_tableIn (tgt := 41) (a' := p1) dX5_mostOf_1 (nf_r c_p1) (by omega) (by omega) (by rw [b1]; rfl) (by decide) ?_
      refine p_bipush dX5_mostOf_41 (by decide) ?_
      exact p_iretI (by decide) (by decide) rfl (nf_k (by decide)) dX5_mostOf_43 h
    · have b9_1 := b1
      by_cases b1 : p1 = 4
      · have h := h.2.2.1 b1
        refine p_tableIn (tgt := 35) (a' := p1) dX5_mostOf_1 (nf_r c_p1) (by omega) (by omega) (by rw [b1]; rfl) (by decide) ?_
        refine p_bipush dX5_mostOf_35 (by decide) ?_
        exact p_iretI (by decide) (by decide) rfl (nf_k (by decide)) dX5_mostOf_37 h
      · have b9_2 := b1
        by_cases b1 : p1 = 5
        · have h := h.2.2.2.1 b1
          refine p_tableIn (tgt := 38) (a' := p1) dX5_mostOf_1 (nf_r c_p1) (by omega) (by omega) (by rw [b1]; rfl) (by decide) ?_
          refine p_bipush dX5_mostOf_38 (by decide) ?_
          exact p_iretI (by decide) (by decide) rfl (nf_k (by decide)) dX5_mostOf_40 h
        · have b9_3 := b1
          have h := h.2.2.2.2 (by omega)
          refine p_tableOut (tgt := 41) (a' := p1) dX5_mostOf_1 (nf_r c_p1) (by omega) (by decide) ?_
          refine p_bipush dX5_mostOf_41 (by decide) ?_
          exact p_iretI (by decide) (by decide) rfl (nf_k (by decide)) dX5_mostOf_43 h
set_option maxRecDepth 20000 in
set_option maxHeartbeats 4000000 in
theorem v_X5_isCellArgument {g : zG} (G : zOK g) {S : zSh} {im : zIm} {a : Nat} {p1 : Int} {p2 : Int} {p3 : Nat} {Q : Int → zIm → Prop} (hS : zS_T S a) (c_p1 : zc p1) (c_p2 : zc p2) (h_p3 : zS_S S p3)
    (h : ((¬ p2 = 0 → ((¬ p2 = 1 → zCI g yX5_mostOf M_X5_mostOf [.int (zi p1)] S im (fun r2 im3 => zCI g yX7_within M_X7_within [.int (zi (im a 8)), .int (zi 0), .int (zi r2)] S im3 (fun r5 im6 => ((r5 = 0 ∨ r5 = 1) ∧ Q r5 im6)))) ∧ (p2 = 1 → zCI g yX4_isItem M_X4_isItem [.ref p3, .int (zi (im a 8))] S im (fun r2 im3 => ((r2 = 0 ∨ r2 = 1) ∧ Q r2 im3))))) ∧ (p2 = 0 → ((¬ p1 = 2 → zCI g yX4_isBase M_X4_isBase [.ref p3, .int (zi (im a 8))] S im (fun r2 im3 => ((r2 = 0 ∨ r2 = 1) ∧ Q r2 im3))) ∧ (p1 = 2 → zCI g yX4_isSite M_X4_isSite [.ref p3, .int (zi (im a 8))] S im (fun r2 im3 => ((r2 = 0 ∨ r2 = 1) ∧ Q r2 im3))))))) :
    zCI g yX5_isCellArgument M_X5_isCellArgument [.ref a, .int (zi p1), .int (zi p2), .ref p3] S im Q := by
  refine zC_of (by decide) rfl rfl rfl rfl (Nat.le_of_ble_eq_true rfl) ?_
  refine p_iload_n dX5_isCellArgument_0 rfl (q := 2) rfl ?_
  refine p_if_ne (tgt := 29) dX5_isCellArgument_1 (by decide) (nf_r c_p2) (fun b1 => ?_) (fun b1 => ?_)
  · have h := h.1 b1
    refine p_iload_n dX5_isCellArgument_29 rfl (q := 2) rfl ?_
    refine p_iconst dX5_isCellArgument_30 ?_
    refine p_icmp_ne (tgt := 45) dX5_isCellArgument_31 (by decide) (nf_r c_p2) (nf_k (by decide)) (fun b1 => ?_) (fun b1 => ?_)
    · have h := h.1 b1
      refine p_aload_n dX5_isCellArgument_45 rfl (q := 0) rfl ?_
      refine p_getI (j := 8) G f_RX5_76 rfl (hS 0 (by decide)).1 dX5_isCellArgument_46 (fun c1 => ?_)
      refine p_iconst dX5_isCellArgument_49 ?_
      refine p_iload_n dX5_isCellArgument_50 rfl (q := 1) rfl ?_
      refine p_SI G k_RX5_131 rfl rfl (Nat.le_of_ble_eq_true rfl) ⟨by decide, by decide⟩ ⟨by decide, by decide⟩ dX5_isCellArgument_51 h (fun r2 im3 c4 h => ?_)
      refine p_SNI G k_RX5_110 rfl rfl (Nat.le_of_ble_eq_true rfl) ⟨by decide, by decide⟩ ⟨by decide, by decide⟩ dX5_isCellArgument_54 h (fun r5 im6 c7 h => ?_)
      exact p_zretI (by decide) (by decide) rfl (nf_r c7) h.1 dX5_isCellArgument_57 h.2
    · have h := h.2 b1
      refine p_aload_n dX5_isCellArgument_34 rfl (q := 3) rfl ?_
      refine p_aload_n dX5_isCellArgument_35 rfl (q := 0) rfl ?_
      refine p_getI (j := 8) G f_RX5_76 rfl (hS 0 (by decide)).1 dX5_isCellArgument_36 (fun c1 => ?_)
      refine p_VI G k_RX5_128 (by decide) (h_p3 0 (by decide)).1 rfl rfl (Nat.le_of_ble_eq_true rfl) ⟨by decide, by decide⟩ ⟨by decide, by decide⟩ dX5_isCellArgument_39 h (fun r2 im3 c4 h => ?_)
      refine p_goto (tgt := 57) dX5_isCellArgument_42 (by decide) ?_
      exact p_zretI (by decide) (by decide) rfl (nf_r c4) h.1 dX5_isCellArgument_57 h.2
  · have h := h.2 b1
    refine p_iload_n dX5_isCellArgument_4 rfl (q := 1) rfl ?_
    refine p_iconst dX5_isCellArgument_5 ?_
    refine p_icmp_ne (tgt := 20) dX5_isCellArgument_6 (by decide) (nf_r c_p1) (nf_k (by decide)) (fun b1 => ?_) (fun b1 => ?_)
    · have h := h.1 b1
      refine p_aload_n dX5_isCellArgument_20 rfl (q := 3) rfl ?_
      refine p_aload_n dX5_isCellArgument_21 rfl (q := 0) rfl ?_
      refine p_getI (j := 8) G f_RX5_76 rfl (hS 0 (by decide)).1 dX5_isCellArgument_22 (fun c1 => ?_)
      refine p_VI G k_RX5_121 (by decide) (h_p3 0 (by decide)).1 rfl rfl (Nat.le_of_ble_eq_true rfl) ⟨by decide, by decide⟩ ⟨by decide, by decide⟩ dX5_isCellArgument_25 h (fun r2 im3 c4 h => ?_)
      exact p_zretI (by decide) (by decide) rfl (nf_r c4) h.1 dX5_isCellArgument_28 h.2
    · have h := h.2 b1
      refine p_aload_n dX5_isCellArgument_9 rfl (q := 3) rfl ?_
      refine p_aload_n dX5_isCellArgument_10 rfl (q := 0) rfl ?_
      refine p_getI (j := 8) G f_RX5_76 rfl (hS 0 (by decide)).1 dX5_isCellArgument_11 (fun c1 => ?_)
      refine p_VI G k_RX5_125 (by decide) (h_p3 0 (by decide)).1 rfl rfl (Nat.le_of_ble_eq_true rfl) ⟨by decide, by decide⟩ ⟨by decide, by decide⟩ dX5_isCellArgument_14 h (fun r2 im3 c4 h => ?_)
      refine p_goto (tgt := 28) dX5_isCellArgument_17 (by decide) ?_
      exact p_zretI (by decide) (by decide) rfl (nf_r c4) h.1 dX5_isCellArgument_28 h.2
set_option maxRecDepth 20000 in
set_option maxHeartbeats 4000000 in
theorem v_X5_isInRange {g : zG} (G : zOK g) {S : zSh} {im : zIm} {a : Nat} {p1 : Int} {p2 : Int} {p3 : Nat} {Q : Int → zIm → Prop} (hS : zS_T S a) (c_p1 : zc p1) (c_p2 : zc p2) (h_p3 : zS_S S p3)
    (h : ((p1 = 0 → ((¬ p2 = 1 → zCI g yX7_within M_X7_within [.int (zi (im a 8)), .int (zi 1), .int (zi 30)] S im (fun r3 im4 => ((r3 = 0 ∨ r3 = 1) ∧ Q r3 im4))) ∧ (p2 = 1 → zCI g yX7_within M_X7_within [.int (zi (im a 8)), .int (zi 1), .int (zi 5)] S im (fun r3 im4 => ((r3 = 0 ∨ r3 = 1) ∧ Q r3 im4))))) ∧ (p1 = 1 → zCI g yX7_within M_X7_within [.int (zi (im a 8)), .int (zi 1), .int (zi 20)] S im (fun r3 im4 => ((r3 = 0 ∨ r3 = 1) ∧ Q r3 im4))) ∧ (p1 = 2 → zCI g yX5_isCellArgument M_X5_isCellArgument [.ref a, .int (zi p1), .int (zi p2), .ref p3] S im (fun r2 im3 => ((r2 = 0 ∨ r2 = 1) ∧ Q r2 im3))) ∧ (p1 = 3 → zCI g yX5_isLinkArgument M_X5_isLinkArgument [.ref a, .int (zi p2), .ref p3] S im (fun r2 im3 => ((r2 = 0 ∨ r2 = 1) ∧ Q r2 im3))) ∧ (p1 = 4 → zCI g yX5_isCellArgument M_X5_isCellArgument [.ref a, .int (zi p1), .int (zi p2), .ref p3] S im (fun r2 im3 => ((r2 = 0 ∨ r2 = 1) ∧ Q r2 im3))) ∧ (p1 = 5 → zCI g yX5_isCellArgument M_X5_isCellArgument [.ref a, .int (zi p1), .int (zi p2), .ref p3] S im (fun r2 im3 => ((r2 = 0 ∨ r2 = 1) ∧ Q r2 im3))) ∧ (p1 = 6 → zCI g yX5_isCellArgument M_X5_isCellArgument [.ref a, .int (zi p1), .int (zi p2), .ref p3] S im (fun r2 im3 => ((r2 = 0 ∨ r2 = 1) ∧ Q r2 im3))) ∧ (p1 = 7 → zCI g yX7_within M_X7_within [.int (zi (im a 8)), .int (zi 0), .int (zi 20)] S im (fun r3 im4 => ((r3 = 0 ∨ r3 = 1) ∧ Q r3 im4))) ∧ (p1 < 0 ∨ 7 < p1 → zCI g yX5_isCellArgument M_X5_isCellArgument [.ref a, .int (zi p1), .int (zi p2), .ref p3] S im (fun r1 im2 => ((r1 = 0 ∨ r1 = 1) ∧ Q r1 im2))))) :
    zCI g yX5_isInRange M_X5_isInRange [.ref a, .int (zi p1), .int (zi p2), .ref p3] S im Q := by
  refine zC_of (by decide) rfl rfl rfl rfl (Nat.le_of_ble_eq_true rfl) ?_
  refine p_iload_n dX5_isInRange_0 rfl (q := 1) rfl ?_
  by_cases b1 : p1 = 0
  · have h := h.1 b1
    refine p_tableIn (tgt := 48) (a' := p1) dX5_isInRange_1 (nf_r c_p1) (by omega) (by omega) (by rw [b1]; rfl) (by decide) ?_
    refine p_aload_n dX5_isInRange_48 rfl (q := 0) rfl ?_
    refine p_getI (j := 8) G f_RX5_76 rfl (hS 0 (by decide)).1 dX5_isInRange_49 (fun c2 => ?_)
    refine p_iconst dX5_isInRange_52 ?_
    refine p_iload_n dX5_isInRange_53 rfl (q := 2) rfl ?_
    refine p_iconst dX5_isInRange_54 ?_
    refine p_icmp_ne (tgt := 62) dX5_isInRange_55 (by decide) (nf_r c_p2) (nf_k (by decide)) (fun b3 => ?_) (fun b3 => ?_)
    · have h := h.1 b3
      refine p_bipush dX5_isInRange_62 (by decide) ?_
      refine p_SNI G k_RX5_110 rfl rfl (Nat.le_of_ble_eq_true rfl) ⟨by decide, by decide⟩ ⟨by decide, by decide⟩ dX5_isInRange_64 h (fun r3 im4 c5 h => ?_)
      exact p_zretI (by decide) (by decide) rfl (nf_r c5) h.1 dX5_isInRange_67 h.2
    · have h := h.2 b3
      refine p_iconst dX5_isInRange_58 ?_
      refine p_goto (tgt := 64) dX5_isInRange_59 (by decide) ?_
      refine p_SNI G k_RX5_110 rfl rfl (Nat.le_of_ble_eq_true rfl) ⟨by decide, by decide⟩ ⟨by decide, by decide⟩ dX5_isInRange_64 h (fun r3 im4 c5 h => ?_)
      exact p_zretI (by decide) (by decide) rfl (nf_r c5) h.1 dX5_isInRange_67 h.2
  · have b9_0 := b1
    by_cases b1 : p1 = 1
    · have h := h.2.1 b1
      refine p_tableIn (tgt := 68) (a' := p1) dX5_isInRange_1 (nf_r c_p1) (by omega) (by omega) (by rw [b1]; rfl) (by decide) ?_
      refine p_aload_n dX5_isInRange_68 rfl (q := 0) rfl ?_
      refine p_getI (j := 8) G f_RX5_76 rfl (hS 0 (by decide)).1 dX5_isInRange_69 (fun c2 => ?_)
      refine p_iconst dX5_isInRange_72 ?_
      refine p_bipush dX5_isInRange_73 (by decide) ?_
      refine p_SNI G k_RX5_110 rfl rfl (Nat.le_of_ble_eq_true rfl) ⟨by decide, by decide⟩ ⟨by decide, by decide⟩ dX5_isInRange_75 h (fun r3 im4 c5 h => ?_)
      exact p_zretI (by decide) (by decide) rfl (nf_r c5) h.1 dX5_isInRange_78 h.2
    · have b9_1 := b1
      by_cases b1 : p1 = 2
      · have h := h.2.2.1 b1
        refine p_tableIn (tgt := 97) (a' := p1) dX5_isInRange_1 (nf_r c_p1) (by omega) (by omega) (by rw [b1]; rfl) (by decide) ?_
        refine p_aload_n dX5_isInRange_97 rfl (q := 0) rfl ?_
        refine p_iload_n dX5_isInRange_98 rfl (q := 1) rfl ?_
        refine p_iload_n dX5_isInRange_99 rfl (q := 2) rfl ?_
        refine p_aload_n dX5_isInRange_100 rfl (q := 3) rfl ?_
        refine p_VI G k_RX5_118 (by decide) (hS 0 (by decide)).1 rfl rfl (Nat.le_of_ble_eq_true rfl) ⟨by decide, by decide⟩ ⟨by decide, by decide⟩ dX5_isInRange_101 h (fun r2 im3 c4 h => ?_)
        exact p_zretI (by decide) (by decide) rfl (nf_r c4) h.1 dX5_isInRange_104 h.2
      · have b9_2 := b1
        by_cases b1 : p1 = 3
        · have h := h.2.2.2.1 b1
          refine p_tableIn (tgt := 79) (a' := p1) dX5_isInRange_1 (nf_r c_p1) (by omega) (by omega) (by rw [b1]; rfl) (by decide) ?_
          refine p_aload_n dX5_isInRange_79 rfl (q := 0) rfl ?_
          refine p_iload_n dX5_isInRange_80 rfl (q := 2) rfl ?_
          refine p_aload_n dX5_isInRange_81 rfl (q := 3) rfl ?_
          refine p_VI G k_RX5_114 (by decide) (hS 0 (by decide)).1 rfl rfl (Nat.le_of_ble_eq_true rfl) ⟨by decide, by decide⟩ ⟨by decide, by decide⟩ dX5_isInRange_82 h (fun r2 im3 c4 h => ?_)
          exact p_zretI (by decide) (by decide) rfl (nf_r c4) h.1 dX5_isInRange_85 h.2
        · have b9_3 := b1
          by_cases b1 : p1 = 4
          · have h := h.2.2.2.2.1 b1
            refine p_tableIn (tgt := 97) (a' := p1) dX5_isInRange_1 (nf_r c_p1) (by omega) (by omega) (by rw [b1]; rfl) (by decide) ?_
            refine p_aload_n dX5_isInRange_97 rfl (q := 0) rfl ?_
            refine p_iload_n dX5_isInRange_98 rfl (q := 1) rfl ?_
            refine p_iload_n dX5_isInRange_99 rfl (q := 2) rfl ?_
            refine p_aload_n dX5_isInRange_100 rfl (q := 3) rfl ?_
            refine p_VI G k_RX5_118 (by decide) (hS 0 (by decide)).1 rfl rfl (Nat.le_of_ble_eq_true rfl) ⟨by decide, by decide⟩ ⟨by decide, by decide⟩ dX5_isInRange_101 h (fun r2 im3 c4 h => ?_)
            exact p_zretI (by decide) (by decide) rfl (nf_r c4) h.1 dX5_isInRange_104 h.2
          · have b9_4 := b1
            by_cases b1 : p1 = 5
            · have h := h.2.2.2.2.2.1 b1
              refine p_tableIn (tgt := 97) (a' := p1) dX5_isInRange_1 (nf_r c_p1) (by omega) (by omega) (by rw [b1]; rfl) (by decide) ?_
              refine p_aload_n dX5_isInRange_97 rfl (q := 0) rfl ?_
              refine p_iload_n dX5_isInRange_98 rfl (q := 1) rfl ?_
              refine p_iload_n dX5_isInRange_99 rfl (q := 2) rfl ?_
              refine p_aload_n dX5_isInRange_100 rfl (q := 3) rfl ?_
              refine p_VI G k_RX5_118 (by decide) (hS 0 (by decide)).1 rfl rfl (Nat.le_of_ble_eq_true rfl) ⟨by decide, by decide⟩ ⟨by decide, by decide⟩ dX5_isInRange_101 h (fun r2 im3 c4 h => ?_)
              exact p_zretI (by decide) (by decide) rfl (nf_r c4) h.1 dX5_isInRange_104 h.2
            · have b9_5 := b1
              by_cases b1 : p1 = 6
              · have h := h.2.2.2.2.2.2.1 b1
                refine p_tableIn (tgt := 97) (a' := p1) dX5_isInRange_1 (nf_r c_p1) (by omega) (by omega) (by rw [b1]; rfl) (by decide) ?_
                refine p_aload_n dX5_isInRange_97 rfl (q := 0) rfl ?_
                refine p_iload_n dX5_isInRange_98 rfl (q := 1) rfl ?_
                refine p_iload_n dX5_isInRange_99 rfl (q := 2) rfl ?_
                refine p_aload_n dX5_isInRange_100 rfl (q := 3) rfl ?_
                refine p_VI G k_RX5_118 (by decide) (hS 0 (by decide)).1 rfl rfl (Nat.le_of_ble_eq_true rfl) ⟨by decide, by decide⟩ ⟨by decide, by decide⟩ dX5_isInRange_101 h (fun r2 im3 c4 h => ?_)
                exact p_zretI (by decide) (by decide) rfl (nf_r c4) h.1 dX5_isInRange_104 h.2
              · have b9_6 := b1
                by_cases b1 : p1 = 7
                · have h := h.2.2.2.2.2.2.2.1 b1
                  refine p_tableIn (tgt := 86) (a' := p1) dX5_isInRange_1 (nf_r c_p1) (by omega) (by omega) (by rw [b1]; rfl) (by decide) ?_
                  refine p_aload_n dX5_isInRange_86 rfl (q := 0) rfl ?_
                  refine p_getI (j := 8) G f_RX5_76 rfl (hS 0 (by decide)).1 dX5_isInRange_87 (fun c2 => ?_)
                  refine p_iconst dX5_isInRange_90 ?_
                  refine p_bipush dX5_isInRange_91 (by decide) ?_
                  refine p_SNI G k_RX5_110 rfl rfl (Nat.le_of_ble_eq_true rfl) ⟨by decide, by decide⟩ ⟨by decide, by decide⟩ dX5_isInRange_93 h (fun r3 im4 c5 h => ?_)
                  exact p_zretI (by decide) (by decide) rfl (nf_r c5) h.1 dX5_isInRange_96 h.2
                · have b9_7 := b1
                  have h := h.2.2.2.2.2.2.2.2 (by omega)
                  refine p_tableOut (tgt := 97) (a' := p1) dX5_isInRange_1 (nf_r c_p1) (by omega) (by decide) ?_
                  refine p_aload_n dX5_isInRange_97 rfl (q := 0) rfl ?_
                  refine p_iload_n dX5_isInRange_98 rfl (q := 1) rfl ?_
                  refine p_iload_n dX5_isInRange_99 rfl (q := 2) rfl ?_
                  refine p_aload_n dX5_isInRange_100 rfl (q := 3) rfl ?_
                  refine p_VI G k_RX5_118 (by decide) (hS 0 (by decide)).1 rfl rfl (Nat.le_of_ble_eq_true rfl) ⟨by decide, by decide⟩ ⟨by decide, by decide⟩ dX5_isInRange_101 h (fun r1 im2 c3 h => ?_)
                  exact p_zretI (by decide) (by decide) rfl (nf_r c3) h.1 dX5_isInRange_104 h.2
set_option maxRecDepth 20000 in
set_option maxHeartbeats 4000000 in
theorem v_X5_readStatement {g : zG} (G : zOK g) {S : zSh} {im : zIm} {a : Nat} {p1 : Nat} {Q : Int → zIm → Prop} (hS : zS_T S a) (h_p1 : zS_S S p1)
    (h : zCI g yX5_findStatement M_X5_findStatement [.ref a] S im (fun r1 im2 => ((¬ r1 = (-1) → ((¬ r1 = 0 → ((¬ r1 = 1 → zCV g yX5_nextToken M_X5_nextToken [.ref a] S im2 (fun im4 => ((r1 = 1 → zPI g M_X5_readStatement 72 [(0, .ref a), (1, .ref p1), (2, .int (zi r1)), (3, .int (zi 1)), (4, .int (zi 0))] S im4 Q) ∧ (¬ r1 = 1 → ((¬ r1 = 7 → zPI g M_X5_readStatement 72 [(0, .ref a), (1, .ref p1), (2, .int (zi r1)), (3, .int (zi 3)), (4, .int (zi 0))] S im4 Q) ∧ (r1 = 7 → zPI g M_X5_readStatement 72 [(0, .ref a), (1, .ref p1), (2, .int (zi r1)), (3, .int (zi 1)), (4, .int (zi 0))] S im4 Q)))))) ∧ (r1 = 1 → (((im2 p1 1) < 8 → zCV g yX5_nextToken M_X5_nextToken [.ref a] S im2 (fun im5 => ((r1 = 1 → zPI g M_X5_readStatement 72 [(0, .ref a), (1, .ref p1), (2, .int (zi r1)), (3, .int (zi 1)), (4, .int (zi 0))] S im5 Q) ∧ (¬ r1 = 1 → ((¬ r1 = 7 → zPI g M_X5_readStatement 72 [(0, .ref a), (1, .ref p1), (2, .int (zi r1)), (3, .int (zi 3)), (4, .int (zi 0))] S im5 Q) ∧ (r1 = 7 → zPI g M_X5_readStatement 72 [(0, .ref a), (1, .ref p1), (2, .int (zi r1)), (3, .int (zi 1)), (4, .int (zi 0))] S im5 Q)))))) ∧ (8 ≤ (im2 p1 1) → zCI g yX5_fail M_X5_fail [.ref a, .int (zi 3)] S im2 (fun r5 im6 => Q r5 im6)))))) ∧ (r1 = 0 → ((4 ≤ (im2 p1 0) → zCI g yX5_fail M_X5_fail [.ref a, .int (zi 3)] S im2 (fun r5 im6 => Q r5 im6)) ∧ ((im2 p1 0) < 4 → ((¬ r1 = 1 → zCV g yX5_nextToken M_X5_nextToken [.ref a] S im2 (fun im5 => ((r1 = 1 → zPI g M_X5_readStatement 72 [(0, .ref a), (1, .ref p1), (2, .int (zi r1)), (3, .int (zi 1)), (4, .int (zi 0))] S im5 Q) ∧ (¬ r1 = 1 → ((¬ r1 = 7 → zPI g M_X5_readStatement 72 [(0, .ref a), (1, .ref p1), (2, .int (zi r1)), (3, .int (zi 3)), (4, .int (zi 0))] S im5 Q) ∧ (r1 = 7 → zPI g M_X5_readStatement 72 [(0, .ref a), (1, .ref p1), (2, .int (zi r1)), (3, .int (zi 1)), (4, .int (zi 0))] S im5 Q)))))) ∧ (r1 = 1 → (((im2 p1 1) < 8 → zCV g yX5_nextToken M_X5_nextToken [.ref a] S im2 (fun im6 => ((r1 = 1 → zPI g M_X5_readStatement 72 [(0, .ref a), (1, .ref p1), (2, .int (zi r1)), (3, .int (zi 1)), (4, .int (zi 0))] S im6 Q) ∧ (¬ r1 = 1 → ((¬ r1 = 7 → zPI g M_X5_readStatement 72 [(0, .ref a), (1, .ref p1), (2, .int (zi r1)), (3, .int (zi 3)), (4, .int (zi 0))] S im6 Q) ∧ (r1 = 7 → zPI g M_X5_readStatement 72 [(0, .ref a), (1, .ref p1), (2, .int (zi r1)), (3, .int (zi 1)), (4, .int (zi 0))] S im6 Q)))))) ∧ (8 ≤ (im2 p1 1) → zCI g yX5_fail M_X5_fail [.ref a, .int (zi 3)] S im2 (fun r6 im7 => Q r6 im7)))))))))) ∧ (r1 = (-1) → zCI g yX5_fail M_X5_fail [.ref a, .int (zi 1)] S im2 (fun r4 im5 => Q r4 im5))))) :
    zCI g yX5_readStatement M_X5_readStatement [.ref a, .ref p1] S im Q := by
  refine zC_of (by decide) rfl rfl rfl rfl (Nat.le_of_ble_eq_true rfl) ?_
  refine p_aload_n dX5_readStatement_0 rfl (q := 0) rfl ?_
  refine p_VI G k_RX5_56 (by decide) (hS 0 (by decide)).1 rfl rfl (Nat.le_of_ble_eq_true rfl) ⟨by decide, by decide⟩ ⟨by decide, by decide⟩ dX5_readStatement_1 h (fun r1 im2 c3 h => ?_)
  refine p_istore_n (lv' := [(2, .int (zi r1)), (0, .ref a), (1, .ref p1)]) dX5_readStatement_4 rfl (by decide) rfl ?_
  refine p_iload_n dX5_readStatement_5 rfl (q := 0) rfl ?_
  refine p_iconst dX5_readStatement_6 ?_
  refine p_icmp_ne (tgt := 16) dX5_readStatement_7 (by decide) (nf_r c3) (nf_k (by decide)) (fun b4 => ?_) (fun b4 => ?_)
  · have h := h.1 b4
    refine p_iload_n dX5_readStatement_16 rfl (q := 0) rfl ?_
    refine p_if_ne (tgt := 28) dX5_readStatement_17 (by decide) (nf_r c3) (fun b4 => ?_) (fun b4 => ?_)
    · have h := h.1 b4
      refine p_iload_n dX5_readStatement_28 rfl (q := 0) rfl ?_
      refine p_iconst dX5_readStatement_29 ?_
      refine p_icmp_ne (tgt := 48) dX5_readStatement_30 (by decide) (nf_r c3) (nf_k (by decide)) (fun b4 => ?_) (fun b4 => ?_)
      · have h := h.1 b4
        refine p_aload_n dX5_readStatement_48 rfl (q := 1) rfl ?_
        refine p_VV G k_RX5_36 (by decide) (hS 0 (by decide)).1 rfl rfl (Nat.le_of_ble_eq_true rfl) ⟨by decide, by decide⟩ ⟨by decide, by decide⟩ dX5_readStatement_49 h (fun im4 h => ?_)
        refine p_iload_n dX5_readStatement_52 rfl (q := 0) rfl ?_
        refine p_iconst dX5_readStatement_53 ?_
        refine p_icmp_eq (tgt := 63) dX5_readStatement_54 (by decide) (nf_r c3) (nf_k (by decide)) (fun b6 => ?_) (fun b6 => ?_)
        · have h := h.1 b6
          refine p_iconst dX5_readStatement_63 ?_
          refine p_goto (tgt := 68) dX5_readStatement_64 (by decide) ?_
          refine p_istore_n (lv' := [(3, .int (zi 1)), (2, .int (zi r1)), (0, .ref a), (1, .ref p1)]) dX5_readStatement_68 rfl (by decide) rfl ?_
          refine p_iconst dX5_readStatement_69 ?_
          refine p_istore (lv' := [(4, .int (zi 0)), (3, .int (zi 1)), (2, .int (zi r1)), (0, .ref a), (1, .ref p1)]) dX5_readStatement_70 (by decide) rfl ?_
          refine p_sub (lv' := [(0, .ref a), (1, .ref p1), (2, .int (zi r1)), (3, .int (zi 1)), (4, .int (zi 0))]) [3, 4, 2, 1, 0] rfl ?_
          exact h
        · have h := h.2 b6
          refine p_iload_n dX5_readStatement_57 rfl (q := 0) rfl ?_
          refine p_bipush dX5_readStatement_58 (by decide) ?_
          refine p_icmp_ne (tgt := 67) dX5_readStatement_60 (by decide) (nf_r c3) (nf_k (by decide)) (fun b6 => ?_) (fun b6 => ?_)
          · have h := h.1 b6
            refine p_iconst dX5_readStatement_67 ?_
            refine p_istore_n (lv' := [(3, .int (zi 3)), (2, .int (zi r1)), (0, .ref a), (1, .ref p1)]) dX5_readStatement_68 rfl (by decide) rfl ?_
            refine p_iconst dX5_readStatement_69 ?_
            refine p_istore (lv' := [(4, .int (zi 0)), (3, .int (zi 3)), (2, .int (zi r1)), (0, .ref a), (1, .ref p1)]) dX5_readStatement_70 (by decide) rfl ?_
            refine p_sub (lv' := [(0, .ref a), (1, .ref p1), (2, .int (zi r1)), (3, .int (zi 3)), (4, .int (zi 0))]) [3, 4, 2, 1, 0] rfl ?_
            exact h
          · have h := h.2 b6
            refine p_iconst dX5_readStatement_63 ?_
            refine p_goto (tgt := 68) dX5_readStatement_64 (by decide) ?_
            refine p_istore_n (lv' := [(3, .int (zi 1)), (2, .int (zi r1)), (0, .ref a), (1, .ref p1)]) dX5_readStatement_68 rfl (by decide) rfl ?_
            refine p_iconst dX5_readStatement_69 ?_
            refine p_istore (lv' := [(4, .int (zi 0)), (3, .int (zi 1)), (2, .int (zi r1)), (0, .ref a), (1, .ref p1)]) dX5_readStatement_70 (by decide) rfl ?_
            refine p_sub (lv' := [(0, .ref a), (1, .ref p1), (2, .int (zi r1)), (3, .int (zi 1)), (4, .int (zi 0))]) [3, 4, 2, 1, 0] rfl ?_
            exact h
      · have h := h.2 b4
        refine p_aload_n dX5_readStatement_33 rfl (q := 2) rfl ?_
        refine p_getI (j := 1) G f_RX5_69 rfl (h_p1 0 (by decide)).1 dX5_readStatement_34 (fun c4 => ?_)
        refine p_bipush dX5_readStatement_37 (by decide) ?_
        refine p_icmp_lt (tgt := 48) dX5_readStatement_39 (by decide) (nf_r c4) (nf_k (by decide)) (fun b5 => ?_) (fun b5 => ?_)
        · have h := h.1 b5
          refine p_aload_n dX5_readStatement_48 rfl (q := 1) rfl ?_
          refine p_VV G k_RX5_36 (by decide) (hS 0 (by decide)).1 rfl rfl (Nat.le_of_ble_eq_true rfl) ⟨by decide, by decide⟩ ⟨by decide, by decide⟩ dX5_readStatement_49 h (fun im5 h => ?_)
          refine p_iload_n dX5_readStatement_52 rfl (q := 0) rfl ?_
          refine p_iconst dX5_readStatement_53 ?_
          refine p_icmp_eq (tgt := 63) dX5_readStatement_54 (by decide) (nf_r c3) (nf_k (by decide)) (fun b7 => ?_) (fun b7 => ?_)
          · have h := h.1 b7
            refine p_iconst dX5_readStatement_63 ?_
            refine p_goto (tgt := 68) dX5_readStatement_64 (by decide) ?_
            refine p_istore_n (lv' := [(3, .int (zi 1)), (2, .int (zi r1)), (0, .ref a), (1, .ref p1)]) dX5_readStatement_68 rfl (by decide) rfl ?_
            refine p_iconst dX5_readStatement_69 ?_
            refine p_istore (lv' := [(4, .int (zi 0)), (3, .int (zi 1)), (2, .int (zi r1)), (0, .ref a), (1, .ref p1)]) dX5_readStatement_70 (by decide) rfl ?_
            refine p_sub (lv' := [(0, .ref a), (1, .ref p1), (2, .int (zi r1)), (3, .int (zi 1)), (4, .int (zi 0))]) [3, 4, 2, 1, 0] rfl ?_
            exact h
          · have h := h.2 b7
            refine p_iload_n dX5_readStatement_57 rfl (q := 0) rfl ?_
            refine p_bipush dX5_readStatement_58 (by decide) ?_
            refine p_icmp_ne (tgt := 67) dX5_readStatement_60 (by decide) (nf_r c3) (nf_k (by decide)) (fun b7 => ?_) (fun b7 => ?_)
            · have h := h.1 b7
              refine p_iconst dX5_readStatement_67 ?_
              refine p_istore_n (lv' := [(3, .int (zi 3)), (2, .int (zi r1)), (0, .ref a), (1, .ref p1)]) dX5_readStatement_68 rfl (by decide) rfl ?_
              refine p_iconst dX5_readStatement_69 ?_
              refine p_istore (lv' := [(4, .int (zi 0)), (3, .int (zi 3)), (2, .int (zi r1)), (0, .ref a), (1, .ref p1)]) dX5_readStatement_70 (by decide) rfl ?_
              refine p_sub (lv' := [(0, .ref a), (1, .ref p1), (2, .int (zi r1)), (3, .int (zi 3)), (4, .int (zi 0))]) [3, 4, 2, 1, 0] rfl ?_
              exact h
            · have h := h.2 b7
              refine p_iconst dX5_readStatement_63 ?_
              refine p_goto (tgt := 68) dX5_readStatement_64 (by decide) ?_
              refine p_istore_n (lv' := [(3, .int (zi 1)), (2, .int (zi r1)), (0, .ref a), (1, .ref p1)]) dX5_readStatement_68 rfl (by decide) rfl ?_
              refine p_iconst dX5_readStatement_69 ?_
              refine p_istore (lv' := [(4, .int (zi 0)), (3, .int (zi 1)), (2, .int (zi r1)), (0, .ref a), (1, .ref p1)]) dX5_readStatement_70 (by decide) rfl ?_
              refine p_sub (lv' := [(0, .ref a), (1, .ref p1), (2, .int (zi r1)), (3, .int (zi 1)), (4, .int (zi 0))]) [3, 4, 2, 1, 0] rfl ?_
              exact h
        · have h := h.2 b5
          refine p_aload_n dX5_readStatement_42 rfl (q := 1) rfl ?_
          refine p_iconst dX5_readStatement_43 ?_
          refine p_VI G k_RX5_60 (by decide) (hS 0 (by decide)).1 rfl rfl (Nat.le_of_ble_eq_true rfl) ⟨by decide, by decide⟩ ⟨by decide, by decide⟩ dX5_readStatement_44 h (fun r5 im6 c7 h => ?_)
          exact p_iretI (by decide) (by decide) rfl (nf_r c7) dX5_readStatement_47 h
    · have h := h.2 b4
      refine p_aload_n dX5_readStatement_20 rfl (q := 2) rfl ?_
      refine p_getI (j := 0) G f_RX5_64 rfl (h_p1 0 (by decide)).1 dX5_readStatement_21 (fun c4 => ?_)
      refine p_iconst dX5_readStatement_24 ?_
      refine p_icmp_ge (tgt := 42) dX5_readStatement_25 (by decide) (nf_r c4) (nf_k (by decide)) (fun b5 => ?_) (fun b5 => ?_)
      · have h := h.1 b5
        refine p_aload_n dX5_readStatement_42 rfl (q := 1) rfl ?_
        refine p_iconst dX5_readStatement_43 ?_
        refine p_VI G k_RX5_60 (by decide) (hS 0 (by decide)).1 rfl rfl (Nat.le_of_ble_eq_true rfl) ⟨by decide, by decide⟩ ⟨by decide, by decide⟩ dX5_readStatement_44 h (fun r5 im6 c7 h => ?_)
        exact p_iretI (by decide) (by decide) rfl (nf_r c7) dX5_readStatement_47 h
      · have h := h.2 b5
        refine p_iload_n dX5_readStatement_28 rfl (q := 0) rfl ?_
        refine p_iconst dX5_readStatement_29 ?_
        refine p_icmp_ne (tgt := 48) dX5_readStatement_30 (by decide) (nf_r c3) (nf_k (by decide)) (fun b5 => ?_) (fun b5 => ?_)
        · have h := h.1 b5
          refine p_aload_n dX5_readStatement_48 rfl (q := 1) rfl ?_
          refine p_VV G k_RX5_36 (by decide) (hS 0 (by decide)).1 rfl rfl (Nat.le_of_ble_eq_true rfl) ⟨by decide, by decide⟩ ⟨by decide, by decide⟩ dX5_readStatement_49 h (fun im5 h => ?_)
          refine p_iload_n dX5_readStatement_52 rfl (q := 0) rfl ?_
          refine p_iconst dX5_readStatement_53 ?_
          refine p_icmp_eq (tgt := 63) dX5_readStatement_54 (by decide) (nf_r c3) (nf_k (by decide)) (fun b7 => ?_) (fun b7 => ?_)
          · have h := h.1 b7
            refine p_iconst dX5_readStatement_63 ?_
            refine p_goto (tgt := 68) dX5_readStatement_64 (by decide) ?_
            refine p_istore_n (lv' := [(3, .int (zi 1)), (2, .int (zi r1)), (0, .ref a), (1, .ref p1)]) dX5_readStatement_68 rfl (by decide) rfl ?_
            refine p_iconst dX5_readStatement_69 ?_
            refine p_istore (lv' := [(4, .int (zi 0)), (3, .int (zi 1)), (2, .int (zi r1)), (0, .ref a), (1, .ref p1)]) dX5_readStatement_70 (by decide) rfl ?_
            refine p_sub (lv' := [(0, .ref a), (1, .ref p1), (2, .int (zi r1)), (3, .int (zi 1)), (4, .int (zi 0))]) [3, 4, 2, 1, 0] rfl ?_
            exact h
          · have h := h.2 b7
            refine p_iload_n dX5_readStatement_57 rfl (q := 0) rfl ?_
            refine p_bipush dX5_readStatement_58 (by decide) ?_
            refine p_icmp_ne (tgt := 67) dX5_readStatement_60 (by decide) (nf_r c3) (nf_k (by decide)) (fun b7 => ?_) (fun b7 => ?_)
            · have h := h.1 b7
              refine p_iconst dX5_readStatement_67 ?_
              refine p_istore_n (lv' := [(3, .int (zi 3)), (2, .int (zi r1)), (0, .ref a), (1, .ref p1)]) dX5_readStatement_68 rfl (by decide) rfl ?_
              refine p_iconst dX5_readStatement_69 ?_
              refine p_istore (lv' := [(4, .int (zi 0)), (3, .int (zi 3)), (2, .int (zi r1)), (0, .ref a), (1, .ref p1)]) dX5_readStatement_70 (by decide) rfl ?_
              refine p_sub (lv' := [(0, .ref a), (1, .ref p1), (2, .int (zi r1)), (3, .int (zi 3)), (4, .int (zi 0))]) [3, 4, 2, 1, 0] rfl ?_
              exact h
            · have h := h.2 b7
              refine p_iconst dX5_readStatement_63 ?_
              refine p_goto (tgt := 68) dX5_readStatement_64 (by decide) ?_
              refine p_istore_n (lv' := [(3, .int (zi 1)), (2, .int (zi r1)), (0, .ref a), (1, .ref p1)]) dX5_readStatement_68 rfl (by decide) rfl ?_
              refine p_iconst dX5_readStatement_69 ?_
              refine p_istore (lv' := [(4, .int (zi 0)), (3, .int (zi 1)), (2, .int (zi r1)), (0, .ref a), (1, .ref p1)]) dX5_readStatement_70 (by decide) rfl ?_
              refine p_sub (lv' := [(0, .ref a), (1, .ref p1), (2, .int (zi r1)), (3, .int (zi 1)), (4, .int (zi 0))]) [3, 4, 2, 1, 0] rfl ?_
              exact h
        · have h := h.2 b5
          refine p_aload_n dX5_readStatement_33 rfl (q := 2) rfl ?_
          refine p_getI (j := 1) G f_RX5_69 rfl (h_p1 0 (by decide)).1 dX5_readStatement_34 (fun c5 => ?_)
          refine p_bipush dX5_readStatement_37 (by decide) ?_
          refine p_icmp_lt (tgt := 48) dX5_readStatement_39 (by decide) (nf_r c5) (nf_k (by decide)) (fun b6 => ?_) (fun b6 => ?_)
          · have h := h.1 b6
            refine p_aload_n dX5_readStatement_48 rfl (q := 1) rfl ?_
            refine p_VV G k_RX5_36 (by decide) (hS 0 (by decide)).1 rfl rfl (Nat.le_of_ble_eq_true rfl) ⟨by decide, by decide⟩ ⟨by decide, by decide⟩ dX5_readStatement_49 h (fun im6 h => ?_)
            refine p_iload_n dX5_readStatement_52 rfl (q := 0) rfl ?_
            refine p_iconst dX5_readStatement_53 ?_
            refine p_icmp_eq (tgt := 63) dX5_readStatement_54 (by decide) (nf_r c3) (nf_k (by decide)) (fun b8 => ?_) (fun b8 => ?_)
            · have h := h.1 b8
              refine p_iconst dX5_readStatement_63 ?_
              refine p_goto (tgt := 68) dX5_readStatement_64 (by decide) ?_
              refine p_istore_n (lv' := [(3, .int (zi 1)), (2, .int (zi r1)), (0, .ref a), (1, .ref p1)]) dX5_readStatement_68 rfl (by decide) rfl ?_
              refine p_iconst dX5_readStatement_69 ?_
              refine p_istore (lv' := [(4, .int (zi 0)), (3, .int (zi 1)), (2, .int (zi r1)), (0, .ref a), (1, .ref p1)]) dX5_readStatement_70 (by decide) rfl ?_
              refine p_sub (lv' := [(0, .ref a), (1, .ref p1), (2, .int (zi r1)), (3, .int (zi 1)), (4, .int (zi 0))]) [3, 4, 2, 1, 0] rfl ?_
              exact h
            · have h := h.2 b8
              refine p_iload_n dX5_readStatement_57 rfl (q := 0) rfl ?_
              refine p_bipush dX5_readStatement_58 (by decide) ?_
              refine p_icmp_ne (tgt := 67) dX5_readStatement_60 (by decide) (nf_r c3) (nf_k (by decide)) (fun b8 => ?_) (fun b8 => ?_)
              · have h := h.1 b8
                refine p_iconst dX5_readStatement_67 ?_
                refine p_istore_n (lv' := [(3, .int (zi 3)), (2, .int (zi r1)), (0, .ref a), (1, .ref p1)]) dX5_readStatement_68 rfl (by decide) rfl ?_
                refine p_iconst dX5_readStatement_69 ?_
                refine p_istore (lv' := [(4, .int (zi 0)), (3, .int (zi 3)), (2, .int (zi r1)), (0, .ref a), (1, .ref p1)]) dX5_readStatement_70 (by decide) rfl ?_
                refine p_sub (lv' := [(0, .ref a), (1, .ref p1), (2, .int (zi r1)), (3, .int (zi 3)), (4, .int (zi 0))]) [3, 4, 2, 1, 0] rfl ?_
                exact h
              · have h := h.2 b8
                refine p_iconst dX5_readStatement_63 ?_
                refine p_goto (tgt := 68) dX5_readStatement_64 (by decide) ?_
                refine p_istore_n (lv' := [(3, .int (zi 1)), (2, .int (zi r1)), (0, .ref a), (1, .ref p1)]) dX5_readStatement_68 rfl (by decide) rfl ?_
                refine p_iconst dX5_readStatement_69 ?_
                refine p_istore (lv' := [(4, .int (zi 0)), (3, .int (zi 1)), (2, .int (zi r1)), (0, .ref a), (1, .ref p1)]) dX5_readStatement_70 (by decide) rfl ?_
                refine p_sub (lv' := [(0, .ref a), (1, .ref p1), (2, .int (zi r1)), (3, .int (zi 1)), (4, .int (zi 0))]) [3, 4, 2, 1, 0] rfl ?_
                exact h
          · have h := h.2 b6
            refine p_aload_n dX5_readStatement_42 rfl (q := 1) rfl ?_
            refine p_iconst dX5_readStatement_43 ?_
            refine p_VI G k_RX5_60 (by decide) (hS 0 (by decide)).1 rfl rfl (Nat.le_of_ble_eq_true rfl) ⟨by decide, by decide⟩ ⟨by decide, by decide⟩ dX5_readStatement_44 h (fun r6 im7 c8 h => ?_)
            exact p_iretI (by decide) (by decide) rfl (nf_r c8) dX5_readStatement_47 h
  · have h := h.2 b4
    refine p_aload_n dX5_readStatement_10 rfl (q := 1) rfl ?_
    refine p_iconst dX5_readStatement_11 ?_
    refine p_VI G k_RX5_60 (by decide) (hS 0 (by decide)).1 rfl rfl (Nat.le_of_ble_eq_true rfl) ⟨by decide, by decide⟩ ⟨by decide, by decide⟩ dX5_readStatement_12 h (fun r4 im5 c6 h => ?_)
    exact p_iretI (by decide) (by decide) rfl (nf_r c6) dX5_readStatement_15 h
set_option maxRecDepth 20000 in
set_option maxHeartbeats 4000000 in
theorem v_X5_readStatement_72 {g : zG} (G : zOK g) {S : zSh} {im : zIm} {a : Nat} {p1 : Nat} {x2 : Int} {x3 : Int} {x4 : Int} {Q : Int → zIm → Prop} (hS : zS_T S a) (h_p1 : zS_S S p1) (c_x2 : zc x2) (c_x3 : zc x3) (c_x4 : zc x4)
    (h : ((x3 ≤ x4 → (((im a 6) = 3 → zCV g yX5_nextToken M_X5_nextToken [.ref a] S im (fun im2 => Q x2 im2)) ∧ (¬ (im a 6) = 3 → zCI g yX5_fail M_X5_fail [.ref a, .int (zi 1)] S im (fun r2 im3 => Q r2 im3)))) ∧ (x4 < x3 → (((im a 6) = 2 → zCI g yX5_isInRange M_X5_isInRange [.ref a, .int (zi x2), .int (zi x4), .ref p1] S im (fun r2 im3 => ((¬ r2 = 0 → ((0 ≤ x4 ∧ x4 < 3) ∧ ∀ im6, im6 = zst im3 (a + 2) x4 (im3 a 8) → zCV g yX5_nextToken M_X5_nextToken [.ref a] S im6 (fun im9 => zPI g M_X5_readStatement 72 [(0, .ref a), (1, .ref p1), (2, .int (zi x2)), (3, .int (zi x3)), (4, .int (zi (zw (x4 + 1))))] S im9 Q))) ∧ (r2 = 0 → zCI g yX5_fail M_X5_fail [.ref a, .int (zi 2)] S im3 (fun r5 im6 => Q r5 im6))))) ∧ (¬ (im a 6) = 2 → zCI g yX5_fail M_X5_fail [.ref a, .int (zi 1)] S im (fun r2 im3 => Q r2 im3)))))) :
    zPI g M_X5_readStatement 72 [(0, .ref a), (1, .ref p1), (2, .int (zi x2)), (3, .int (zi x3)), (4, .int (zi x4))] S im Q := by
  refine p_iload dX5_readStatement_72 (q := 4) rfl ?_
  refine p_iload_n dX5_readStatement_74 rfl (q := 3) rfl ?_
  refine p_icmp_ge (tgt := 130) dX5_readStatement_75 (by decide) (nf_r c_x4) (nf_r c_x3) (fun b1 => ?_) (fun b1 => ?_)
  · have h := h.1 b1
    refine p_aload_n dX5_readStatement_130 rfl (q := 0) rfl ?_
    refine p_getI (j := 6) G f_RX5_39 rfl (hS 0 (by decide)).1 dX5_readStatement_131 (fun c1 => ?_)
    refine p_iconst dX5_readStatement_134 ?_
    refine p_icmp_eq (tgt := 144) dX5_readStatement_135 (by decide) (nf_r c1) (nf_k (by decide)) (fun b2 => ?_) (fun b2 => ?_)
    · have h := h.1 b2
      refine p_aload_n dX5_readStatement_144 rfl (q := 0) rfl ?_
      refine p_VV G k_RX5_36 (by decide) (hS 0 (by decide)).1 rfl rfl (Nat.le_of_ble_eq_true rfl) ⟨by decide, by decide⟩ ⟨by decide, by decide⟩ dX5_readStatement_145 h (fun im2 h => ?_)
      refine p_iload_n dX5_readStatement_148 rfl (q := 2) rfl ?_
      exact p_iretI (by decide) (by decide) rfl (nf_r c_x2) dX5_readStatement_149 h
    · have h := h.2 b2
      refine p_aload_n dX5_readStatement_138 rfl (q := 0) rfl ?_
      refine p_iconst dX5_readStatement_139 ?_
      refine p_VI G k_RX5_60 (by decide) (hS 0 (by decide)).1 rfl rfl (Nat.le_of_ble_eq_true rfl) ⟨by decide, by decide⟩ ⟨by decide, by decide⟩ dX5_readStatement_140 h (fun r2 im3 c4 h => ?_)
      exact p_iretI (by decide) (by decide) rfl (nf_r c4) dX5_readStatement_143 h
  · have h := h.2 b1
    refine p_aload_n dX5_readStatement_78 rfl (q := 0) rfl ?_
    refine p_getI (j := 6) G f_RX5_39 rfl (hS 0 (by decide)).1 dX5_readStatement_79 (fun c1 => ?_)
    refine p_iconst dX5_readStatement_82 ?_
    refine p_icmp_eq (tgt := 92) dX5_readStatement_83 (by decide) (nf_r c1) (nf_k (by decide)) (fun b2 => ?_) (fun b2 => ?_)
    · have h := h.1 b2
      refine p_aload_n dX5_readStatement_92 rfl (q := 0) rfl ?_
      refine p_iload_n dX5_readStatement_93 rfl (q := 2) rfl ?_
      refine p_iload dX5_readStatement_94 (q := 4) rfl ?_
      refine p_aload_n dX5_readStatement_96 rfl (q := 1) rfl ?_
      refine p_VI G k_RX5_72 (by decide) (hS 0 (by decide)).1 rfl rfl (Nat.le_of_ble_eq_true rfl) ⟨by decide, by decide⟩ ⟨by decide, by decide⟩ dX5_readStatement_97 h (fun r2 im3 c4 h => ?_)
      refine p_if_ne (tgt := 109) dX5_readStatement_100 (by decide) (nf_r c4) (fun b5 => ?_) (fun b5 => ?_)
      · have h := h.1 b5
        refine p_aload_n dX5_readStatement_109 rfl (q := 0) rfl ?_
        refine p_getR (b := (a + 2)) G f_RX5_15 rfl (hS 0 (by decide)).1 ((hS 0 (by decide)).2.2 4 (by decide)) dX5_readStatement_110 ?_
        refine p_iload dX5_readStatement_113 (q := 4) rfl ?_
        refine p_aload_n dX5_readStatement_115 rfl (q := 0) rfl ?_
        refine p_getI (j := 8) G f_RX5_76 rfl (hS 0 (by decide)).1 dX5_readStatement_116 (fun c5 => ?_)
        have g8 := h.1
        have h := h.2
        refine p_iast G (hS 2 (by decide)).1 (nf_r c_x4) g8.1 (zln_lt (hS 2 (by decide)).2.1 g8.2) (nf_r c5) dX5_readStatement_119 ?_
        refine p_gen (fun im6 e7 => ?_)
        have h := h im6 e7
        refine p_aload_n dX5_readStatement_120 rfl (q := 0) rfl ?_
        refine p_VV G k_RX5_36 (by decide) (hS 0 (by decide)).1 rfl rfl (Nat.le_of_ble_eq_true rfl) ⟨by decide, by decide⟩ ⟨by decide, by decide⟩ dX5_readStatement_121 h (fun im9 h => ?_)
        refine p_iinc (q := 4) (lv' := [(4, .int (zi (x4 + 1))), (0, .ref a), (1, .ref p1), (2, .int (zi x2)), (3, .int (zi x3))]) dX5_readStatement_124 rfl (by decide) rfl ?_
        refine p_goto (tgt := 72) dX5_readStatement_127 (by decide) ?_
        refine p_sub (lv' := [(0, .ref a), (1, .ref p1), (2, .int (zi x2)), (3, .int (zi x3)), (4, .int (zi (zw (x4 + 1))))]) [1, 2, 3, 4, 0] (by simp only [zi_zw, zl_zwl]; rfl) ?_
        exact h
      · have h := h.2 b5
        refine p_aload_n dX5_readStatement_103 rfl (q := 0) rfl ?_
        refine p_iconst dX5_readStatement_104 ?_
        refine p_VI G k_RX5_60 (by decide) (hS 0 (by decide)).1 rfl rfl (Nat.le_of_ble_eq_true rfl) ⟨by decide, by decide⟩ ⟨by decide, by decide⟩ dX5_readStatement_105 h (fun r5 im6 c7 h => ?_)
        exact p_iretI (by decide) (by decide) rfl (nf_r c7) dX5_readStatement_108 h
    · have h := h.2 b2
      refine p_aload_n dX5_readStatement_86 rfl (q := 0) rfl ?_
      refine p_iconst dX5_readStatement_87 ?_
      refine p_VI G k_RX5_60 (by decide) (hS 0 (by decide)).1 rfl rfl (Nat.le_of_ble_eq_true rfl) ⟨by decide, by decide⟩ ⟨by decide, by decide⟩ dX5_readStatement_88 h (fun r2 im3 c4 h => ?_)
      exact p_iretI (by decide) (by decide) rfl (nf_r c4) dX5_readStatement_91 h
set_option maxRecDepth 20000 in
set_option maxHeartbeats 4000000 in
theorem v_X5_apply {g : zG} (G : zOK g) {S : zSh} {im : zIm} {a : Nat} {p1 : Int} {p2 : Nat} {Q : zIm → Prop} (hS : zS_T S a) (c_p1 : zc p1) (h_p2 : zS_N S p2)
    (h : ((p1 = 0 → zCI g yX4_newItem M_X4_newItem [.ref (p2 + 3), .int (zi (im (a + 2) 0)), .int (zi (im (a + 2) 1)), .int (zi (im (a + 2) 2))] S im (fun r5 im6 => Q im6)) ∧ (p1 = 1 → zCI g yX4_newBase M_X4_newBase [.ref (p2 + 3), .int (zi (im (a + 2) 0))] S im (fun r5 im6 => Q im6)) ∧ (p1 = 2 → zCV g yX2_changeLevel M_X2_changeLevel [.ref p2, .int (zi (im (a + 2) 0)), .int (zi (im (a + 2) 1)), .int (zi (im (a + 2) 2))] S im (fun im5 => Q im5)) ∧ (p1 = 3 → zCV g yX4_join M_X4_join [.ref (p2 + 3), .int (zi (im (a + 2) 0)), .int (zi (im (a + 2) 1)), .int (zi (im (a + 2) 2))] S im (fun im5 => Q im5)) ∧ (p1 = 4 → zCI g yX7_cell M_X7_cell [.int (zi (im (a + 2) 0)), .int (zi (im (a + 2) 1))] S im (fun r5 im6 => ((0 ≤ r5 ∧ r5 < 32) ∧ ∀ im8, im8 = zst im6 (p2 + 10) r5 (im (a + 2) 2) → Q im8))) ∧ (p1 = 5 → zCI g yX7_cell M_X7_cell [.int (zi (im (a + 2) 0)), .int (zi (im (a + 2) 1))] S im (fun r5 im6 => ((0 ≤ r5 ∧ r5 < 32) ∧ ∀ im8, im8 = zst im6 (p2 + 9) r5 (im (a + 2) 2) → Q im8))) ∧ (p1 = 6 → zCI g yX7_cell M_X7_cell [.int (zi (im (a + 2) 0)), .int (zi (im (a + 2) 1))] S im (fun r5 im6 => ((0 ≤ r5 ∧ r5 < 32) ∧ ∀ im8, im8 = zst im6 (p2 + 11) r5 (im (a + 2) 2) → Q im8))) ∧ (p1 < 0 ∨ 6 < p1 → ∀ im4, im4 = zst im (p2 + 3) 2 (im (a + 2) 0) → Q im4))) :
    zCV g yX5_apply M_X5_apply [.ref a, .int (zi p1), .ref p2] S im Q := by
  refine zC_of (by decide) rfl rfl rfl rfl (Nat.le_of_ble_eq_true rfl) ?_
  refine p_aload_n dX5_apply_0 rfl (q := 0) rfl ?_
  refine p_getR (b := (a + 2)) G f_RX5_15 rfl (hS 0 (by decide)).1 ((hS 0 (by decide)).2.2 4 (by decide)) dX5_apply_1 ?_
  refine p_iconst dX5_apply_4 ?_
  refine p_iald G (hS 2 (by decide)).1 (nf_k (by decide)) (by decide) (zln_lt (hS 2 (by decide)).2.1 (by decide)) dX5_apply_5 (fun c1 => ?_)
  refine p_istore_n (lv' := [(3, .int (zi (im (a + 2) 0))), (0, .ref a), (1, .int (zi p1)), (2, .ref p2)]) dX5_apply_6 rfl (by decide) rfl ?_
  refine p_aload_n dX5_apply_7 rfl (q := 1) rfl ?_
  refine p_getR (b := (a + 2)) G f_RX5_15 rfl (hS 0 (by decide)).1 ((hS 0 (by decide)).2.2 4 (by decide)) dX5_apply_8 ?_
  refine p_iconst dX5_apply_11 ?_
  refine p_iald G (hS 2 (by decide)).1 (nf_k (by decide)) (by decide) (zln_lt (hS 2 (by decide)).2.1 (by decide)) dX5_apply_12 (fun c2 => ?_)
  refine p_istore (lv' := [(4, .int (zi (im (a + 2) 1))), (3, .int (zi (im (a + 2) 0))), (0, .ref a), (1, .int (zi p1)), (2, .ref p2)]) dX5_apply_13 (by decide) rfl ?_
  refine p_aload_n dX5_apply_15 rfl (q := 2) rfl ?_
  refine p_getR (b := (a + 2)) G f_RX5_15 rfl (hS 0 (by decide)).1 ((hS 0 (by decide)).2.2 4 (by decide)) dX5_apply_16 ?_
  refine p_iconst dX5_apply_19 ?_
  refine p_iald G (hS 2 (by decide)).1 (nf_k (by decide)) (by decide) (zln_lt (hS 2 (by decide)).2.1 (by decide)) dX5_apply_20 (fun c3 => ?_)
  refine p_istore (lv' := [(5, .int (zi (im (a + 2) 2))), (4, .int (zi (im (a + 2) 1))), (3, .int (zi (im (a + 2) 0))), (0, .ref a), (1, .int (zi p1)), (2, .ref p2)]) dX5_apply_21 (by decide) rfl ?_
  refine p_aload_n dX5_apply_23 rfl (q := 5) rfl ?_
  refine p_getR (b := (p2 + 3)) G f_RX5_42 rfl (h_p2 0 (by decide)).1 ((h_p2 0 (by decide)).2.2 3 (by decide)) dX5_apply_24 ?_
  refine p_astore (lv' := [(6, .ref (p2 + 3)), (5, .int (zi (im (a + 2) 2))), (4, .int (zi (im (a + 2) 1))), (3, .int (zi (im (a + 2) 0))), (0, .ref a), (1, .int (zi p1)), (2, .ref p2)]) dX5_apply_27 (by decide) rfl ?_
  refine p_iload_n dX5_apply_29 rfl (q := 5) rfl ?_
  by_cases b4 : p1 = 0
  · have h := h.1 b4
    refine p_tableIn (tgt := 72) (a' := p1) dX5_apply_30 (nf_r c_p1) (by omega) (by omega) (by rw [b4]; rfl) (by decide) ?_
    refine p_aload dX5_apply_72 (q := 0) rfl ?_
    refine p_iload_n dX5_apply_74 rfl (q := 3) rfl ?_
    refine p_iload dX5_apply_75 (q := 2) rfl ?_
    refine p_iload dX5_apply_77 (q := 1) rfl ?_
    refine p_VI G k_RX5_134 (by decide) (h_p2 3 (by decide)).1 rfl rfl (Nat.le_of_ble_eq_true rfl) ⟨by decide, by decide⟩ ⟨by decide, by decide⟩ dX5_apply_79 h (fun r5 im6 c7 h => ?_)
    refine p_pop dX5_apply_82 rfl ?_
    refine p_goto (tgt := 178) dX5_apply_83 (by decide) ?_
    exact p_retV (by decide) (by decide) rfl dX5_apply_178 h
  · have b9_0 := b4
    by_cases b4 : p1 = 1
    · have h := h.2.1 b4
      refine p_tableIn (tgt := 86) (a' := p1) dX5_apply_30 (nf_r c_p1) (by omega) (by omega) (by rw [b4]; rfl) (by decide) ?_
      refine p_aload dX5_apply_86 (q := 0) rfl ?_
      refine p_iload_n dX5_apply_88 rfl (q := 3) rfl ?_
      refine p_VI G k_RX5_138 (by decide) (h_p2 3 (by decide)).1 rfl rfl (Nat.le_of_ble_eq_true rfl) ⟨by decide, by decide⟩ ⟨by decide, by decide⟩ dX5_apply_89 h (fun r5 im6 c7 h => ?_)
      refine p_pop dX5_apply_92 rfl ?_
      refine p_goto (tgt := 178) dX5_apply_93 (by decide) ?_
      exact p_retV (by decide) (by decide) rfl dX5_apply_178 h
    · have b9_1 := b4
      by_cases b4 : p1 = 2
      · have h := h.2.2.1 b4
        refine p_tableIn (tgt := 96) (a' := p1) dX5_apply_30 (nf_r c_p1) (by omega) (by omega) (by rw [b4]; rfl) (by decide) ?_
        refine p_aload_n dX5_apply_96 rfl (q := 6) rfl ?_
        refine p_iload_n dX5_apply_97 rfl (q := 3) rfl ?_
        refine p_iload dX5_apply_98 (q := 2) rfl ?_
        refine p_iload dX5_apply_100 (q := 1) rfl ?_
        refine p_VV G k_RX5_141 (by decide) (h_p2 0 (by decide)).1 rfl rfl (Nat.le_of_ble_eq_true rfl) ⟨by decide, by decide⟩ ⟨by decide, by decide⟩ dX5_apply_102 h (fun im5 h => ?_)
        refine p_goto (tgt := 178) dX5_apply_105 (by decide) ?_
        exact p_retV (by decide) (by decide) rfl dX5_apply_178 h
      · have b9_2 := b4
        by_cases b4 : p1 = 3
        · have h := h.2.2.2.1 b4
          refine p_tableIn (tgt := 108) (a' := p1) dX5_apply_30 (nf_r c_p1) (by omega) (by omega) (by rw [b4]; rfl) (by decide) ?_
          refine p_aload dX5_apply_108 (q := 0) rfl ?_
          refine p_iload_n dX5_apply_110 rfl (q := 3) rfl ?_
          refine p_iload dX5_apply_111 (q := 2) rfl ?_
          refine p_iload dX5_apply_113 (q := 1) rfl ?_
          refine p_VV G k_RX5_145 (by decide) (h_p2 3 (by decide)).1 rfl rfl (Nat.le_of_ble_eq_true rfl) ⟨by decide, by decide⟩ ⟨by decide, by decide⟩ dX5_apply_115 h (fun im5 h => ?_)
          refine p_goto (tgt := 178) dX5_apply_118 (by decide) ?_
          exact p_retV (by decide) (by decide) rfl dX5_apply_178 h
        · have b9_3 := b4
          by_cases b4 : p1 = 4
          · have h := h.2.2.2.2.1 b4
            refine p_tableIn (tgt := 121) (a' := p1) dX5_apply_30 (nf_r c_p1) (by omega) (by omega) (by rw [b4]; rfl) (by decide) ?_
            refine p_aload dX5_apply_121 (q := 0) rfl ?_
            refine p_getR (b := (p2 + 10)) G f_RX5_148 rfl (h_p2 3 (by decide)).1 ((h_p2 3 (by decide)).2.2 9 (by decide)) dX5_apply_123 ?_
            refine p_iload_n dX5_apply_126 rfl (q := 3) rfl ?_
            refine p_iload dX5_apply_127 (q := 2) rfl ?_
            refine p_SNI G k_RX5_150 rfl rfl (Nat.le_of_ble_eq_true rfl) ⟨by decide, by decide⟩ ⟨by decide, by decide⟩ dX5_apply_129 h (fun r5 im6 c7 h => ?_)
            refine p_iload dX5_apply_132 (q := 1) rfl ?_
            have g10 := h.1
            have h := h.2
            refine p_iast G (h_p2 10 (by decide)).1 (nf_r c7) g10.1 (zln_lt (h_p2 10 (by decide)).2.1 g10.2) (nf_r c3) dX5_apply_134 ?_
            refine p_gen (fun im8 e9 => ?_)
            have h := h im8 e9
            refine p_goto (tgt := 178) dX5_apply_135 (by decide) ?_
            exact p_retV (by decide) (by decide) rfl dX5_apply_178 h
          · have b9_4 := b4
            by_cases b4 : p1 = 5
            · have h := h.2.2.2.2.2.1 b4
              refine p_tableIn (tgt := 138) (a' := p1) dX5_apply_30 (nf_r c_p1) (by omega) (by omega) (by rw [b4]; rfl) (by decide) ?_
              refine p_aload dX5_apply_138 (q := 0) rfl ?_
              refine p_getR (b := (p2 + 9)) G f_RX5_154 rfl (h_p2 3 (by decide)).1 ((h_p2 3 (by decide)).2.2 8 (by decide)) dX5_apply_140 ?_
              refine p_iload_n dX5_apply_143 rfl (q := 3) rfl ?_
              refine p_iload dX5_apply_144 (q := 2) rfl ?_
              refine p_SNI G k_RX5_150 rfl rfl (Nat.le_of_ble_eq_true rfl) ⟨by decide, by decide⟩ ⟨by decide, by decide⟩ dX5_apply_146 h (fun r5 im6 c7 h => ?_)
              refine p_iload dX5_apply_149 (q := 1) rfl ?_
              have g10 := h.1
              have h := h.2
              refine p_iast G (h_p2 9 (by decide)).1 (nf_r c7) g10.1 (zln_lt (h_p2 9 (by decide)).2.1 g10.2) (nf_r c3) dX5_apply_151 ?_
              refine p_gen (fun im8 e9 => ?_)
              have h := h im8 e9
              refine p_goto (tgt := 178) dX5_apply_152 (by decide) ?_
              exact p_retV (by decide) (by decide) rfl dX5_apply_178 h
            · have b9_5 := b4
              by_cases b4 : p1 = 6
              · have h := h.2.2.2.2.2.2.1 b4
                refine p_tableIn (tgt := 155) (a' := p1) dX5_apply_30 (nf_r c_p1) (by omega) (by omega) (by rw [b4]; rfl) (by decide) ?_
                refine p_aload dX5_apply_155 (q := 0) rfl ?_
                refine p_getR (b := (p2 + 11)) G f_RX5_156 rfl (h_p2 3 (by decide)).1 ((h_p2 3 (by decide)).2.2 10 (by decide)) dX5_apply_157 ?_
                refine p_iload_n dX5_apply_160 rfl (q := 3) rfl ?_
                refine p_iload dX5_apply_161 (q := 2) rfl ?_
                refine p_SNI G k_RX5_150 rfl rfl (Nat.le_of_ble_eq_true rfl) ⟨by decide, by decide⟩ ⟨by decide, by decide⟩ dX5_apply_163 h (fun r5 im6 c7 h => ?_)
                refine p_iload dX5_apply_166 (q := 1) rfl ?_
                have g10 := h.1
                have h := h.2
                refine p_iast G (h_p2 11 (by decide)).1 (nf_r c7) g10.1 (zln_lt (h_p2 11 (by decide)).2.1 g10.2) (nf_r c3) dX5_apply_168 ?_
                refine p_gen (fun im8 e9 => ?_)
                have h := h im8 e9
                refine p_goto (tgt := 178) dX5_apply_169 (by decide) ?_
                exact p_retV (by decide) (by decide) rfl dX5_apply_178 h
              · have b9_6 := b4
                have h := h.2.2.2.2.2.2.2 (by omega)
                refine p_tableOut (tgt := 172) (a' := p1) dX5_apply_30 (nf_r c_p1) (by omega) (by decide) ?_
                refine p_aload dX5_apply_172 (q := 0) rfl ?_
                refine p_iload_n dX5_apply_174 rfl (q := 3) rfl ?_
                refine p_putI (j := 2) G f_RX5_158 rfl rfl rfl (h_p2 3 (by decide)).1 (nf_r c1) dX5_apply_175 ?_
                refine p_gen (fun im4 e5 => ?_)
                have h := h im4 e5
                exact p_retV (by decide) (by decide) rfl dX5_apply_178 h
set_option maxRecDepth 20000 in
set_option maxHeartbeats 4000000 in
theorem v_X5_read {g : zG} (G : zOK g) {S : zSh} {im : zIm} {a : Nat} {p1 : Nat} {Q : Int → zIm → Prop} (hS : zS_T S a) (h_p1 : zS_N S p1)
    (h : ∀ im1, im1 = zst im a 1 0 → ∀ im3, im3 = zst im1 a 2 (-1) → ∀ im5, im5 = zst im3 a 5 0 → zCV g yX5_nextToken M_X5_nextToken [.ref a] S im5 (fun im7 => zPI g M_X5_read 21 [(0, .ref a), (1, .ref p1), (2, .int (zi 0))] S im7 Q)) :
    zCI g yX5_read M_X5_read [.ref a, .ref p1] S im Q := by
  refine zC_of (by decide) rfl rfl rfl rfl (Nat.le_of_ble_eq_true rfl) ?_
  refine p_aload_n dX5_read_0 rfl (q := 0) rfl ?_
  refine p_iconst dX5_read_1 ?_
  refine p_putI (j := 1) G f_RX5_30 rfl rfl rfl (hS 0 (by decide)).1 (nf_k (by decide)) dX5_read_2 ?_
  refine p_gen (fun im1 e2 => ?_)
  have h := h im1 e2
  refine p_aload_n dX5_read_5 rfl (q := 0) rfl ?_
  refine p_iconst dX5_read_6 ?_
  refine p_putI (j := 2) G f_RX5_19 rfl rfl rfl (hS 0 (by decide)).1 (nf_k (by decide)) dX5_read_7 ?_
  refine p_gen (fun im3 e4 => ?_)
  have h := h im3 e4
  refine p_aload_n dX5_read_10 rfl (q := 0) rfl ?_
  refine p_iconst dX5_read_11 ?_
  refine p_putI (j := 5) G f_RX5_33 rfl rfl rfl (hS 0 (by decide)).1 (nf_k (by decide)) dX5_read_12 ?_
  refine p_gen (fun im5 e6 => ?_)
  have h := h im5 e6
  refine p_aload_n dX5_read_15 rfl (q := 0) rfl ?_
  refine p_VV G k_RX5_36 (by decide) (hS 0 (by decide)).1 rfl rfl (Nat.le_of_ble_eq_true rfl) ⟨by decide, by decide⟩ ⟨by decide, by decide⟩ dX5_read_16 h (fun im7 h => ?_)
  refine p_iconst dX5_read_19 ?_
  refine p_istore_n (lv' := [(2, .int (zi 0)), (0, .ref a), (1, .ref p1)]) dX5_read_20 rfl (by decide) rfl ?_
  refine p_sub (lv' := [(0, .ref a), (1, .ref p1), (2, .int (zi 0))]) [1, 2, 0] rfl ?_
  exact h
set_option maxRecDepth 20000 in
set_option maxHeartbeats 4000000 in
theorem v_X5_read_21 {g : zG} (G : zOK g) {S : zSh} {im : zIm} {a : Nat} {p1 : Nat} {x2 : Int} {Q : Int → zIm → Prop} (hS : zS_T S a) (h_p1 : zS_N S p1) (c_x2 : zc x2)
    (h : (((im a 0) < x2 → Q (-1) im) ∧ (x2 ≤ (im a 0) → ((¬ (im a 6) = 0 → zCI g yX5_readStatement M_X5_readStatement [.ref a, .ref (p1 + 3)] S im (fun r3 im4 => ((¬ r3 = (-1) → zCV g yX5_apply M_X5_apply [.ref a, .int (zi r3), .ref p1] S im4 (fun im6 => zPI g M_X5_read 21 [(0, .ref a), (1, .ref p1), (2, .int (zi (zw (x2 + 1))))] S im6 Q)) ∧ (r3 = (-1) → Q (-1) im4)))) ∧ ((im a 6) = 0 → Q x2 im))))) :
    zPI g M_X5_read 21 [(0, .ref a), (1, .ref p1), (2, .int (zi x2))] S im Q := by
  refine p_iload_n dX5_read_21 rfl (q := 2) rfl ?_
  refine p_aload_n dX5_read_22 rfl (q := 0) rfl ?_
  refine p_getI (j := 0) G f_RX5_23 rfl (hS 0 (by decide)).1 dX5_read_23 (fun c1 => ?_)
  refine p_icmp_gt (tgt := 66) dX5_read_26 (by decide) (nf_r c_x2) (nf_r c1) (fun b2 => ?_) (fun b2 => ?_)
  · have h := h.1 b2
    refine p_iconst dX5_read_66 ?_
    exact p_iretI (by decide) (by decide) rfl (nf_k (by decide)) dX5_read_67 h
  · have h := h.2 b2
    refine p_aload_n dX5_read_29 rfl (q := 0) rfl ?_
    refine p_getI (j := 6) G f_RX5_39 rfl (hS 0 (by decide)).1 dX5_read_30 (fun c2 => ?_)
    refine p_if_ne (tgt := 38) dX5_read_33 (by decide) (nf_r c2) (fun b3 => ?_) (fun b3 => ?_)
    · have h := h.1 b3
      refine p_aload_n dX5_read_38 rfl (q := 0) rfl ?_
      refine p_aload_n dX5_read_39 rfl (q := 1) rfl ?_
      refine p_getR (b := (p1 + 3)) G f_RX5_42 rfl (h_p1 0 (by decide)).1 ((h_p1 0 (by decide)).2.2 3 (by decide)) dX5_read_40 ?_
      refine p_VI G k_RX5_48 (by decide) (hS 0 (by decide)).1 rfl rfl (Nat.le_of_ble_eq_true rfl) ⟨by decide, by decide⟩ ⟨by decide, by decide⟩ dX5_read_43 h (fun r3 im4 c5 h => ?_)
      refine p_istore_n (lv' := [(3, .int (zi r3)), (0, .ref a), (1, .ref p1), (2, .int (zi x2))]) dX5_read_46 rfl (by decide) rfl ?_
      refine p_iload_n dX5_read_47 rfl (q := 0) rfl ?_
      refine p_iconst dX5_read_48 ?_
      refine p_icmp_ne (tgt := 54) dX5_read_49 (by decide) (nf_r c5) (nf_k (by decide)) (fun b6 => ?_) (fun b6 => ?_)
      · have h := h.1 b6
        refine p_aload_n dX5_read_54 rfl (q := 1) rfl ?_
        refine p_iload_n dX5_read_55 rfl (q := 0) rfl ?_
        refine p_aload_n dX5_read_56 rfl (q := 2) rfl ?_
        refine p_VV G k_RX5_52 (by decide) (hS 0 (by decide)).1 rfl rfl (Nat.le_of_ble_eq_true rfl) ⟨by decide, by decide⟩ ⟨by decide, by decide⟩ dX5_read_57 h (fun im6 h => ?_)
        refine p_iinc (q := 3) (lv' := [(2, .int (zi (x2 + 1))), (3, .int (zi r3)), (0, .ref a), (1, .ref p1)]) dX5_read_60 rfl (by decide) rfl ?_
        refine p_goto (tgt := 21) dX5_read_63 (by decide) ?_
        refine p_sub (lv' := [(0, .ref a), (1, .ref p1), (2, .int (zi (zw (x2 + 1))))]) [2, 3, 0] (by simp only [zi_zw, zl_zwl]; rfl) ?_
        exact h
      · have h := h.2 b6
        refine p_iconst dX5_read_52 ?_
        exact p_iretI (by decide) (by decide) rfl (nf_k (by decide)) dX5_read_53 h
    · have h := h.2 b3
      refine p_iload_n dX5_read_36 rfl (q := 2) rfl ?_
      exact p_iretI (by decide) (by decide) rfl (nf_r c_x2) dX5_read_37 h
set_option maxRecDepth 20000 in
set_option maxHeartbeats 4000000 in
theorem v_X5_isFull {g : zG} (G : zOK g) {S : zSh} {im : zIm} {a : Nat} {Q : Int → zIm → Prop} (hS : zS_T S a)
    (h : (((zw ((im a 0) + 4)) ≤ 500 → Q 0 im) ∧ (500 < (zw ((im a 0) + 4)) → Q 1 im))) :
    zCI g yX5_isFull M_X5_isFull [.ref a] S im Q := by
  refine zC_of (by decide) rfl rfl rfl rfl (Nat.le_of_ble_eq_true rfl) ?_
  refine p_aload_n dX5_isFull_0 rfl (q := 0) rfl ?_
  refine p_getI (j := 0) G f_RX5_23 rfl (hS 0 (by decide)).1 dX5_isFull_1 (fun c1 => ?_)
  refine p_iconst dX5_isFull_4 ?_
  refine p_iadd dX5_isFull_5 ?_
  refine p_sipush dX5_isFull_6 (by decide) ?_
  refine p_icmp_le (tgt := 16) dX5_isFull_9 (by decide) (nf_w _) (nf_k (by decide)) (fun b2 => ?_) (fun b2 => ?_)
  · have h := h.1 b2
    refine p_iconst dX5_isFull_16 ?_
    exact p_zretI (by decide) (by decide) rfl (nf_k (by decide)) (by decide) dX5_isFull_17 h
  · have h := h.2 b2
    refine p_iconst dX5_isFull_12 ?_
    refine p_goto (tgt := 17) dX5_isFull_13 (by decide) ?_
    exact p_zretI (by decide) (by decide) rfl (nf_k (by decide)) (by decide) dX5_isFull_17 h
set_option maxRecDepth 20000 in
set_option maxHeartbeats 4000000 in
theorem v_X5_append {g : zG} (G : zOK g) {S : zSh} {im : zIm} {a : Nat} {p1 : Int} {Q : zIm → Prop} (hS : zS_T S a) (c_p1 : zc p1)
    (h : zCI g yX5_isFull M_X5_isFull [.ref a] S im (fun r1 im2 => ((r1 = 0 → zPV g M_X5_append 11 [(0, .ref a), (1, .int (zi p1)), (2, .int (zi 24))] S im2 Q) ∧ (¬ r1 = 0 → Q im2)))) :
    zCV g yX5_append M_X5_append [.ref a, .int (zi p1)] S im Q := by
  refine zC_of (by decide) rfl rfl rfl rfl (Nat.le_of_ble_eq_true rfl) ?_
  refine p_aload_n dX5_append_0 rfl (q := 0) rfl ?_
  refine p_VI G k_RX5_26 (by decide) (hS 0 (by decide)).1 rfl rfl (Nat.le_of_ble_eq_true rfl) ⟨by decide, by decide⟩ ⟨by decide, by decide⟩ dX5_append_1 h (fun r1 im2 c3 h => ?_)
  refine p_if_eq (tgt := 8) dX5_append_4 (by decide) (nf_r c3) (fun b4 => ?_) (fun b4 => ?_)
  · have h := h.1 b4
    refine p_bipush dX5_append_8 (by decide) ?_
    refine p_istore_n (lv' := [(2, .int (zi 24)), (0, .ref a), (1, .int (zi p1))]) dX5_append_10 rfl (by decide) rfl ?_
    refine p_sub (lv' := [(0, .ref a), (1, .int (zi p1)), (2, .int (zi 24))]) [1, 2, 0] rfl ?_
    exact h
  · have h := h.2 b4
    exact p_retV (by decide) (by decide) rfl dX5_append_7 h
set_option maxRecDepth 20000 in
set_option maxHeartbeats 4000000 in
theorem v_X5_append_11 {g : zG} (G : zOK g) {S : zSh} {im : zIm} {a : Nat} {x1 : Int} {x2 : Int} {Q : zIm → Prop} (hS : zS_T S a) (c_x1 : zc x1) (c_x2 : zc x2)
    (h : ((x2 < 0 → Q im) ∧ (0 ≤ x2 → ((0 ≤ (im a 0) ∧ (im a 0) < 500) ∧ ∀ im2, im2 = zst im (a + 1) (im a 0) (Int.bmod (zushr x1 x2) 256) → ∀ im6, im6 = zst im2 a 0 (zw ((im2 a 0) + 1)) → zPV g M_X5_append 11 [(0, .ref a), (1, .int (zi x1)), (2, .int (zi (zw (x2 + (-8)))))] S im6 Q)))) :
    zPV g M_X5_append 11 [(0, .ref a), (1, .int (zi x1)), (2, .int (zi x2))] S im Q := by
  refine p_iload_n dX5_append_11 rfl (q := 2) rfl ?_
  refine p_if_lt (tgt := 44) dX5_append_12 (by decide) (nf_r c_x2) (fun b1 => ?_) (fun b1 => ?_)
  · have h := h.1 b1
    exact p_retV (by decide) (by decide) rfl dX5_append_44 h
  · have h := h.2 b1
    refine p_aload_n dX5_append_15 rfl (q := 0) rfl ?_
    refine p_getR (b := (a + 1)) G f_RX5_11 rfl (hS 0 (by decide)).1 ((hS 0 (by decide)).2.2 3 (by decide)) dX5_append_16 ?_
    refine p_aload_n dX5_append_19 rfl (q := 0) rfl ?_
    refine p_getI (j := 0) G f_RX5_23 rfl (hS 0 (by decide)).1 dX5_append_20 (fun c1 => ?_)
    refine p_iload_n dX5_append_23 rfl (q := 1) rfl ?_
    refine p_iload_n dX5_append_24 rfl (q := 2) rfl ?_
    refine p_iushr dX5_append_25 ?_
    refine p_i2b dX5_append_26 (nf_r (zc_t _)) ?_
    have g4 := h.1
    have h := h.2
    refine p_bast G (hS 1 (by decide)).1 (nf_r c1) g4.1 (zln_lt (hS 1 (by decide)).2.1 g4.2) (nf_r (zc_bm _)) (bm_lo _) (bm_hi _) dX5_append_27 ?_
    refine p_gen (fun im2 e3 => ?_)
    have h := h im2 e3
    refine p_aload_n dX5_append_28 rfl (q := 0) rfl ?_
    refine p_dup dX5_append_29 rfl ?_
    refine p_getI (j := 0) G f_RX5_23 rfl (hS 0 (by decide)).1 dX5_append_30 (fun c5 => ?_)
    refine p_iconst dX5_append_33 ?_
    refine p_iadd dX5_append_34 ?_
    refine p_putI (j := 0) G f_RX5_23 rfl rfl rfl (hS 0 (by decide)).1 (nf_w _) dX5_append_35 ?_
    refine p_gen (fun im6 e7 => ?_)
    have h := h im6 e7
    refine p_iinc (q := 2) (lv' := [(2, .int (zi (x2 + (-8)))), (0, .ref a), (1, .int (zi x1))]) dX5_append_38 rfl (by decide) rfl ?_
    refine p_goto (tgt := 11) dX5_append_41 (by decide) ?_
    refine p_sub (lv' := [(0, .ref a), (1, .int (zi x1)), (2, .int (zi (zw (x2 + (-8)))))]) [1, 2, 0] (by simp only [zi_zw, zl_zwl]; rfl) ?_
    exact h
