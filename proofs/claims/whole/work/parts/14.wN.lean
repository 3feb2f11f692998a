set_option maxRecDepth 20000 in
set_option maxHeartbeats 4000000 in
theorem v_X4_init {g : zG} (G : zOK g) {S : zSh} {im : zIm} {a : Nat} {Q : Option Value → zSh → zIm → Prop}  
    (h : (zkd S a = 4 ∧ ∀ im2, im2 = zst im a 1 1 → ∀ o4, o4 = ztop S → ∀ S6, S6 = zpush S 9 4 → ∀ im8, im8 = zsr im2 o4 (fun _ => 0) → (zkd S6 a = 4 ∧ ∀ S11, S11 = zsf S6 a 3 (some o4) → ∀ o13, o13 = ztop S11 → ∀ S15, S15 = zpush S11 9 4 → ∀ im17, im17 = zsr im8 o13 (fun _ => 0) → (zkd S15 a = 4 ∧ ∀ S20, S20 = zsf S15 a 4 (some o13) → ∀ o22, o22 = ztop S20 → ∀ S24, S24 = zpush S20 9 4 → ∀ im26, im26 = zsr im17 o22 (fun _ => 0) → (zkd S24 a = 4 ∧ ∀ S29, S29 = zsf S24 a 5 (some o22) → ∀ o31, o31 = ztop S29 → ∀ S33, S33 = zpush S29 9 8 → ∀ im35, im35 = zsr im26 o31 (fun _ => 0) → (zkd S33 a = 4 ∧ ∀ S38, S38 = zsf S33 a 6 (some o31) → ∀ o40, o40 = ztop S38 → ∀ S42, S42 = zpush S38 9 64 → ∀ im44, im44 = zsr im35 o40 (fun _ => 0) → (zkd S42 a = 4 ∧ ∀ S47, S47 = zsf S42 a 7 (some o40) → ∀ o49, o49 = ztop S47 → ∀ S51, S51 = zpush S47 9 32 → ∀ im53, im53 = zsr im44 o49 (fun _ => 0) → (zkd S51 a = 4 ∧ ∀ S56, S56 = zsf S51 a 8 (some o49) → ∀ o58, o58 = ztop S56 → ∀ S60, S60 = zpush S56 9 32 → ∀ im62, im62 = zsr im53 o58 (fun _ => 0) → (zkd S60 a = 4 ∧ ∀ S65, S65 = zsf S60 a 9 (some o58) → ∀ o67, o67 = ztop S65 → ∀ S69, S69 = zpush S65 9 32 → ∀ im71, im71 = zsr im62 o67 (fun _ => 0) → (zkd S69 a = 4 ∧ ∀ S74, S74 = zsf S69 a 10 (some o67) → Q none S74 im71)))))))))) :
    zC g yX4_init M_X4_init [.ref a] S im Q zX0 := by
  refine zC_of (by decide) rfl rfl rfl rfl (Nat.le_of_ble_eq_true rfl) ?_
  refine p_aload_n dX4_init_0 rfl (q := 0) rfl ?_
  refine p_objInit G q_1_42 q_1_29 q_1_30 (by decide) (Nat.le_of_ble_eq_true rfl) dX4_init_1 ?_
  refine p_aload_n dX4_init_4 rfl (q := 0) rfl ?_
  refine p_iconst dX4_init_5 ?_
  have k1 := h.1
  have h := h.2
  refine p_putI (j := 1) G f_RX4_9 rfl rfl rfl k1 (nf_k (by decide)) dX4_init_6 ?_
  refine p_gen (fun im2 e3 => ?_)
  have h := h im2 e3
  refine p_aload_n dX4_init_9 rfl (q := 0) rfl ?_
  refine p_iconst dX4_init_10 ?_
  refine p_newI G (N := 4) (nf_k (by decide)) (by decide) (Nat.le_of_ble_eq_true rfl) (by decide) (by decide) dX4_init_11 ?_
  obtain ⟨o4, e5⟩ : ∃ o, o = ztop S := ⟨_, rfl⟩
  rw [← e5]
  have h := h o4 e5
  refine p_genS (fun S6 e7 => ?_)
  have h := h S6 e7
  refine p_gen (fun im8 e9 => ?_)
  have h := h im8 e9
  have k10 := h.1
  have h := h.2
  refine p_putF (b := o4) (j := 3) G f_RX4_15 rfl rfl rfl rfl k10 rfl rfl dX4_init_13 ?_
  refine p_genS (fun S11 e12 => ?_)
  have h := h S11 e12
  refine p_aload_n dX4_init_16 rfl (q := 0) rfl ?_
  refine p_iconst dX4_init_17 ?_
  refine p_newI G (N := 4) (nf_k (by decide)) (by decide) (Nat.le_of_ble_eq_true rfl) (by decide) (by decide) dX4_init_18 ?_
  obtain ⟨o13, e14⟩ : ∃ o, o = ztop S11 := ⟨_, rfl⟩
  rw [← e14]
  have h := h o13 e14
  refine p_genS (fun S15 e16 => ?_)
  have h := h S15 e16
  refine p_gen (fun im17 e18 => ?_)
  have h := h im17 e18
  have k19 := h.1
  have h := h.2
  refine p_putF (b := o13) (j := 4) G f_RX4_19 rfl rfl rfl rfl k19 rfl rfl dX4_init_20 ?_
  refine p_genS (fun S20 e21 => ?_)
  have h := h S20 e21
  refine p_aload_n dX4_init_23 rfl (q := 0) rfl ?_
  refine p_iconst dX4_init_24 ?_
  refine p_newI G (N := 4) (nf_k (by decide)) (by decide) (Nat.le_of_ble_eq_true rfl) (by decide) (by decide) dX4_init_25 ?_
  obtain ⟨o22, e23⟩ : ∃ o, o = ztop S20 := ⟨_, rfl⟩
  rw [← e23]
  have h := h o22 e23
  refine p_genS (fun S24 e25 => ?_)
  have h := h S24 e25
  refine p_gen (fun im26 e27 => ?_)
  have h := h im26 e27
  have k28 := h.1
  have h := h.2
  refine p_putF (b := o22) (j := 5) G f_RX4_22 rfl rfl rfl rfl k28 rfl rfl dX4_init_27 ?_
  refine p_genS (fun S29 e30 => ?_)
  have h := h S29 e30
  refine p_aload_n dX4_init_30 rfl (q := 0) rfl ?_
  refine p_bipush dX4_init_31 (by decide) ?_
  refine p_newI G (N := 8) (nf_k (by decide)) (by decide) (Nat.le_of_ble_eq_true rfl) (by decide) (by decide) dX4_init_33 ?_
  obtain ⟨o31, e32⟩ : ∃ o, o = ztop S29 := ⟨_, rfl⟩
  rw [← e32]
  have h := h o31 e32
  refine p_genS (fun S33 e34 => ?_)
  have h := h S33 e34
  refine p_gen (fun im35 e36 => ?_)
  have h := h im35 e36
  have k37 := h.1
  have h := h.2
  refine p_putF (b := o31) (j := 6) G f_RX4_25 rfl rfl rfl rfl k37 rfl rfl dX4_init_35 ?_
  refine p_genS (fun S38 e39 => ?_)
  have h := h S38 e39
  refine p_aload_n dX4_init_38 rfl (q := 0) rfl ?_
  refine p_bipush dX4_init_39 (by decide) ?_
  refine p_newI G (N := 64) (nf_k (by decide)) (by decide) (Nat.le_of_ble_eq_true rfl) (by decide) (by decide) dX4_init_41 ?_
  obtain ⟨o40, e41⟩ : ∃ o, o = ztop S38 := ⟨_, rfl⟩
  rw [← e41]
  have h := h o40 e41
  refine p_genS (fun S42 e43 => ?_)
  have h := h S42 e43
  refine p_gen (fun im44 e45 => ?_)
  have h := h im44 e45
  have k46 := h.1
  have h := h.2
  refine p_putF (b := o40) (j := 7) G f_RX4_28 rfl rfl rfl rfl k46 rfl rfl dX4_init_43 ?_
  refine p_genS (fun S47 e48 => ?_)
  have h := h S47 e48
  refine p_aload_n dX4_init_46 rfl (q := 0) rfl ?_
  refine p_bipush dX4_init_47 (by decide) ?_
  refine p_newI G (N := 32) (nf_k (by decide)) (by decide) (Nat.le_of_ble_eq_true rfl) (by decide) (by decide) dX4_init_49 ?_
  obtain ⟨o49, e50⟩ : ∃ o, o = ztop S47 := ⟨_, rfl⟩
  rw [← e50]
  have h := h o49 e50
  refine p_genS (fun S51 e52 => ?_)
  have h := h S51 e52
  refine p_gen (fun im53 e54 => ?_)
  have h := h im53 e54
  have k55 := h.1
  have h := h.2
  refine p_putF (b := o49) (j := 8) G f_RX4_31 rfl rfl rfl rfl k55 rfl rfl dX4_init_51 ?_
  refine p_genS (fun S56 e57 => ?_)
  have h := h S56 e57
  refine p_aload_n dX4_init_54 rfl (q := 0) rfl ?_
  refine p_bipush dX4_init_55 (by decide) ?_
  refine p_newI G (N := 32) (nf_k (by decide)) (by decide) (Nat.le_of_ble_eq_true rfl) (by decide) (by decide) dX4_init_57 ?_
  obtain ⟨o58, e59⟩ : ∃ o, o = ztop S56 := ⟨_, rfl⟩
  rw [← e59]
  have h := h o58 e59
  refine p_genS (fun S60 e61 => ?_)
  have h := h S60 e61
  refine p_gen (fun im62 e63 => ?_)
  have h := h im62 e63
  have k64 := h.1
  have h := h.2
  refine p_putF (b := o58) (j := 9) G f_RX4_34 rfl rfl rfl rfl k64 rfl rfl dX4_init_59 ?_
  refine p_genS (fun S65 e66 => ?_)
  have h := h S65 e66
  refine p_aload_n dX4_init_62 rfl (q := 0) rfl ?_
  refine p_bipush dX4_init_63 (by decide) ?_
  refine p_newI G (N := 32) (nf_k (by decide)) (by decide) (Nat.le_of_ble_eq_true rfl) (by decide) (by decide) dX4_init_65 ?_
  obtain ⟨o67, e68⟩ : ∃ o, o = ztop S65 := ⟨_, rfl⟩
  rw [← e68]
  have h := h o67 e68
  refine p_genS (fun S69 e70 => ?_)
  have h := h S69 e70
  refine p_gen (fun im71 e72 => ?_)
  have h := h im71 e72
  have k73 := h.1
  have h := h.2
  refine p_putF (b := o67) (j := 10) G f_RX4_37 rfl rfl rfl rfl k73 rfl rfl dX4_init_67 ?_
  refine p_genS (fun S74 e75 => ?_)
  have h := h S74 e75
  exact p_return (by decide) (by decide) rfl dX4_init_70 h
set_option maxRecDepth 20000 in
set_option maxHeartbeats 4000000 in
theorem v_X0_init {g : zG} (G : zOK g) {S : zSh} {im : zIm} {a : Nat} {Q : Option Value → zSh → zIm → Prop}  
    (h : ∀ o1, o1 = ztop S → ∀ S3, S3 = zpush S 9 32 → ∀ im5, im5 = zsr im o1 (fun _ => 0) → (zkd S3 a = 0 ∧ ∀ S8, S8 = zsf S3 a 1 (some o1) → ∀ o10, o10 = ztop S8 → ∀ S12, S12 = zpush S8 9 32 → ∀ im14, im14 = zsr im5 o10 (fun _ => 0) → (zkd S12 a = 0 ∧ ∀ S17, S17 = zsf S12 a 2 (some o10) → ∀ o19, o19 = ztop S17 → ∀ S21, S21 = zpush S17 9 32 → ∀ im23, im23 = zsr im14 o19 (fun _ => 0) → (zkd S21 a = 0 ∧ ∀ S26, S26 = zsf S21 a 3 (some o19) → ∀ o28, o28 = ztop S26 → ∀ S30, S30 = zpush S26 9 32 → ∀ im32, im32 = zsr im23 o28 (fun _ => 0) → (zkd S30 a = 0 ∧ ∀ S35, S35 = zsf S30 a 4 (some o28) → ∀ o37, o37 = ztop S35 → ∀ S39, S39 = zpush S35 9 32 → ∀ im41, im41 = zsr im32 o37 (fun _ => 0) → (zkd S39 a = 0 ∧ ∀ S44, S44 = zsf S39 a 5 (some o37) → Q none S44 im41)))))) :
    zC g yX0_init M_X0_init [.ref a] S im Q zX0 := by
  refine zC_of (by decide) rfl rfl rfl rfl (Nat.le_of_ble_eq_true rfl) ?_
  refine p_aload_n dX0_init_0 rfl (q := 0) rfl ?_
  refine p_objInit G q_1_105 q_1_29 q_1_30 (by decide) (Nat.le_of_ble_eq_true rfl) dX0_init_1 ?_
  refine p_aload_n dX0_init_4 rfl (q := 0) rfl ?_
  refine p_bipush dX0_init_5 (by decide) ?_
  refine p_newI G (N := 32) (nf_k (by decide)) (by decide) (Nat.le_of_ble_eq_true rfl) (by decide) (by decide) dX0_init_7 ?_
  obtain ⟨o1, e2⟩ : ∃ o, o = ztop S := ⟨_, rfl⟩
  rw [← e2]
  have h := h o1 e2
  refine p_genS (fun S3 e4 => ?_)
  have h := h S3 e4
  refine p_gen (fun im5 e6 => ?_)
  have h := h im5 e6
  have k7 := h.1
  have h := h.2
  refine p_putF (b := o1) (j := 1) G f_RX0_9 rfl rfl rfl rfl k7 rfl rfl dX0_init_9 ?_
  refine p_genS (fun S8 e9 => ?_)
  have h := h S8 e9
  refine p_aload_n dX0_init_12 rfl (q := 0) rfl ?_
  refine p_bipush dX0_init_13 (by decide) ?_
  refine p_newI G (N := 32) (nf_k (by decide)) (by decide) (Nat.le_of_ble_eq_true rfl) (by decide) (by decide) dX0_init_15 ?_
  obtain ⟨o10, e11⟩ : ∃ o, o = ztop S8 := ⟨_, rfl⟩
  rw [← e11]
  have h := h o10 e11
  refine p_genS (fun S12 e13 => ?_)
  have h := h S12 e13
  refine p_gen (fun im14 e15 => ?_)
  have h := h im14 e15
  have k16 := h.1
  have h := h.2
  refine p_putF (b := o10) (j := 2) G f_RX0_15 rfl rfl rfl rfl k16 rfl rfl dX0_init_17 ?_
  refine p_genS (fun S17 e18 => ?_)
  have h := h S17 e18
  refine p_aload_n dX0_init_20 rfl (q := 0) rfl ?_
  refine p_bipush dX0_init_21 (by decide) ?_
  refine p_newI G (N := 32) (nf_k (by decide)) (by decide) (Nat.le_of_ble_eq_true rfl) (by decide) (by decide) dX0_init_23 ?_
  obtain ⟨o19, e20⟩ : ∃ o, o = ztop S17 := ⟨_, rfl⟩
  rw [← e20]
  have h := h o19 e20
  refine p_genS (fun S21 e22 => ?_)
  have h := h S21 e22
  refine p_gen (fun im23 e24 => ?_)
  have h := h im23 e24
  have k25 := h.1
  have h := h.2
  refine p_putF (b := o19) (j := 3) G f_RX0_18 rfl rfl rfl rfl k25 rfl rfl dX0_init_25 ?_
  refine p_genS (fun S26 e27 => ?_)
  have h := h S26 e27
  refine p_aload_n dX0_init_28 rfl (q := 0) rfl ?_
  refine p_bipush dX0_init_29 (by decide) ?_
  refine p_newI G (N := 32) (nf_k (by decide)) (by decide) (Nat.le_of_ble_eq_true rfl) (by decide) (by decide) dX0_init_31 ?_
  obtain ⟨o28, e29⟩ : ∃ o, o = ztop S26 := ⟨_, rfl⟩
  rw [← e29]
  have h := h o28 e29
  refine p_genS (fun S30 e31 => ?_)
  have h := h S30 e31
  refine p_gen (fun im32 e33 => ?_)
  have h := h im32 e33
  have k34 := h.1
  have h := h.2
  refine p_putF (b := o28) (j := 4) G f_RX0_21 rfl rfl rfl rfl k34 rfl rfl dX0_init_33 ?_
  refine p_genS (fun S35 e36 => ?_)
  have h := h S35 e36
  refine p_aload_n dX0_init_36 rfl (q := 0) rfl ?_
  refine p_bipush dX0_init_37 (by decide) ?_
  refine p_newI G (N := 32) (nf_k (by decide)) (by decide) (Nat.le_of_ble_eq_true rfl) (by decide) (by decide) dX0_init_39 ?_
  obtain ⟨o37, e38⟩ : ∃ o, o = ztop S35 := ⟨_, rfl⟩
  rw [← e38]
  have h := h o37 e38
  refine p_genS (fun S39 e40 => ?_)
  have h := h S39 e40
  refine p_gen (fun im41 e42 => ?_)
  have h := h im41 e42
  have k43 := h.1
  have h := h.2
  refine p_putF (b := o37) (j := 5) G f_RX0_24 rfl rfl rfl rfl k43 rfl rfl dX0_init_41 ?_
  refine p_genS (fun S44 e45 => ?_)
  have h := h S44 e45
  exact p_return (by decide) (by decide) rfl dX0_init_44 h
set_option maxRecDepth 20000 in
set_option maxHeartbeats 4000000 in
theorem v_X6_init {g : zG} (G : zOK g) {S : zSh} {im : zIm} {a : Nat} {Q : Option Value → zSh → zIm → Prop}  
    (h : ∀ o1, o1 = ztop S → ∀ S3, S3 = zpush S 9 300 → ∀ im5, im5 = zsr im o1 (fun _ => 0) → (zkd S3 a = 6 ∧ ∀ S8, S8 = zsf S3 a 1 (some o1) → ∀ o10, o10 = ztop S8 → ∀ S12, S12 = zpush S8 9 300 → ∀ im14, im14 = zsr im5 o10 (fun _ => 0) → (zkd S12 a = 6 ∧ ∀ S17, S17 = zsf S12 a 2 (some o10) → ∀ o19, o19 = ztop S17 → ∀ S21, S21 = zpush S17 9 300 → ∀ im23, im23 = zsr im14 o19 (fun _ => 0) → (zkd S21 a = 6 ∧ ∀ S26, S26 = zsf S21 a 3 (some o19) → ∀ o28, o28 = ztop S26 → ∀ S30, S30 = zpush S26 9 300 → ∀ im32, im32 = zsr im23 o28 (fun _ => 0) → (zkd S30 a = 6 ∧ ∀ S35, S35 = zsf S30 a 4 (some o28) → ∀ o37, o37 = ztop S35 → ∀ S39, S39 = zpush S35 9 300 → ∀ im41, im41 = zsr im32 o37 (fun _ => 0) → (zkd S39 a = 6 ∧ ∀ S44, S44 = zsf S39 a 5 (some o37) → ∀ o46, o46 = ztop S44 → ∀ S48, S48 = zpush S44 9 300 → ∀ im50, im50 = zsr im41 o46 (fun _ => 0) → (zkd S48 a = 6 ∧ ∀ S53, S53 = zsf S48 a 6 (some o46) → Q none S53 im50))))))) :
    zC g yX6_init M_X6_init [.ref a] S im Q zX0 := by
  refine zC_of (by decide) rfl rfl rfl rfl (Nat.le_of_ble_eq_true rfl) ?_
  refine p_aload_n dX6_init_0 rfl (q := 0) rfl ?_
  refine p_objInit G q_1_142 q_1_29 q_1_30 (by decide) (Nat.le_of_ble_eq_true rfl) dX6_init_1 ?_
  refine p_aload_n dX6_init_4 rfl (q := 0) rfl ?_
  refine p_sipush dX6_init_5 (by decide) ?_
  refine p_newI G (N := 300) (nf_k (by decide)) (by decide) (Nat.le_of_ble_eq_true rfl) (by decide) (by decide) dX6_init_8 ?_
  obtain ⟨o1, e2⟩ : ∃ o, o = ztop S := ⟨_, rfl⟩
  rw [← e2]
  have h := h o1 e2
  refine p_genS (fun S3 e4 => ?_)
  have h := h S3 e4
  refine p_gen (fun im5 e6 => ?_)
  have h := h im5 e6
  have k7 := h.1
  have h := h.2
  refine p_putF (b := o1) (j := 1) G f_RX6_9 rfl rfl rfl rfl k7 rfl rfl dX6_init_10 ?_
  refine p_genS (fun S8 e9 => ?_)
  have h := h S8 e9
  refine p_aload_n dX6_init_13 rfl (q := 0) rfl ?_
  refine p_sipush dX6_init_14 (by decide) ?_
  refine p_newI G (N := 300) (nf_k (by decide)) (by decide) (Nat.le_of_ble_eq_true rfl) (by decide) (by decide) dX6_init_17 ?_
  obtain ⟨o10, e11⟩ : ∃ o, o = ztop S8 := ⟨_, rfl⟩
  rw [← e11]
  have h := h o10 e11
  refine p_genS (fun S12 e13 => ?_)
  have h := h S12 e13
  refine p_gen (fun im14 e15 => ?_)
  have h := h im14 e15
  have k16 := h.1
  have h := h.2
  refine p_putF (b := o10) (j := 2) G f_RX6_15 rfl rfl rfl rfl k16 rfl rfl dX6_init_19 ?_
  refine p_genS (fun S17 e18 => ?_)
  have h := h S17 e18
  refine p_aload_n dX6_init_22 rfl (q := 0) rfl ?_
  refine p_sipush dX6_init_23 (by decide) ?_
  refine p_newI G (N := 300) (nf_k (by decide)) (by decide) (Nat.le_of_ble_eq_true rfl) (by decide) (by decide) dX6_init_26 ?_
  obtain ⟨o19, e20⟩ : ∃ o, o = ztop S17 := ⟨_, rfl⟩
  rw [← e20]
  have h := h o19 e20
  refine p_genS (fun S21 e22 => ?_)
  have h := h S21 e22
  refine p_gen (fun im23 e24 => ?_)
  have h := h im23 e24
  have k25 := h.1
  have h := h.2
  refine p_putF (b := o19) (j := 3) G f_RX6_18 rfl rfl rfl rfl k25 rfl rfl dX6_init_28 ?_
  refine p_genS (fun S26 e27 => ?_)
  have h := h S26 e27
  refine p_aload_n dX6_init_31 rfl (q := 0) rfl ?_
  refine p_sipush dX6_init_32 (by decide) ?_
  refine p_newI G (N := 300) (nf_k (by decide)) (by decide) (Nat.le_of_ble_eq_true rfl) (by decide) (by decide) dX6_init_35 ?_
  obtain ⟨o28, e29⟩ : ∃ o, o = ztop S26 := ⟨_, rfl⟩
  rw [← e29]
  have h := h o28 e29
  refine p_genS (fun S30 e31 => ?_)
  have h := h S30 e31
  refine p_gen (fun im32 e33 => ?_)
  have h := h im32 e33
  have k34 := h.1
  have h := h.2
  refine p_putF (b := o28) (j := 4) G f_RX6_21 rfl rfl rfl rfl k34 rfl rfl dX6_init_37 ?_
  refine p_genS (fun S35 e36 => ?_)
  have h := h S35 e36
  refine p_aload_n dX6_init_40 rfl (q := 0) rfl ?_
  refine p_sipush dX6_init_41 (by decide) ?_
  refine p_newI G (N := 300) (nf_k (by decide)) (by decide) (Nat.le_of_ble_eq_true rfl) (by decide) (by decide) dX6_init_44 ?_
  obtain ⟨o37, e38⟩ : ∃ o, o = ztop S35 := ⟨_, rfl⟩
  rw [← e38]
  have h := h o37 e38
  refine p_genS (fun S39 e40 => ?_)
  have h := h S39 e40
  refine p_gen (fun im41 e42 => ?_)
  have h := h im41 e42
  have k43 := h.1
  have h := h.2
  refine p_putF (b := o37) (j := 5) G f_RX6_24 rfl rfl rfl rfl k43 rfl rfl dX6_init_46 ?_
  refine p_genS (fun S44 e45 => ?_)
  have h := h S44 e45
  refine p_aload_n dX6_init_49 rfl (q := 0) rfl ?_
  refine p_sipush dX6_init_50 (by decide) ?_
  refine p_newI G (N := 300) (nf_k (by decide)) (by decide) (Nat.le_of_ble_eq_true rfl) (by decide) (by decide) dX6_init_53 ?_
  obtain ⟨o46, e47⟩ : ∃ o, o = ztop S44 := ⟨_, rfl⟩
  rw [← e47]
  have h := h o46 e47
  refine p_genS (fun S48 e49 => ?_)
  have h := h S48 e49
  refine p_gen (fun im50 e51 => ?_)
  have h := h im50 e51
  have k52 := h.1
  have h := h.2
  refine p_putF (b := o46) (j := 6) G f_RX6_27 rfl rfl rfl rfl k52 rfl rfl dX6_init_55 ?_
  refine p_genS (fun S53 e54 => ?_)
  have h := h S53 e54
  exact p_return (by decide) (by decide) rfl dX6_init_58 h
set_option maxRecDepth 20000 in
set_option maxHeartbeats 4000000 in
theorem v_X3_init {g : zG} (G : zOK g) {S : zSh} {im : zIm} {a : Nat} {Q : Option Value → zSh → zIm → Prop}  
    (h : ∀ o1, o1 = ztop S → ∀ S3, S3 = zpush S 9 300 → ∀ im5, im5 = zsr im o1 (fun _ => 0) → (zkd S3 a = 3 ∧ ∀ S8, S8 = zsf S3 a 1 (some o1) → ∀ o10, o10 = ztop S8 → ∀ S12, S12 = zpush S8 9 300 → ∀ im14, im14 = zsr im5 o10 (fun _ => 0) → (zkd S12 a = 3 ∧ ∀ S17, S17 = zsf S12 a 2 (some o10) → ∀ o19, o19 = ztop S17 → ∀ S21, S21 = zpush S17 9 300 → ∀ im23, im23 = zsr im14 o19 (fun _ => 0) → (zkd S21 a = 3 ∧ ∀ S26, S26 = zsf S21 a 3 (some o19) → ∀ o28, o28 = ztop S26 → ∀ S30, S30 = zpush S26 9 300 → ∀ im32, im32 = zsr im23 o28 (fun _ => 0) → (zkd S30 a = 3 ∧ ∀ S35, S35 = zsf S30 a 4 (some o28) → Q none S35 im32))))) :
    zC g yX3_init M_X3_init [.ref a] S im Q zX0 := by
  refine zC_of (by decide) rfl rfl rfl rfl (Nat.le_of_ble_eq_true rfl) ?_
  refine p_aload_n dX3_init_0 rfl (q := 0) rfl ?_
  refine p_objInit G q_1_183 q_1_29 q_1_30 (by decide) (Nat.le_of_ble_eq_true rfl) dX3_init_1 ?_
  refine p_aload_n dX3_init_4 rfl (q := 0) rfl ?_
  refine p_sipush dX3_init_5 (by decide) ?_
  refine p_newI G (N := 300) (nf_k (by decide)) (by decide) (Nat.le_of_ble_eq_true rfl) (by decide) (by decide) dX3_init_8 ?_
  obtain ⟨o1, e2⟩ : ∃ o, o = ztop S := ⟨_, rfl⟩
  rw [← e2]
  have h := h o1 e2
  refine p_genS (fun S3 e4 => ?_)
  have h := h S3 e4
  refine p_gen (fun im5 e6 => ?_)
  have h := h im5 e6
  have k7 := h.1
  have h := h.2
  refine p_putF (b := o1) (j := 1) G f_RX3_9 rfl rfl rfl rfl k7 rfl rfl dX3_init_10 ?_
  refine p_genS (fun S8 e9 => ?_)
  have h := h S8 e9
  refine p_aload_n dX3_init_13 rfl (q := 0) rfl ?_
  refine p_sipush dX3_init_14 (by decide) ?_
  refine p_newI G (N := 300) (nf_k (by decide)) (by decide) (Nat.le_of_ble_eq_true rfl) (by decide) (by decide) dX3_init_17 ?_
  obtain ⟨o10, e11⟩ : ∃ o, o = ztop S8 := ⟨_, rfl⟩
  rw [← e11]
  have h := h o10 e11
  refine p_genS (fun S12 e13 => ?_)
  have h := h S12 e13
  refine p_gen (fun im14 e15 => ?_)
  have h := h im14 e15
  have k16 := h.1
  have h := h.2
  refine p_putF (b := o10) (j := 2) G f_RX3_15 rfl rfl rfl rfl k16 rfl rfl dX3_init_19 ?_
  refine p_genS (fun S17 e18 => ?_)
  have h := h S17 e18
  refine p_aload_n dX3_init_22 rfl (q := 0) rfl ?_
  refine p_sipush dX3_init_23 (by decide) ?_
  refine p_newI G (N := 300) (nf_k (by decide)) (by decide) (Nat.le_of_ble_eq_true rfl) (by decide) (by decide) dX3_init_26 ?_
  obtain ⟨o19, e20⟩ : ∃ o, o = ztop S17 := ⟨_, rfl⟩
  rw [← e20]
  have h := h o19 e20
  refine p_genS (fun S21 e22 => ?_)
  have h := h S21 e22
  refine p_gen (fun im23 e24 => ?_)
  have h := h im23 e24
  have k25 := h.1
  have h := h.2
  refine p_putF (b := o19) (j := 3) G f_RX3_18 rfl rfl rfl rfl k25 rfl rfl dX3_init_28 ?_
  refine p_genS (fun S26 e27 => ?_)
  have h := h S26 e27
  refine p_aload_n dX3_init_31 rfl (q := 0) rfl ?_
  refine p_sipush dX3_init_32 (by decide) ?_
  refine p_newI G (N := 300) (nf_k (by decide)) (by decide) (Nat.le_of_ble_eq_true rfl) (by decide) (by decide) dX3_init_35 ?_
  obtain ⟨o28, e29⟩ : ∃ o, o = ztop S26 := ⟨_, rfl⟩
  rw [← e29]
  have h := h o28 e29
  refine p_genS (fun S30 e31 => ?_)
  have h := h S30 e31
  refine p_gen (fun im32 e33 => ?_)
  have h := h im32 e33
  have k34 := h.1
  have h := h.2
  refine p_putF (b := o28) (j := 4) G f_RX3_21 rfl rfl rfl rfl k34 rfl rfl dX3_init_37 ?_
  refine p_genS (fun S35 e36 => ?_)
  have h := h S35 e36
  exact p_return (by decide) (by decide) rfl dX3_init_40 h
set_option maxRecDepth 20000 in
set_option maxHeartbeats 4000000 in
theorem v_X1_init {g : zG} (G : zOK g) {S : zSh} {im : zIm} {a : Nat} {Q : Option Value → zSh → zIm → Prop}  
    (h : Q none S im) :
    zC g yX1_init M_X1_init [.ref a] S im Q zX0 := by
  refine zC_of (by decide) rfl rfl rfl rfl (Nat.le_of_ble_eq_true rfl) ?_
  refine p_aload_n dX1_init_0 rfl (q := 0) rfl ?_
  refine p_objInit G q_1_210 q_1_29 q_1_30 (by decide) (Nat.le_of_ble_eq_true rfl) dX1_init_1 ?_
  exact p_return (by decide) (by decide) rfl dX1_init_4 h
set_option maxRecDepth 20000 in
set_option maxHeartbeats 4000000 in
theorem v_X2_init {g : zG} (G : zOK g) {S : zSh} {im : zIm} {a : Nat} {Q : Option Value → zSh → zIm → Prop}  
    (h : ∀ o1, o1 = ztop S → ∀ S3, S3 = zpush S 9 32 → ∀ im5, im5 = zsr im o1 (fun _ => 0) → (zkd S3 a = 2 ∧ ∀ S8, S8 = zsf S3 a 1 (some o1) → ∀ o10, o10 = ztop S8 → ∀ S12, S12 = zpush S8 9 32 → ∀ im14, im14 = zsr im5 o10 (fun _ => 0) → (zkd S12 a = 2 ∧ ∀ S17, S17 = zsf S12 a 2 (some o10) → ∀ o19, o19 = ztop S17 → ∀ S21, S21 = zpush S17 4 0 → ∀ im23, im23 = zsr im14 o19 (fun _ => 0) → zC g yX4_init M_X4_init [.ref o19] S21 im23 (fun v27 S26 im25 => v27 = none ∧ (zkd S26 a = 2 ∧ ∀ S29, S29 = zsf S26 a 3 (some o19) → ∀ o31, o31 = ztop S29 → ∀ S33, S33 = zpush S29 0 0 → ∀ im35, im35 = zsr im25 o31 (fun _ => 0) → zC g yX0_init M_X0_init [.ref o31] S33 im35 (fun v39 S38 im37 => v39 = none ∧ (zkd S38 a = 2 ∧ ∀ S41, S41 = zsf S38 a 4 (some o31) → ∀ o43, o43 = ztop S41 → ∀ S45, S45 = zpush S41 6 0 → ∀ im47, im47 = zsr im37 o43 (fun _ => 0) → zC g yX6_init M_X6_init [.ref o43] S45 im47 (fun v51 S50 im49 => v51 = none ∧ (zkd S50 a = 2 ∧ ∀ S53, S53 = zsf S50 a 5 (some o43) → ∀ o55, o55 = ztop S53 → ∀ S57, S57 = zpush S53 3 0 → ∀ im59, im59 = zsr im49 o55 (fun _ => 0) → zC g yX3_init M_X3_init [.ref o55] S57 im59 (fun v63 S62 im61 => v63 = none ∧ (zkd S62 a = 2 ∧ ∀ S65, S65 = zsf S62 a 6 (some o55) → ∀ o67, o67 = ztop S65 → ∀ S69, S69 = zpush S65 3 0 → ∀ im71, im71 = zsr im61 o67 (fun _ => 0) → zC g yX3_init M_X3_init [.ref o67] S69 im71 (fun v75 S74 im73 => v75 = none ∧ (zkd S74 a = 2 ∧ ∀ S77, S77 = zsf S74 a 7 (some o67) → ∀ o79, o79 = ztop S77 → ∀ S81, S81 = zpush S77 3 0 → ∀ im83, im83 = zsr im73 o79 (fun _ => 0) → zC g yX3_init M_X3_init [.ref o79] S81 im83 (fun v87 S86 im85 => v87 = none ∧ (zkd S86 a = 2 ∧ ∀ S89, S89 = zsf S86 a 8 (some o79) → ∀ o91, o91 = ztop S89 → ∀ S93, S93 = zpush S89 1 0 → ∀ im95, im95 = zsr im85 o91 (fun _ => 0) → zC g yX1_init M_X1_init [.ref o91] S93 im95 (fun v99 S98 im97 => v99 = none ∧ (zkd S98 a = 2 ∧ ∀ S101, S101 = zsf S98 a 9 (some o91) → Q none S101 im97)) zX0)) zX0)) zX0)) zX0)) zX0)) zX0)) zX0))) :
    zC g yX2_init M_X2_init [.ref a] S im Q zX0 := by
  refine zC_of (by decide) rfl rfl rfl rfl (Nat.le_of_ble_eq_true rfl) ?_
  refine p_aload_n dX2_init_0 rfl (q := 0) rfl ?_
  refine p_objInit G q_1_36 q_1_29 q_1_30 (by decide) (Nat.le_of_ble_eq_true rfl) dX2_init_1 ?_
  refine p_aload_n dX2_init_4 rfl (q := 0) rfl ?_
  refine p_bipush dX2_init_5 (by decide) ?_
  refine p_newI G (N := 32) (nf_k (by decide)) (by decide) (Nat.le_of_ble_eq_true rfl) (by decide) (by decide) dX2_init_7 ?_
  obtain ⟨o1, e2⟩ : ∃ o, o = ztop S := ⟨_, rfl⟩
  rw [← e2]
  have h := h o1 e2
  refine p_genS (fun S3 e4 => ?_)
  have h := h S3 e4
  refine p_gen (fun im5 e6 => ?_)
  have h := h im5 e6
  have k7 := h.1
  have h := h.2
  refine p_putF (b := o1) (j := 1) G f_RX2_9 rfl rfl rfl rfl k7 rfl rfl dX2_init_9 ?_
  refine p_genS (fun S8 e9 => ?_)
  have h := h S8 e9
  refine p_aload_n dX2_init_12 rfl (q := 0) rfl ?_
  refine p_bipush dX2_init_13 (by decide) ?_
  refine p_newI G (N := 32) (nf_k (by decide)) (by decide) (Nat.le_of_ble_eq_true rfl) (by decide) (by decide) dX2_init_15 ?_
  obtain ⟨o10, e11⟩ : ∃ o, o = ztop S8 := ⟨_, rfl⟩
  rw [← e11]
  have h := h o10 e11
  refine p_genS (fun S12 e13 => ?_)
  have h := h S12 e13
  refine p_gen (fun im14 e15 => ?_)
  have h := h im14 e15
  have k16 := h.1
  have h := h.2
  refine p_putF (b := o10) (j := 2) G f_RX2_15 rfl rfl rfl rfl k16 rfl rfl dX2_init_17 ?_
  refine p_genS (fun S17 e18 => ?_)
  have h := h S17 e18
  refine p_aload_n dX2_init_20 rfl (q := 0) rfl ?_
  refine p_new G (q := 4) (by decide) q_1_37 q_1_38 q_1_3 (by decide) (by decide) dX2_init_21 (zdef (by decide)) ?_
  obtain ⟨o19, e20⟩ : ∃ o, o = ztop S17 := ⟨_, rfl⟩
  rw [← e20]
  have h := h o19 e20
  refine p_genS (fun S21 e22 => ?_)
  have h := h S21 e22
  refine p_gen (fun im23 e24 => ?_)
  have h := h im23 e24
  refine p_dup dX2_init_24 rfl ?_
  refine p_I G k_RX2_20 rfl rfl (Nat.le_of_ble_eq_true rfl) ⟨by decide, by decide⟩ ⟨by decide, by decide⟩ dX2_init_25 h (fun v27 S26 im25 h => ?_)
  obtain ⟨rfl, h⟩ := h
  have k28 := h.1
  have h := h.2
  refine p_putF (b := o19) (j := 3) G f_RX2_21 rfl rfl rfl rfl k28 rfl rfl dX2_init_28 ?_
  refine p_genS (fun S29 e30 => ?_)
  have h := h S29 e30
  refine p_aload_n dX2_init_31 rfl (q := 0) rfl ?_
  refine p_new G (q := 0) (by decide) q_1_100 q_1_101 q_1_4 (by decide) (by decide) dX2_init_32 (zdef (by decide)) ?_
  obtain ⟨o31, e32⟩ : ∃ o, o = ztop S29 := ⟨_, rfl⟩
  rw [← e32]
  have h := h o31 e32
  refine p_genS (fun S33 e34 => ?_)
  have h := h S33 e34
  refine p_gen (fun im35 e36 => ?_)
  have h := h im35 e36
  refine p_dup dX2_init_35 rfl ?_
  refine p_I G k_RX2_27 rfl rfl (Nat.le_of_ble_eq_true rfl) ⟨by decide, by decide⟩ ⟨by decide, by decide⟩ dX2_init_36 h (fun v39 S38 im37 h => ?_)
  obtain ⟨rfl, h⟩ := h
  have k40 := h.1
  have h := h.2
  refine p_putF (b := o31) (j := 4) G f_RX2_28 rfl rfl rfl rfl k40 rfl rfl dX2_init_39 ?_
  refine p_genS (fun S41 e42 => ?_)
  have h := h S41 e42
  refine p_aload_n dX2_init_42 rfl (q := 0) rfl ?_
  refine p_new G (q := 6) (by decide) q_1_137 q_1_138 q_1_5 (by decide) (by decide) dX2_init_43 (zdef (by decide)) ?_
  obtain ⟨o43, e44⟩ : ∃ o, o = ztop S41 := ⟨_, rfl⟩
  rw [← e44]
  have h := h o43 e44
  refine p_genS (fun S45 e46 => ?_)
  have h := h S45 e46
  refine p_gen (fun im47 e48 => ?_)
  have h := h im47 e48
  refine p_dup dX2_init_46 rfl ?_
  refine p_I G k_RX2_34 rfl rfl (Nat.le_of_ble_eq_true rfl) ⟨by decide, by decide⟩ ⟨by decide, by decide⟩ dX2_init_47 h (fun v51 S50 im49 h => ?_)
  obtain ⟨rfl, h⟩ := h
  have k52 := h.1
  have h := h.2
  refine p_putF (b := o43) (j := 5) G f_RX2_35 rfl rfl rfl rfl k52 rfl rfl dX2_init_50 ?_
  refine p_genS (fun S53 e54 => ?_)
  have h := h S53 e54
  refine p_aload_n dX2_init_53 rfl (q := 0) rfl ?_
  refine p_new G (q := 3) (by decide) q_1_178 q_1_179 q_1_6 (by decide) (by decide) dX2_init_54 (zdef (by decide)) ?_
  obtain ⟨o55, e56⟩ : ∃ o, o = ztop S53 := ⟨_, rfl⟩
  rw [← e56]
  have h := h o55 e56
  refine p_genS (fun S57 e58 => ?_)
  have h := h S57 e58
  refine p_gen (fun im59 e60 => ?_)
  have h := h im59 e60
  refine p_dup dX2_init_57 rfl ?_
  refine p_I G k_RX2_41 rfl rfl (Nat.le_of_ble_eq_true rfl) ⟨by decide, by decide⟩ ⟨by decide, by decide⟩ dX2_init_58 h (fun v63 S62 im61 h => ?_)
  obtain ⟨rfl, h⟩ := h
  have k64 := h.1
  have h := h.2
  refine p_putF (b := o55) (j := 6) G f_RX2_42 rfl rfl rfl rfl k64 rfl rfl dX2_init_61 ?_
  refine p_genS (fun S65 e66 => ?_)
  have h := h S65 e66
  refine p_aload_n dX2_init_64 rfl (q := 0) rfl ?_
  refine p_new G (q := 3) (by decide) q_1_178 q_1_179 q_1_6 (by decide) (by decide) dX2_init_65 (zdef (by decide)) ?_
  obtain ⟨o67, e68⟩ : ∃ o, o = ztop S65 := ⟨_, rfl⟩
  rw [← e68]
  have h := h o67 e68
  refine p_genS (fun S69 e70 => ?_)
  have h := h S69 e70
  refine p_gen (fun im71 e72 => ?_)
  have h := h im71 e72
  refine p_dup dX2_init_68 rfl ?_
  refine p_I G k_RX2_41 rfl rfl (Nat.le_of_ble_eq_true rfl) ⟨by decide, by decide⟩ ⟨by decide, by decide⟩ dX2_init_69 h (fun v75 S74 im73 h => ?_)
  obtain ⟨rfl, h⟩ := h
  have k76 := h.1
  have h := h.2
  refine p_putF (b := o67) (j := 7) G f_RX2_46 rfl rfl rfl rfl k76 rfl rfl dX2_init_72 ?_
  refine p_genS (fun S77 e78 => ?_)
  have h := h S77 e78
  refine p_aload_n dX2_init_75 rfl (q := 0) rfl ?_
  refine p_new G (q := 3) (by decide) q_1_178 q_1_179 q_1_6 (by decide) (by decide) dX2_init_76 (zdef (by decide)) ?_
  obtain ⟨o79, e80⟩ : ∃ o, o = ztop S77 := ⟨_, rfl⟩
  rw [← e80]
  have h := h o79 e80
  refine p_genS (fun S81 e82 => ?_)
  have h := h S81 e82
  refine p_gen (fun im83 e84 => ?_)
  have h := h im83 e84
  refine p_dup dX2_init_79 rfl ?_
  refine p_I G k_RX2_41 rfl rfl (Nat.le_of_ble_eq_true rfl) ⟨by decide, by decide⟩ ⟨by decide, by decide⟩ dX2_init_80 h (fun v87 S86 im85 h => ?_)
  obtain ⟨rfl, h⟩ := h
  have k88 := h.1
  have h := h.2
  refine p_putF (b := o79) (j := 8) G f_RX2_49 rfl rfl rfl rfl k88 rfl rfl dX2_init_83 ?_
  refine p_genS (fun S89 e90 => ?_)
  have h := h S89 e90
  refine p_aload_n dX2_init_86 rfl (q := 0) rfl ?_
  refine p_new G (q := 1) (by decide) q_1_205 q_1_206 q_1_7 (by decide) (by decide) dX2_init_87 (zdef (by decide)) ?_
  obtain ⟨o91, e92⟩ : ∃ o, o = ztop S89 := ⟨_, rfl⟩
  rw [← e92]
  have h := h o91 e92
  refine p_genS (fun S93 e94 => ?_)
  have h := h S93 e94
  refine p_gen (fun im95 e96 => ?_)
  have h := h im95 e96
  refine p_dup dX2_init_90 rfl ?_
  refine p_IN G k_RX2_54 rfl rfl (Nat.le_of_ble_eq_true rfl) ⟨by decide, by decide⟩ ⟨by decide, by decide⟩ dX2_init_91 h (fun v99 S98 im97 h => ?_)
  obtain ⟨rfl, h⟩ := h
  have k100 := h.1
  have h := h.2
  refine p_putF (b := o91) (j := 9) G f_RX2_55 rfl rfl rfl rfl k100 rfl rfl dX2_init_94 ?_
  refine p_genS (fun S101 e102 => ?_)
  have h := h S101 e102
  exact p_return (by decide) (by decide) rfl dX2_init_97 h
set_option maxRecDepth 20000 in
set_option maxHeartbeats 4000000 in
theorem v_J7_fill_53178 {g : zG} (G : zOK g) {S : zSh} {im : zIm} {p1 : Nat} {p2 : Int} {Q : zIm → Prop} (hk_p1 : zkd S p1 = 9) (c_p2 : zc p2)
    (h : (zc (zln S p1 : Int) ∧ zPV g M_J7_fill_53178 5 [(0, .ref p1), (1, .int (zi p2)), (2, .int (zi 0)), (3, .int (zi (zln S p1 : Int)))] S im Q)) :
    zCV g yJ7_fill_53178 M_J7_fill_53178 [.ref p1, .int (zi p2)] S im Q := by
  refine zC_of (by decide) rfl rfl rfl rfl (Nat.le_of_ble_eq_true rfl) ?_
  refine p_iconst dJ7_fill_53178_0 ?_
  refine p_istore_n (lv' := [(2, .int (zi 0)), (0, .ref p1), (1, .int (zi p2))]) dJ7_fill_53178_1 rfl (by decide) rfl ?_
  refine p_aload_n dJ7_fill_53178_2 rfl (q := 1) rfl ?_
  refine p_alen G hk_p1 dJ7_fill_53178_3 ?_
  have c1 := h.1
  have h := h.2
  refine p_istore_n (lv' := [(3, .int (zi (zln S p1 : Int))), (2, .int (zi 0)), (0, .ref p1), (1, .int (zi p2))]) dJ7_fill_53178_4 rfl (by decide) rfl ?_
  refine p_sub (lv' := [(0, .ref p1), (1, .int (zi p2)), (2, .int (zi 0)), (3, .int (zi (zln S p1 : Int)))]) [2, 3, 1, 0] rfl ?_
  exact h
set_option maxRecDepth 20000 in
set_option maxHeartbeats 4000000 in
theorem v_J7_fill_53178_5 {g : zG} (G : zOK g) {S : zSh} {im : zIm} {p1 : Nat} {x1 : Int} {x2 : Int} {x3 : Int} {Q : zIm → Prop} (hk_p1 : zkd S p1 = 9) (c_x1 : zc x1) (c_x2 : zc x2) (c_x3 : zc x3)
    (h : ((x3 ≤ x2 → Q im) ∧ (x2 < x3 → ((0 ≤ x2 ∧ x2 < (zln S p1 : Int)) ∧ ∀ im1, im1 = zst im p1 x2 x1 → zPV g M_J7_fill_53178 5 [(0, .ref p1), (1, .int (zi x1)), (2, .int (zi (zw (x2 + 1)))), (3, .int (zi x3))] S im1 Q)))) :
    zPV g M_J7_fill_53178 5 [(0, .ref p1), (1, .int (zi x1)), (2, .int (zi x2)), (3, .int (zi x3))] S im Q := by
  refine p_iload_n dJ7_fill_53178_5 rfl (q := 2) rfl ?_
  refine p_iload_n dJ7_fill_53178_6 rfl (q := 3) rfl ?_
  refine p_icmp_ge (tgt := 20) dJ7_fill_53178_7 (by decide) (nf_r c_x2) (nf_r c_x3) (fun b1 => ?_) (fun b1 => ?_)
  · have h := h.1 b1
    exact p_retV (by decide) (by decide) rfl dJ7_fill_53178_20 h
  · have h := h.2 b1
    refine p_aload_n dJ7_fill_53178_10 rfl (q := 0) rfl ?_
    refine p_iload_n dJ7_fill_53178_11 rfl (q := 2) rfl ?_
    refine p_iload_n dJ7_fill_53178_12 rfl (q := 1) rfl ?_
    have g3 := h.1
    have h := h.2
    refine p_iast G hk_p1 (nf_r c_x2) g3.1 g3.2 (nf_r c_x1) dJ7_fill_53178_13 ?_
    refine p_gen (fun im1 e2 => ?_)
    have h := h im1 e2
    refine p_iinc (q := 2) (lv' := [(2, .int (zi (x2 + 1))), (0, .ref p1), (1, .int (zi x1)), (3, .int (zi x3))]) dJ7_fill_53178_14 rfl (by decide) rfl ?_
    refine p_goto (tgt := 5) dJ7_fill_53178_17 (by decide) ?_
    refine p_sub (lv' := [(0, .ref p1), (1, .int (zi x1)), (2, .int (zi (zw (x2 + 1)))), (3, .int (zi x3))]) [1, 2, 0, 3] (by simp only [zi_zw, zl_zwl]; rfl) ?_
    exact h
set_option maxRecDepth 20000 in
set_option maxHeartbeats 4000000 in
theorem v_X4_clear {g : zG} (G : zOK g) {S : zSh} {im : zIm} {a : Nat} {Q : zIm → Prop} (hS : zS_S S a)
    (h : ∀ im1, im1 = zst im a 0 0 → ∀ im3, im3 = zst im1 a 1 1 → ∀ im5, im5 = zst im3 a 2 0 → zCV g yJ7_fill_53178 M_J7_fill_53178 [.ref (a + 5), .int (zi 0)] S im5 (fun im7 => zCV g yJ7_fill_53178 M_J7_fill_53178 [.ref (a + 6), .int (zi 0)] S im7 (fun im9 => zCV g yJ7_fill_53178 M_J7_fill_53178 [.ref (a + 7), .int (zi 0)] S im9 (fun im11 => zCV g yJ7_fill_53178 M_J7_fill_53178 [.ref (a + 8), .int (zi 0)] S im11 (fun im13 => Q im13))))) :
    zCV g yX4_clear M_X4_clear [.ref a] S im Q := by
  refine zC_of (by decide) rfl rfl rfl rfl (Nat.le_of_ble_eq_true rfl) ?_
  refine p_aload_n dX4_clear_0 rfl (q := 0) rfl ?_
  refine p_iconst dX4_clear_1 ?_
  refine p_putI (j := 0) G f_RX4_40 rfl rfl rfl (hS 0 (by decide)).1 (nf_k (by decide)) dX4_clear_2 ?_
  refine p_gen (fun im1 e2 => ?_)
  have h := h im1 e2
  refine p_aload_n dX4_clear_5 rfl (q := 0) rfl ?_
  refine p_iconst dX4_clear_6 ?_
  refine p_putI (j := 1) G f_RX4_9 rfl rfl rfl (hS 0 (by decide)).1 (nf_k (by decide)) dX4_clear_7 ?_
  refine p_gen (fun im3 e4 => ?_)
  have h := h im3 e4
  refine p_aload_n dX4_clear_10 rfl (q := 0) rfl ?_
  refine p_iconst dX4_clear_11 ?_
  refine p_putI (j := 2) G f_RX4_43 rfl rfl rfl (hS 0 (by decide)).1 (nf_k (by decide)) dX4_clear_12 ?_
  refine p_gen (fun im5 e6 => ?_)
  have h := h im5 e6
  refine p_aload_n dX4_clear_15 rfl (q := 0) rfl ?_
  refine p_getR (b := (a + 5)) G f_RX4_28 rfl (hS 0 (by decide)).1 ((hS 0 (by decide)).2.2 7 (by decide)) dX4_clear_16 ?_
  refine p_iconst dX4_clear_19 ?_
  refine p_SV G k_RX4_46 rfl rfl (Nat.le_of_ble_eq_true rfl) ⟨by decide, by decide⟩ ⟨by decide, by decide⟩ dX4_clear_20 h (fun im7 h => ?_)
  refine p_aload_n dX4_clear_23 rfl (q := 0) rfl ?_
  refine p_getR (b := (a + 6)) G f_RX4_31 rfl (hS 0 (by decide)).1 ((hS 0 (by decide)).2.2 8 (by decide)) dX4_clear_24 ?_
  refine p_iconst dX4_clear_27 ?_
  refine p_SV G k_RX4_46 rfl rfl (Nat.le_of_ble_eq_true rfl) ⟨by decide, by decide⟩ ⟨by decide, by decide⟩ dX4_clear_28 h (fun im9 h => ?_)
  refine p_aload_n dX4_clear_31 rfl (q := 0) rfl ?_
  refine p_getR (b := (a + 7)) G f_RX4_34 rfl (hS 0 (by decide)).1 ((hS 0 (by decide)).2.2 9 (by decide)) dX4_clear_32 ?_
  refine p_iconst dX4_clear_35 ?_
  refine p_SV G k_RX4_46 rfl rfl (Nat.le_of_ble_eq_true rfl) ⟨by decide, by decide⟩ ⟨by decide, by decide⟩ dX4_clear_36 h (fun im11 h => ?_)
  refine p_aload_n dX4_clear_39 rfl (q := 0) rfl ?_
  refine p_getR (b := (a + 8)) G f_RX4_37 rfl (hS 0 (by decide)).1 ((hS 0 (by decide)).2.2 10 (by decide)) dX4_clear_40 ?_
  refine p_iconst dX4_clear_43 ?_
  refine p_SV G k_RX4_46 rfl rfl (Nat.le_of_ble_eq_true rfl) ⟨by decide, by decide⟩ ⟨by decide, by decide⟩ dX4_clear_44 h (fun im13 h => ?_)
  exact p_retV (by decide) (by decide) rfl dX4_clear_47 h
set_option maxRecDepth 20000 in
set_option maxHeartbeats 4000000 in
theorem v_X0_clear {g : zG} (G : zOK g) {S : zSh} {im : zIm} {a : Nat} {Q : zIm → Prop} (hS : zS_F S a)
    (h : ∀ im1, im1 = zst im a 0 0 → zCV g yJ7_fill_53178 M_J7_fill_53178 [.ref (a + 1), .int (zi 0)] S im1 (fun im3 => zCV g yJ7_fill_53178 M_J7_fill_53178 [.ref (a + 2), .int (zi 0)] S im3 (fun im5 => zCV g yJ7_fill_53178 M_J7_fill_53178 [.ref (a + 3), .int (zi 0)] S im5 (fun im7 => zCV g yJ7_fill_53178 M_J7_fill_53178 [.ref (a + 4), .int (zi 0)] S im7 (fun im9 => zCV g yJ7_fill_53178 M_J7_fill_53178 [.ref (a + 5), .int (zi 0)] S im9 (fun im11 => Q im11)))))) :
    zCV g yX0_clear M_X0_clear [.ref a] S im Q := by
  refine zC_of (by decide) rfl rfl rfl rfl (Nat.le_of_ble_eq_true rfl) ?_
  refine p_aload_n dX0_clear_0 rfl (q := 0) rfl ?_
  refine p_iconst dX0_clear_1 ?_
  refine p_putI (j := 0) G f_RX0_27 rfl rfl rfl (hS 0 (by decide)).1 (nf_k (by decide)) dX0_clear_2 ?_
  refine p_gen (fun im1 e2 => ?_)
  have h := h im1 e2
  refine p_aload_n dX0_clear_5 rfl (q := 0) rfl ?_
  refine p_getR (b := (a + 1)) G f_RX0_9 rfl (hS 0 (by decide)).1 ((hS 0 (by decide)).2.2 1 (by decide)) dX0_clear_6 ?_
  refine p_iconst dX0_clear_9 ?_
  refine p_SV G k_RX0_31 rfl rfl (Nat.le_of_ble_eq_true rfl) ⟨by decide, by decide⟩ ⟨by decide, by decide⟩ dX0_clear_10 h (fun im3 h => ?_)
  refine p_aload_n dX0_clear_13 rfl (q := 0) rfl ?_
  refine p_getR (b := (a + 2)) G f_RX0_15 rfl (hS 0 (by decide)).1 ((hS 0 (by decide)).2.2 2 (by decide)) dX0_clear_14 ?_
  refine p_iconst dX0_clear_17 ?_
  refine p_SV G k_RX0_31 rfl rfl (Nat.le_of_ble_eq_true rfl) ⟨by decide, by decide⟩ ⟨by decide, by decide⟩ dX0_clear_18 h (fun im5 h => ?_)
  refine p_aload_n dX0_clear_21 rfl (q := 0) rfl ?_
  refine p_getR (b := (a + 3)) G f_RX0_18 rfl (hS 0 (by decide)).1 ((hS 0 (by decide)).2.2 3 (by decide)) dX0_clear_22 ?_
  refine p_iconst dX0_clear_25 ?_
  refine p_SV G k_RX0_31 rfl rfl (Nat.le_of_ble_eq_true rfl) ⟨by decide, by decide⟩ ⟨by decide, by decide⟩ dX0_clear_26 h (fun im7 h => ?_)
  refine p_aload_n dX0_clear_29 rfl (q := 0) rfl ?_
  refine p_getR (b := (a + 4)) G f_RX0_21 rfl (hS 0 (by decide)).1 ((hS 0 (by decide)).2.2 4 (by decide)) dX0_clear_30 ?_
  refine p_iconst dX0_clear_33 ?_
  refine p_SV G k_RX0_31 rfl rfl (Nat.le_of_ble_eq_true rfl) ⟨by decide, by decide⟩ ⟨by decide, by decide⟩ dX0_clear_34 h (fun im9 h => ?_)
  refine p_aload_n dX0_clear_37 rfl (q := 0) rfl ?_
  refine p_getR (b := (a + 5)) G f_RX0_24 rfl (hS 0 (by decide)).1 ((hS 0 (by decide)).2.2 5 (by decide)) dX0_clear_38 ?_
  refine p_iconst dX0_clear_41 ?_
  refine p_SV G k_RX0_31 rfl rfl (Nat.le_of_ble_eq_true rfl) ⟨by decide, by decide⟩ ⟨by decide, by decide⟩ dX0_clear_42 h (fun im11 h => ?_)
  exact p_retV (by decide) (by decide) rfl dX0_clear_45 h
set_option maxRecDepth 20000 in
set_option maxHeartbeats 4000000 in
theorem v_X2_clear {g : zG} (G : zOK g) {S : zSh} {im : zIm} {a : Nat} {Q : zIm → Prop} (hS : zS_N S a)
    (h : ∀ im1, im1 = zst im a 0 0 → zCV g yJ7_fill_53178 M_J7_fill_53178 [.ref (a + 1), .int (zi 0)] S im1 (fun im3 => zCV g yJ7_fill_53178 M_J7_fill_53178 [.ref (a + 2), .int (zi 0)] S im3 (fun im5 => zCV g yX4_clear M_X4_clear [.ref (a + 3)] S im5 (fun im7 => zCV g yX0_clear M_X0_clear [.ref (a + 12)] S im7 (fun im9 => ∀ im11, im11 = zst im9 (a + 18) 0 0 → ∀ im13, im13 = zst im11 (a + 25) 0 0 → ∀ im15, im15 = zst im13 (a + 30) 0 0 → ∀ im17, im17 = zst im15 (a + 35) 0 0 → Q im17))))) :
    zCV g yX2_clear M_X2_clear [.ref a] S im Q := by
  refine zC_of (by decide) rfl rfl rfl rfl (Nat.le_of_ble_eq_true rfl) ?_
  refine p_aload_n dX2_clear_0 rfl (q := 0) rfl ?_
  refine p_iconst dX2_clear_1 ?_
  refine p_putI (j := 0) G f_RX2_59 rfl rfl rfl (hS 0 (by decide)).1 (nf_k (by decide)) dX2_clear_2 ?_
  refine p_gen (fun im1 e2 => ?_)
  have h := h im1 e2
  refine p_aload_n dX2_clear_5 rfl (q := 0) rfl ?_
  refine p_getR (b := (a + 1)) G f_RX2_9 rfl (hS 0 (by decide)).1 ((hS 0 (by decide)).2.2 1 (by decide)) dX2_clear_6 ?_
  refine p_iconst dX2_clear_9 ?_
  refine p_SV G k_RX2_63 rfl rfl (Nat.le_of_ble_eq_true rfl) ⟨by decide, by decide⟩ ⟨by decide, by decide⟩ dX2_clear_10 h (fun im3 h => ?_)
  refine p_aload_n dX2_clear_13 rfl (q := 0) rfl ?_
  refine p_getR (b := (a + 2)) G f_RX2_15 rfl (hS 0 (by decide)).1 ((hS 0 (by decide)).2.2 2 (by decide)) dX2_clear_14 ?_
  refine p_iconst dX2_clear_17 ?_
  refine p_SV G k_RX2_63 rfl rfl (Nat.le_of_ble_eq_true rfl) ⟨by decide, by decide⟩ ⟨by decide, by decide⟩ dX2_clear_18 h (fun im5 h => ?_)
  refine p_aload_n dX2_clear_21 rfl (q := 0) rfl ?_
  refine p_getR (b := (a + 3)) G f_RX2_21 rfl (hS 0 (by decide)).1 ((hS 0 (by decide)).2.2 3 (by decide)) dX2_clear_22 ?_
  refine p_VV G k_RX2_69 (by decide) (hS 3 (by decide)).1 rfl rfl (Nat.le_of_ble_eq_true rfl) ⟨by decide, by decide⟩ ⟨by decide, by decide⟩ dX2_clear_25 h (fun im7 h => ?_)
  refine p_aload_n dX2_clear_28 rfl (q := 0) rfl ?_
  refine p_getR (b := (a + 12)) G f_RX2_28 rfl (hS 0 (by decide)).1 ((hS 0 (by decide)).2.2 4 (by decide)) dX2_clear_29 ?_
  refine p_VV G k_RX2_72 (by decide) (hS 12 (by decide)).1 rfl rfl (Nat.le_of_ble_eq_true rfl) ⟨by decide, by decide⟩ ⟨by decide, by decide⟩ dX2_clear_32 h (fun im9 h => ?_)
  refine p_aload_n dX2_clear_35 rfl (q := 0) rfl ?_
  refine p_getR (b := (a + 18)) G f_RX2_35 rfl (hS 0 (by decide)).1 ((hS 0 (by decide)).2.2 5 (by decide)) dX2_clear_36 ?_
  refine p_iconst dX2_clear_39 ?_
  refine p_putI (j := 0) G f_RX2_73 rfl rfl rfl (hS 18 (by decide)).1 (nf_k (by decide)) dX2_clear_40 ?_
  refine p_gen (fun im11 e12 => ?_)
  have h := h im11 e12
  refine p_aload_n dX2_clear_43 rfl (q := 0) rfl ?_
  refine p_getR (b := (a + 25)) G f_RX2_42 rfl (hS 0 (by decide)).1 ((hS 0 (by decide)).2.2 6 (by decide)) dX2_clear_44 ?_
  refine p_iconst dX2_clear_47 ?_
  refine p_putI (j := 0) G f_RX2_76 rfl rfl rfl (hS 25 (by decide)).1 (nf_k (by decide)) dX2_clear_48 ?_
  refine p_gen (fun im13 e14 => ?_)
  have h := h im13 e14
  refine p_aload_n dX2_clear_51 rfl (q := 0) rfl ?_
  refine p_getR (b := (a + 30)) G f_RX2_46 rfl (hS 0 (by decide)).1 ((hS 0 (by decide)).2.2 7 (by decide)) dX2_clear_52 ?_
  refine p_iconst dX2_clear_55 ?_
  refine p_putI (j := 0) G f_RX2_76 rfl rfl rfl (hS 30 (by decide)).1 (nf_k (by decide)) dX2_clear_56 ?_
  refine p_gen (fun im15 e16 => ?_)
  have h := h im15 e16
  refine p_aload_n dX2_clear_59 rfl (q := 0) rfl ?_
  refine p_getR (b := (a + 35)) G f_RX2_49 rfl (hS 0 (by decide)).1 ((hS 0 (by decide)).2.2 8 (by decide)) dX2_clear_60 ?_
  refine p_iconst dX2_clear_63 ?_
  refine p_putI (j := 0) G f_RX2_76 rfl rfl rfl (hS 35 (by decide)).1 (nf_k (by decide)) dX2_clear_64 ?_
  refine p_gen (fun im17 e18 => ?_)
  have h := h im17 e18
  exact p_retV (by decide) (by decide) rfl dX2_clear_67 h
set_option maxRecDepth 20000 in
set_option maxHeartbeats 4000000 in
theorem v_X7_within {g : zG} (G : zOK g) {S : zSh} {im : zIm} {p1 : Int} {p2 : Int} {p3 : Int} {Q : Int → zIm → Prop} (c_p1 : zc p1) (c_p2 : zc p2) (c_p3 : zc p3)
    (h : ((p1 < p2 → Q 0 im) ∧ (p2 ≤ p1 → ((p3 < p1 → Q 0 im) ∧ (p1 ≤ p3 → Q 1 im))))) :
    zCI g yX7_within M_X7_within [.int (zi p1), .int (zi p2), .int (zi p3)] S im Q := by
  refine zC_of (by decide) rfl rfl rfl rfl (Nat.le_of_ble_eq_true rfl) ?_
  refine p_iload_n dX7_within_0 rfl (q := 0) rfl ?_
  refine p_iload_n dX7_within_1 rfl (q := 1) rfl ?_
  refine p_icmp_lt (tgt := 14) dX7_within_2 (by decide) (nf_r c_p1) (nf_r c_p2) (fun b1 => ?_) (fun b1 => ?_)
  · have h := h.1 b1
    refine p_iconst dX7_within_14 ?_
    exact p_zretI (by decide) (by decide) rfl (nf_k (by decide)) (by decide) dX7_within_15 h
  · have h := h.2 b1
    refine p_iload_n dX7_within_5 rfl (q := 0) rfl ?_
    refine p_iload_n dX7_within_6 rfl (q := 2) rfl ?_
    refine p_icmp_gt (tgt := 14) dX7_within_7 (by decide) (nf_r c_p1) (nf_r c_p3) (fun b1 => ?_) (fun b1 => ?_)
    · have h := h.1 b1
      refine p_iconst dX7_within_14 ?_
      exact p_zretI (by decide) (by decide) rfl (nf_k (by decide)) (by decide) dX7_within_15 h
    · have h := h.2 b1
      refine p_iconst dX7_within_10 ?_
      refine p_goto (tgt := 15) dX7_within_11 (by decide) ?_
      exact p_zretI (by decide) (by decide) rfl (nf_k (by decide)) (by decide) dX7_within_15 h
set_option maxRecDepth 20000 in
set_option maxHeartbeats 4000000 in
theorem v_X4_isBase {g : zG} (G : zOK g) {S : zSh} {im : zIm} {a : Nat} {p1 : Int} {Q : Int → zIm → Prop} (hS : zS_S S a) (c_p1 : zc p1)
    (h : ((p1 ≤ 0 → Q 0 im) ∧ (0 < p1 → (((im a 1) ≤ p1 → Q 0 im) ∧ (p1 < (im a 1) → Q 1 im))))) :
    zCI g yX4_isBase M_X4_isBase [.ref a, .int (zi p1)] S im Q := by
  refine zC_of (by decide) rfl rfl rfl rfl (Nat.le_of_ble_eq_true rfl) ?_
  refine p_iload_n dX4_isBase_0 rfl (q := 1) rfl ?_
  refine p_if_le (tgt := 16) dX4_isBase_1 (by decide) (nf_r c_p1) (fun b1 => ?_) (fun b1 => ?_)
  · have h := h.1 b1
    refine p_iconst dX4_isBase_16 ?_
    exact p_zretI (by decide) (by decide) rfl (nf_k (by decide)) (by decide) dX4_isBase_17 h
  · have h := h.2 b1
    refine p_iload_n dX4_isBase_4 rfl (q := 1) rfl ?_
    refine p_aload_n dX4_isBase_5 rfl (q := 0) rfl ?_
    refine p_getI (j := 1) G f_RX4_9 rfl (hS 0 (by decide)).1 dX4_isBase_6 (fun c1 => ?_)
    refine p_icmp_ge (tgt := 16) dX4_isBase_9 (by decide) (nf_r c_p1) (nf_r c1) (fun b2 => ?_) (fun b2 => ?_)
    · have h := h.1 b2
      refine p_iconst dX4_isBase_16 ?_
      exact p_zretI (by decide) (by decide) rfl (nf_k (by decide)) (by decide) dX4_isBase_17 h
    · have h := h.2 b2
      refine p_iconst dX4_isBase_12 ?_
      refine p_goto (tgt := 17) dX4_isBase_13 (by decide) ?_
      exact p_zretI (by decide) (by decide) rfl (nf_k (by decide)) (by decide) dX4_isBase_17 h
set_option maxRecDepth 20000 in
set_option maxHeartbeats 4000000 in
theorem v_X4_isSite {g : zG} (G : zOK g) {S : zSh} {im : zIm} {a : Nat} {p1 : Int} {Q : Int → zIm → Prop} (hS : zS_S S a) (c_p1 : zc p1)
    (h : ((p1 < 0 → Q 0 im) ∧ (0 ≤ p1 → (((im a 1) ≤ p1 → Q 0 im) ∧ (p1 < (im a 1) → Q 1 im))))) :
    zCI g yX4_isSite M_X4_isSite [.ref a, .int (zi p1)] S im Q := by
  refine zC_of (by decide) rfl rfl rfl rfl (Nat.le_of_ble_eq_true rfl) ?_
  refine p_iload_n dX4_isSite_0 rfl (q := 1) rfl ?_
  refine p_if_lt (tgt := 16) dX4_isSite_1 (by decide) (nf_r c_p1) (fun b1 => ?_) (fun b1 => ?_)
  · have h := h.1 b1
    refine p_iconst dX4_isSite_16 ?_
    exact p_zretI (by decide) (by decide) rfl (nf_k (by decide)) (by decide) dX4_isSite_17 h
  · have h := h.2 b1
    refine p_iload_n dX4_isSite_4 rfl (q := 1) rfl ?_
    refine p_aload_n dX4_isSite_5 rfl (q := 0) rfl ?_
    refine p_getI (j := 1) G f_RX4_9 rfl (hS 0 (by decide)).1 dX4_isSite_6 (fun c1 => ?_)
    refine p_icmp_ge (tgt := 16) dX4_isSite_9 (by decide) (nf_r c_p1) (nf_r c1) (fun b2 => ?_) (fun b2 => ?_)
    · have h := h.1 b2
      refine p_iconst dX4_isSite_16 ?_
      exact p_zretI (by decide) (by decide) rfl (nf_k (by decide)) (by decide) dX4_isSite_17 h
    · have h := h.2 b2
      refine p_iconst dX4_isSite_12 ?_
      refine p_goto (tgt := 17) dX4_isSite_13 (by decide) ?_
      exact p_zretI (by decide) (by decide) rfl (nf_k (by decide)) (by decide) dX4_isSite_17 h
set_option maxRecDepth 20000 in
set_option maxHeartbeats 4000000 in
theorem v_X4_isItem {g : zG} (G : zOK g) {S : zSh} {im : zIm} {a : Nat} {p1 : Int} {Q : Int → zIm → Prop} (hS : zS_S S a) (c_p1 : zc p1)
    (h : ((p1 < 0 → Q 0 im) ∧ (0 ≤ p1 → (((im a 0) ≤ p1 → Q 0 im) ∧ (p1 < (im a 0) → Q 1 im))))) :
    zCI g yX4_isItem M_X4_isItem [.ref a, .int (zi p1)] S im Q := by
  refine zC_of (by decide) rfl rfl rfl rfl (Nat.le_of_ble_eq_true rfl) ?_
  refine p_iload_n dX4_isItem_0 rfl (q := 1) rfl ?_
  refine p_if_lt (tgt := 16) dX4_isItem_1 (by decide) (nf_r c_p1) (fun b1 => ?_) (fun b1 => ?_)
  · have h := h.1 b1
    refine p_iconst dX4_isItem_16 ?_
    exact p_zretI (by decide) (by decide) rfl (nf_k (by decide)) (by decide) dX4_isItem_17 h
  · have h := h.2 b1
    refine p_iload_n dX4_isItem_4 rfl (q := 1) rfl ?_
    refine p_aload_n dX4_isItem_5 rfl (q := 0) rfl ?_
    refine p_getI (j := 0) G f_RX4_40 rfl (hS 0 (by decide)).1 dX4_isItem_6 (fun c1 => ?_)
    refine p_icmp_ge (tgt := 16) dX4_isItem_9 (by decide) (nf_r c_p1) (nf_r c1) (fun b2 => ?_) (fun b2 => ?_)
    · have h := h.1 b2
      refine p_iconst dX4_isItem_16 ?_
      exact p_zretI (by decide) (by decide) rfl (nf_k (by decide)) (by decide) dX4_isItem_17 h
    · have h := h.2 b2
      refine p_iconst dX4_isItem_12 ?_
      refine p_goto (tgt := 17) dX4_isItem_13 (by decide) ?_
      exact p_zretI (by decide) (by decide) rfl (nf_k (by decide)) (by decide) dX4_isItem_17 h
set_option maxRecDepth 20000 in
set_option maxHeartbeats 4000000 in
theorem v_X4_newItem {g : zG} (G : zOK g) {S : zSh} {im : zIm} {a : Nat} {p1 : Int} {p2 : Int} {p3 : Int} {Q : Int → zIm → Prop} (hS : zS_S S a) (c_p1 : zc p1) (c_p2 : zc p2) (c_p3 : zc p3)
    (h : (((im a 0) < 4 → ((0 ≤ (im a 0) ∧ (im a 0) < 4) ∧ ∀ im3, im3 = zst im (a + 1) (im a 0) p1 → ((0 ≤ (im3 a 0) ∧ (im3 a 0) < 4) ∧ ∀ im7, im7 = zst im3 (a + 2) (im3 a 0) p2 → ((0 ≤ (im7 a 0) ∧ (im7 a 0) < 4) ∧ ∀ im11, im11 = zst im7 (a + 3) (im7 a 0) p3 → ∀ im15, im15 = zst im11 a 0 (zw ((im11 a 0) + 1)) → Q (zw ((im15 a 0) - 1)) im15)))) ∧ (4 ≤ (im a 0) → Q (-1) im))) :
    zCI g yX4_newItem M_X4_newItem [.ref a, .int (zi p1), .int (zi p2), .int (zi p3)] S im Q := by
  refine zC_of (by decide) rfl rfl rfl rfl (Nat.le_of_ble_eq_true rfl) ?_
  refine p_aload_n dX4_newItem_0 rfl (q := 0) rfl ?_
  refine p_getI (j := 0) G f_RX4_40 rfl (hS 0 (by decide)).1 dX4_newItem_1 (fun c1 => ?_)
  refine p_iconst dX4_newItem_4 ?_
  refine p_icmp_lt (tgt := 10) dX4_newItem_5 (by decide) (nf_r c1) (nf_k (by decide)) (fun b2 => ?_) (fun b2 => ?_)
  · have h := h.1 b2
    refine p_aload_n dX4_newItem_10 rfl (q := 0) rfl ?_
    refine p_getR (b := (a + 1)) G f_RX4_15 rfl (hS 0 (by decide)).1 ((hS 0 (by decide)).2.2 3 (by decide)) dX4_newItem_11 ?_
    refine p_aload_n dX4_newItem_14 rfl (q := 0) rfl ?_
    refine p_getI (j := 0) G f_RX4_40 rfl (hS 0 (by decide)).1 dX4_newItem_15 (fun c2 => ?_)
    refine p_iload_n dX4_newItem_18 rfl (q := 1) rfl ?_
    have g5 := h.1
    have h := h.2
    refine p_iast G (hS 1 (by decide)).1 (nf_r c2) g5.1 (zln_lt (hS 1 (by decide)).2.1 g5.2) (nf_r c_p1) dX4_newItem_19 ?_
    refine p_gen (fun im3 e4 => ?_)
    have h := h im3 e4
    refine p_aload_n dX4_newItem_20 rfl (q := 0) rfl ?_
    refine p_getR (b := (a + 2)) G f_RX4_19 rfl (hS 0 (by decide)).1 ((hS 0 (by decide)).2.2 4 (by decide)) dX4_newItem_21 ?_
    refine p_aload_n dX4_newItem_24 rfl (q := 0) rfl ?_
    refine p_getI (j := 0) G f_RX4_40 rfl (hS 0 (by decide)).1 dX4_newItem_25 (fun c6 => ?_)
    refine p_iload_n dX4_newItem_28 rfl (q := 2) rfl ?_
    have g9 := h.1
    have h := h.2
    refine p_iast G (hS 2 (by decide)).1 (nf_r c6) g9.1 (zln_lt (hS 2 (by decide)).2.1 g9.2) (nf_r c_p2) dX4_newItem_29 ?_
    refine p_gen (fun im7 e8 => ?_)
    have h := h im7 e8
    refine p_aload_n dX4_newItem_30 rfl (q := 0) rfl ?_
    refine p_getR (b := (a + 3)) G f_RX4_22 rfl (hS 0 (by decide)).1 ((hS 0 (by decide)).2.2 5 (by decide)) dX4_newItem_31 ?_
    refine p_aload_n dX4_newItem_34 rfl (q := 0) rfl ?_
    refine p_getI (j := 0) G f_RX4_40 rfl (hS 0 (by decide)).1 dX4_newItem_35 (fun c10 => ?_)
    refine p_iload_n dX4_newItem_38 rfl (q := 3) rfl ?_
    have g13 := h.1
    have h := h.2
    refine p_iast G (hS 3 (by decide)).1 (nf_r c10) g13.1 (zln_lt (hS 3 (by decide)).2.1 g13.2) (nf_r c_p3) dX4_newItem_39 ?_
    refine p_gen (fun im11 e12 => ?_)
    have h := h im11 e12
    refine p_aload_n dX4_newItem_40 rfl (q := 0) rfl ?_
    refine p_dup dX4_newItem_41 rfl ?_
    refine p_getI (j := 0) G f_RX4_40 rfl (hS 0 (by decide)).1 dX4_newItem_42 (fun c14 => ?_)
    refine p_iconst dX4_newItem_45 ?_
    refine p_iadd dX4_newItem_46 ?_
    refine p_putI (j := 0) G f_RX4_40 rfl rfl rfl (hS 0 (by decide)).1 (nf_w _) dX4_newItem_47 ?_
    refine p_gen (fun im15 e16 => ?_)
    have h := h im15 e16
    refine p_aload_n dX4_newItem_50 rfl (q := 0) rfl ?_
    refine p_getI (j := 0) G f_RX4_40 rfl (hS 0 (by decide)).1 dX4_newItem_51 (fun c17 => ?_)
    refine p_iconst dX4_newItem_54 ?_
    refine p_isub dX4_newItem_55 ?_
    exact p_iretI (by decide) (by decide) rfl (nf_w _) dX4_newItem_56 h
  · have h := h.2 b2
    refine p_iconst dX4_newItem_8 ?_
    exact p_iretI (by decide) (by decide) rfl (nf_k (by decide)) dX4_newItem_9 h
set_option maxRecDepth 20000 in
set_option maxHeartbeats 4000000 in
theorem v_X4_newBase {g : zG} (G : zOK g) {S : zSh} {im : zIm} {a : Nat} {p1 : Int} {Q : Int → zIm → Prop} (hS : zS_S S a) (c_p1 : zc p1)
    (h : (((im a 1) < 8 → ((0 ≤ (im a 1) ∧ (im a 1) < 8) ∧ ∀ im3, im3 = zst im (a + 4) (im a 1) p1 → ∀ im7, im7 = zst im3 a 1 (zw ((im3 a 1) + 1)) → Q (zw ((im7 a 1) - 1)) im7)) ∧ (8 ≤ (im a 1) → Q (-1) im))) :
    zCI g yX4_newBase M_X4_newBase [.ref a, .int (zi p1)] S im Q := by
  refine zC_of (by decide) rfl rfl rfl rfl (Nat.le_of_ble_eq_true rfl) ?_
  refine p_aload_n dX4_newBase_0 rfl (q := 0) rfl ?_
  refine p_getI (j := 1) G f_RX4_9 rfl (hS 0 (by decide)).1 dX4_newBase_1 (fun c1 => ?_)
  refine p_bipush dX4_newBase_4 (by decide) ?_
  refine p_icmp_lt (tgt := 11) dX4_newBase_6 (by decide) (nf_r c1) (nf_k (by decide)) (fun b2 => ?_) (fun b2 => ?_)
  · have h := h.1 b2
    refine p_aload_n dX4_newBase_11 rfl (q := 0) rfl ?_
    refine p_getR (b := (a + 4)) G f_RX4_25 rfl (hS 0 (by decide)).1 ((hS 0 (by decide)).2.2 6 (by decide)) dX4_newBase_12 ?_
    refine p_aload_n dX4_newBase_15 rfl (q := 0) rfl ?_
    refine p_getI (j := 1) G f_RX4_9 rfl (hS 0 (by decide)).1 dX4_newBase_16 (fun c2 => ?_)
    refine p_iload_n dX4_newBase_19 rfl (q := 1) rfl ?_
    have g5 := h.1
    have h := h.2
    refine p_iast G (hS 4 (by decide)).1 (nf_r c2) g5.1 (zln_lt (hS 4 (by decide)).2.1 g5.2) (nf_r c_p1) dX4_newBase_20 ?_
    refine p_gen (fun im3 e4 => ?_)
    have h := h im3 e4
    refine p_aload_n dX4_newBase_21 rfl (q := 0) rfl ?_
    refine p_dup dX4_newBase_22 rfl ?_
    refine p_getI (j := 1) G f_RX4_9 rfl (hS 0 (by decide)).1 dX4_newBase_23 (fun c6 => ?_)
    refine p_iconst dX4_newBase_26 ?_
    refine p_iadd dX4_newBase_27 ?_
    refine p_putI (j := 1) G f_RX4_9 rfl rfl rfl (hS 0 (by decide)).1 (nf_w _) dX4_newBase_28 ?_
    refine p_gen (fun im7 e8 => ?_)
    have h := h im7 e8
    refine p_aload_n dX4_newBase_31 rfl (q := 0) rfl ?_
    refine p_getI (j := 1) G f_RX4_9 rfl (hS 0 (by decide)).1 dX4_newBase_32 (fun c9 => ?_)
    refine p_iconst dX4_newBase_35 ?_
    refine p_isub dX4_newBase_36 ?_
    exact p_iretI (by decide) (by decide) rfl (nf_w _) dX4_newBase_37 h
  · have h := h.2 b2
    refine p_iconst dX4_newBase_9 ?_
    exact p_iretI (by decide) (by decide) rfl (nf_k (by decide)) dX4_newBase_10 h
set_option maxRecDepth 20000 in
set_option maxHeartbeats 4000000 in
theorem v_X7_cell {g : zG} (G : zOK g) {S : zSh} {im : zIm} {p1 : Int} {p2 : Int} {Q : Int → zIm → Prop} (c_p1 : zc p1) (c_p2 : zc p2)
    (h : Q (zw ((p1 * 4) + p2)) im) :
    zCI g yX7_cell M_X7_cell [.int (zi p1), .int (zi p2)] S im Q := by
  refine zC_of (by decide) rfl rfl rfl rfl (Nat.le_of_ble_eq_true rfl) ?_
  refine p_iload_n dX7_cell_0 rfl (q := 0) rfl ?_
  refine p_iconst dX7_cell_1 ?_
  refine p_imul dX7_cell_2 ?_
  refine p_iload_n dX7_cell_3 rfl (q := 1) rfl ?_
  refine p_iadd dX7_cell_4 ?_
  exact p_iretI (by decide) (by decide) rfl (nf_w _) dX7_cell_5 h
set_option maxRecDepth 20000 in
set_option maxHeartbeats 4000000 in
theorem v_X3_firstOf {g : zG} (G : zOK g) {S : zSh} {im : zIm} {a : Nat} {p1 : Int} {p2 : Int} {Q : Int → zIm → Prop} (hS : zS_Q S a) (c_p1 : zc p1) (c_p2 : zc p2)
    (h : zPI g M_X3_firstOf 5 [(0, .ref a), (1, .int (zi p1)), (2, .int (zi p2)), (3, .int (zi (-1))), (4, .int (zi 0))] S im Q) :
    zCI g yX3_firstOf M_X3_firstOf [.ref a, .int (zi p1), .int (zi p2)] S im Q := by
  refine zC_of (by decide) rfl rfl rfl rfl (Nat.le_of_ble_eq_true rfl) ?_
  refine p_iconst dX3_firstOf_0 ?_
  refine p_istore_n (lv' := [(3, .int (zi (-1))), (0, .ref a), (1, .int (zi p1)), (2, .int (zi p2))]) dX3_firstOf_1 rfl (by decide) rfl ?_
  refine p_iconst dX3_firstOf_2 ?_
  refine p_istore (lv' := [(4, .int (zi 0)), (3, .int (zi (-1))), (0, .ref a), (1, .int (zi p1)), (2, .int (zi p2))]) dX3_firstOf_3 (by decide) rfl ?_
  refine p_sub (lv' := [(0, .ref a), (1, .int (zi p1)), (2, .int (zi p2)), (3, .int (zi (-1))), (4, .int (zi 0))]) [2, 3, 4, 1, 0] rfl ?_
  exact h
set_option maxRecDepth 20000 in
set_option maxHeartbeats 4000000 in
theorem v_X3_firstOf_5 {g : zG} (G : zOK g) {S : zSh} {im : zIm} {a : Nat} {x1 : Int} {x2 : Int} {x3 : Int} {x4 : Int} {Q : Int → zIm → Prop} (hS : zS_Q S a) (c_x1 : zc x1) (c_x2 : zc x2) (c_x3 : zc x3) (c_x4 : zc x4)
    (h : (((im a 0) ≤ x4 → Q x3 im) ∧ (x4 < (im a 0) → ((0 ≤ x4 ∧ x4 < 300) ∧ ((¬ (im (a + 2) x4) = x2 → zPI g M_X3_firstOf 5 [(0, .ref a), (1, .int (zi x1)), (2, .int (zi x2)), (3, .int (zi x3)), (4, .int (zi (zw (x4 + 1))))] S im Q) ∧ ((im (a + 2) x4) = x2 → ((x1 = (-1) → ((x3 = (-1) → zPI g M_X3_firstOf 5 [(0, .ref a), (1, .int (zi x1)), (2, .int (zi x2)), (3, .int (zi x4)), (4, .int (zi (zw (x4 + 1))))] S im Q) ∧ (¬ x3 = (-1) → ((0 ≤ x4 ∧ x4 < 300) ∧ ((0 ≤ x3 ∧ x3 < 300) ∧ (((im (a + 3) x4) ≤ (im (a + 3) x3) → zPI g M_X3_firstOf 5 [(0, .ref a), (1, .int (zi x1)), (2, .int (zi x2)), (3, .int (zi x3)), (4, .int (zi (zw (x4 + 1))))] S im Q) ∧ ((im (a + 3) x3) < (im (a + 3) x4) → zPI g M_X3_firstOf 5 [(0, .ref a), (1, .int (zi x1)), (2, .int (zi x2)), (3, .int (zi x4)), (4, .int (zi (zw (x4 + 1))))] S im Q))))))) ∧ (¬ x1 = (-1) → ((0 ≤ x4 ∧ x4 < 300) ∧ ((¬ (im (a + 1) x4) = x1 → zPI g M_X3_firstOf 5 [(0, .ref a), (1, .int (zi x1)), (2, .int (zi x2)), (3, .int (zi x3)), (4, .int (zi (zw (x4 + 1))))] S im Q) ∧ ((im (a + 1) x4) = x1 → ((x3 = (-1) → zPI g M_X3_firstOf 5 [(0, .ref a), (1, .int (zi x1)), (2, .int (zi x2)), (3, .int (zi x4)), (4, .int (zi (zw (x4 + 1))))] S im Q) ∧ (¬ x3 = (-1) → ((0 ≤ x4 ∧ x4 < 300) ∧ ((0 ≤ x3 ∧ x3 < 300) ∧ (((im (a + 3) x4) ≤ (im (a + 3) x3) → zPI g M_X3_firstOf 5 [(0, .ref a), (1, .int (zi x1)), (2, .int (zi x2)), (3, .int (zi x3)), (4, .int (zi (zw (x4 + 1))))] S im Q) ∧ ((im (a + 3) x3) < (im (a + 3) x4) → zPI g M_X3_firstOf 5 [(0, .ref a), (1, .int (zi x1)), (2, .int (zi x2)), (3, .int (zi x4)), (4, .int (zi (zw (x4 + 1))))] S im Q))))))))))))))))) :
    zPI g M_X3_firstOf 5 [(0, .ref a), (1, .int (zi x1)), (2, .int (zi x2)), (3, .int (zi x3)), (4, .int (zi x4))] S im Q := by
  refine p_iload dX3_firstOf_5 (q := 4) rfl ?_
  refine p_aload_n dX3_firstOf_7 rfl (q := 0) rfl ?_
  refine p_getI (j := 0) G f_RX3_24 rfl (hS 0 (by decide)).1 dX3_firstOf_8 (fun c1 => ?_)
  refine p_icmp_ge (tgt := 71) dX3_firstOf_11 (by decide) (nf_r c_x4) (nf_r c1) (fun b2 => ?_) (fun b2 => ?_)
  · have h := h.1 b2
    refine p_iload_n dX3_firstOf_71 rfl (q := 3) rfl ?_
    exact p_iretI (by decide) (by decide) rfl (nf_r c_x3) dX3_firstOf_72 h
  · have h := h.2 b2
    refine p_aload_n dX3_firstOf_14 rfl (q := 0) rfl ?_
    refine p_getR (b := (a + 2)) G f_RX3_15 rfl (hS 0 (by decide)).1 ((hS 0 (by decide)).2.2 2 (by decide)) dX3_firstOf_15 ?_
    refine p_iload dX3_firstOf_18 (q := 4) rfl ?_
    have g3 := h.1
    have h := h.2
    refine p_iald G (hS 2 (by decide)).1 (nf_r c_x4) g3.1 (zln_lt (hS 2 (by decide)).2.1 g3.2) dX3_firstOf_20 (fun c2 => ?_)
    refine p_iload_n dX3_firstOf_21 rfl (q := 2) rfl ?_
    refine p_icmp_ne (tgt := 65) dX3_firstOf_22 (by decide) (nf_r c2) (nf_r c_x2) (fun b4 => ?_) (fun b4 => ?_)
    · have h := h.1 b4
      refine p_iinc (q := 4) (lv' := [(4, .int (zi (x4 + 1))), (0, .ref a), (1, .int (zi x1)), (2, .int (zi x2)), (3, .int (zi x3))]) dX3_firstOf_65 rfl (by decide) rfl ?_
      refine p_goto (tgt := 5) dX3_firstOf_68 (by decide) ?_
      refine p_sub (lv' := [(0, .ref a), (1, .int (zi x1)), (2, .int (zi x2)), (3, .int (zi x3)), (4, .int (zi (zw (x4 + 1))))]) [1, 2, 3, 4, 0] (by simp only [zi_zw, zl_zwl]; rfl) ?_
      exact h
    · have h := h.2 b4
      refine p_iload_n dX3_firstOf_25 rfl (q := 1) rfl ?_
      refine p_iconst dX3_firstOf_26 ?_
      refine p_icmp_eq (tgt := 41) dX3_firstOf_27 (by decide) (nf_r c_x1) (nf_k (by decide)) (fun b4 => ?_) (fun b4 => ?_)
      · have h := h.1 b4
        refine p_iload_n dX3_firstOf_41 rfl (q := 3) rfl ?_
        refine p_iconst dX3_firstOf_42 ?_
        refine p_icmp_eq (tgt := 62) dX3_firstOf_43 (by decide) (nf_r c_x3) (nf_k (by decide)) (fun b4 => ?_) (fun b4 => ?_)
        · have h := h.1 b4
          refine p_iload dX3_firstOf_62 (q := 4) rfl ?_
          refine p_istore_n (lv' := [(3, .int (zi x4)), (0, .ref a), (1, .int (zi x1)), (2, .int (zi x2)), (4, .int (zi x4))]) dX3_firstOf_64 rfl (by decide) rfl ?_
          refine p_iinc (q := 4) (lv' := [(4, .int (zi (x4 + 1))), (3, .int (zi x4)), (0, .ref a), (1, .int (zi x1)), (2, .int (zi x2))]) dX3_firstOf_65 rfl (by decide) rfl ?_
          refine p_goto (tgt := 5) dX3_firstOf_68 (by decide) ?_
          refine p_sub (lv' := [(0, .ref a), (1, .int (zi x1)), (2, .int (zi x2)), (3, .int (zi x4)), (4, .int (zi (zw (x4 + 1))))]) [2, 3, 4, 1, 0] (by simp only [zi_zw, zl_zwl]; rfl) ?_
          exact h
        · have h := h.2 b4
          refine p_aload_n dX3_firstOf_46 rfl (q := 0) rfl ?_
          refine p_getR (b := (a + 3)) G f_RX3_18 rfl (hS 0 (by decide)).1 ((hS 0 (by decide)).2.2 3 (by decide)) dX3_firstOf_47 ?_
          refine p_iload dX3_firstOf_50 (q := 4) rfl ?_
          have g5 := h.1
          have h := h.2
          refine p_iald G (hS 3 (by decide)).1 (nf_r c_x4) g5.1 (zln_lt (hS 3 (by decide)).2.1 g5.2) dX3_firstOf_52 (fun c4 => ?_)
          refine p_aload_n dX3_firstOf_53 rfl (q := 0) rfl ?_
          refine p_getR (b := (a + 3)) G f_RX3_18 rfl (hS 0 (by decide)).1 ((hS 0 (by decide)).2.2 3 (by decide)) dX3_firstOf_54 ?_
          refine p_iload_n dX3_firstOf_57 rfl (q := 3) rfl ?_
          have g7 := h.1
          have h := h.2
          refine p_iald G (hS 3 (by decide)).1 (nf_r c_x3) g7.1 (zln_lt (hS 3 (by decide)).2.1 g7.2) dX3_firstOf_58 (fun c6 => ?_)
          refine p_icmp_le (tgt := 65) dX3_firstOf_59 (by decide) (nf_r c4) (nf_r c6) (fun b8 => ?_) (fun b8 => ?_)
          · have h := h.1 b8
            refine p_iinc (q := 4) (lv' := [(4, .int (zi (x4 + 1))), (0, .ref a), (1, .int (zi x1)), (2, .int (zi x2)), (3, .int (zi x3))]) dX3_firstOf_65 rfl (by decide) rfl ?_
            refine p_goto (tgt := 5) dX3_firstOf_68 (by decide) ?_
            refine p_sub (lv' := [(0, .ref a), (1, .int (zi x1)), (2, .int (zi x2)), (3, .int (zi x3)), (4, .int (zi (zw (x4 + 1))))]) [1, 2, 3, 4, 0] (by simp only [zi_zw, zl_zwl]; rfl) ?_
            exact h
          · have h := h.2 b8
            refine p_iload dX3_firstOf_62 (q := 4) rfl ?_
            refine p_istore_n (lv' := [(3, .int (zi x4)), (0, .ref a), (1, .int (zi x1)), (2, .int (zi x2)), (4, .int (zi x4))]) dX3_firstOf_64 rfl (by decide) rfl ?_
            refine p_iinc (q := 4) (lv' := [(4, .int (zi (x4 + 1))), (3, .int (zi x4)), (0, .ref a), (1, .int (zi x1)), (2, .int (zi x2))]) dX3_firstOf_65 rfl (by decide) rfl ?_
            refine p_goto (tgt := 5) dX3_firstOf_68 (by decide) ?_
            refine p_sub (lv' := [(0, .ref a), (1, .int (zi x1)), (2, .int (zi x2)), (3, .int (zi x4)), (4, .int (zi (zw (x4 + 1))))]) [2, 3, 4, 1, 0] (by simp only [zi_zw, zl_zwl]; rfl) ?_
            exact h
      · have h := h.2 b4
        refine p_aload_n dX3_firstOf_30 rfl (q := 0) rfl ?_
        refine p_getR (b := (a + 1)) G f_RX3_9 rfl (hS 0 (by decide)).1 ((hS 0 (by decide)).2.2 1 (by decide)) dX3_firstOf_31 ?_
        refine p_iload dX3_firstOf_34 (q := 4) rfl ?_
        have g5 := h.1
        have h := h.2
        refine p_iald G (hS 1 (by decide)).1 (nf_r c_x4) g5.1 (zln_lt (hS 1 (by decide)).2.1 g5.2) dX3_firstOf_36 (fun c4 => ?_)
        refine p_iload_n dX3_firstOf_37 rfl (q := 1) rfl ?_
        refine p_icmp_ne (tgt := 65) dX3_firstOf_38 (by decide) (nf_r c4) (nf_r c_x1) (fun b6 => ?_) (fun b6 => ?_)
        · have h := h.1 b6
          refine p_iinc (q := 4) (lv' := [(4, .int (zi (x4 + 1))), (0, .ref a), (1, .int (zi x1)), (2, .int (zi x2)), (3, .int (zi x3))]) dX3_firstOf_65 rfl (by decide) rfl ?_
          refine p_goto (tgt := 5) dX3_firstOf_68 (by decide) ?_
          refine p_sub (lv' := [(0, .ref a), (1, .int (zi x1)), (2, .int (zi x2)), (3, .int (zi x3)), (4, .int (zi (zw (x4 + 1))))]) [1, 2, 3, 4, 0] (by simp only [zi_zw, zl_zwl]; rfl) ?_
          exact h
        · have h := h.2 b6
          refine p_iload_n dX3_firstOf_41 rfl (q := 3) rfl ?_
          refine p_iconst dX3_firstOf_42 ?_
          refine p_icmp_eq (tgt := 62) dX3_firstOf_43 (by decide) (nf_r c_x3) (nf_k (by decide)) (fun b6 => ?_) (fun b6 => ?_)
          · have h := h.1 b6
            refine p_iload dX3_firstOf_62 (q := 4) rfl ?_
            refine p_istore_n (lv' := [(3, .int (zi x4)), (0, .ref a), (1, .int (zi x1)), (2, .int (zi x2)), (4, .int (zi x4))]) dX3_firstOf_64 rfl (by decide) rfl ?_
            refine p_iinc (q := 4) (lv' := [(4, .int (zi (x4 + 1))), (3, .int (zi x4)), (0, .ref a), (1, .int (zi x1)), (2, .int (zi x2))]) dX3_firstOf_65 rfl (by decide) rfl ?_
            refine p_goto (tgt := 5) dX3_firstOf_68 (by decide) ?_
            refine p_sub (lv' := [(0, .ref a), (1, .int (zi x1)), (2, .int (zi x2)), (3, .int (zi x4)), (4, .int (zi (zw (x4 + 1))))]) [2, 3, 4, 1, 0] (by simp only [zi_zw, zl_zwl]; rfl) ?_
            exact h
          · have h := h.2 b6
            refine p_aload_n dX3_firstOf_46 rfl (q := 0) rfl ?_
            refine p_getR (b := (a + 3)) G f_RX3_18 rfl (hS 0 (by decide)).1 ((hS 0 (by decide)).2.2 3 (by decide)) dX3_firstOf_47 ?_
            refine p_iload dX3_firstOf_50 (q := 4) rfl ?_
            have g7 := h.1
            have h := h.2
            refine p_iald G (hS 3 (by decide)).1 (nf_r c_x4) g7.1 (zln_lt (hS 3 (by decide)).2.1 g7.2) dX3_firstOf_52 (fun c6 => ?_)
            refine p_aload_n dX3_firstOf_53 rfl (q := 0) rfl ?_
            refine p_getR (b := (a + 3)) G f_RX3_18 rfl (hS 0 (by decide)).1 ((hS 0 (by decide)).2.2 3 (by decide)) dX3_firstOf_54 ?_
            refine p_iload_n dX3_firstOf_57 rfl (q := 3) rfl ?_
            have g9 := h.1
            have h := h.2
            refine p_iald G (hS 3 (by decide)).1 (nf_r c_x3) g9.1 (zln_lt (hS 3 (by decide)).2.1 g9.2) dX3_firstOf_58 (fun c8 => ?_)
            refine p_icmp_le (tgt := 65) dX3_firstOf_59 (by decide) (nf_r c6) (nf_r c8) (fun b10 => ?_) (fun b10 => ?_)
            · have h := h.1 b10
              refine p_iinc (q := 4) (lv' := [(4, .int (zi (x4 + 1))), (0, .ref a), (1, .int (zi x1)), (2, .int (zi x2)), (3, .int (zi x3))]) dX3_firstOf_65 rfl (by decide) rfl ?_
              refine p_goto (tgt := 5) dX3_firstOf_68 (by decide) ?_
              refine p_sub (lv' := [(0, .ref a), (1, .int (zi x1)), (2, .int (zi x2)), (3, .int (zi x3)), (4, .int (zi (zw (x4 + 1))))]) [1, 2, 3, 4, 0] (by simp only [zi_zw, zl_zwl]; rfl) ?_
              exact h
            · have h := h.2 b10
              refine p_iload dX3_firstOf_62 (q := 4) rfl ?_
              refine p_istore_n (lv' := [(3, .int (zi x4)), (0, .ref a), (1, .int (zi x1)), (2, .int (zi x2)), (4, .int (zi x4))]) dX3_firstOf_64 rfl (by decide) rfl ?_
              refine p_iinc (q := 4) (lv' := [(4, .int (zi (x4 + 1))), (3, .int (zi x4)), (0, .ref a), (1, .int (zi x1)), (2, .int (zi x2))]) dX3_firstOf_65 rfl (by decide) rfl ?_
              refine p_goto (tgt := 5) dX3_firstOf_68 (by decide) ?_
              refine p_sub (lv' := [(0, .ref a), (1, .int (zi x1)), (2, .int (zi x2)), (3, .int (zi x4)), (4, .int (zi (zw (x4 + 1))))]) [2, 3, 4, 1, 0] (by simp only [zi_zw, zl_zwl]; rfl) ?_
              exact h
set_option maxRecDepth 20000 in
set_option maxHeartbeats 4000000 in
theorem v_X3_remove {g : zG} (G : zOK g) {S : zSh} {im : zIm} {a : Nat} {p1 : Int} {Q : zIm → Prop} (hS : zS_Q S a) (c_p1 : zc p1)
    (h : ((p1 < 0 → Q im) ∧ (0 ≤ p1 → ((p1 < (im a 0) → ∀ im3, im3 = zst im a 0 (zw ((im a 0) - 1)) → zPV g M_X3_remove 25 [(0, .ref a), (2, .int (zi p1))] S im3 Q) ∧ ((im a 0) ≤ p1 → Q im))))) :
    zCV g yX3_remove M_X3_remove [.ref a, .int (zi p1)] S im Q := by
  refine zC_of (by decide) rfl rfl rfl rfl (Nat.le_of_ble_eq_true rfl) ?_
  refine p_iload_n dX3_remove_0 rfl (q := 1) rfl ?_
  refine p_if_lt (tgt := 12) dX3_remove_1 (by decide) (nf_r c_p1) (fun b1 => ?_) (fun b1 => ?_)
  · have h := h.1 b1
    exact p_retV (by decide) (by decide) rfl dX3_remove_12 h
  · have h := h.2 b1
    refine p_iload_n dX3_remove_4 rfl (q := 1) rfl ?_
    refine p_aload_n dX3_remove_5 rfl (q := 0) rfl ?_
    refine p_getI (j := 0) G f_RX3_24 rfl (hS 0 (by decide)).1 dX3_remove_6 (fun c1 => ?_)
    refine p_icmp_lt (tgt := 13) dX3_remove_9 (by decide) (nf_r c_p1) (nf_r c1) (fun b2 => ?_) (fun b2 => ?_)
    · have h := h.1 b2
      refine p_aload_n dX3_remove_13 rfl (q := 0) rfl ?_
      refine p_dup dX3_remove_14 rfl ?_
      refine p_getI (j := 0) G f_RX3_24 rfl (hS 0 (by decide)).1 dX3_remove_15 (fun c2 => ?_)
      refine p_iconst dX3_remove_18 ?_
      refine p_isub dX3_remove_19 ?_
      refine p_putI (j := 0) G f_RX3_24 rfl rfl rfl (hS 0 (by decide)).1 (nf_w _) dX3_remove_20 ?_
      refine p_gen (fun im3 e4 => ?_)
      have h := h im3 e4
      refine p_iload_n dX3_remove_23 rfl (q := 1) rfl ?_
      refine p_istore_n (lv' := [(2, .int (zi p1)), (0, .ref a), (1, .int (zi p1))]) dX3_remove_24 rfl (by decide) rfl ?_
      refine p_sub (lv' := [(0, .ref a), (2, .int (zi p1))]) [1, 0] rfl ?_
      exact h
    · have h := h.2 b2
      exact p_retV (by decide) (by decide) rfl dX3_remove_12 h
set_option maxRecDepth 20000 in
set_option maxHeartbeats 4000000 in
theorem v_X3_remove_25 {g : zG} (G : zOK g) {S : zSh} {im : zIm} {a : Nat} {x2 : Int} {Q : zIm → Prop} (hS : zS_Q S a) (c_x2 : zc x2)
    (h : (((im a 0) ≤ x2 → Q im) ∧ (x2 < (im a 0) → ((0 ≤ (zw (x2 + 1)) ∧ (zw (x2 + 1)) < 300) ∧ ((0 ≤ x2 ∧ x2 < 300) ∧ ∀ im4, im4 = zst im (a + 1) x2 (im (a + 1) (zw (x2 + 1))) → ((0 ≤ (zw (x2 + 1)) ∧ (zw (x2 + 1)) < 300) ∧ ((0 ≤ x2 ∧ x2 < 300) ∧ ∀ im9, im9 = zst im4 (a + 2) x2 (im4 (a + 2) (zw (x2 + 1))) → ((0 ≤ (zw (x2 + 1)) ∧ (zw (x2 + 1)) < 300) ∧ ((0 ≤ x2 ∧ x2 < 300) ∧ ∀ im14, im14 = zst im9 (a + 3) x2 (im9 (a + 3) (zw (x2 + 1))) → ((0 ≤ (zw (x2 + 1)) ∧ (zw (x2 + 1)) < 300) ∧ ((0 ≤ x2 ∧ x2 < 300) ∧ ∀ im19, im19 = zst im14 (a + 4) x2 (im14 (a + 4) (zw (x2 + 1))) → zPV g M_X3_remove 25 [(0, .ref a), (2, .int (zi (zw (x2 + 1))))] S im19 Q))))))))))) :
    zPV g M_X3_remove 25 [(0, .ref a), (2, .int (zi x2))] S im Q := by
  refine p_iload_n dX3_remove_25 rfl (q := 1) rfl ?_
  refine p_aload_n dX3_remove_26 rfl (q := 0) rfl ?_
  refine p_getI (j := 0) G f_RX3_24 rfl (hS 0 (by decide)).1 dX3_remove_27 (fun c1 => ?_)
  refine p_icmp_ge (tgt := 95) dX3_remove_30 (by decide) (nf_r c_x2) (nf_r c1) (fun b2 => ?_) (fun b2 => ?_)
  · have h := h.1 b2
    exact p_retV (by decide) (by decide) rfl dX3_remove_95 h
  · have h := h.2 b2
    refine p_aload_n dX3_remove_33 rfl (q := 0) rfl ?_
    refine p_getR (b := (a + 1)) G f_RX3_9 rfl (hS 0 (by decide)).1 ((hS 0 (by decide)).2.2 1 (by decide)) dX3_remove_34 ?_
    refine p_iload_n dX3_remove_37 rfl (q := 1) rfl ?_
    refine p_aload_n dX3_remove_38 rfl (q := 0) rfl ?_
    refine p_getR (b := (a + 1)) G f_RX3_9 rfl (hS 0 (by decide)).1 ((hS 0 (by decide)).2.2 1 (by decide)) dX3_remove_39 ?_
    refine p_iload_n dX3_remove_42 rfl (q := 1) rfl ?_
    refine p_iconst dX3_remove_43 ?_
    refine p_iadd dX3_remove_44 ?_
    have g3 := h.1
    have h := h.2
    refine p_iald G (hS 1 (by decide)).1 (nf_w _) g3.1 (zln_lt (hS 1 (by decide)).2.1 g3.2) dX3_remove_45 (fun c2 => ?_)
    have g6 := h.1
    have h := h.2
    refine p_iast G (hS 1 (by decide)).1 (nf_r c_x2) g6.1 (zln_lt (hS 1 (by decide)).2.1 g6.2) (nf_r c2) dX3_remove_46 ?_
    refine p_gen (fun im4 e5 => ?_)
    have h := h im4 e5
    refine p_aload_n dX3_remove_47 rfl (q := 0) rfl ?_
    refine p_getR (b := (a + 2)) G f_RX3_15 rfl (hS 0 (by decide)).1 ((hS 0 (by decide)).2.2 2 (by decide)) dX3_remove_48 ?_
    refine p_iload_n dX3_remove_51 rfl (q := 1) rfl ?_
    refine p_aload_n dX3_remove_52 rfl (q := 0) rfl ?_
    refine p_getR (b := (a + 2)) G f_RX3_15 rfl (hS 0 (by decide)).1 ((hS 0 (by decide)).2.2 2 (by decide)) dX3_remove_53 ?_
    refine p_iload_n dX3_remove_56 rfl (q := 1) rfl ?_
    refine p_iconst dX3_remove_57 ?_
    refine p_iadd dX3_remove_58 ?_
    have g8 := h.1
    have h := h.2
    refine p_iald G (hS 2 (by decide)).1 (nf_w _) g8.1 (zln_lt (hS 2 (by decide)).2.1 g8.2) dX3_remove_59 (fun c7 => ?_)
    have g11 := h.1
    have h := h.2
    refine p_iast G (hS 2 (by decide)).1 (nf_r c_x2) g11.1 (zln_lt (hS 2 (by decide)).2.1 g11.2) (nf_r c7) dX3_remove_60 ?_
    refine p_gen (fun im9 e10 => ?_)
    have h := h im9 e10
    refine p_aload_n dX3_remove_61 rfl (q := 0) rfl ?_
    refine p_getR (b := (a + 3)) G f_RX3_18 rfl (hS 0 (by decide)).1 ((hS 0 (by decide)).2.2 3 (by decide)) dX3_remove_62 ?_
    refine p_iload_n dX3_remove_65 rfl (q := 1) rfl ?_
    refine p_aload_n dX3_remove_66 rfl (q := 0) rfl ?_
    refine p_getR (b := (a + 3)) G f_RX3_18 rfl (hS 0 (by decide)).1 ((hS 0 (by decide)).2.2 3 (by decide)) dX3_remove_67 ?_
    refine p_iload_n dX3_remove_70 rfl (q := 1) rfl ?_
    refine p_iconst dX3_remove_71 ?_
    refine p_iadd dX3_remove_72 ?_
    have g13 := h.1
    have h := h.2
    refine p_iald G (hS 3 (by decide)).1 (nf_w _) g13.1 (zln_lt (hS 3 (by decide)).2.1 g13.2) dX3_remove_73 (fun c12 => ?_)
    have g16 := h.1
    have h := h.2
    refine p_iast G (hS 3 (by decide)).1 (nf_r c_x2) g16.1 (zln_lt (hS 3 (by decide)).2.1 g16.2) (nf_r c12) dX3_remove_74 ?_
    refine p_gen (fun im14 e15 => ?_)
    have h := h im14 e15
    refine p_aload_n dX3_remove_75 rfl (q := 0) rfl ?_
    refine p_getR (b := (a + 4)) G f_RX3_21 rfl (hS 0 (by decide)).1 ((hS 0 (by decide)).2.2 4 (by decide)) dX3_remove_76 ?_
    refine p_iload_n dX3_remove_79 rfl (q := 1) rfl ?_
    refine p_aload_n dX3_remove_80 rfl (q := 0) rfl ?_
    refine p_getR (b := (a + 4)) G f_RX3_21 rfl (hS 0 (by decide)).1 ((hS 0 (by decide)).2.2 4 (by decide)) dX3_remove_81 ?_
    refine p_iload_n dX3_remove_84 rfl (q := 1) rfl ?_
    refine p_iconst dX3_remove_85 ?_
    refine p_iadd dX3_remove_86 ?_
    have g18 := h.1
    have h := h.2
    refine p_iald G (hS 4 (by decide)).1 (nf_w _) g18.1 (zln_lt (hS 4 (by decide)).2.1 g18.2) dX3_remove_87 (fun c17 => ?_)
    have g21 := h.1
    have h := h.2
    refine p_iast G (hS 4 (by decide)).1 (nf_r c_x2) g21.1 (zln_lt (hS 4 (by decide)).2.1 g21.2) (nf_r c17) dX3_remove_88 ?_
    refine p_gen (fun im19 e20 => ?_)
    have h := h im19 e20
    refine p_iinc (q := 1) (lv' := [(2, .int (zi (x2 + 1))), (0, .ref a)]) dX3_remove_89 rfl (by decide) rfl ?_
    refine p_goto (tgt := 25) dX3_remove_92 (by decide) ?_
    refine p_sub (lv' := [(0, .ref a), (2, .int (zi (zw (x2 + 1))))]) [1, 0] (by simp only [zi_zw, zl_zwl]; rfl) ?_
    exact h
set_option maxRecDepth 20000 in
set_option maxHeartbeats 4000000 in
theorem v_X6_move {g : zG} (G : zOK g) {S : zSh} {im : zIm} {a : Nat} {p1 : Int} {p2 : Int} {Q : zIm → Prop} (hS : zS_U S a) (c_p1 : zc p1) (c_p2 : zc p2)
    (h : ((0 ≤ p1 ∧ p1 < 300) ∧ ((0 ≤ p2 ∧ p2 < 300) ∧ ∀ im3, im3 = zst im (a + 1) p2 (im (a + 1) p1) → ((0 ≤ p1 ∧ p1 < 300) ∧ ((0 ≤ p2 ∧ p2 < 300) ∧ ∀ im8, im8 = zst im3 (a + 2) p2 (im3 (a + 2) p1) → ((0 ≤ p1 ∧ p1 < 300) ∧ ((0 ≤ p2 ∧ p2 < 300) ∧ ∀ im13, im13 = zst im8 (a + 3) p2 (im8 (a + 3) p1) → ((0 ≤ p1 ∧ p1 < 300) ∧ ((0 ≤ p2 ∧ p2 < 300) ∧ ∀ im18, im18 = zst im13 (a + 4) p2 (im13 (a + 4) p1) → ((0 ≤ p1 ∧ p1 < 300) ∧ ((0 ≤ p2 ∧ p2 < 300) ∧ ∀ im23, im23 = zst im18 (a + 5) p2 (im18 (a + 5) p1) → ((0 ≤ p1 ∧ p1 < 300) ∧ ((0 ≤ p2 ∧ p2 < 300) ∧ ∀ im28, im28 = zst im23 (a + 6) p2 (im23 (a + 6) p1) → Q im28))))))))))))) :
    zCV g yX6_move M_X6_move [.ref a, .int (zi p1), .int (zi p2)] S im Q := by
  refine zC_of (by decide) rfl rfl rfl rfl (Nat.le_of_ble_eq_true rfl) ?_
  refine p_aload_n dX6_move_0 rfl (q := 0) rfl ?_
  refine p_getR (b := (a + 1)) G f_RX6_9 rfl (hS 0 (by decide)).1 ((hS 0 (by decide)).2.2 1 (by decide)) dX6_move_1 ?_
  refine p_iload_n dX6_move_4 rfl (q := 2) rfl ?_
  refine p_aload_n dX6_move_5 rfl (q := 0) rfl ?_
  refine p_getR (b := (a + 1)) G f_RX6_9 rfl (hS 0 (by decide)).1 ((hS 0 (by decide)).2.2 1 (by decide)) dX6_move_6 ?_
  refine p_iload_n dX6_move_9 rfl (q := 1) rfl ?_
  have g2 := h.1
  have h := h.2
  refine p_iald G (hS 1 (by decide)).1 (nf_r c_p1) g2.1 (zln_lt (hS 1 (by decide)).2.1 g2.2) dX6_move_10 (fun c1 => ?_)
  have g5 := h.1
  have h := h.2
  refine p_iast G (hS 1 (by decide)).1 (nf_r c_p2) g5.1 (zln_lt (hS 1 (by decide)).2.1 g5.2) (nf_r c1) dX6_move_11 ?_
  refine p_gen (fun im3 e4 => ?_)
  have h := h im3 e4
  refine p_aload_n dX6_move_12 rfl (q := 0) rfl ?_
  refine p_getR (b := (a + 2)) G f_RX6_15 rfl (hS 0 (by decide)).1 ((hS 0 (by decide)).2.2 2 (by decide)) dX6_move_13 ?_
  refine p_iload_n dX6_move_16 rfl (q := 2) rfl ?_
  refine p_aload_n dX6_move_17 rfl (q := 0) rfl ?_
  refine p_getR (b := (a + 2)) G f_RX6_15 rfl (hS 0 (by decide)).1 ((hS 0 (by decide)).2.2 2 (by decide)) dX6_move_18 ?_
  refine p_iload_n dX6_move_21 rfl (q := 1) rfl ?_
  have g7 := h.1
  have h := h.2
  refine p_iald G (hS 2 (by decide)).1 (nf_r c_p1) g7.1 (zln_lt (hS 2 (by decide)).2.1 g7.2) dX6_move_22 (fun c6 => ?_)
  have g10 := h.1
  have h := h.2
  refine p_iast G (hS 2 (by decide)).1 (nf_r c_p2) g10.1 (zln_lt (hS 2 (by decide)).2.1 g10.2) (nf_r c6) dX6_move_23 ?_
  refine p_gen (fun im8 e9 => ?_)
  have h := h im8 e9
  refine p_aload_n dX6_move_24 rfl (q := 0) rfl ?_
  refine p_getR (b := (a + 3)) G f_RX6_18 rfl (hS 0 (by decide)).1 ((hS 0 (by decide)).2.2 3 (by decide)) dX6_move_25 ?_
  refine p_iload_n dX6_move_28 rfl (q := 2) rfl ?_
  refine p_aload_n dX6_move_29 rfl (q := 0) rfl ?_
  refine p_getR (b := (a + 3)) G f_RX6_18 rfl (hS 0 (by decide)).1 ((hS 0 (by decide)).2.2 3 (by decide)) dX6_move_30 ?_
  refine p_iload_n dX6_move_33 rfl (q := 1) rfl ?_
  have g12 := h.1
  have h := h.2
  refine p_iald G (hS 3 (by decide)).1 (nf_r c_p1) g12.1 (zln_lt (hS 3 (by decide)).2.1 g12.2) dX6_move_34 (fun c11 => ?_)
  have g15 := h.1
  have h := h.2
  refine p_iast G (hS 3 (by decide)).1 (nf_r c_p2) g15.1 (zln_lt (hS 3 (by decide)).2.1 g15.2) (nf_r c11) dX6_move_35 ?_
  refine p_gen (fun im13 e14 => ?_)
  have h := h im13 e14
  refine p_aload_n dX6_move_36 rfl (q := 0) rfl ?_
  refine p_getR (b := (a + 4)) G f_RX6_21 rfl (hS 0 (by decide)).1 ((hS 0 (by decide)).2.2 4 (by decide)) dX6_move_37 ?_
  refine p_iload_n dX6_move_40 rfl (q := 2) rfl ?_
  refine p_aload_n dX6_move_41 rfl (q := 0) rfl ?_
  refine p_getR (b := (a + 4)) G f_RX6_21 rfl (hS 0 (by decide)).1 ((hS 0 (by decide)).2.2 4 (by decide)) dX6_move_42 ?_
  refine p_iload_n dX6_move_45 rfl (q := 1) rfl ?_
  have g17 := h.1
  have h := h.2
  refine p_iald G (hS 4 (by decide)).1 (nf_r c_p1) g17.1 (zln_lt (hS 4 (by decide)).2.1 g17.2) dX6_move_46 (fun c16 => ?_)
  have g20 := h.1
  have h := h.2
  refine p_iast G (hS 4 (by decide)).1 (nf_r c_p2) g20.1 (zln_lt (hS 4 (by decide)).2.1 g20.2) (nf_r c16) dX6_move_47 ?_
  refine p_gen (fun im18 e19 => ?_)
  have h := h im18 e19
  refine p_aload_n dX6_move_48 rfl (q := 0) rfl ?_
  refine p_getR (b := (a + 5)) G f_RX6_24 rfl (hS 0 (by decide)).1 ((hS 0 (by decide)).2.2 5 (by decide)) dX6_move_49 ?_
  refine p_iload_n dX6_move_52 rfl (q := 2) rfl ?_
  refine p_aload_n dX6_move_53 rfl (q := 0) rfl ?_
  refine p_getR (b := (a + 5)) G f_RX6_24 rfl (hS 0 (by decide)).1 ((hS 0 (by decide)).2.2 5 (by decide)) dX6_move_54 ?_
  refine p_iload_n dX6_move_57 rfl (q := 1) rfl ?_
  have g22 := h.1
  have h := h.2
  refine p_iald G (hS 5 (by decide)).1 (nf_r c_p1) g22.1 (zln_lt (hS 5 (by decide)).2.1 g22.2) dX6_move_58 (fun c21 => ?_)
  have g25 := h.1
  have h := h.2
  refine p_iast G (hS 5 (by decide)).1 (nf_r c_p2) g25.1 (zln_lt (hS 5 (by decide)).2.1 g25.2) (nf_r c21) dX6_move_59 ?_
  refine p_gen (fun im23 e24 => ?_)
  have h := h im23 e24
  refine p_aload_n dX6_move_60 rfl (q := 0) rfl ?_
  refine p_getR (b := (a + 6)) G f_RX6_27 rfl (hS 0 (by decide)).1 ((hS 0 (by decide)).2.2 6 (by decide)) dX6_move_61 ?_
  refine p_iload_n dX6_move_64 rfl (q := 2) rfl ?_
  refine p_aload_n dX6_move_65 rfl (q := 0) rfl ?_
  refine p_getR (b := (a + 6)) G f_RX6_27 rfl (hS 0 (by decide)).1 ((hS 0 (by decide)).2.2 6 (by decide)) dX6_move_66 ?_
  refine p_iload_n dX6_move_69 rfl (q := 1) rfl ?_
  have g27 := h.1
  have h := h.2
  refine p_iald G (hS 6 (by decide)).1 (nf_r c_p1) g27.1 (zln_lt (hS 6 (by decide)).2.1 g27.2) dX6_move_70 (fun c26 => ?_)
  have g30 := h.1
  have h := h.2
  refine p_iast G (hS 6 (by decide)).1 (nf_r c_p2) g30.1 (zln_lt (hS 6 (by decide)).2.1 g30.2) (nf_r c26) dX6_move_71 ?_
  refine p_gen (fun im28 e29 => ?_)
  have h := h im28 e29
  exact p_retV (by decide) (by decide) rfl dX6_move_72 h
set_option maxRecDepth 20000 in
set_option maxHeartbeats 4000000 in
theorem v_X6_add {g : zG} (G : zOK g) {S : zSh} {im : zIm} {a : Nat} {p1 : Int} {p2 : Int} {p3 : Int} {p4 : Int} {p5 : Int} {p6 : Int} {Q : zIm → Prop} (hS : zS_U S a) (c_p1 : zc p1) (c_p2 : zc p2) (c_p3 : zc p3) (c_p4 : zc p4) (c_p5 : zc p5) (c_p6 : zc p6)
    (h : (((im a 0) < 300 → zPV g M_X6_add 17 [(0, .ref a), (1, .int (zi p1)), (2, .int (zi p2)), (3, .int (zi p3)), (4, .int (zi p4)), (5, .int (zi p5)), (6, .int (zi p6)), (7, .int (zi (im a 0)))] S im Q) ∧ (300 ≤ (im a 0) → Q im))) :
    zCV g yX6_add M_X6_add [.ref a, .int (zi p1), .int (zi p2), .int (zi p3), .int (zi p4), .int (zi p5), .int (zi p6)] S im Q := by
  refine zC_of (by decide) rfl rfl rfl rfl (Nat.le_of_ble_eq_true rfl) ?_
  refine p_aload_n dX6_add_0 rfl (q := 0) rfl ?_
  refine p_getI (j := 0) G f_RX6_30 rfl (hS 0 (by decide)).1 dX6_add_1 (fun c1 => ?_)
  refine p_sipush dX6_add_4 (by decide) ?_
  refine p_icmp_lt (tgt := 11) dX6_add_7 (by decide) (nf_r c1) (nf_k (by decide)) (fun b2 => ?_) (fun b2 => ?_)
  · have h := h.1 b2
    refine p_aload_n dX6_add_11 rfl (q := 0) rfl ?_
    refine p_getI (j := 0) G f_RX6_30 rfl (hS 0 (by decide)).1 dX6_add_12 (fun c2 => ?_)
    refine p_istore (lv' := [(7, .int (zi (im a 0))), (0, .ref a), (1, .int (zi p1)), (2, .int (zi p2)), (3, .int (zi p3)), (4, .int (zi p4)), (5, .int (zi p5)), (6, .int (zi p6))]) dX6_add_15 (by decide) rfl ?_
    refine p_sub (lv' := [(0, .ref a), (1, .int (zi p1)), (2, .int (zi p2)), (3, .int (zi p3)), (4, .int (zi p4)), (5, .int (zi p5)), (6, .int (zi p6)), (7, .int (zi (im a 0)))]) [1, 2, 3, 4, 5, 6, 7, 0] rfl ?_
    exact h
  · have h := h.2 b2
    exact p_retV (by decide) (by decide) rfl dX6_add_10 h
set_option maxRecDepth 20000 in
set_option maxHeartbeats 4000000 in
theorem v_X6_add_17 {g : zG} (G : zOK g) {S : zSh} {im : zIm} {a : Nat} {x1 : Int} {x2 : Int} {x3 : Int} {x4 : Int} {x5 : Int} {x6 : Int} {x7 : Int} {Q : zIm → Prop} (hS : zS_U S a) (c_x1 : zc x1) (c_x2 : zc x2) (c_x3 : zc x3) (c_x4 : zc x4) (c_x5 : zc x5) (c_x6 : zc x6) (c_x7 : zc x7)
    (h : ((x7 ≤ 0 → ((0 ≤ x7 ∧ x7 < 300) ∧ ∀ im1, im1 = zst im (a + 1) x7 x1 → ((0 ≤ x7 ∧ x7 < 300) ∧ ∀ im4, im4 = zst im1 (a + 2) x7 x2 → ((0 ≤ x7 ∧ x7 < 300) ∧ ∀ im7, im7 = zst im4 (a + 3) x7 x3 → ((0 ≤ x7 ∧ x7 < 300) ∧ ∀ im10, im10 = zst im7 (a + 4) x7 x4 → ((0 ≤ x7 ∧ x7 < 300) ∧ ∀ im13, im13 = zst im10 (a + 5) x7 x5 → ((0 ≤ x7 ∧ x7 < 300) ∧ ∀ im16, im16 = zst im13 (a + 6) x7 x6 → ∀ im20, im20 = zst im16 a 0 (zw ((im16 a 0) + 1)) → Q im20))))))) ∧ (0 < x7 → ((0 ≤ (zw (x7 - 1)) ∧ (zw (x7 - 1)) < 300) ∧ ((x1 < (im (a + 1) (zw (x7 - 1))) → zCV g yX6_move M_X6_move [.ref a, .int (zi (zw (x7 - 1))), .int (zi x7)] S im (fun im3 => zPV g M_X6_add 17 [(0, .ref a), (1, .int (zi x1)), (2, .int (zi x2)), (3, .int (zi x3)), (4, .int (zi x4)), (5, .int (zi x5)), (6, .int (zi x6)), (7, .int (zi (zw (x7 + (-1)))))] S im3 Q)) ∧ ((im (a + 1) (zw (x7 - 1))) ≤ x1 → ((¬ (im (a + 1) (zw (x7 - 1))) = x1 → ((0 ≤ x7 ∧ x7 < 300) ∧ ∀ im4, im4 = zst im (a + 1) x7 x1 → ((0 ≤ x7 ∧ x7 < 300) ∧ ∀ im7, im7 = zst im4 (a + 2) x7 x2 → ((0 ≤ x7 ∧ x7 < 300) ∧ ∀ im10, im10 = zst im7 (a + 3) x7 x3 → ((0 ≤ x7 ∧ x7 < 300) ∧ ∀ im13, im13 = zst im10 (a + 4) x7 x4 → ((0 ≤ x7 ∧ x7 < 300) ∧ ∀ im16, im16 = zst im13 (a + 5) x7 x5 → ((0 ≤ x7 ∧ x7 < 300) ∧ ∀ im19, im19 = zst im16 (a + 6) x7 x6 → ∀ im23, im23 = zst im19 a 0 (zw ((im19 a 0) + 1)) → Q im23))))))) ∧ ((im (a + 1) (zw (x7 - 1))) = x1 → ((0 ≤ (zw (x7 - 1)) ∧ (zw (x7 - 1)) < 300) ∧ (((im (a + 2) (zw (x7 - 1))) ≤ x2 → ((0 ≤ x7 ∧ x7 < 300) ∧ ∀ im6, im6 = zst im (a + 1) x7 x1 → ((0 ≤ x7 ∧ x7 < 300) ∧ ∀ im9, im9 = zst im6 (a + 2) x7 x2 → ((0 ≤ x7 ∧ x7 < 300) ∧ ∀ im12, im12 = zst im9 (a + 3) x7 x3 → ((0 ≤ x7 ∧ x7 < 300) ∧ ∀ im15, im15 = zst im12 (a + 4) x7 x4 → ((0 ≤ x7 ∧ x7 < 300) ∧ ∀ im18, im18 = zst im15 (a + 5) x7 x5 → ((0 ≤ x7 ∧ x7 < 300) ∧ ∀ im21, im21 = zst im18 (a + 6) x7 x6 → ∀ im25, im25 = zst im21 a 0 (zw ((im21 a 0) + 1)) → Q im25))))))) ∧ (x2 < (im (a + 2) (zw (x7 - 1))) → zCV g yX6_move M_X6_move [.ref a, .int (zi (zw (x7 - 1))), .int (zi x7)] S im (fun im6 => zPV g M_X6_add 17 [(0, .ref a), (1, .int (zi x1)), (2, .int (zi x2)), (3, .int (zi x3)), (4, .int (zi x4)), (5, .int (zi x5)), (6, .int (zi x6)), (7, .int (zi (zw (x7 + (-1)))))] S im6 Q)))))))))))) :
    zPV g M_X6_add 17 [(0, .ref a), (1, .int (zi x1)), (2, .int (zi x2)), (3, .int (zi x3)), (4, .int (zi x4)), (5, .int (zi x5)), (6, .int (zi x6)), (7, .int (zi x7))] S im Q := by
  refine p_iload dX6_add_17 (q := 7) rfl ?_
  refine p_if_le (tgt := 77) dX6_add_19 (by decide) (nf_r c_x7) (fun b1 => ?_) (fun b1 => ?_)
  · have h := h.1 b1
    refine p_aload_n dX6_add_77 rfl (q := 0) rfl ?_
    refine p_getR (b := (a + 1)) G f_RX6_9 rfl (hS 0 (by decide)).1 ((hS 0 (by decide)).2.2 1 (by decide)) dX6_add_78 ?_
    refine p_iload dX6_add_81 (q := 7) rfl ?_
    refine p_iload_n dX6_add_83 rfl (q := 1) rfl ?_
    have g3 := h.1
    have h := h.2
    refine p_iast G (hS 1 (by decide)).1 (nf_r c_x7) g3.1 (zln_lt (hS 1 (by decide)).2.1 g3.2) (nf_r c_x1) dX6_add_84 ?_
    refine p_gen (fun im1 e2 => ?_)
    have h := h im1 e2
    refine p_aload_n dX6_add_85 rfl (q := 0) rfl ?_
    refine p_getR (b := (a + 2)) G f_RX6_15 rfl (hS 0 (by decide)).1 ((hS 0 (by decide)).2.2 2 (by decide)) dX6_add_86 ?_
    refine p_iload dX6_add_89 (q := 7) rfl ?_
    refine p_iload_n dX6_add_91 rfl (q := 2) rfl ?_
    have g6 := h.1
    have h := h.2
    refine p_iast G (hS 2 (by decide)).1 (nf_r c_x7) g6.1 (zln_lt (hS 2 (by decide)).2.1 g6.2) (nf_r c_x2) dX6_add_92 ?_
    refine p_gen (fun im4 e5 => ?_)
    have h := h im4 e5
    refine p_aload_n dX6_add_93 rfl (q := 0) rfl ?_
    refine p_getR (b := (a + 3)) G f_RX6_18 rfl (hS 0 (by decide)).1 ((hS 0 (by decide)).2.2 3 (by decide)) dX6_add_94 ?_
    refine p_iload dX6_add_97 (q := 7) rfl ?_
    refine p_iload_n dX6_add_99 rfl (q := 3) rfl ?_
    have g9 := h.1
    have h := h.2
    refine p_iast G (hS 3 (by decide)).1 (nf_r c_x7) g9.1 (zln_lt (hS 3 (by decide)).2.1 g9.2) (nf_r c_x3) dX6_add_100 ?_
    refine p_gen (fun im7 e8 => ?_)
    have h := h im7 e8
    refine p_aload_n dX6_add_101 rfl (q := 0) rfl ?_
    refine p_getR (b := (a + 4)) G f_RX6_21 rfl (hS 0 (by decide)).1 ((hS 0 (by decide)).2.2 4 (by decide)) dX6_add_102 ?_
    refine p_iload dX6_add_105 (q := 7) rfl ?_
    refine p_iload dX6_add_107 (q := 4) rfl ?_
    have g12 := h.1
    have h := h.2
    refine p_iast G (hS 4 (by decide)).1 (nf_r c_x7) g12.1 (zln_lt (hS 4 (by decide)).2.1 g12.2) (nf_r c_x4) dX6_add_109 ?_
    refine p_gen (fun im10 e11 => ?_)
    have h := h im10 e11
    refine p_aload_n dX6_add_110 rfl (q := 0) rfl ?_
    refine p_getR (b := (a + 5)) G f_RX6_24 rfl (hS 0 (by decide)).1 ((hS 0 (by decide)).2.2 5 (by decide)) dX6_add_111 ?_
    refine p_iload dX6_add_114 (q := 7) rfl ?_
    refine p_iload dX6_add_116 (q := 5) rfl ?_
    have g15 := h.1
    have h := h.2
    refine p_iast G (hS 5 (by decide)).1 (nf_r c_x7) g15.1 (zln_lt (hS 5 (by decide)).2.1 g15.2) (nf_r c_x5) dX6_add_118 ?_
    refine p_gen (fun im13 e14 => ?_)
    have h := h im13 e14
    refine p_aload_n dX6_add_119 rfl (q := 0) rfl ?_
    refine p_getR (b := (a + 6)) G f_RX6_27 rfl (hS 0 (by decide)).1 ((hS 0 (by decide)).2.2 6 (by decide)) dX6_add_120 ?_
    refine p_iload dX6_add_123 (q := 7) rfl ?_
    refine p_iload dX6_add_125 (q := 6) rfl ?_
    have g18 := h.1
    have h := h.2
    refine p_iast G (hS 6 (by decide)).1 (nf_r c_x7) g18.1 (zln_lt (hS 6 (by decide)).2.1 g18.2) (nf_r c_x6) dX6_add_127 ?_
    refine p_gen (fun im16 e17 => ?_)
    have h := h im16 e17
    refine p_aload_n dX6_add_128 rfl (q := 0) rfl ?_
    refine p_dup dX6_add_129 rfl ?_
    refine p_getI (j := 0) G f_RX6_30 rfl (hS 0 (by decide)).1 dX6_add_130 (fun c19 => ?_)
    refine p_iconst dX6_add_133 ?_
    refine p_iadd dX6_add_134 ?_
    refine p_putI (j := 0) G f_RX6_30 rfl rfl rfl (hS 0 (by decide)).1 (nf_w _) dX6_add_135 ?_
    refine p_gen (fun im20 e21 => ?_)
    have h := h im20 e21
    exact p_retV (by decide) (by decide) rfl dX6_add_138 h
  · have h := h.2 b1
    refine p_aload_n dX6_add_22 rfl (q := 0) rfl ?_
    refine p_getR (b := (a + 1)) G f_RX6_9 rfl (hS 0 (by decide)).1 ((hS 0 (by decide)).2.2 1 (by decide)) dX6_add_23 ?_
    refine p_iload dX6_add_26 (q := 7) rfl ?_
    refine p_iconst dX6_add_28 ?_
    refine p_isub dX6_add_29 ?_
    have g2 := h.1
    have h := h.2
    refine p_iald G (hS 1 (by decide)).1 (nf_w _) g2.1 (zln_lt (hS 1 (by decide)).2.1 g2.2) dX6_add_30 (fun c1 => ?_)
    refine p_iload_n dX6_add_31 rfl (q := 1) rfl ?_
    refine p_icmp_gt (tgt := 61) dX6_add_32 (by decide) (nf_r c1) (nf_r c_x1) (fun b3 => ?_) (fun b3 => ?_)
    · have h := h.1 b3
      refine p_aload_n dX6_add_61 rfl (q := 0) rfl ?_
      refine p_iload dX6_add_62 (q := 7) rfl ?_
      refine p_iconst dX6_add_64 ?_
      refine p_isub dX6_add_65 ?_
      refine p_iload dX6_add_66 (q := 7) rfl ?_
      refine p_VV G k_RX6_38 (by decide) (hS 0 (by decide)).1 rfl (by simp only [zi_zw]; rfl) (Nat.le_of_ble_eq_true rfl) ⟨by decide, by decide⟩ ⟨by decide, by decide⟩ dX6_add_68 h (fun im3 h => ?_)
      refine p_iinc (q := 7) (lv' := [(7, .int (zi (x7 + (-1)))), (0, .ref a), (1, .int (zi x1)), (2, .int (zi x2)), (3, .int (zi x3)), (4, .int (zi x4)), (5, .int (zi x5)), (6, .int (zi x6))]) dX6_add_71 rfl (by decide) rfl ?_
      refine p_goto (tgt := 17) dX6_add_74 (by decide) ?_
      refine p_sub (lv' := [(0, .ref a), (1, .int (zi x1)), (2, .int (zi x2)), (3, .int (zi x3)), (4, .int (zi x4)), (5, .int (zi x5)), (6, .int (zi x6)), (7, .int (zi (zw (x7 + (-1)))))]) [1, 2, 3, 4, 5, 6, 7, 0] (by simp only [zi_zw, zl_zwl]; rfl) ?_
      exact h
    · have h := h.2 b3
      refine p_aload_n dX6_add_35 rfl (q := 0) rfl ?_
      refine p_getR (b := (a + 1)) G f_RX6_9 rfl (hS 0 (by decide)).1 ((hS 0 (by decide)).2.2 1 (by decide)) dX6_add_36 ?_
      refine p_iload dX6_add_39 (q := 7) rfl ?_
      refine p_iconst dX6_add_41 ?_
      refine p_isub dX6_add_42 ?_
      refine p_iald G (hS 1 (by decide)).1 (nf_w _) g2.1 (zln_lt (hS 1 (by decide)).2.1 g2.2) dX6_add_43 (fun c3 => ?_)
      refine p_iload_n dX6_add_44 rfl (q := 1) rfl ?_
      refine p_icmp_ne (tgt := 77) dX6_add_45 (by decide) (nf_r c3) (nf_r c_x1) (fun b4 => ?_) (fun b4 => ?_)
      · have h := h.1 b4
        refine p_aload_n dX6_add_77 rfl (q := 0) rfl ?_
        refine p_getR (b := (a + 1)) G f_RX6_9 rfl (hS 0 (by decide)).1 ((hS 0 (by decide)).2.2 1 (by decide)) dX6_add_78 ?_
        refine p_iload dX6_add_81 (q := 7) rfl ?_
        refine p_iload_n dX6_add_83 rfl (q := 1) rfl ?_
        have g6 := h.1
        have h := h.2
        refine p_iast G (hS 1 (by decide)).1 (nf_r c_x7) g6.1 (zln_lt (hS 1 (by decide)).2.1 g6.2) (nf_r c_x1) dX6_add_84 ?_
        refine p_gen (fun im4 e5 => ?_)
        have h := h im4 e5
        refine p_aload_n dX6_add_85 rfl (q := 0) rfl ?_
        refine p_getR (b := (a + 2)) G f_RX6_15 rfl (hS 0 (by decide)).1 ((hS 0 (by decide)).2.2 2 (by decide)) dX6_add_86 ?_
        refine p_iload dX6_add_89 (q := 7) rfl ?_
        refine p_iload_n dX6_add_91 rfl (q := 2) rfl ?_
        have g9 := h.1
        have h := h.2
        refine p_iast G (hS 2 (by decide)).1 (nf_r c_x7) g9.1 (zln_lt (hS 2 (by decide)).2.1 g9.2) (nf_r c_x2) dX6_add_92 ?_
        refine p_gen (fun im7 e8 => ?_)
        have h := h im7 e8
        refine p_aload_n dX6_add_93 rfl (q := 0) rfl ?_
        refine p_getR (b := (a + 3)) G f_RX6_18 rfl (hS 0 (by decide)).1 ((hS 0 (by decide)).2.2 3 (by decide)) dX6_add_94 ?_
        refine p_iload dX6_add_97 (q := 7) rfl ?_
        refine p_iload_n dX6_add_99 rfl (q := 3) rfl ?_
        have g12 := h.1
        have h := h.2
        refine p_iast G (hS 3 (by decide)).1 (nf_r c_x7) g12.1 (zln_lt (hS 3 (by decide)).2.1 g12.2) (nf_r c_x3) dX6_add_100 ?_
        refine p_gen (fun im10 e11 => ?_)
        have h := h im10 e11
        refine p_aload_n dX6_add_101 rfl (q := 0) rfl ?_
        refine p_getR (b := (a + 4)) G f_RX6_21 rfl (hS 0 (by decide)).1 ((hS 0 (by decide)).2.2 4 (by decide)) dX6_add_102 ?_
        refine p_iload dX6_add_105 (q := 7) rfl ?_
        refine p_iload dX6_add_107 (q := 4) rfl ?_
        have g15 := h.1
        have h := h.2
        refine p_iast G (hS 4 (by decide)).1 (nf_r c_x7) g15.1 (zln_lt (hS 4 (by decide)).2.1 g15.2) (nf_r c_x4) dX6_add_109 ?_
        refine p_gen (fun im13 e14 => ?_)
        have h := h im13 e14
        refine p_aload_n dX6_add_110 rfl (q := 0) rfl ?_
        refine p_getR (b := (a + 5)) G f_RX6_24 rfl (hS 0 (by decide)).1 ((hS 0 (by decide)).2.2 5 (by decide)) dX6_add_111 ?_
        refine p_iload dX6_add_114 (q := 7) rfl ?_
        refine p_iload dX6_add_116 (q := 5) rfl ?_
        have g18 := h.1
        have h := h.2
        refine p_iast G (hS 5 (by decide)).1 (nf_r c_x7) g18.1 (zln_lt (hS 5 (by decide)).2.1 g18.2) (nf_r c_x5) dX6_add_118 ?_
        refine p_gen (fun im16 e17 => ?_)
        have h := h im16 e17
        refine p_aload_n dX6_add_119 rfl (q := 0) rfl ?_
        refine p_getR (b := (a + 6)) G f_RX6_27 rfl (hS 0 (by decide)).1 ((hS 0 (by decide)).2.2 6 (by decide)) dX6_add_120 ?_
        refine p_iload dX6_add_123 (q := 7) rfl ?_
        refine p_iload dX6_add_125 (q := 6) rfl ?_
        have g21 := h.1
        have h := h.2
        refine p_iast G (hS 6 (by decide)).1 (nf_r c_x7) g21.1 (zln_lt (hS 6 (by decide)).2.1 g21.2) (nf_r c_x6) dX6_add_127 ?_
        refine p_gen (fun im19 e20 => ?_)
        have h := h im19 e20
        refine p_aload_n dX6_add_128 rfl (q := 0) rfl ?_
        refine p_dup dX6_add_129 rfl ?_
        refine p_getI (j := 0) G f_RX6_30 rfl (hS 0 (by decide)).1 dX6_add_130 (fun c22 => ?_)
        refine p_iconst dX6_add_133 ?_
        refine p_iadd dX6_add_134 ?_
        refine p_putI (j := 0) G f_RX6_30 rfl rfl rfl (hS 0 (by decide)).1 (nf_w _) dX6_add_135 ?_
        refine p_gen (fun im23 e24 => ?_)
        have h := h im23 e24
        exact p_retV (by decide) (by decide) rfl dX6_add_138 h
      · have h := h.2 b4
        refine p_aload_n dX6_add_48 rfl (q := 0) rfl ?_
        refine p_getR (b := (a + 2)) G f_RX6_15 rfl (hS 0 (by decide)).1 ((hS 0 (by decide)).2.2 2 (by decide)) dX6_add_49 ?_
        refine p_iload dX6_add_52 (q := 7) rfl ?_
        refine p_iconst dX6_add_54 ?_
        refine p_isub dX6_add_55 ?_
        have g5 := h.1
        have h := h.2
        refine p_iald G (hS 2 (by decide)).1 (nf_w _) g5.1 (zln_lt (hS 2 (by decide)).2.1 g5.2) dX6_add_56 (fun c4 => ?_)
        refine p_iload_n dX6_add_57 rfl (q := 2) rfl ?_
        refine p_icmp_le (tgt := 77) dX6_add_58 (by decide) (nf_r c4) (nf_r c_x2) (fun b6 => ?_) (fun b6 => ?_)
        · have h := h.1 b6
          refine p_aload_n dX6_add_77 rfl (q := 0) rfl ?_
          refine p_getR (b := (a + 1)) G f_RX6_9 rfl (hS 0 (by decide)).1 ((hS 0 (by decide)).2.2 1 (by decide)) dX6_add_78 ?_
          refine p_iload dX6_add_81 (q := 7) rfl ?_
          refine p_iload_n dX6_add_83 rfl (q := 1) rfl ?_
          have g8 := h.1
          have h := h.2
          refine p_iast G (hS 1 (by decide)).1 (nf_r c_x7) g8.1 (zln_lt (hS 1 (by decide)).2.1 g8.2) (nf_r c_x1) dX6_add_84 ?_
          refine p_gen (fun im6 e7 => ?_)
          have h := h im6 e7
          refine p_aload_n dX6_add_85 rfl (q := 0) rfl ?_
          refine p_getR (b := (a + 2)) G f_RX6_15 rfl (hS 0 (by decide)).1 ((hS 0 (by decide)).2.2 2 (by decide)) dX6_add_86 ?_
          refine p_iload dX6_add_89 (q := 7) rfl ?_
          refine p_iload_n dX6_add_91 rfl (q := 2) rfl ?_
          have g11 := h.1
          have h := h.2
          refine p_iast G (hS 2 (by decide)).1 (nf_r c_x7) g11.1 (zln_lt (hS 2 (by decide)).2.1 g11.2) (nf_r c_x2) dX6_add_92 ?_
          refine p_gen (fun im9 e10 => ?_)
          have h := h im9 e10
          refine p_aload_n dX6_add_93 rfl (q := 0) rfl ?_
          refine p_getR (b := (a + 3)) G f_RX6_18 rfl (hS 0 (by decide)).1 ((hS 0 (by decide)).2.2 3 (by decide)) dX6_add_94 ?_
          refine p_iload dX6_add_97 (q := 7) rfl ?_
          refine p_iload_n dX6_add_99 rfl (q := 3) rfl ?_
          have g14 := h.1
          have h := h.2
          refine p_iast G (hS 3 (by decide)).1 (nf_r c_x7) g14.1 (zln_lt (hS 3 (by decide)).2.1 g14.2) (nf_r c_x3) dX6_add_100 ?_
          refine p_gen (fun im12 e13 => ?_)
          have h := h im12 e13
          refine p_aload_n dX6_add_101 rfl (q := 0) rfl ?_
          refine p_getR (b := (a + 4)) G f_RX6_21 rfl (hS 0 (by decide)).1 ((hS 0 (by decide)).2.2 4 (by decide)) dX6_add_102 ?_
          refine p_iload dX6_add_105 (q := 7) rfl ?_
          refine p_iload dX6_add_107 (q := 4) rfl ?_
          have g17 := h.1
          have h := h.2
          refine p_iast G (hS 4 (by decide)).1 (nf_r c_x7) g17.1 (zln_lt (hS 4 (by decide)).2.1 g17.2) (nf_r c_x4) dX6_add_109 ?_
          refine p_gen (fun im15 e16 => ?_)
          have h := h im15 e16
          refine p_aload_n dX6_add_110 rfl (q := 0) rfl ?_
          refine p_getR (b := (a + 5)) G f_RX6_24 rfl (hS 0 (by decide)).1 ((hS 0 (by decide)).2.2 5 (by decide)) dX6_add_111 ?_
          refine p_iload dX6_add_114 (q := 7) rfl ?_
          refine p_iload dX6_add_116 (q := 5) rfl ?_
          have g20 := h.1
          have h := h.2
          refine p_iast G (hS 5 (by decide)).1 (nf_r c_x7) g20.1 (zln_lt (hS 5 (by decide)).2.1 g20.2) (nf_r c_x5) dX6_add_118 ?_
          refine p_gen (fun im18 e19 => ?_)
          have h := h im18 e19
          refine p_aload_n dX6_add_119 rfl (q := 0) rfl ?_
          refine p_getR (b := (a + 6)) G f_RX6_27 rfl (hS 0 (by decide)).1 ((hS 0 (by decide)).2.2 6 (by decide)) dX6_add_120 ?_
          refine p_iload dX6_add_123 (q := 7) rfl ?_
          refine p_iload dX6_add_125 (q := 6) rfl ?_
          have g23 := h.1
          have h := h.2
          refine p_iast G (hS 6 (by decide)).1 (nf_r c_x7) g23.1 (zln_lt (hS 6 (by decide)).2.1 g23.2) (nf_r c_x6) dX6_add_127 ?_
          refine p_gen (fun im21 e22 => ?_)
          have h := h im21 e22
          refine p_aload_n dX6_add_128 rfl (q := 0) rfl ?_
          refine p_dup dX6_add_129 rfl ?_
          refine p_getI (j := 0) G f_RX6_30 rfl (hS 0 (by decide)).1 dX6_add_130 (fun c24 => ?_)
          refine p_iconst dX6_add_133 ?_
          refine p_iadd dX6_add_134 ?_
          refine p_putI (j := 0) G f_RX6_30 rfl rfl rfl (hS 0 (by decide)).1 (nf_w _) dX6_add_135 ?_
          refine p_gen (fun im25 e26 => ?_)
          have h := h im25 e26
          exact p_retV (by decide) (by decide) rfl dX6_add_138 h
        · have h := h.2 b6
          refine p_aload_n dX6_add_61 rfl (q := 0) rfl ?_
          refine p_iload dX6_add_62 (q := 7) rfl ?_
          refine p_iconst dX6_add_64 ?_
          refine p_isub dX6_add_65 ?_
          refine p_iload dX6_add_66 (q := 7) rfl ?_
          refine p_VV G k_RX6_38 (by decide) (hS 0 (by decide)).1 rfl (by simp only [zi_zw]; rfl) (Nat.le_of_ble_eq_true rfl) ⟨by decide, by decide⟩ ⟨by decide, by decide⟩ dX6_add_68 h (fun im6 h => ?_)
          refine p_iinc (q := 7) (lv' := [(7, .int (zi (x7 + (-1)))), (0, .ref a), (1, .int (zi x1)), (2, .int (zi x2)), (3, .int (zi x3)), (4, .int (zi x4)), (5, .int (zi x5)), (6, .int (zi x6))]) dX6_add_71 rfl (by decide) rfl ?_
          refine p_goto (tgt := 17) dX6_add_74 (by decide) ?_
          refine p_sub (lv' := [(0, .ref a), (1, .int (zi x1)), (2, .int (zi x2)), (3, .int (zi x3)), (4, .int (zi x4)), (5, .int (zi x5)), (6, .int (zi x6)), (7, .int (zi (zw (x7 + (-1)))))]) [1, 2, 3, 4, 5, 6, 7, 0] (by simp only [zi_zw, zl_zwl]; rfl) ?_
          exact h
set_option maxRecDepth 20000 in
set_option maxHeartbeats 4000000 in
theorem v_X2_stockDepot {g : zG} (G : zOK g) {S : zSh} {im : zIm} {a : Nat} {p1 : Int} {Q : zIm → Prop} (hS : zS_N S a) (c_p1 : zc p1)
    (h : zCI g yX3_firstOf M_X3_firstOf [.ref (a + 30), .int (zi (-1)), .int (zi p1)] S im (fun r1 im2 => ((¬ r1 = (-1) → ((0 ≤ r1 ∧ r1 < 300) ∧ zCV g yX3_remove M_X3_remove [.ref (a + 30), .int (zi r1)] S im2 (fun im6 => ((0 ≤ (im2 (a + 31) r1) ∧ (im2 (a + 31) r1) < 8) ∧ zCV g yX6_add M_X6_add [.ref (a + 18), .int (zi (zw ((im6 a 0) + (im6 (a + 7) (im2 (a + 31) r1))))), .int (zi 2), .int (zi p1), .int (zi (im2 (a + 31) r1)), .int (zi (im2 (a + 31) r1)), .int (zi 0)] S im6 (fun im11 => Q im11))))) ∧ (r1 = (-1) → zCI g yX7_cell M_X7_cell [.int (zi 0), .int (zi p1)] S im2 (fun r4 im5 => ((0 ≤ r4 ∧ r4 < 32) ∧ ∀ im9, im9 = zst im5 (a + 2) r4 (zw ((im5 (a + 2) r4) + 1)) → Q im9)))))) :
    zCV g yX2_stockDepot M_X2_stockDepot [.ref a, .int (zi p1)] S im Q := by
  refine zC_of (by decide) rfl rfl rfl rfl (Nat.le_of_ble_eq_true rfl) ?_
  refine p_aload_n dX2_stockDepot_0 rfl (q := 0) rfl ?_
  refine p_getR (b := (a + 30)) G f_RX2_46 rfl (hS 0 (by decide)).1 ((hS 0 (by decide)).2.2 7 (by decide)) dX2_stockDepot_1 ?_
  refine p_iconst dX2_stockDepot_4 ?_
  refine p_iload_n dX2_stockDepot_5 rfl (q := 1) rfl ?_
  refine p_VI G k_RX2_177 (by decide) (hS 30 (by decide)).1 rfl rfl (Nat.le_of_ble_eq_true rfl) ⟨by decide, by decide⟩ ⟨by decide, by decide⟩ dX2_stockDepot_6 h (fun r1 im2 c3 h => ?_)
  refine p_istore_n (lv' := [(2, .int (zi r1)), (0, .ref a), (1, .int (zi p1))]) dX2_stockDepot_9 rfl (by decide) rfl ?_
  refine p_iload_n dX2_stockDepot_10 rfl (q := 0) rfl ?_
  refine p_iconst dX2_stockDepot_11 ?_
  refine p_icmp_ne (tgt := 30) dX2_stockDepot_12 (by decide) (nf_r c3) (nf_k (by decide)) (fun b4 => ?_) (fun b4 => ?_)
  · have h := h.1 b4
    refine p_aload_n dX2_stockDepot_30 rfl (q := 1) rfl ?_
    refine p_getR (b := (a + 30)) G f_RX2_46 rfl (hS 0 (by decide)).1 ((hS 0 (by decide)).2.2 7 (by decide)) dX2_stockDepot_31 ?_
    refine p_getR (b := (a + 31)) G f_RX2_180 rfl (hS 30 (by decide)).1 ((hS 30 (by decide)).2.2 1 (by decide)) dX2_stockDepot_34 ?_
    refine p_iload_n dX2_stockDepot_37 rfl (q := 0) rfl ?_
    have g5 := h.1
    have h := h.2
    refine p_iald G (hS 31 (by decide)).1 (nf_r c3) g5.1 (zln_lt (hS 31 (by decide)).2.1 g5.2) dX2_stockDepot_38 (fun c4 => ?_)
    refine p_istore_n (lv' := [(3, .int (zi (im2 (a + 31) r1))), (2, .int (zi r1)), (0, .ref a), (1, .int (zi p1))]) dX2_stockDepot_39 rfl (by decide) rfl ?_
    refine p_aload_n dX2_stockDepot_40 rfl (q := 2) rfl ?_
    refine p_getR (b := (a + 30)) G f_RX2_46 rfl (hS 0 (by decide)).1 ((hS 0 (by decide)).2.2 7 (by decide)) dX2_stockDepot_41 ?_
    refine p_iload_n dX2_stockDepot_44 rfl (q := 1) rfl ?_
    refine p_VV G k_RX2_183 (by decide) (hS 30 (by decide)).1 rfl rfl (Nat.le_of_ble_eq_true rfl) ⟨by decide, by decide⟩ ⟨by decide, by decide⟩ dX2_stockDepot_45 h (fun im6 h => ?_)
    refine p_aload_n dX2_stockDepot_48 rfl (q := 2) rfl ?_
    refine p_getR (b := (a + 18)) G f_RX2_35 rfl (hS 0 (by decide)).1 ((hS 0 (by decide)).2.2 5 (by decide)) dX2_stockDepot_49 ?_
    refine p_aload_n dX2_stockDepot_52 rfl (q := 2) rfl ?_
    refine p_getI (j := 0) G f_RX2_59 rfl (hS 0 (by decide)).1 dX2_stockDepot_53 (fun c8 => ?_)
    refine p_aload_n dX2_stockDepot_56 rfl (q := 2) rfl ?_
    refine p_getR (b := (a + 3)) G f_RX2_21 rfl (hS 0 (by decide)).1 ((hS 0 (by decide)).2.2 3 (by decide)) dX2_stockDepot_57 ?_
    refine p_getR (b := (a + 7)) G f_RX2_154 rfl (hS 3 (by decide)).1 ((hS 3 (by decide)).2.2 6 (by decide)) dX2_stockDepot_60 ?_
    refine p_iload_n dX2_stockDepot_63 rfl (q := 0) rfl ?_
    have g10 := h.1
    have h := h.2
    refine p_iald G (hS 7 (by decide)).1 (nf_r c4) g10.1 (zln_lt (hS 7 (by decide)).2.1 g10.2) dX2_stockDepot_64 (fun c9 => ?_)
    refine p_iadd dX2_stockDepot_65 ?_
    refine p_iconst dX2_stockDepot_66 ?_
    refine p_iload_n dX2_stockDepot_67 rfl (q := 3) rfl ?_
    refine p_iload_n dX2_stockDepot_68 rfl (q := 0) rfl ?_
    refine p_iload_n dX2_stockDepot_69 rfl (q := 0) rfl ?_
    refine p_iconst dX2_stockDepot_70 ?_
    refine p_VV G k_RX2_151 (by decide) (hS 18 (by decide)).1 rfl (by simp only [zi_zw]; rfl) (Nat.le_of_ble_eq_true rfl) ⟨by decide, by decide⟩ ⟨by decide, by decide⟩ dX2_stockDepot_71 h (fun im11 h => ?_)
    exact p_retV (by decide) (by decide) rfl dX2_stockDepot_74 h
  · have h := h.2 b4
    refine p_aload_n dX2_stockDepot_15 rfl (q := 1) rfl ?_
    refine p_getR (b := (a + 2)) G f_RX2_15 rfl (hS 0 (by decide)).1 ((hS 0 (by decide)).2.2 2 (by decide)) dX2_stockDepot_16 ?_
    refine p_iconst dX2_stockDepot_19 ?_
    refine p_iload_n dX2_stockDepot_20 rfl (q := 2) rfl ?_
    refine p_SNI G k_RX2_110 rfl rfl (Nat.le_of_ble_eq_true rfl) ⟨by decide, by decide⟩ ⟨by decide, by decide⟩ dX2_stockDepot_21 h (fun r4 im5 c6 h => ?_)
    refine p_dup2 dX2_stockDepot_24 rfl rfl ?_
    have g8 := h.1
    have h := h.2
    refine p_iald G (hS 2 (by decide)).1 (nf_r c6) g8.1 (zln_lt (hS 2 (by decide)).2.1 g8.2) dX2_stockDepot_25 (fun c7 => ?_)
    refine p_iconst dX2_stockDepot_26 ?_
    refine p_iadd dX2_stockDepot_27 ?_
    refine p_iast G (hS 2 (by decide)).1 (nf_r c6) g8.1 (zln_lt (hS 2 (by decide)).2.1 g8.2) (nf_w _) dX2_stockDepot_28 ?_
    refine p_gen (fun im9 e10 => ?_)
    have h := h im9 e10
    exact p_retV (by decide) (by decide) rfl dX2_stockDepot_29 h
set_option maxRecDepth 20000 in
set_option maxHeartbeats 4000000 in
theorem v_X2_stockBase {g : zG} (G : zOK g) {S : zSh} {im : zIm} {a : Nat} {p1 : Int} {p2 : Int} {Q : zIm → Prop} (hS : zS_N S a) (c_p1 : zc p1) (c_p2 : zc p2)
    (h : zCI g yX7_cell M_X7_cell [.int (zi p1), .int (zi p2)] S im (fun r1 im2 => zCI g yX3_firstOf M_X3_firstOf [.ref (a + 35), .int (zi p1), .int (zi p2)] S im2 (fun r4 im5 => ((¬ r4 = (-1) → ((0 ≤ r1 ∧ r1 < 32) ∧ ((0 ≤ r4 ∧ r4 < 300) ∧ ∀ im12, im12 = zst im5 (a + 15) r1 (zw ((im5 (a + 15) r1) + ((im5 a 0) - (im5 (a + 39) r4)))) → zCV g yX3_remove M_X3_remove [.ref (a + 35), .int (zi r4)] S im12 (fun im14 => Q im14)))) ∧ (r4 = (-1) → ((0 ≤ r1 ∧ r1 < 32) ∧ ∀ im9, im9 = zst im5 (a + 2) r1 (zw ((im5 (a + 2) r1) + 1)) → Q im9)))))) :
    zCV g yX2_stockBase M_X2_stockBase [.ref a, .int (zi p1), .int (zi p2)] S im Q := by
  refine zC_of (by decide) rfl rfl rfl rfl (Nat.le_of_ble_eq_true rfl) ?_
  refine p_iload_n dX2_stockBase_0 rfl (q := 1) rfl ?_
  refine p_iload_n dX2_stockBase_1 rfl (q := 2) rfl ?_
  refine p_SNI G k_RX2_110 rfl rfl (Nat.le_of_ble_eq_true rfl) ⟨by decide, by decide⟩ ⟨by decide, by decide⟩ dX2_stockBase_2 h (fun r1 im2 c3 h => ?_)
  refine p_istore_n (lv' := [(3, .int (zi r1)), (0, .ref a), (1, .int (zi p1)), (2, .int (zi p2))]) dX2_stockBase_5 rfl (by decide) rfl ?_
  refine p_aload_n dX2_stockBase_6 rfl (q := 1) rfl ?_
  refine p_getR (b := (a + 35)) G f_RX2_49 rfl (hS 0 (by decide)).1 ((hS 0 (by decide)).2.2 8 (by decide)) dX2_stockBase_7 ?_
  refine p_iload_n dX2_stockBase_10 rfl (q := 2) rfl ?_
  refine p_iload_n dX2_stockBase_11 rfl (q := 3) rfl ?_
  refine p_VI G k_RX2_177 (by decide) (hS 35 (by decide)).1 rfl rfl (Nat.le_of_ble_eq_true rfl) ⟨by decide, by decide⟩ ⟨by decide, by decide⟩ dX2_stockBase_12 h (fun r4 im5 c6 h => ?_)
  refine p_istore (lv' := [(4, .int (zi r4)), (3, .int (zi r1)), (0, .ref a), (1, .int (zi p1)), (2, .int (zi p2))]) dX2_stockBase_15 (by decide) rfl ?_
  refine p_iload dX2_stockBase_17 (q := 0) rfl ?_
  refine p_iconst dX2_stockBase_19 ?_
  refine p_icmp_ne (tgt := 34) dX2_stockBase_20 (by decide) (nf_r c6) (nf_k (by decide)) (fun b7 => ?_) (fun b7 => ?_)
  · have h := h.1 b7
    refine p_aload_n dX2_stockBase_34 rfl (q := 2) rfl ?_
    refine p_getR (b := (a + 12)) G f_RX2_28 rfl (hS 0 (by decide)).1 ((hS 0 (by decide)).2.2 4 (by decide)) dX2_stockBase_35 ?_
    refine p_getR (b := (a + 15)) G f_RX2_186 rfl (hS 12 (by decide)).1 ((hS 12 (by decide)).2.2 3 (by decide)) dX2_stockBase_38 ?_
    refine p_iload_n dX2_stockBase_41 rfl (q := 1) rfl ?_
    refine p_dup2 dX2_stockBase_42 rfl rfl ?_
    have g8 := h.1
    have h := h.2
    refine p_iald G (hS 15 (by decide)).1 (nf_r c3) g8.1 (zln_lt (hS 15 (by decide)).2.1 g8.2) dX2_stockBase_43 (fun c7 => ?_)
    refine p_aload_n dX2_stockBase_44 rfl (q := 2) rfl ?_
    refine p_getI (j := 0) G f_RX2_59 rfl (hS 0 (by decide)).1 dX2_stockBase_45 (fun c9 => ?_)
    refine p_aload_n dX2_stockBase_48 rfl (q := 2) rfl ?_
    refine p_getR (b := (a + 35)) G f_RX2_49 rfl (hS 0 (by decide)).1 ((hS 0 (by decide)).2.2 8 (by decide)) dX2_stockBase_49 ?_
    refine p_getR (b := (a + 39)) G f_RX2_189 rfl (hS 35 (by decide)).1 ((hS 35 (by decide)).2.2 4 (by decide)) dX2_stockBase_52 ?_
    refine p_iload dX2_stockBase_55 (q := 0) rfl ?_
    have g11 := h.1
    have h := h.2
    refine p_iald G (hS 39 (by decide)).1 (nf_r c6) g11.1 (zln_lt (hS 39 (by decide)).2.1 g11.2) dX2_stockBase_57 (fun c10 => ?_)
    refine p_isub dX2_stockBase_58 ?_
    refine p_iadd dX2_stockBase_59 ?_
    refine p_iast G (hS 15 (by decide)).1 (nf_r c3) g8.1 (zln_lt (hS 15 (by decide)).2.1 g8.2) (nf_w _) dX2_stockBase_60 ?_
    refine p_gen (fun im12 e13 => ?_)
    have h := h im12 e13
    refine p_aload_n dX2_stockBase_61 rfl (q := 2) rfl ?_
    refine p_getR (b := (a + 35)) G f_RX2_49 rfl (hS 0 (by decide)).1 ((hS 0 (by decide)).2.2 8 (by decide)) dX2_stockBase_62 ?_
    refine p_iload dX2_stockBase_65 (q := 0) rfl ?_
    refine p_VV G k_RX2_183 (by decide) (hS 35 (by decide)).1 rfl rfl (Nat.le_of_ble_eq_true rfl) ⟨by decide, by decide⟩ ⟨by decide, by decide⟩ dX2_stockBase_67 h (fun im14 h => ?_)
    exact p_retV (by decide) (by decide) rfl dX2_stockBase_70 h
  · have h := h.2 b7
    refine p_aload_n dX2_stockBase_23 rfl (q := 2) rfl ?_
    refine p_getR (b := (a + 2)) G f_RX2_15 rfl (hS 0 (by decide)).1 ((hS 0 (by decide)).2.2 2 (by decide)) dX2_stockBase_24 ?_
    refine p_iload_n dX2_stockBase_27 rfl (q := 1) rfl ?_
    refine p_dup2 dX2_stockBase_28 rfl rfl ?_
    have g8 := h.1
    have h := h.2
    refine p_iald G (hS 2 (by decide)).1 (nf_r c3) g8.1 (zln_lt (hS 2 (by decide)).2.1 g8.2) dX2_stockBase_29 (fun c7 => ?_)
    refine p_iconst dX2_stockBase_30 ?_
    refine p_iadd dX2_stockBase_31 ?_
    refine p_iast G (hS 2 (by decide)).1 (nf_r c3) g8.1 (zln_lt (hS 2 (by decide)).2.1 g8.2) (nf_w _) dX2_stockBase_32 ?_
    refine p_gen (fun im9 e10 => ?_)
    have h := h im9 e10
    exact p_retV (by decide) (by decide) rfl dX2_stockBase_33 h
set_option maxRecDepth 20000 in
set_option maxHeartbeats 4000000 in
theorem v_X2_changeLevel {g : zG} (G : zOK g) {S : zSh} {im : zIm} {a : Nat} {p1 : Int} {p2 : Int} {p3 : Int} {Q : zIm → Prop} (hS : zS_N S a) (c_p1 : zc p1) (c_p2 : zc p2) (c_p3 : zc p3)
    (h : zCI g yX7_cell M_X7_cell [.int (zi p1), .int (zi p2)] S im (fun r1 im2 => ((0 ≤ r1 ∧ r1 < 32) ∧ ∀ im6, im6 = zst im2 (a + 1) r1 p3 → ((0 ≤ (zw (p3 - (im2 (a + 1) r1))) → zPV g M_X2_changeLevel 46 [(0, .ref a), (1, .int (zi p1)), (2, .int (zi p2)), (5, .int (zi (zw (p3 - (im2 (a + 1) r1))))), (6, .int (zi 0))] S im6 Q) ∧ ((zw (p3 - (im2 (a + 1) r1))) < 0 → ((0 ≤ r1 ∧ r1 < 32) ∧ ∀ im10, im10 = zst im6 (a + 2) r1 (zw ((im6 (a + 2) r1) + (p3 - (im2 (a + 1) r1)))) → zPV g M_X2_changeLevel 46 [(0, .ref a), (1, .int (zi p1)), (2, .int (zi p2)), (5, .int (zi (zw (p3 - (im2 (a + 1) r1))))), (6, .int (zi 0))] S im10 Q)))))) :
    zCV g yX2_changeLevel M_X2_changeLevel [.ref a, .int (zi p1), .int (zi p2), .int (zi p3)] S im Q := by
  refine zC_of (by decide) rfl rfl rfl rfl (Nat.le_of_ble_eq_true rfl) ?_
  refine p_iload_n dX2_changeLevel_0 rfl (q := 1) rfl ?_
  refine p_iload_n dX2_changeLevel_1 rfl (q := 2) rfl ?_
  refine p_SNI G k_RX2_110 rfl rfl (Nat.le_of_ble_eq_true rfl) ⟨by decide, by decide⟩ ⟨by decide, by decide⟩ dX2_changeLevel_2 h (fun r1 im2 c3 h => ?_)
  refine p_istore (lv' := [(4, .int (zi r1)), (0, .ref a), (1, .int (zi p1)), (2, .int (zi p2)), (3, .int (zi p3))]) dX2_changeLevel_5 (by decide) rfl ?_
  refine p_iload_n dX2_changeLevel_7 rfl (q := 4) rfl ?_
  refine p_aload_n dX2_changeLevel_8 rfl (q := 1) rfl ?_
  refine p_getR (b := (a + 1)) G f_RX2_9 rfl (hS 0 (by decide)).1 ((hS 0 (by decide)).2.2 1 (by decide)) dX2_changeLevel_9 ?_
  refine p_iload dX2_changeLevel_12 (q := 0) rfl ?_
  have g5 := h.1
  have h := h.2
  refine p_iald G (hS 1 (by decide)).1 (nf_r c3) g5.1 (zln_lt (hS 1 (by decide)).2.1 g5.2) dX2_changeLevel_14 (fun c4 => ?_)
  refine p_isub dX2_changeLevel_15 ?_
  refine p_istore (lv' := [(5, .int (zi (p3 - (im2 (a + 1) r1)))), (4, .int (zi r1)), (0, .ref a), (1, .int (zi p1)), (2, .int (zi p2)), (3, .int (zi p3))]) dX2_changeLevel_16 (by decide) rfl ?_
  refine p_aload_n dX2_changeLevel_18 rfl (q := 2) rfl ?_
  refine p_getR (b := (a + 1)) G f_RX2_9 rfl (hS 0 (by decide)).1 ((hS 0 (by decide)).2.2 1 (by decide)) dX2_changeLevel_19 ?_
  refine p_iload dX2_changeLevel_22 (q := 1) rfl ?_
  refine p_iload_n dX2_changeLevel_24 rfl (q := 5) rfl ?_
  refine p_iast G (hS 1 (by decide)).1 (nf_r c3) g5.1 (zln_lt (hS 1 (by decide)).2.1 g5.2) (nf_r c_p3) dX2_changeLevel_25 ?_
  refine p_gen (fun im6 e7 => ?_)
  have h := h im6 e7
  refine p_iload dX2_changeLevel_26 (q := 0) rfl ?_
  refine p_if_ge (tgt := 43) dX2_changeLevel_28 (by decide) (nf_w _) (fun b8 => ?_) (fun b8 => ?_)
  · have h := h.1 b8
    refine p_iconst dX2_changeLevel_43 ?_
    refine p_istore (lv' := [(6, .int (zi 0)), (5, .int (zi (p3 - (im2 (a + 1) r1)))), (4, .int (zi r1)), (0, .ref a), (1, .int (zi p1)), (2, .int (zi p2)), (3, .int (zi p3))]) dX2_changeLevel_44 (by decide) rfl ?_
    refine p_sub (lv' := [(0, .ref a), (1, .int (zi p1)), (2, .int (zi p2)), (5, .int (zi (zw (p3 - (im2 (a + 1) r1))))), (6, .int (zi 0))]) [3, 4, 5, 1, 0] (by simp only [zi_zw, zl_zwl]; rfl) ?_
    exact h
  · have h := h.2 b8
    refine p_aload_n dX2_changeLevel_31 rfl (q := 2) rfl ?_
    refine p_getR (b := (a + 2)) G f_RX2_15 rfl (hS 0 (by decide)).1 ((hS 0 (by decide)).2.2 2 (by decide)) dX2_changeLevel_32 ?_
    refine p_iload dX2_changeLevel_35 (q := 1) rfl ?_
    refine p_dup2 dX2_changeLevel_37 rfl rfl ?_
    have g9 := h.1
    have h := h.2
    refine p_iald G (hS 2 (by decide)).1 (nf_r c3) g9.1 (zln_lt (hS 2 (by decide)).2.1 g9.2) dX2_changeLevel_38 (fun c8 => ?_)
    refine p_iload dX2_changeLevel_39 (q := 0) rfl ?_
    refine p_iadd dX2_changeLevel_41 ?_
    refine p_iast G (hS 2 (by decide)).1 (nf_r c3) g9.1 (zln_lt (hS 2 (by decide)).2.1 g9.2) (nf_w _) dX2_changeLevel_42 ?_
    refine p_gen (fun im10 e11 => ?_)
    have h := h im10 e11
    refine p_iconst dX2_changeLevel_43 ?_
    refine p_istore (lv' := [(6, .int (zi 0)), (5, .int (zi (p3 - (im2 (a + 1) r1)))), (4, .int (zi r1)), (0, .ref a), (1, .int (zi p1)), (2, .int (zi p2)), (3, .int (zi p3))]) dX2_changeLevel_44 (by decide) rfl ?_
    refine p_sub (lv' := [(0, .ref a), (1, .int (zi p1)), (2, .int (zi p2)), (5, .int (zi (zw (p3 - (im2 (a + 1) r1))))), (6, .int (zi 0))]) [3, 4, 5, 1, 0] (by simp only [zi_zw, zl_zwl]; rfl) ?_
    exact h
set_option maxRecDepth 20000 in
set_option maxHeartbeats 4000000 in
theorem v_X2_changeLevel_46 {g : zG} (G : zOK g) {S : zSh} {im : zIm} {a : Nat} {x1 : Int} {x2 : Int} {x5 : Int} {x6 : Int} {Q : zIm → Prop} (hS : zS_N S a) (c_x1 : zc x1) (c_x2 : zc x2) (c_x5 : zc x5) (c_x6 : zc x6)
    (h : ((x5 ≤ x6 → Q im) ∧ (x6 < x5 → ((¬ x1 = 0 → zCV g yX2_stockBase M_X2_stockBase [.ref a, .int (zi x1), .int (zi x2)] S im (fun im1 => zPV g M_X2_changeLevel 46 [(0, .ref a), (1, .int (zi x1)), (2, .int (zi x2)), (5, .int (zi x5)), (6, .int (zi (zw (x6 + 1))))] S im1 Q)) ∧ (x1 = 0 → zCV g yX2_stockDepot M_X2_stockDepot [.ref a, .int (zi x2)] S im (fun im1 => zPV g M_X2_changeLevel 46 [(0, .ref a), (1, .int (zi x1)), (2, .int (zi x2)), (5, .int (zi x5)), (6, .int (zi (zw (x6 + 1))))] S im1 Q)))))) :
    zPV g M_X2_changeLevel 46 [(0, .ref a), (1, .int (zi x1)), (2, .int (zi x2)), (5, .int (zi x5)), (6, .int (zi x6))] S im Q := by
  refine p_iload dX2_changeLevel_46 (q := 4) rfl ?_
  refine p_iload dX2_changeLevel_48 (q := 3) rfl ?_
  refine p_icmp_ge (tgt := 77) dX2_changeLevel_50 (by decide) (nf_r c_x6) (nf_r c_x5) (fun b1 => ?_) (fun b1 => ?_)
  · have h := h.1 b1
    exact p_retV (by decide) (by decide) rfl dX2_changeLevel_77 h
  · have h := h.2 b1
    refine p_iload_n dX2_changeLevel_53 rfl (q := 1) rfl ?_
    refine p_if_ne (tgt := 65) dX2_changeLevel_54 (by decide) (nf_r c_x1) (fun b1 => ?_) (fun b1 => ?_)
    · have h := h.1 b1
      refine p_aload_n dX2_changeLevel_65 rfl (q := 0) rfl ?_
      refine p_iload_n dX2_changeLevel_66 rfl (q := 1) rfl ?_
      refine p_iload_n dX2_changeLevel_67 rfl (q := 2) rfl ?_
      refine p_VV G k_RX2_117 (by decide) (hS 0 (by decide)).1 rfl rfl (Nat.le_of_ble_eq_true rfl) ⟨by decide, by decide⟩ ⟨by decide, by decide⟩ dX2_changeLevel_68 h (fun im1 h => ?_)
      refine p_iinc (q := 4) (lv' := [(6, .int (zi (x6 + 1))), (0, .ref a), (1, .int (zi x1)), (2, .int (zi x2)), (5, .int (zi x5))]) dX2_changeLevel_71 rfl (by decide) rfl ?_
      refine p_goto (tgt := 46) dX2_changeLevel_74 (by decide) ?_
      refine p_sub (lv' := [(0, .ref a), (1, .int (zi x1)), (2, .int (zi x2)), (5, .int (zi x5)), (6, .int (zi (zw (x6 + 1))))]) [1, 2, 3, 4, 0] (by simp only [zi_zw, zl_zwl]; rfl) ?_
      exact h
    · have h := h.2 b1
      refine p_aload_n dX2_changeLevel_57 rfl (q := 0) rfl ?_
      refine p_iload_n dX2_changeLevel_58 rfl (q := 2) rfl ?_
      refine p_VV G k_RX2_113 (by decide) (hS 0 (by decide)).1 rfl rfl (Nat.le_of_ble_eq_true rfl) ⟨by decide, by decide⟩ ⟨by decide, by decide⟩ dX2_changeLevel_59 h (fun im1 h => ?_)
      refine p_goto (tgt := 71) dX2_changeLevel_62 (by decide) ?_
      refine p_iinc (q := 4) (lv' := [(6, .int (zi (x6 + 1))), (0, .ref a), (1, .int (zi x1)), (2, .int (zi x2)), (5, .int (zi x5))]) dX2_changeLevel_71 rfl (by decide) rfl ?_
      refine p_goto (tgt := 46) dX2_changeLevel_74 (by decide) ?_
      refine p_sub (lv' := [(0, .ref a), (1, .int (zi x1)), (2, .int (zi x2)), (5, .int (zi x5)), (6, .int (zi (zw (x6 + 1))))]) [1, 2, 3, 4, 0] (by simp only [zi_zw, zl_zwl]; rfl) ?_
      exact h
set_option maxRecDepth 20000 in
set_option maxHeartbeats 4000000 in
theorem v_X4_join {g : zG} (G : zOK g) {S : zSh} {im : zIm} {a : Nat} {p1 : Int} {p2 : Int} {p3 : Int} {Q : zIm → Prop} (hS : zS_S S a) (c_p1 : zc p1) (c_p2 : zc p2) (c_p3 : zc p3)
    (h : ((0 ≤ (zw ((p1 * 8) + p2)) ∧ (zw ((p1 * 8) + p2)) < 64) ∧ ∀ im1, im1 = zst im (a + 5) (zw ((p1 * 8) + p2)) p3 → ((0 ≤ (zw ((p2 * 8) + p1)) ∧ (zw ((p2 * 8) + p1)) < 64) ∧ ∀ im4, im4 = zst im1 (a + 5) (zw ((p2 * 8) + p1)) p3 → Q im4))) :
    zCV g yX4_join M_X4_join [.ref a, .int (zi p1), .int (zi p2), .int (zi p3)] S im Q := by
  refine zC_of (by decide) rfl rfl rfl rfl (Nat.le_of_ble_eq_true rfl) ?_
  refine p_aload_n dX4_join_0 rfl (q := 0) rfl ?_
  refine p_getR (b := (a + 5)) G f_RX4_28 rfl (hS 0 (by decide)).1 ((hS 0 (by decide)).2.2 7 (by decide)) dX4_join_1 ?_
  refine p_iload_n dX4_join_4 rfl (q := 1) rfl ?_
  refine p_bipush dX4_join_5 (by decide) ?_
  refine p_imul dX4_join_7 ?_
  refine p_iload_n dX4_join_8 rfl (q := 2) rfl ?_
  refine p_iadd dX4_join_9 ?_
  refine p_iload_n dX4_join_10 rfl (q := 3) rfl ?_
  have g3 := h.1
  have h := h.2
  refine p_iast G (hS 5 (by decide)).1 (nf_w _) g3.1 (zln_lt (hS 5 (by decide)).2.1 g3.2) (nf_r c_p3) dX4_join_11 ?_
  refine p_gen (fun im1 e2 => ?_)
  have h := h im1 e2
  refine p_aload_n dX4_join_12 rfl (q := 0) rfl ?_
  refine p_getR (b := (a + 5)) G f_RX4_28 rfl (hS 0 (by decide)).1 ((hS 0 (by decide)).2.2 7 (by decide)) dX4_join_13 ?_
  refine p_iload_n dX4_join_16 rfl (q := 2) rfl ?_
  refine p_bipush dX4_join_17 (by decide) ?_
  refine p_imul dX4_join_19 ?_
  refine p_iload_n dX4_join_20 rfl (q := 1) rfl ?_
  refine p_iadd dX4_join_21 ?_
  refine p_iload_n dX4_join_22 rfl (q := 3) rfl ?_
  have g6 := h.1
  have h := h.2
  refine p_iast G (hS 5 (by decide)).1 (nf_w _) g6.1 (zln_lt (hS 5 (by decide)).2.1 g6.2) (nf_r c_p3) dX4_join_23 ?_
  refine p_gen (fun im4 e5 => ?_)
  have h := h im4 e5
  exact p_retV (by decide) (by decide) rfl dX4_join_24 h
set_option maxRecDepth 20000 in
set_option maxHeartbeats 4000000 in
theorem v_X4_linkTime {g : zG} (G : zOK g) {S : zSh} {im : zIm} {a : Nat} {p1 : Int} {p2 : Int} {Q : Int → zIm → Prop} (hS : zS_S S a) (c_p1 : zc p1) (c_p2 : zc p2)
    (h : ((0 ≤ (zw ((p1 * 8) + p2)) ∧ (zw ((p1 * 8) + p2)) < 64) ∧ Q (im (a + 5) (zw ((p1 * 8) + p2))) im)) :
    zCI g yX4_linkTime M_X4_linkTime [.ref a, .int (zi p1), .int (zi p2)] S im Q := by
  refine zC_of (by decide) rfl rfl rfl rfl (Nat.le_of_ble_eq_true rfl) ?_
  refine p_aload_n dX4_linkTime_0 rfl (q := 0) rfl ?_
  refine p_getR (b := (a + 5)) G f_RX4_28 rfl (hS 0 (by decide)).1 ((hS 0 (by decide)).2.2 7 (by decide)) dX4_linkTime_1 ?_
  refine p_iload_n dX4_linkTime_4 rfl (q := 1) rfl ?_
  refine p_bipush dX4_linkTime_5 (by decide) ?_
  refine p_imul dX4_linkTime_7 ?_
  refine p_iload_n dX4_linkTime_8 rfl (q := 2) rfl ?_
  refine p_iadd dX4_linkTime_9 ?_
  have g2 := h.1
  have h := h.2
  refine p_iald G (hS 5 (by decide)).1 (nf_w _) g2.1 (zln_lt (hS 5 (by decide)).2.1 g2.2) dX4_linkTime_10 (fun c1 => ?_)
  exact p_iretI (by decide) (by decide) rfl (nf_r c1) dX4_linkTime_11 h
set_option maxRecDepth 20000 in
set_option maxHeartbeats 4000000 in
theorem v_X7_exchange {g : zG} (G : zOK g) {S : zSh} {im : zIm} {p1 : Nat} {p2 : Int} {p3 : Int} {Q : Int → zIm → Prop} (hk_p1 : zkd S p1 = 9) (c_p2 : zc p2) (c_p3 : zc p3)
    (h : ((0 ≤ p2 ∧ p2 < (zln S p1 : Int)) ∧ ∀ im3, im3 = zst im p1 p2 p3 → Q (im p1 p2) im3)) :
    zCI g yX7_exchange M_X7_exchange [.ref p1, .int (zi p2), .int (zi p3)] S im Q := by
  refine zC_of (by decide) rfl rfl rfl rfl (Nat.le_of_ble_eq_true rfl) ?_
  refine p_aload_n dX7_exchange_0 rfl (q := 0) rfl ?_
  refine p_iload_n dX7_exchange_1 rfl (q := 1) rfl ?_
  have g2 := h.1
  have h := h.2
  refine p_iald G hk_p1 (nf_r c_p2) g2.1 g2.2 dX7_exchange_2 (fun c1 => ?_)
  refine p_istore_n (lv' := [(3, .int (zi (im p1 p2))), (0, .ref p1), (1, .int (zi p2)), (2, .int (zi p3))]) dX7_exchange_3 rfl (by decide) rfl ?_
  refine p_aload_n dX7_exchange_4 rfl (q := 1) rfl ?_
  refine p_iload_n dX7_exchange_5 rfl (q := 2) rfl ?_
  refine p_iload_n dX7_exchange_6 rfl (q := 3) rfl ?_
  refine p_iast G hk_p1 (nf_r c_p2) g2.1 g2.2 (nf_r c_p3) dX7_exchange_7 ?_
  refine p_gen (fun im3 e4 => ?_)
  have h := h im3 e4
  refine p_iload_n dX7_exchange_8 rfl (q := 0) rfl ?_
  exact p_iretI (by decide) (by decide) rfl (nf_r c1) dX7_exchange_9 h
set_option maxRecDepth 20000 in
set_option maxHeartbeats 4000000 in
theorem v_X2_refuses {g : zG} (G : zOK g) {S : zSh} {im : zIm} {a : Nat} {Q : Int → zIm → Prop} (hS : zS_N S a)
    (h : ((200 ≤ (zw ((im (a + 18) 0) + (im (a + 25) 0))) → Q 1 im) ∧ ((zw ((im (a + 18) 0) + (im (a + 25) 0))) < 200 → (((im (a + 35) 0) < 100 → Q 0 im) ∧ (100 ≤ (im (a + 35) 0) → Q 1 im))))) :
    zCI g yX2_refuses M_X2_refuses [.ref a] S im Q := by
  refine zC_of (by decide) rfl rfl rfl rfl (Nat.le_of_ble_eq_true rfl) ?_
  refine p_aload_n dX2_refuses_0 rfl (q := 0) rfl ?_
  refine p_getR (b := (a + 18)) G f_RX2_35 rfl (hS 0 (by decide)).1 ((hS 0 (by decide)).2.2 5 (by decide)) dX2_refuses_1 ?_
  refine p_getI (j := 0) G f_RX2_73 rfl (hS 18 (by decide)).1 dX2_refuses_4 (fun c1 => ?_)
  refine p_aload_n dX2_refuses_7 rfl (q := 0) rfl ?_
  refine p_getR (b := (a + 25)) G f_RX2_42 rfl (hS 0 (by decide)).1 ((hS 0 (by decide)).2.2 6 (by decide)) dX2_refuses_8 ?_
  refine p_getI (j := 0) G f_RX2_76 rfl (hS 25 (by decide)).1 dX2_refuses_11 (fun c2 => ?_)
  refine p_iadd dX2_refuses_14 ?_
  refine p_sipush dX2_refuses_15 (by decide) ?_
  refine p_icmp_ge (tgt := 33) dX2_refuses_18 (by decide) (nf_w _) (nf_k (by decide)) (fun b3 => ?_) (fun b3 => ?_)
  · have h := h.1 b3
    refine p_iconst dX2_refuses_33 ?_
    refine p_goto (tgt := 38) dX2_refuses_34 (by decide) ?_
    exact p_zretI (by decide) (by decide) rfl (nf_k (by decide)) (by decide) dX2_refuses_38 h
  · have h := h.2 b3
    refine p_aload_n dX2_refuses_21 rfl (q := 0) rfl ?_
    refine p_getR (b := (a + 35)) G f_RX2_49 rfl (hS 0 (by decide)).1 ((hS 0 (by decide)).2.2 8 (by decide)) dX2_refuses_22 ?_
    refine p_getI (j := 0) G f_RX2_76 rfl (hS 35 (by decide)).1 dX2_refuses_25 (fun c3 => ?_)
    refine p_bipush dX2_refuses_28 (by decide) ?_
    refine p_icmp_lt (tgt := 37) dX2_refuses_30 (by decide) (nf_r c3) (nf_k (by decide)) (fun b4 => ?_) (fun b4 => ?_)
    · have h := h.1 b4
      refine p_iconst dX2_refuses_37 ?_
      exact p_zretI (by decide) (by decide) rfl (nf_k (by decide)) (by decide) dX2_refuses_38 h
    · have h := h.2 b4
      refine p_iconst dX2_refuses_33 ?_
      refine p_goto (tgt := 38) dX2_refuses_34 (by decide) ?_
      exact p_zretI (by decide) (by decide) rfl (nf_k (by decide)) (by decide) dX2_refuses_38 h
set_option maxRecDepth 20000 in
set_option maxHeartbeats 4000000 in
theorem v_X2_isRepairedLocally {g : zG} (G : zOK g) {S : zSh} {im : zIm} {p1 : Int} {p2 : Int} {Q : Int → zIm → Prop} (c_p1 : zc p1) (c_p2 : zc p2)
    (h : (((zw (Int.tdiv (zw (p1 * p2)) 10)) ≤ (zw (Int.tdiv (zw ((p1 - 1) * p2)) 10)) → Q 0 im) ∧ ((zw (Int.tdiv (zw ((p1 - 1) * p2)) 10)) < (zw (Int.tdiv (zw (p1 * p2)) 10)) → Q 1 im))) :
    zCI g yX2_isRepairedLocally M_X2_isRepairedLocally [.int (zi p1), .int (zi p2)] S im Q := by
  refine zC_of (by decide) rfl rfl rfl rfl (Nat.le_of_ble_eq_true rfl) ?_
  refine p_iload_n dX2_isRepairedLocally_0 rfl (q := 0) rfl ?_
  refine p_iload_n dX2_isRepairedLocally_1 rfl (q := 1) rfl ?_
  refine p_imul dX2_isRepairedLocally_2 ?_
  refine p_bipush dX2_isRepairedLocally_3 (by decide) ?_
  refine p_idiv dX2_isRepairedLocally_5 (nf_w _) (nf_k (by decide)) (by decide) ?_
  refine p_iload_n dX2_isRepairedLocally_6 rfl (q := 0) rfl ?_
  refine p_iconst dX2_isRepairedLocally_7 ?_
  refine p_isub dX2_isRepairedLocally_8 ?_
  refine p_iload_n dX2_isRepairedLocally_9 rfl (q := 1) rfl ?_
  refine p_imul dX2_isRepairedLocally_10 ?_
  refine p_bipush dX2_isRepairedLocally_11 (by decide) ?_
  refine p_idiv dX2_isRepairedLocally_13 (nf_w _) (nf_k (by decide)) (by decide) ?_
  refine p_icmp_le (tgt := 21) dX2_isRepairedLocally_14 (by decide) (nf_w _) (nf_w _) (fun b1 => ?_) (fun b1 => ?_)
  · have h := h.1 b1
    refine p_iconst dX2_isRepairedLocally_21 ?_
    exact p_zretI (by decide) (by decide) rfl (nf_k (by decide)) (by decide) dX2_isRepairedLocally_22 h
  · have h := h.2 b1
    refine p_iconst dX2_isRepairedLocally_17 ?_
    refine p_goto (tgt := 22) dX2_isRepairedLocally_18 (by decide) ?_
    exact p_zretI (by decide) (by decide) rfl (nf_k (by decide)) (by decide) dX2_isRepairedLocally_22 h
set_option maxRecDepth 20000 in
set_option maxHeartbeats 4000000 in
theorem v_X3_add {g : zG} (G : zOK g) {S : zSh} {im : zIm} {a : Nat} {p1 : Int} {p2 : Int} {p3 : Int} {p4 : Int} {Q : zIm → Prop} (hS : zS_Q S a) (c_p1 : zc p1) (c_p2 : zc p2) (c_p3 : zc p3) (c_p4 : zc p4)
    (h : (((im a 0) < 300 → ((0 ≤ (im a 0) ∧ (im a 0) < 300) ∧ ∀ im3, im3 = zst im (a + 1) (im a 0) p1 → ((0 ≤ (im3 a 0) ∧ (im3 a 0) < 300) ∧ ∀ im7, im7 = zst im3 (a + 2) (im3 a 0) p2 → ((0 ≤ (im7 a 0) ∧ (im7 a 0) < 300) ∧ ∀ im11, im11 = zst im7 (a + 3) (im7 a 0) p3 → ((0 ≤ (im11 a 0) ∧ (im11 a 0) < 300) ∧ ∀ im15, im15 = zst im11 (a + 4) (im11 a 0) p4 → ∀ im19, im19 = zst im15 a 0 (zw ((im15 a 0) + 1)) → Q im19))))) ∧ (300 ≤ (im a 0) → Q im))) :
    zCV g yX3_add M_X3_add [.ref a, .int (zi p1), .int (zi p2), .int (zi p3), .int (zi p4)] S im Q := by
  refine zC_of (by decide) rfl rfl rfl rfl (Nat.le_of_ble_eq_true rfl) ?_
  refine p_aload_n dX3_add_0 rfl (q := 0) rfl ?_
  refine p_getI (j := 0) G f_RX3_24 rfl (hS 0 (by decide)).1 dX3_add_1 (fun c1 => ?_)
  refine p_sipush dX3_add_4 (by decide) ?_
  refine p_icmp_lt (tgt := 11) dX3_add_7 (by decide) (nf_r c1) (nf_k (by decide)) (fun b2 => ?_) (fun b2 => ?_)
  · have h := h.1 b2
    refine p_aload_n dX3_add_11 rfl (q := 0) rfl ?_
    refine p_getR (b := (a + 1)) G f_RX3_9 rfl (hS 0 (by decide)).1 ((hS 0 (by decide)).2.2 1 (by decide)) dX3_add_12 ?_
    refine p_aload_n dX3_add_15 rfl (q := 0) rfl ?_
    refine p_getI (j := 0) G f_RX3_24 rfl (hS 0 (by decide)).1 dX3_add_16 (fun c2 => ?_)
    refine p_iload_n dX3_add_19 rfl (q := 1) rfl ?_
    have g5 := h.1
    have h := h.2
    refine p_iast G (hS 1 (by decide)).1 (nf_r c2) g5.1 (zln_lt (hS 1 (by decide)).2.1 g5.2) (nf_r c_p1) dX3_add_20 ?_
    refine p_gen (fun im3 e4 => ?_)
    have h := h im3 e4
    refine p_aload_n dX3_add_21 rfl (q := 0) rfl ?_
    refine p_getR (b := (a + 2)) G f_RX3_15 rfl (hS 0 (by decide)).1 ((hS 0 (by decide)).2.2 2 (by decide)) dX3_add_22 ?_
    refine p_aload_n dX3_add_25 rfl (q := 0) rfl ?_
    refine p_getI (j := 0) G f_RX3_24 rfl (hS 0 (by decide)).1 dX3_add_26 (fun c6 => ?_)
    refine p_iload_n dX3_add_29 rfl (q := 2) rfl ?_
    have g9 := h.1
    have h := h.2
    refine p_iast G (hS 2 (by decide)).1 (nf_r c6) g9.1 (zln_lt (hS 2 (by decide)).2.1 g9.2) (nf_r c_p2) dX3_add_30 ?_
    refine p_gen (fun im7 e8 => ?_)
    have h := h im7 e8
    refine p_aload_n dX3_add_31 rfl (q := 0) rfl ?_
    refine p_getR (b := (a + 3)) G f_RX3_18 rfl (hS 0 (by decide)).1 ((hS 0 (by decide)).2.2 3 (by decide)) dX3_add_32 ?_
    refine p_aload_n dX3_add_35 rfl (q := 0) rfl ?_
    refine p_getI (j := 0) G f_RX3_24 rfl (hS 0 (by decide)).1 dX3_add_36 (fun c10 => ?_)
    refine p_iload_n dX3_add_39 rfl (q := 3) rfl ?_
    have g13 := h.1
    have h := h.2
    refine p_iast G (hS 3 (by decide)).1 (nf_r c10) g13.1 (zln_lt (hS 3 (by decide)).2.1 g13.2) (nf_r c_p3) dX3_add_40 ?_
    refine p_gen (fun im11 e12 => ?_)
    have h := h im11 e12
    refine p_aload_n dX3_add_41 rfl (q := 0) rfl ?_
    refine p_getR (b := (a + 4)) G f_RX3_21 rfl (hS 0 (by decide)).1 ((hS 0 (by decide)).2.2 4 (by decide)) dX3_add_42 ?_
    refine p_aload_n dX3_add_45 rfl (q := 0) rfl ?_
    refine p_getI (j := 0) G f_RX3_24 rfl (hS 0 (by decide)).1 dX3_add_46 (fun c14 => ?_)
    refine p_iload dX3_add_49 (q := 4) rfl ?_
    have g17 := h.1
    have h := h.2
    refine p_iast G (hS 4 (by decide)).1 (nf_r c14) g17.1 (zln_lt (hS 4 (by decide)).2.1 g17.2) (nf_r c_p4) dX3_add_51 ?_
    refine p_gen (fun im15 e16 => ?_)
    have h := h im15 e16
    refine p_aload_n dX3_add_52 rfl (q := 0) rfl ?_
    refine p_dup dX3_add_53 rfl ?_
    refine p_getI (j := 0) G f_RX3_24 rfl (hS 0 (by decide)).1 dX3_add_54 (fun c18 => ?_)
    refine p_iconst dX3_add_57 ?_
    refine p_iadd dX3_add_58 ?_
    refine p_putI (j := 0) G f_RX3_24 rfl rfl rfl (hS 0 (by decide)).1 (nf_w _) dX3_add_59 ?_
    refine p_gen (fun im19 e20 => ?_)
    have h := h im19 e20
    exact p_retV (by decide) (by decide) rfl dX3_add_62 h
  · have h := h.2 b2
    exact p_retV (by decide) (by decide) rfl dX3_add_10 h
set_option maxRecDepth 20000 in
set_option maxHeartbeats 4000000 in
theorem v_X2_canHelp {g : zG} (G : zOK g) {S : zSh} {im : zIm} {a : Nat} {p1 : Int} {p2 : Int} {p3 : Int} {Q : Int → zIm → Prop} (hS : zS_N S a) (c_p1 : zc p1) (c_p2 : zc p2) (c_p3 : zc p3)
    (h : zCI g yX4_linkTime M_X4_linkTime [.ref (a + 3), .int (zi p2), .int (zi p1)] S im (fun r1 im2 => zCI g yX7_cell M_X7_cell [.int (zi p1), .int (zi p3)] S im2 (fun r4 im5 => ((r1 ≤ 0 → Q 0 im5) ∧ (0 < r1 → (((im5 (a + 3) 2) < r1 → Q 0 im5) ∧ (r1 ≤ (im5 (a + 3) 2) → ((0 ≤ r4 ∧ r4 < 32) ∧ ((0 ≤ r4 ∧ r4 < 32) ∧ (((im5 (a + 2) r4) ≤ (im5 (a + 9) r4) → Q 0 im5) ∧ ((im5 (a + 9) r4) < (im5 (a + 2) r4) → Q 1 im5))))))))))) :
    zCI g yX2_canHelp M_X2_canHelp [.ref a, .int (zi p1), .int (zi p2), .int (zi p3)] S im Q := by
  refine zC_of (by decide) rfl rfl rfl rfl (Nat.le_of_ble_eq_true rfl) ?_
  refine p_aload_n dX2_canHelp_0 rfl (q := 0) rfl ?_
  refine p_getR (b := (a + 3)) G f_RX2_21 rfl (hS 0 (by decide)).1 ((hS 0 (by decide)).2.2 3 (by decide)) dX2_canHelp_1 ?_
  refine p_iload_n dX2_canHelp_4 rfl (q := 2) rfl ?_
  refine p_iload_n dX2_canHelp_5 rfl (q := 1) rfl ?_
  refine p_VI G k_RX2_148 (by decide) (hS 3 (by decide)).1 rfl rfl (Nat.le_of_ble_eq_true rfl) ⟨by decide, by decide⟩ ⟨by decide, by decide⟩ dX2_canHelp_6 h (fun r1 im2 c3 h => ?_)
  refine p_istore (lv' := [(4, .int (zi r1)), (0, .ref a), (1, .int (zi p1)), (2, .int (zi p2)), (3, .int (zi p3))]) dX2_canHelp_9 (by decide) rfl ?_
  refine p_iload_n dX2_canHelp_11 rfl (q := 2) rfl ?_
  refine p_iload_n dX2_canHelp_12 rfl (q := 4) rfl ?_
  refine p_SNI G k_RX2_110 rfl rfl (Nat.le_of_ble_eq_true rfl) ⟨by decide, by decide⟩ ⟨by decide, by decide⟩ dX2_canHelp_13 h (fun r4 im5 c6 h => ?_)
  refine p_istore (lv' := [(5, .int (zi r4)), (4, .int (zi r1)), (0, .ref a), (1, .int (zi p1)), (2, .int (zi p2)), (3, .int (zi p3))]) dX2_canHelp_16 (by decide) rfl ?_
  refine p_iload dX2_canHelp_18 (q := 1) rfl ?_
  refine p_if_le (tgt := 59) dX2_canHelp_20 (by decide) (nf_r c3) (fun b7 => ?_) (fun b7 => ?_)
  · have h := h.1 b7
    refine p_iconst dX2_canHelp_59 ?_
    exact p_zretI (by decide) (by decide) rfl (nf_k (by decide)) (by decide) dX2_canHelp_60 h
  · have h := h.2 b7
    refine p_iload dX2_canHelp_23 (q := 1) rfl ?_
    refine p_aload_n dX2_canHelp_25 rfl (q := 2) rfl ?_
    refine p_getR (b := (a + 3)) G f_RX2_21 rfl (hS 0 (by decide)).1 ((hS 0 (by decide)).2.2 3 (by decide)) dX2_canHelp_26 ?_
    refine p_getI (j := 2) G f_RX2_171 rfl (hS 3 (by decide)).1 dX2_canHelp_29 (fun c7 => ?_)
    refine p_icmp_gt (tgt := 59) dX2_canHelp_32 (by decide) (nf_r c3) (nf_r c7) (fun b8 => ?_) (fun b8 => ?_)
    · have h := h.1 b8
      refine p_iconst dX2_canHelp_59 ?_
      exact p_zretI (by decide) (by decide) rfl (nf_k (by decide)) (by decide) dX2_canHelp_60 h
    · have h := h.2 b8
      refine p_aload_n dX2_canHelp_35 rfl (q := 2) rfl ?_
      refine p_getR (b := (a + 2)) G f_RX2_15 rfl (hS 0 (by decide)).1 ((hS 0 (by decide)).2.2 2 (by decide)) dX2_canHelp_36 ?_
      refine p_iload dX2_canHelp_39 (q := 0) rfl ?_
      have g9 := h.1
      have h := h.2
      refine p_iald G (hS 2 (by decide)).1 (nf_r c6) g9.1 (zln_lt (hS 2 (by decide)).2.1 g9.2) dX2_canHelp_41 (fun c8 => ?_)
      refine p_aload_n dX2_canHelp_42 rfl (q := 2) rfl ?_
      refine p_getR (b := (a + 3)) G f_RX2_21 rfl (hS 0 (by decide)).1 ((hS 0 (by decide)).2.2 3 (by decide)) dX2_canHelp_43 ?_
      refine p_getR (b := (a + 9)) G f_RX2_174 rfl (hS 3 (by decide)).1 ((hS 3 (by decide)).2.2 8 (by decide)) dX2_canHelp_46 ?_
      refine p_iload dX2_canHelp_49 (q := 0) rfl ?_
      have g11 := h.1
      have h := h.2
      refine p_iald G (hS 9 (by decide)).1 (nf_r c6) g11.1 (zln_lt (hS 9 (by decide)).2.1 g11.2) dX2_canHelp_51 (fun c10 => ?_)
      refine p_icmp_le (tgt := 59) dX2_canHelp_52 (by decide) (nf_r c8) (nf_r c10) (fun b12 => ?_) (fun b12 => ?_)
      · have h := h.1 b12
        refine p_iconst dX2_canHelp_59 ?_
        exact p_zretI (by decide) (by decide) rfl (nf_k (by decide)) (by decide) dX2_canHelp_60 h
      · have h := h.2 b12
        refine p_iconst dX2_canHelp_55 ?_
        refine p_goto (tgt := 60) dX2_canHelp_56 (by decide) ?_
        exact p_zretI (by decide) (by decide) rfl (nf_k (by decide)) (by decide) dX2_canHelp_60 h
set_option maxRecDepth 20000 in
set_option maxHeartbeats 4000000 in
theorem v_X2_helpsBetter {g : zG} (G : zOK g) {S : zSh} {im : zIm} {a : Nat} {p1 : Int} {p2 : Int} {p3 : Int} {p4 : Int} {Q : Int → zIm → Prop} (hS : zS_N S a) (c_p1 : zc p1) (c_p2 : zc p2) (c_p3 : zc p3) (c_p4 : zc p4)
    (h : zCI g yX4_linkTime M_X4_linkTime [.ref (a + 3), .int (zi p3), .int (zi p1)] S im (fun r1 im2 => zCI g yX4_linkTime M_X4_linkTime [.ref (a + 3), .int (zi p3), .int (zi p2)] S im2 (fun r4 im5 => ((r1 = r4 → zCI g yX7_cell M_X7_cell [.int (zi p1), .int (zi p4)] S im5 (fun r7 im8 => ((0 ≤ r7 ∧ r7 < 32) ∧ zCI g yX7_cell M_X7_cell [.int (zi p2), .int (zi p4)] S im8 (fun r12 im13 => ((0 ≤ r12 ∧ r12 < 32) ∧ (((im8 (a + 2) r7) ≤ (im13 (a + 2) r12) → Q 0 im13) ∧ ((im13 (a + 2) r12) < (im8 (a + 2) r7) → Q 1 im13))))))) ∧ (¬ r1 = r4 → ((r4 ≤ r1 → Q 0 im5) ∧ (r1 < r4 → Q 1 im5))))))) :
    zCI g yX2_helpsBetter M_X2_helpsBetter [.ref a, .int (zi p1), .int (zi p2), .int (zi p3), .int (zi p4)] S im Q := by
  refine zC_of (by decide) rfl rfl rfl rfl (Nat.le_of_ble_eq_true rfl) ?_
  refine p_aload_n dX2_helpsBetter_0 rfl (q := 0) rfl ?_
  refine p_getR (b := (a + 3)) G f_RX2_21 rfl (hS 0 (by decide)).1 ((hS 0 (by decide)).2.2 3 (by decide)) dX2_helpsBetter_1 ?_
  refine p_iload_n dX2_helpsBetter_4 rfl (q := 3) rfl ?_
  refine p_iload_n dX2_helpsBetter_5 rfl (q := 1) rfl ?_
  refine p_VI G k_RX2_148 (by decide) (hS 3 (by decide)).1 rfl rfl (Nat.le_of_ble_eq_true rfl) ⟨by decide, by decide⟩ ⟨by decide, by decide⟩ dX2_helpsBetter_6 h (fun r1 im2 c3 h => ?_)
  refine p_istore (lv' := [(5, .int (zi r1)), (0, .ref a), (1, .int (zi p1)), (2, .int (zi p2)), (3, .int (zi p3)), (4, .int (zi p4))]) dX2_helpsBetter_9 (by decide) rfl ?_
  refine p_aload_n dX2_helpsBetter_11 rfl (q := 1) rfl ?_
  refine p_getR (b := (a + 3)) G f_RX2_21 rfl (hS 0 (by decide)).1 ((hS 0 (by decide)).2.2 3 (by decide)) dX2_helpsBetter_12 ?_
  refine p_iload_n dX2_helpsBetter_15 rfl (q := 4) rfl ?_
  refine p_iload_n dX2_helpsBetter_16 rfl (q := 3) rfl ?_
  refine p_VI G k_RX2_148 (by decide) (hS 3 (by decide)).1 rfl rfl (Nat.le_of_ble_eq_true rfl) ⟨by decide, by decide⟩ ⟨by decide, by decide⟩ dX2_helpsBetter_17 h (fun r4 im5 c6 h => ?_)
  refine p_istore (lv' := [(6, .int (zi r4)), (5, .int (zi r1)), (0, .ref a), (1, .int (zi p1)), (2, .int (zi p2)), (3, .int (zi p3)), (4, .int (zi p4))]) dX2_helpsBetter_20 (by decide) rfl ?_
  refine p_iload dX2_helpsBetter_22 (q := 1) rfl ?_
  refine p_iload dX2_helpsBetter_24 (q := 0) rfl ?_
  refine p_icmp_eq (tgt := 42) dX2_helpsBetter_26 (by decide) (nf_r c3) (nf_r c6) (fun b7 => ?_) (fun b7 => ?_)
  · have h := h.1 b7
    refine p_aload_n dX2_helpsBetter_42 rfl (q := 2) rfl ?_
    refine p_getR (b := (a + 2)) G f_RX2_15 rfl (hS 0 (by decide)).1 ((hS 0 (by decide)).2.2 2 (by decide)) dX2_helpsBetter_43 ?_
    refine p_iload_n dX2_helpsBetter_46 rfl (q := 3) rfl ?_
    refine p_iload dX2_helpsBetter_47 (q := 6) rfl ?_
    refine p_SNI G k_RX2_110 rfl rfl (Nat.le_of_ble_eq_true rfl) ⟨by decide, by decide⟩ ⟨by decide, by decide⟩ dX2_helpsBetter_49 h (fun r7 im8 c9 h => ?_)
    have g11 := h.1
    have h := h.2
    refine p_iald G (hS 2 (by decide)).1 (nf_r c9) g11.1 (zln_lt (hS 2 (by decide)).2.1 g11.2) dX2_helpsBetter_52 (fun c10 => ?_)
    refine p_aload_n dX2_helpsBetter_53 rfl (q := 2) rfl ?_
    refine p_getR (b := (a + 2)) G f_RX2_15 rfl (hS 0 (by decide)).1 ((hS 0 (by decide)).2.2 2 (by decide)) dX2_helpsBetter_54 ?_
    refine p_iload_n dX2_helpsBetter_57 rfl (q := 4) rfl ?_
    refine p_iload dX2_helpsBetter_58 (q := 6) rfl ?_
    refine p_SNI G k_RX2_110 rfl rfl (Nat.le_of_ble_eq_true rfl) ⟨by decide, by decide⟩ ⟨by decide, by decide⟩ dX2_helpsBetter_60 h (fun r12 im13 c14 h => ?_)
    have g16 := h.1
    have h := h.2
    refine p_iald G (hS 2 (by decide)).1 (nf_r c14) g16.1 (zln_lt (hS 2 (by decide)).2.1 g16.2) dX2_helpsBetter_63 (fun c15 => ?_)
    refine p_icmp_le (tgt := 71) dX2_helpsBetter_64 (by decide) (nf_r c10) (nf_r c15) (fun b17 => ?_) (fun b17 => ?_)
    · have h := h.1 b17
      refine p_iconst dX2_helpsBetter_71 ?_
      exact p_zretI (by decide) (by decide) rfl (nf_k (by decide)) (by decide) dX2_helpsBetter_72 h
    · have h := h.2 b17
      refine p_iconst dX2_helpsBetter_67 ?_
      refine p_goto (tgt := 72) dX2_helpsBetter_68 (by decide) ?_
      exact p_zretI (by decide) (by decide) rfl (nf_k (by decide)) (by decide) dX2_helpsBetter_72 h
  · have h := h.2 b7
    refine p_iload dX2_helpsBetter_29 (q := 1) rfl ?_
    refine p_iload dX2_helpsBetter_31 (q := 0) rfl ?_
    refine p_icmp_ge (tgt := 40) dX2_helpsBetter_33 (by decide) (nf_r c3) (nf_r c6) (fun b7 => ?_) (fun b7 => ?_)
    · have h := h.1 b7
      refine p_iconst dX2_helpsBetter_40 ?_
      exact p_zretI (by decide) (by decide) rfl (nf_k (by decide)) (by decide) dX2_helpsBetter_41 h
    · have h := h.2 b7
      refine p_iconst dX2_helpsBetter_36 ?_
      refine p_goto (tgt := 41) dX2_helpsBetter_37 (by decide) ?_
      exact p_zretI (by decide) (by decide) rfl (nf_k (by decide)) (by decide) dX2_helpsBetter_41 h
set_option maxRecDepth 20000 in
set_option maxHeartbeats 4000000 in
theorem v_X2_findHelper {g : zG} (G : zOK g) {S : zSh} {im : zIm} {a : Nat} {p1 : Int} {p2 : Int} {Q : Int → zIm → Prop} (hS : zS_N S a) (c_p1 : zc p1) (c_p2 : zc p2)
    (h : zPI g M_X2_findHelper 5 [(0, .ref a), (1, .int (zi p1)), (2, .int (zi p2)), (3, .int (zi (-1))), (4, .int (zi 1))] S im Q) :
    zCI g yX2_findHelper M_X2_findHelper [.ref a, .int (zi p1), .int (zi p2)] S im Q := by
  refine zC_of (by decide) rfl rfl rfl rfl (Nat.le_of_ble_eq_true rfl) ?_
  refine p_iconst dX2_findHelper_0 ?_
  refine p_istore_n (lv' := [(3, .int (zi (-1))), (0, .ref a), (1, .int (zi p1)), (2, .int (zi p2))]) dX2_findHelper_1 rfl (by decide) rfl ?_
  refine p_iconst dX2_findHelper_2 ?_
  refine p_istore (lv' := [(4, .int (zi 1)), (3, .int (zi (-1))), (0, .ref a), (1, .int (zi p1)), (2, .int (zi p2))]) dX2_findHelper_3 (by decide) rfl ?_
  refine p_sub (lv' := [(0, .ref a), (1, .int (zi p1)), (2, .int (zi p2)), (3, .int (zi (-1))), (4, .int (zi 1))]) [2, 3, 4, 1, 0] rfl ?_
  exact h
set_option maxRecDepth 20000 in
set_option maxHeartbeats 4000000 in
theorem v_X2_findHelper_5 {g : zG} (G : zOK g) {S : zSh} {im : zIm} {a : Nat} {x1 : Int} {x2 : Int} {x3 : Int} {x4 : Int} {Q : Int → zIm → Prop} (hS : zS_N S a) (c_x1 : zc x1) (c_x2 : zc x2) (c_x3 : zc x3) (c_x4 : zc x4)
    (h : (((im (a + 3) 1) ≤ x4 → Q x3 im) ∧ (x4 < (im (a + 3) 1) → zCI g yX2_canHelp M_X2_canHelp [.ref a, .int (zi x4), .int (zi x1), .int (zi x2)] S im (fun r2 im3 => ((r2 = 0 → zPI g M_X2_findHelper 5 [(0, .ref a), (1, .int (zi x1)), (2, .int (zi x2)), (3, .int (zi x3)), (4, .int (zi (zw (x4 + 1))))] S im3 Q) ∧ (¬ r2 = 0 → ((x3 = (-1) → zPI g M_X2_findHelper 5 [(0, .ref a), (1, .int (zi x1)), (2, .int (zi x2)), (3, .int (zi x4)), (4, .int (zi (zw (x4 + 1))))] S im3 Q) ∧ (¬ x3 = (-1) → zCI g yX2_helpsBetter M_X2_helpsBetter [.ref a, .int (zi x4), .int (zi x3), .int (zi x1), .int (zi x2)] S im3 (fun r5 im6 => ((r5 = 0 → zPI g M_X2_findHelper 5 [(0, .ref a), (1, .int (zi x1)), (2, .int (zi x2)), (3, .int (zi x3)), (4, .int (zi (zw (x4 + 1))))] S im6 Q) ∧ (¬ r5 = 0 → zPI g M_X2_findHelper 5 [(0, .ref a), (1, .int (zi x1)), (2, .int (zi x2)), (3, .int (zi x4)), (4, .int (zi (zw (x4 + 1))))] S im6 Q))))))))))) :
    zPI g M_X2_findHelper 5 [(0, .ref a), (1, .int (zi x1)), (2, .int (zi x2)), (3, .int (zi x3)), (4, .int (zi x4))] S im Q := by
  refine p_iload dX2_findHelper_5 (q := 4) rfl ?_
  refine p_aload_n dX2_findHelper_7 rfl (q := 0) rfl ?_
  refine p_getR (b := (a + 3)) G f_RX2_21 rfl (hS 0 (by decide)).1 ((hS 0 (by decide)).2.2 3 (by decide)) dX2_findHelper_8 ?_
  refine p_getI (j := 1) G f_RX2_104 rfl (hS 3 (by decide)).1 dX2_findHelper_11 (fun c1 => ?_)
  refine p_icmp_ge (tgt := 54) dX2_findHelper_14 (by decide) (nf_r c_x4) (nf_r c1) (fun b2 => ?_) (fun b2 => ?_)
  · have h := h.1 b2
    refine p_iload_n dX2_findHelper_54 rfl (q := 3) rfl ?_
    exact p_iretI (by decide) (by decide) rfl (nf_r c_x3) dX2_findHelper_55 h
  · have h := h.2 b2
    refine p_aload_n dX2_findHelper_17 rfl (q := 0) rfl ?_
    refine p_iload dX2_findHelper_18 (q := 4) rfl ?_
    refine p_iload_n dX2_findHelper_20 rfl (q := 1) rfl ?_
    refine p_iload_n dX2_findHelper_21 rfl (q := 2) rfl ?_
    refine p_VI G k_RX2_163 (by decide) (hS 0 (by decide)).1 rfl rfl (Nat.le_of_ble_eq_true rfl) ⟨by decide, by decide⟩ ⟨by decide, by decide⟩ dX2_findHelper_22 h (fun r2 im3 c4 h => ?_)
    refine p_if_eq (tgt := 48) dX2_findHelper_25 (by decide) (nf_r c4) (fun b5 => ?_) (fun b5 => ?_)
    · have h := h.1 b5
      refine p_iinc (q := 4) (lv' := [(4, .int (zi (x4 + 1))), (0, .ref a), (1, .int (zi x1)), (2, .int (zi x2)), (3, .int (zi x3))]) dX2_findHelper_48 rfl (by decide) rfl ?_
      refine p_goto (tgt := 5) dX2_findHelper_51 (by decide) ?_
      refine p_sub (lv' := [(0, .ref a), (1, .int (zi x1)), (2, .int (zi x2)), (3, .int (zi x3)), (4, .int (zi (zw (x4 + 1))))]) [1, 2, 3, 4, 0] (by simp only [zi_zw, zl_zwl]; rfl) ?_
      exact h
    · have h := h.2 b5
      refine p_iload_n dX2_findHelper_28 rfl (q := 3) rfl ?_
      refine p_iconst dX2_findHelper_29 ?_
      refine p_icmp_eq (tgt := 45) dX2_findHelper_30 (by decide) (nf_r c_x3) (nf_k (by decide)) (fun b5 => ?_) (fun b5 => ?_)
      · have h := h.1 b5
        refine p_iload dX2_findHelper_45 (q := 4) rfl ?_
        refine p_istore_n (lv' := [(3, .int (zi x4)), (0, .ref a), (1, .int (zi x1)), (2, .int (zi x2)), (4, .int (zi x4))]) dX2_findHelper_47 rfl (by decide) rfl ?_
        refine p_iinc (q := 4) (lv' := [(4, .int (zi (x4 + 1))), (3, .int (zi x4)), (0, .ref a), (1, .int (zi x1)), (2, .int (zi x2))]) dX2_findHelper_48 rfl (by decide) rfl ?_
        refine p_goto (tgt := 5) dX2_findHelper_51 (by decide) ?_
        refine p_sub (lv' := [(0, .ref a), (1, .int (zi x1)), (2, .int (zi x2)), (3, .int (zi x4)), (4, .int (zi (zw (x4 + 1))))]) [2, 3, 4, 1, 0] (by simp only [zi_zw, zl_zwl]; rfl) ?_
        exact h
      · have h := h.2 b5
        refine p_aload_n dX2_findHelper_33 rfl (q := 0) rfl ?_
        refine p_iload dX2_findHelper_34 (q := 4) rfl ?_
        refine p_iload_n dX2_findHelper_36 rfl (q := 3) rfl ?_
        refine p_iload_n dX2_findHelper_37 rfl (q := 1) rfl ?_
        refine p_iload_n dX2_findHelper_38 rfl (q := 2) rfl ?_
        refine p_VI G k_RX2_167 (by decide) (hS 0 (by decide)).1 rfl rfl (Nat.le_of_ble_eq_true rfl) ⟨by decide, by decide⟩ ⟨by decide, by decide⟩ dX2_findHelper_39 h (fun r5 im6 c7 h => ?_)
        refine p_if_eq (tgt := 48) dX2_findHelper_42 (by decide) (nf_r c7) (fun b8 => ?_) (fun b8 => ?_)
        · have h := h.1 b8
          refine p_iinc (q := 4) (lv' := [(4, .int (zi (x4 + 1))), (0, .ref a), (1, .int (zi x1)), (2, .int (zi x2)), (3, .int (zi x3))]) dX2_findHelper_48 rfl (by decide) rfl ?_
          refine p_goto (tgt := 5) dX2_findHelper_51 (by decide) ?_
          refine p_sub (lv' := [(0, .ref a), (1, .int (zi x1)), (2, .int (zi x2)), (3, .int (zi x3)), (4, .int (zi (zw (x4 + 1))))]) [1, 2, 3, 4, 0] (by simp only [zi_zw, zl_zwl]; rfl) ?_
          exact h
        · have h := h.2 b8
          refine p_iload dX2_findHelper_45 (q := 4) rfl ?_
          refine p_istore_n (lv' := [(3, .int (zi x4)), (0, .ref a), (1, .int (zi x1)), (2, .int (zi x2)), (4, .int (zi x4))]) dX2_findHelper_47 rfl (by decide) rfl ?_
          refine p_iinc (q := 4) (lv' := [(4, .int (zi (x4 + 1))), (3, .int (zi x4)), (0, .ref a), (1, .int (zi x1)), (2, .int (zi x2))]) dX2_findHelper_48 rfl (by decide) rfl ?_
          refine p_goto (tgt := 5) dX2_findHelper_51 (by decide) ?_
          refine p_sub (lv' := [(0, .ref a), (1, .int (zi x1)), (2, .int (zi x2)), (3, .int (zi x4)), (4, .int (zi (zw (x4 + 1))))]) [2, 3, 4, 1, 0] (by simp only [zi_zw, zl_zwl]; rfl) ?_
          exact h
set_option maxRecDepth 20000 in
set_option maxHeartbeats 4000000 in
theorem v_X2_sendHelp {g : zG} (G : zOK g) {S : zSh} {im : zIm} {a : Nat} {p1 : Int} {p2 : Int} {p3 : Int} {Q : zIm → Prop} (hS : zS_N S a) (c_p1 : zc p1) (c_p2 : zc p2) (c_p3 : zc p3)
    (h : zCI g yX7_cell M_X7_cell [.int (zi p1), .int (zi p3)] S im (fun r1 im2 => ((0 ≤ r1 ∧ r1 < 32) ∧ ∀ im6, im6 = zst im2 (a + 2) r1 (zw ((im2 (a + 2) r1) - 1)) → zCI g yX7_cell M_X7_cell [.int (zi p1), .int (zi p3)] S im6 (fun r8 im9 => ((0 ≤ r8 ∧ r8 < 32) ∧ ∀ im13, im13 = zst im9 (a + 17) r8 (zw ((im9 (a + 17) r8) + 1)) → zCI g yX4_linkTime M_X4_linkTime [.ref (a + 3), .int (zi p2), .int (zi p1)] S im13 (fun r16 im17 => zCV g yX6_add M_X6_add [.ref (a + 18), .int (zi (zw ((im13 a 0) + r16))), .int (zi 3), .int (zi p3), .int (zi p2), .int (zi p2), .int (zi 0)] S im17 (fun im19 => Q im19))))))) :
    zCV g yX2_sendHelp M_X2_sendHelp [.ref a, .int (zi p1), .int (zi p2), .int (zi p3)] S im Q := by
  refine zC_of (by decide) rfl rfl rfl rfl (Nat.le_of_ble_eq_true rfl) ?_
  refine p_aload_n dX2_sendHelp_0 rfl (q := 0) rfl ?_
  refine p_getR (b := (a + 2)) G f_RX2_15 rfl (hS 0 (by decide)).1 ((hS 0 (by decide)).2.2 2 (by decide)) dX2_sendHelp_1 ?_
  refine p_iload_n dX2_sendHelp_4 rfl (q := 1) rfl ?_
  refine p_iload_n dX2_sendHelp_5 rfl (q := 3) rfl ?_
  refine p_SNI G k_RX2_110 rfl rfl (Nat.le_of_ble_eq_true rfl) ⟨by decide, by decide⟩ ⟨by decide, by decide⟩ dX2_sendHelp_6 h (fun r1 im2 c3 h => ?_)
  refine p_dup2 dX2_sendHelp_9 rfl rfl ?_
  have g5 := h.1
  have h := h.2
  refine p_iald G (hS 2 (by decide)).1 (nf_r c3) g5.1 (zln_lt (hS 2 (by decide)).2.1 g5.2) dX2_sendHelp_10 (fun c4 => ?_)
  refine p_iconst dX2_sendHelp_11 ?_
  refine p_isub dX2_sendHelp_12 ?_
  refine p_iast G (hS 2 (by decide)).1 (nf_r c3) g5.1 (zln_lt (hS 2 (by decide)).2.1 g5.2) (nf_w _) dX2_sendHelp_13 ?_
  refine p_gen (fun im6 e7 => ?_)
  have h := h im6 e7
  refine p_aload_n dX2_sendHelp_14 rfl (q := 0) rfl ?_
  refine p_getR (b := (a + 12)) G f_RX2_28 rfl (hS 0 (by decide)).1 ((hS 0 (by decide)).2.2 4 (by decide)) dX2_sendHelp_15 ?_
  refine p_getR (b := (a + 17)) G f_RX2_160 rfl (hS 12 (by decide)).1 ((hS 12 (by decide)).2.2 5 (by decide)) dX2_sendHelp_18 ?_
  refine p_iload_n dX2_sendHelp_21 rfl (q := 1) rfl ?_
  refine p_iload_n dX2_sendHelp_22 rfl (q := 3) rfl ?_
  refine p_SNI G k_RX2_110 rfl rfl (Nat.le_of_ble_eq_true rfl) ⟨by decide, by decide⟩ ⟨by decide, by decide⟩ dX2_sendHelp_23 h (fun r8 im9 c10 h => ?_)
  refine p_dup2 dX2_sendHelp_26 rfl rfl ?_
  have g12 := h.1
  have h := h.2
  refine p_iald G (hS 17 (by decide)).1 (nf_r c10) g12.1 (zln_lt (hS 17 (by decide)).2.1 g12.2) dX2_sendHelp_27 (fun c11 => ?_)
  refine p_iconst dX2_sendHelp_28 ?_
  refine p_iadd dX2_sendHelp_29 ?_
  refine p_iast G (hS 17 (by decide)).1 (nf_r c10) g12.1 (zln_lt (hS 17 (by decide)).2.1 g12.2) (nf_w _) dX2_sendHelp_30 ?_
  refine p_gen (fun im13 e14 => ?_)
  have h := h im13 e14
  refine p_aload_n dX2_sendHelp_31 rfl (q := 0) rfl ?_
  refine p_getR (b := (a + 18)) G f_RX2_35 rfl (hS 0 (by decide)).1 ((hS 0 (by decide)).2.2 5 (by decide)) dX2_sendHelp_32 ?_
  refine p_aload_n dX2_sendHelp_35 rfl (q := 0) rfl ?_
  refine p_getI (j := 0) G f_RX2_59 rfl (hS 0 (by decide)).1 dX2_sendHelp_36 (fun c15 => ?_)
  refine p_aload_n dX2_sendHelp_39 rfl (q := 0) rfl ?_
  refine p_getR (b := (a + 3)) G f_RX2_21 rfl (hS 0 (by decide)).1 ((hS 0 (by decide)).2.2 3 (by decide)) dX2_sendHelp_40 ?_
  refine p_iload_n dX2_sendHelp_43 rfl (q := 2) rfl ?_
  refine p_iload_n dX2_sendHelp_44 rfl (q := 1) rfl ?_
  refine p_VI G k_RX2_148 (by decide) (hS 3 (by decide)).1 rfl rfl (Nat.le_of_ble_eq_true rfl) ⟨by decide, by decide⟩ ⟨by decide, by decide⟩ dX2_sendHelp_45 h (fun r16 im17 c18 h => ?_)
  refine p_iadd dX2_sendHelp_48 ?_
  refine p_iconst dX2_sendHelp_49 ?_
  refine p_iload_n dX2_sendHelp_50 rfl (q := 3) rfl ?_
  refine p_iload_n dX2_sendHelp_51 rfl (q := 2) rfl ?_
  refine p_iload_n dX2_sendHelp_52 rfl (q := 2) rfl ?_
  refine p_iconst dX2_sendHelp_53 ?_
  refine p_VV G k_RX2_151 (by decide) (hS 18 (by decide)).1 rfl (by simp only [zi_zw]; rfl) (Nat.le_of_ble_eq_true rfl) ⟨by decide, by decide⟩ ⟨by decide, by decide⟩ dX2_sendHelp_54 h (fun im19 h => ?_)
  exact p_retV (by decide) (by decide) rfl dX2_sendHelp_57 h
set_option maxRecDepth 20000 in
set_option maxHeartbeats 4000000 in
theorem v_X2_order {g : zG} (G : zOK g) {S : zSh} {im : zIm} {a : Nat} {p1 : Int} {p2 : Int} {p3 : Int} {Q : zIm → Prop} (hS : zS_N S a) (c_p1 : zc p1) (c_p2 : zc p2) (c_p3 : zc p3)
    (h : zCI g yX7_cell M_X7_cell [.int (zi 0), .int (zi p2)] S im (fun r1 im2 => ((0 ≤ r1 ∧ r1 < 32) ∧ (((im2 (a + 2) r1) ≤ 0 → zCV g yX3_add M_X3_add [.ref (a + 30), .int (zi p1), .int (zi p2), .int (zi p3), .int (zi (im2 a 0))] S im2 (fun im7 => Q im7)) ∧ (0 < (im2 (a + 2) r1) → ∀ im7, im7 = zst im2 (a + 2) r1 (zw ((im2 (a + 2) r1) - 1)) → ((0 ≤ p1 ∧ p1 < 8) ∧ zCV g yX6_add M_X6_add [.ref (a + 18), .int (zi (zw ((im7 a 0) + (im7 (a + 7) p1)))), .int (zi 2), .int (zi p2), .int (zi p1), .int (zi p1), .int (zi 0)] S im7 (fun im12 => Q im12))))))) :
    zCV g yX2_order M_X2_order [.ref a, .int (zi p1), .int (zi p2), .int (zi p3)] S im Q := by
  refine zC_of (by decide) rfl rfl rfl rfl (Nat.le_of_ble_eq_true rfl) ?_
  refine p_iconst dX2_order_0 ?_
  refine p_iload_n dX2_order_1 rfl (q := 2) rfl ?_
  refine p_SNI G k_RX2_110 rfl rfl (Nat.le_of_ble_eq_true rfl) ⟨by decide, by decide⟩ ⟨by decide, by decide⟩ dX2_order_2 h (fun r1 im2 c3 h => ?_)
  refine p_istore (lv' := [(4, .int (zi r1)), (0, .ref a), (1, .int (zi p1)), (2, .int (zi p2)), (3, .int (zi p3))]) dX2_order_5 (by decide) rfl ?_
  refine p_aload_n dX2_order_7 rfl (q := 1) rfl ?_
  refine p_getR (b := (a + 2)) G f_RX2_15 rfl (hS 0 (by decide)).1 ((hS 0 (by decide)).2.2 2 (by decide)) dX2_order_8 ?_
  refine p_iload dX2_order_11 (q := 0) rfl ?_
  have g5 := h.1
  have h := h.2
  refine p_iald G (hS 2 (by decide)).1 (nf_r c3) g5.1 (zln_lt (hS 2 (by decide)).2.1 g5.2) dX2_order_13 (fun c4 => ?_)
  refine p_if_le (tgt := 57) dX2_order_14 (by decide) (nf_r c4) (fun b6 => ?_) (fun b6 => ?_)
  · have h := h.1 b6
    refine p_aload_n dX2_order_57 rfl (q := 1) rfl ?_
    refine p_getR (b := (a + 30)) G f_RX2_46 rfl (hS 0 (by decide)).1 ((hS 0 (by decide)).2.2 7 (by decide)) dX2_order_58 ?_
    refine p_iload_n dX2_order_61 rfl (q := 2) rfl ?_
    refine p_iload_n dX2_order_62 rfl (q := 3) rfl ?_
    refine p_iload_n dX2_order_63 rfl (q := 4) rfl ?_
    refine p_aload_n dX2_order_64 rfl (q := 1) rfl ?_
    refine p_getI (j := 0) G f_RX2_59 rfl (hS 0 (by decide)).1 dX2_order_65 (fun c6 => ?_)
    refine p_VV G k_RX2_134 (by decide) (hS 30 (by decide)).1 rfl rfl (Nat.le_of_ble_eq_true rfl) ⟨by decide, by decide⟩ ⟨by decide, by decide⟩ dX2_order_68 h (fun im7 h => ?_)
    exact p_retV (by decide) (by decide) rfl dX2_order_71 h
  · have h := h.2 b6
    refine p_aload_n dX2_order_17 rfl (q := 1) rfl ?_
    refine p_getR (b := (a + 2)) G f_RX2_15 rfl (hS 0 (by decide)).1 ((hS 0 (by decide)).2.2 2 (by decide)) dX2_order_18 ?_
    refine p_iload dX2_order_21 (q := 0) rfl ?_
    refine p_dup2 dX2_order_23 rfl rfl ?_
    refine p_iald G (hS 2 (by decide)).1 (nf_r c3) g5.1 (zln_lt (hS 2 (by decide)).2.1 g5.2) dX2_order_24 (fun c6 => ?_)
    refine p_iconst dX2_order_25 ?_
    refine p_isub dX2_order_26 ?_
    refine p_iast G (hS 2 (by decide)).1 (nf_r c3) g5.1 (zln_lt (hS 2 (by decide)).2.1 g5.2) (nf_w _) dX2_order_27 ?_
    refine p_gen (fun im7 e8 => ?_)
    have h := h im7 e8
    refine p_aload_n dX2_order_28 rfl (q := 1) rfl ?_
    refine p_getR (b := (a + 18)) G f_RX2_35 rfl (hS 0 (by decide)).1 ((hS 0 (by decide)).2.2 5 (by decide)) dX2_order_29 ?_
    refine p_aload_n dX2_order_32 rfl (q := 1) rfl ?_
    refine p_getI (j := 0) G f_RX2_59 rfl (hS 0 (by decide)).1 dX2_order_33 (fun c9 => ?_)
    refine p_aload_n dX2_order_36 rfl (q := 1) rfl ?_
    refine p_getR (b := (a + 3)) G f_RX2_21 rfl (hS 0 (by decide)).1 ((hS 0 (by decide)).2.2 3 (by decide)) dX2_order_37 ?_
    refine p_getR (b := (a + 7)) G f_RX2_154 rfl (hS 3 (by decide)).1 ((hS 3 (by decide)).2.2 6 (by decide)) dX2_order_40 ?_
    refine p_iload_n dX2_order_43 rfl (q := 2) rfl ?_
    have g11 := h.1
    have h := h.2
    refine p_iald G (hS 7 (by decide)).1 (nf_r c_p1) g11.1 (zln_lt (hS 7 (by decide)).2.1 g11.2) dX2_order_44 (fun c10 => ?_)
    refine p_iadd dX2_order_45 ?_
    refine p_iconst dX2_order_46 ?_
    refine p_iload_n dX2_order_47 rfl (q := 3) rfl ?_
    refine p_iload_n dX2_order_48 rfl (q := 2) rfl ?_
    refine p_iload_n dX2_order_49 rfl (q := 2) rfl ?_
    refine p_iconst dX2_order_50 ?_
    refine p_VV G k_RX2_151 (by decide) (hS 18 (by decide)).1 rfl (by simp only [zi_zw]; rfl) (Nat.le_of_ble_eq_true rfl) ⟨by decide, by decide⟩ ⟨by decide, by decide⟩ dX2_order_51 h (fun im12 h => ?_)
    refine p_goto (tgt := 71) dX2_order_54 (by decide) ?_
    exact p_retV (by decide) (by decide) rfl dX2_order_71 h
set_option maxRecDepth 20000 in
set_option maxHeartbeats 4000000 in
theorem v_X2_occur {g : zG} (G : zOK g) {S : zSh} {im : zIm} {a : Nat} {p1 : Int} {p2 : Int} {p3 : Int} {Q : Int → zIm → Prop} (hS : zS_N S a) (c_p1 : zc p1) (c_p2 : zc p2) (c_p3 : zc p3)
    (h : zCI g yX7_cell M_X7_cell [.int (zi p1), .int (zi p2)] S im (fun r1 im2 => ((0 ≤ r1 ∧ r1 < 32) ∧ ∀ im6, im6 = zst im2 (a + 13) r1 (zw ((im2 (a + 13) r1) + 1)) → ((0 ≤ r1 ∧ r1 < 32) ∧ zCI g yX2_isRepairedLocally M_X2_isRepairedLocally [.int (zi (im6 (a + 13) r1)), .int (zi (im6 (a + 10) r1))] S im6 (fun r11 im12 => ((0 ≤ r1 ∧ r1 < 32) ∧ (((im12 (a + 2) r1) ≤ 0 → zCV g yX3_add M_X3_add [.ref (a + 35), .int (zi p1), .int (zi p2), .int (zi p3), .int (zi (im12 a 0))] S im12 (fun im17 => zCI g yX2_findHelper M_X2_findHelper [.ref a, .int (zi p1), .int (zi p2)] S im17 (fun r19 im20 => ((r19 = (-1) → ((r11 = 0 → ((0 ≤ p1 ∧ p1 < 8) ∧ zCV g yX6_add M_X6_add [.ref (a + 18), .int (zi (zw ((im20 a 0) + (im20 (a + 7) p1)))), .int (zi 0), .int (zi p2), .int (zi 0), .int (zi 0), .int (zi 0)] S im20 (fun im25 => zCV g yX2_order M_X2_order [.ref a, .int (zi p1), .int (zi p2), .int (zi p3)] S im25 (fun im27 => Q 0 im27)))) ∧ (¬ r11 = 0 → ((0 ≤ p2 ∧ p2 < 4) ∧ zCI g yX4_linkTime M_X4_linkTime [.ref (a + 3), .int (zi p1), .int (zi p1)] S im20 (fun r25 im26 => zCV g yX6_add M_X6_add [.ref (a + 18), .int (zi (zw ((im20 a 0) + (im20 (a + 6) p2)))), .int (zi 1), .int (zi p2), .int (zi p1), .int (zi p1), .int (zi r25)] S im26 (fun im28 => Q 0 im28)))))) ∧ (¬ r19 = (-1) → zCV g yX2_sendHelp M_X2_sendHelp [.ref a, .int (zi r19), .int (zi p1), .int (zi p2)] S im20 (fun im22 => ((r11 = 0 → ((0 ≤ p1 ∧ p1 < 8) ∧ zCV g yX6_add M_X6_add [.ref (a + 18), .int (zi (zw ((im22 a 0) + (im22 (a + 7) p1)))), .int (zi 0), .int (zi p2), .int (zi 0), .int (zi 0), .int (zi 0)] S im22 (fun im27 => zCV g yX2_order M_X2_order [.ref a, .int (zi r19), .int (zi p2), .int (zi p3)] S im27 (fun im29 => Q 0 im29)))) ∧ (¬ r11 = 0 → ((0 ≤ p2 ∧ p2 < 4) ∧ zCI g yX4_linkTime M_X4_linkTime [.ref (a + 3), .int (zi p1), .int (zi r19)] S im22 (fun r27 im28 => zCV g yX6_add M_X6_add [.ref (a + 18), .int (zi (zw ((im22 a 0) + (im22 (a + 6) p2)))), .int (zi 1), .int (zi p2), .int (zi p1), .int (zi r19), .int (zi r27)] S im28 (fun im30 => Q 0 im30))))))))))) ∧ (0 < (im12 (a + 2) r1) → ∀ im17, im17 = zst im12 (a + 2) r1 (zw ((im12 (a + 2) r1) - 1)) → ((0 ≤ r1 ∧ r1 < 32) ∧ ∀ im21, im21 = zst im17 (a + 14) r1 (zw ((im17 (a + 14) r1) + 1)) → ((r11 = 0 → ((0 ≤ p1 ∧ p1 < 8) ∧ zCV g yX6_add M_X6_add [.ref (a + 18), .int (zi (zw ((im21 a 0) + (im21 (a + 7) p1)))), .int (zi 0), .int (zi p2), .int (zi 0), .int (zi 0), .int (zi 0)] S im21 (fun im26 => zCV g yX2_order M_X2_order [.ref a, .int (zi p1), .int (zi p2), .int (zi p3)] S im26 (fun im28 => Q 1 im28)))) ∧ (¬ r11 = 0 → ((0 ≤ p2 ∧ p2 < 4) ∧ zCI g yX4_linkTime M_X4_linkTime [.ref (a + 3), .int (zi p1), .int (zi p1)] S im21 (fun r26 im27 => zCV g yX6_add M_X6_add [.ref (a + 18), .int (zi (zw ((im21 a 0) + (im21 (a + 6) p2)))), .int (zi 1), .int (zi p2), .int (zi p1), .int (zi p1), .int (zi r26)] S im27 (fun im29 => Q 1 im29)))))))))))))) :
    zCI g yX2_occur M_X2_occur [.ref a, .int (zi p1), .int (zi p2), .int (zi p3)] S im Q := by
  refine zC_of (by decide) rfl rfl rfl rfl (Nat.le_of_ble_eq_true rfl) ?_
  refine p_iload_n dX2_occur_0 rfl (q := 1) rfl ?_
  refine p_iload_n dX2_occur_1 rfl (q := 2) rfl ?_
  refine p_SNI G k_RX2_110 rfl rfl (Nat.le_of_ble_eq_true rfl) ⟨by decide, by decide⟩ ⟨by decide, by decide⟩ dX2_occur_2 h (fun r1 im2 c3 h => ?_)
  refine p_istore (lv' := [(4, .int (zi r1)), (0, .ref a), (1, .int (zi p1)), (2, .int (zi p2)), (3, .int (zi p3))]) dX2_occur_5 (by decide) rfl ?_
  refine p_aload_n dX2_occur_7 rfl (q := 1) rfl ?_
  refine p_getR (b := (a + 12)) G f_RX2_28 rfl (hS 0 (by decide)).1 ((hS 0 (by decide)).2.2 4 (by decide)) dX2_occur_8 ?_
  refine p_getR (b := (a + 13)) G f_RX2_121 rfl (hS 12 (by decide)).1 ((hS 12 (by decide)).2.2 1 (by decide)) dX2_occur_11 ?_
  refine p_iload dX2_occur_14 (q := 0) rfl ?_
  refine p_dup2 dX2_occur_16 rfl rfl ?_
  have g5 := h.1
  have h := h.2
  refine p_iald G (hS 13 (by decide)).1 (nf_r c3) g5.1 (zln_lt (hS 13 (by decide)).2.1 g5.2) dX2_occur_17 (fun c4 => ?_)
  refine p_iconst dX2_occur_18 ?_
  refine p_iadd dX2_occur_19 ?_
  refine p_iast G (hS 13 (by decide)).1 (nf_r c3) g5.1 (zln_lt (hS 13 (by decide)).2.1 g5.2) (nf_w _) dX2_occur_20 ?_
  refine p_gen (fun im6 e7 => ?_)
  have h := h im6 e7
  refine p_aload_n dX2_occur_21 rfl (q := 1) rfl ?_
  refine p_getR (b := (a + 12)) G f_RX2_28 rfl (hS 0 (by decide)).1 ((hS 0 (by decide)).2.2 4 (by decide)) dX2_occur_22 ?_
  refine p_getR (b := (a + 13)) G f_RX2_121 rfl (hS 12 (by decide)).1 ((hS 12 (by decide)).2.2 1 (by decide)) dX2_occur_25 ?_
  refine p_iload dX2_occur_28 (q := 0) rfl ?_
  refine p_iald G (hS 13 (by decide)).1 (nf_r c3) g5.1 (zln_lt (hS 13 (by decide)).2.1 g5.2) dX2_occur_30 (fun c8 => ?_)
  refine p_aload_n dX2_occur_31 rfl (q := 1) rfl ?_
  refine p_getR (b := (a + 3)) G f_RX2_21 rfl (hS 0 (by decide)).1 ((hS 0 (by decide)).2.2 3 (by decide)) dX2_occur_32 ?_
  refine p_getR (b := (a + 10)) G f_RX2_124 rfl (hS 3 (by decide)).1 ((hS 3 (by decide)).2.2 9 (by decide)) dX2_occur_35 ?_
  refine p_iload dX2_occur_38 (q := 0) rfl ?_
  have g10 := h.1
  have h := h.2
  refine p_iald G (hS 10 (by decide)).1 (nf_r c3) g10.1 (zln_lt (hS 10 (by decide)).2.1 g10.2) dX2_occur_40 (fun c9 => ?_)
  refine p_SI G k_RX2_127 rfl rfl (Nat.le_of_ble_eq_true rfl) ⟨by decide, by decide⟩ ⟨by decide, by decide⟩ dX2_occur_41 h (fun r11 im12 c13 h => ?_)
  refine p_istore (lv' := [(5, .int (zi r11)), (4, .int (zi r1)), (0, .ref a), (1, .int (zi p1)), (2, .int (zi p2)), (3, .int (zi p3))]) dX2_occur_44 (by decide) rfl ?_
  refine p_aload_n dX2_occur_46 rfl (q := 2) rfl ?_
  refine p_getR (b := (a + 2)) G f_RX2_15 rfl (hS 0 (by decide)).1 ((hS 0 (by decide)).2.2 2 (by decide)) dX2_occur_47 ?_
  refine p_iload dX2_occur_50 (q := 1) rfl ?_
  have g15 := h.1
  have h := h.2
  refine p_iald G (hS 2 (by decide)).1 (nf_r c3) g15.1 (zln_lt (hS 2 (by decide)).2.1 g15.2) dX2_occur_52 (fun c14 => ?_)
  refine p_if_le (tgt := 60) dX2_occur_53 (by decide) (nf_r c14) (fun b16 => ?_) (fun b16 => ?_)
  · have h := h.1 b16
    refine p_iconst dX2_occur_60 ?_
    refine p_istore (lv' := [(6, .int (zi 0)), (5, .int (zi r11)), (4, .int (zi r1)), (0, .ref a), (1, .int (zi p1)), (2, .int (zi p2)), (3, .int (zi p3))]) dX2_occur_61 (by decide) rfl ?_
    refine p_iload_n dX2_occur_63 rfl (q := 4) rfl ?_
    refine p_istore (lv' := [(7, .int (zi p1)), (6, .int (zi 0)), (5, .int (zi r11)), (4, .int (zi r1)), (0, .ref a), (1, .int (zi p1)), (2, .int (zi p2)), (3, .int (zi p3))]) dX2_occur_64 (by decide) rfl ?_
    refine p_iload dX2_occur_66 (q := 1) rfl ?_
    refine p_if_eq (tgt := 99) dX2_occur_68 (by decide) (nf_k (by decide)) (fun _ => ?_) (fun h9 => absurd h9 (by decide))
    refine p_aload_n dX2_occur_99 rfl (q := 4) rfl ?_
    refine p_getR (b := (a + 35)) G f_RX2_49 rfl (hS 0 (by decide)).1 ((hS 0 (by decide)).2.2 8 (by decide)) dX2_occur_100 ?_
    refine p_iload_n dX2_occur_103 rfl (q := 5) rfl ?_
    refine p_iload_n dX2_occur_104 rfl (q := 6) rfl ?_
    refine p_iload_n dX2_occur_105 rfl (q := 7) rfl ?_
    refine p_aload_n dX2_occur_106 rfl (q := 4) rfl ?_
    refine p_getI (j := 0) G f_RX2_59 rfl (hS 0 (by decide)).1 dX2_occur_107 (fun c16 => ?_)
    refine p_VV G k_RX2_134 (by decide) (hS 35 (by decide)).1 rfl rfl (Nat.le_of_ble_eq_true rfl) ⟨by decide, by decide⟩ ⟨by decide, by decide⟩ dX2_occur_110 h (fun im17 h => ?_)
    refine p_aload_n dX2_occur_113 rfl (q := 4) rfl ?_
    refine p_iload_n dX2_occur_114 rfl (q := 5) rfl ?_
    refine p_iload_n dX2_occur_115 rfl (q := 6) rfl ?_
    refine p_VI G k_RX2_138 (by decide) (hS 0 (by decide)).1 rfl rfl (Nat.le_of_ble_eq_true rfl) ⟨by decide, by decide⟩ ⟨by decide, by decide⟩ dX2_occur_116 h (fun r19 im20 c21 h => ?_)
    refine p_istore (lv' := [(8, .int (zi r19)), (7, .int (zi p1)), (6, .int (zi 0)), (5, .int (zi r11)), (4, .int (zi r1)), (0, .ref a), (1, .int (zi p1)), (2, .int (zi p2)), (3, .int (zi p3))]) dX2_occur_119 (by decide) rfl ?_
    refine p_iload dX2_occur_121 (q := 0) rfl ?_
    refine p_iconst dX2_occur_123 ?_
    refine p_icmp_eq (tgt := 139) dX2_occur_124 (by decide) (nf_r c21) (nf_k (by decide)) (fun b22 => ?_) (fun b22 => ?_)
    · have h := h.1 b22
      refine p_iload dX2_occur_139 (q := 3) rfl ?_
      refine p_if_eq (tgt := 183) dX2_occur_141 (by decide) (nf_r c13) (fun b22 => ?_) (fun b22 => ?_)
      · have h := h.1 b22
        refine p_aload_n dX2_occur_183 rfl (q := 5) rfl ?_
        refine p_getR (b := (a + 18)) G f_RX2_35 rfl (hS 0 (by decide)).1 ((hS 0 (by decide)).2.2 5 (by decide)) dX2_occur_184 ?_
        refine p_aload_n dX2_occur_187 rfl (q := 5) rfl ?_
        refine p_getI (j := 0) G f_RX2_59 rfl (hS 0 (by decide)).1 dX2_occur_188 (fun c22 => ?_)
        refine p_aload_n dX2_occur_191 rfl (q := 5) rfl ?_
        refine p_getR (b := (a + 3)) G f_RX2_21 rfl (hS 0 (by decide)).1 ((hS 0 (by decide)).2.2 3 (by decide)) dX2_occur_192 ?_
        refine p_getR (b := (a + 7)) G f_RX2_154 rfl (hS 3 (by decide)).1 ((hS 3 (by decide)).2.2 6 (by decide)) dX2_occur_195 ?_
        refine p_iload_n dX2_occur_198 rfl (q := 6) rfl ?_
        have g24 := h.1
        have h := h.2
        refine p_iald G (hS 7 (by decide)).1 (nf_r c_p1) g24.1 (zln_lt (hS 7 (by decide)).2.1 g24.2) dX2_occur_199 (fun c23 => ?_)
        refine p_iadd dX2_occur_200 ?_
        refine p_iconst dX2_occur_201 ?_
        refine p_iload_n dX2_occur_202 rfl (q := 7) rfl ?_
        refine p_iconst dX2_occur_203 ?_
        refine p_iconst dX2_occur_204 ?_
        refine p_iconst dX2_occur_205 ?_
        refine p_VV G k_RX2_151 (by decide) (hS 18 (by decide)).1 rfl (by simp only [zi_zw]; rfl) (Nat.le_of_ble_eq_true rfl) ⟨by decide, by decide⟩ ⟨by decide, by decide⟩ dX2_occur_206 h (fun im25 h => ?_)
        refine p_aload_n dX2_occur_209 rfl (q := 5) rfl ?_
        refine p_iload dX2_occur_210 (q := 1) rfl ?_
        refine p_iload_n dX2_occur_212 rfl (q := 7) rfl ?_
        refine p_iload_n dX2_occur_213 rfl (q := 8) rfl ?_
        refine p_VV G k_RX2_157 (by decide) (hS 0 (by decide)).1 rfl rfl (Nat.le_of_ble_eq_true rfl) ⟨by decide, by decide⟩ ⟨by decide, by decide⟩ dX2_occur_214 h (fun im27 h => ?_)
        refine p_iload dX2_occur_217 (q := 2) rfl ?_
        exact p_zretI (by decide) (by decide) rfl (nf_k (by decide)) (by decide) dX2_occur_219 h
      · have h := h.2 b22
        refine p_aload_n dX2_occur_144 rfl (q := 5) rfl ?_
        refine p_getR (b := (a + 18)) G f_RX2_35 rfl (hS 0 (by decide)).1 ((hS 0 (by decide)).2.2 5 (by decide)) dX2_occur_145 ?_
        refine p_aload_n dX2_occur_148 rfl (q := 5) rfl ?_
        refine p_getI (j := 0) G f_RX2_59 rfl (hS 0 (by decide)).1 dX2_occur_149 (fun c22 => ?_)
        refine p_aload_n dX2_occur_152 rfl (q := 5) rfl ?_
        refine p_getR (b := (a + 3)) G f_RX2_21 rfl (hS 0 (by decide)).1 ((hS 0 (by decide)).2.2 3 (by decide)) dX2_occur_153 ?_
        refine p_getR (b := (a + 6)) G f_RX2_145 rfl (hS 3 (by decide)).1 ((hS 3 (by decide)).2.2 5 (by decide)) dX2_occur_156 ?_
        refine p_iload_n dX2_occur_159 rfl (q := 7) rfl ?_
        have g24 := h.1
        have h := h.2
        refine p_iald G (hS 6 (by decide)).1 (nf_r c_p2) g24.1 (zln_lt (hS 6 (by decide)).2.1 g24.2) dX2_occur_160 (fun c23 => ?_)
        refine p_iadd dX2_occur_161 ?_
        refine p_iconst dX2_occur_162 ?_
        refine p_iload_n dX2_occur_163 rfl (q := 7) rfl ?_
        refine p_iload_n dX2_occur_164 rfl (q := 6) rfl ?_
        refine p_iload dX2_occur_165 (q := 1) rfl ?_
        refine p_aload_n dX2_occur_167 rfl (q := 5) rfl ?_
        refine p_getR (b := (a + 3)) G f_RX2_21 rfl (hS 0 (by decide)).1 ((hS 0 (by decide)).2.2 3 (by decide)) dX2_occur_168 ?_
        refine p_iload_n dX2_occur_171 rfl (q := 6) rfl ?_
        refine p_iload dX2_occur_172 (q := 1) rfl ?_
        refine p_VI G k_RX2_148 (by decide) (hS 3 (by decide)).1 rfl rfl (Nat.le_of_ble_eq_true rfl) ⟨by decide, by decide⟩ ⟨by decide, by decide⟩ dX2_occur_174 h (fun r25 im26 c27 h => ?_)
        refine p_VV G k_RX2_151 (by decide) (hS 18 (by decide)).1 rfl (by simp only [zi_zw]; rfl) (Nat.le_of_ble_eq_true rfl) ⟨by decide, by decide⟩ ⟨by decide, by decide⟩ dX2_occur_177 h (fun im28 h => ?_)
        refine p_goto (tgt := 217) dX2_occur_180 (by decide) ?_
        refine p_iload dX2_occur_217 (q := 2) rfl ?_
        exact p_zretI (by decide) (by decide) rfl (nf_k (by decide)) (by decide) dX2_occur_219 h
    · have h := h.2 b22
      refine p_aload_n dX2_occur_127 rfl (q := 5) rfl ?_
      refine p_iload dX2_occur_128 (q := 0) rfl ?_
      refine p_iload_n dX2_occur_130 rfl (q := 6) rfl ?_
      refine p_iload_n dX2_occur_131 rfl (q := 7) rfl ?_
      refine p_VV G k_RX2_141 (by decide) (hS 0 (by decide)).1 rfl rfl (Nat.le_of_ble_eq_true rfl) ⟨by decide, by decide⟩ ⟨by decide, by decide⟩ dX2_occur_132 h (fun im22 h => ?_)
      refine p_iload dX2_occur_135 (q := 0) rfl ?_
      refine p_istore (lv' := [(7, .int (zi r19)), (8, .int (zi r19)), (6, .int (zi 0)), (5, .int (zi r11)), (4, .int (zi r1)), (0, .ref a), (1, .int (zi p1)), (2, .int (zi p2)), (3, .int (zi p3))]) dX2_occur_137 (by decide) rfl ?_
      refine p_iload dX2_occur_139 (q := 3) rfl ?_
      refine p_if_eq (tgt := 183) dX2_occur_141 (by decide) (nf_r c13) (fun b24 => ?_) (fun b24 => ?_)
      · have h := h.1 b24
        refine p_aload_n dX2_occur_183 rfl (q := 5) rfl ?_
        refine p_getR (b := (a + 18)) G f_RX2_35 rfl (hS 0 (by decide)).1 ((hS 0 (by decide)).2.2 5 (by decide)) dX2_occur_184 ?_
        refine p_aload_n dX2_occur_187 rfl (q := 5) rfl ?_
        refine p_getI (j := 0) G f_RX2_59 rfl (hS 0 (by decide)).1 dX2_occur_188 (fun c24 => ?_)
        refine p_aload_n dX2_occur_191 rfl (q := 5) rfl ?_
        refine p_getR (b := (a + 3)) G f_RX2_21 rfl (hS 0 (by decide)).1 ((hS 0 (by decide)).2.2 3 (by decide)) dX2_occur_192 ?_
        refine p_getR (b := (a + 7)) G f_RX2_154 rfl (hS 3 (by decide)).1 ((hS 3 (by decide)).2.2 6 (by decide)) dX2_occur_195 ?_
        refine p_iload_n dX2_occur_198 rfl (q := 6) rfl ?_
        have g26 := h.1
        have h := h.2
        refine p_iald G (hS 7 (by decide)).1 (nf_r c_p1) g26.1 (zln_lt (hS 7 (by decide)).2.1 g26.2) dX2_occur_199 (fun c25 => ?_)
        refine p_iadd dX2_occur_200 ?_
        refine p_iconst dX2_occur_201 ?_
        refine p_iload_n dX2_occur_202 rfl (q := 7) rfl ?_
        refine p_iconst dX2_occur_203 ?_
        refine p_iconst dX2_occur_204 ?_
        refine p_iconst dX2_occur_205 ?_
        refine p_VV G k_RX2_151 (by decide) (hS 18 (by decide)).1 rfl (by simp only [zi_zw]; rfl) (Nat.le_of_ble_eq_true rfl) ⟨by decide, by decide⟩ ⟨by decide, by decide⟩ dX2_occur_206 h (fun im27 h => ?_)
        refine p_aload_n dX2_occur_209 rfl (q := 5) rfl ?_
        refine p_iload dX2_occur_210 (q := 0) rfl ?_
        refine p_iload_n dX2_occur_212 rfl (q := 7) rfl ?_
        refine p_iload_n dX2_occur_213 rfl (q := 8) rfl ?_
        refine p_VV G k_RX2_157 (by decide) (hS 0 (by decide)).1 rfl rfl (Nat.le_of_ble_eq_true rfl) ⟨by decide, by decide⟩ ⟨by decide, by decide⟩ dX2_occur_214 h (fun im29 h => ?_)
        refine p_iload dX2_occur_217 (q := 2) rfl ?_
        exact p_zretI (by decide) (by decide) rfl (nf_k (by decide)) (by decide) dX2_occur_219 h
      · have h := h.2 b24
        refine p_aload_n dX2_occur_144 rfl (q := 5) rfl ?_
        refine p_getR (b := (a + 18)) G f_RX2_35 rfl (hS 0 (by decide)).1 ((hS 0 (by decide)).2.2 5 (by decide)) dX2_occur_145 ?_
        refine p_aload_n dX2_occur_148 rfl (q := 5) rfl ?_
        refine p_getI (j := 0) G f_RX2_59 rfl (hS 0 (by decide)).1 dX2_occur_149 (fun c24 => ?_)
        refine p_aload_n dX2_occur_152 rfl (q := 5) rfl ?_
        refine p_getR (b := (a + 3)) G f_RX2_21 rfl (hS 0 (by decide)).1 ((hS 0 (by decide)).2.2 3 (by decide)) dX2_occur_153 ?_
        refine p_getR (b := (a + 6)) G f_RX2_145 rfl (hS 3 (by decide)).1 ((hS 3 (by decide)).2.2 5 (by decide)) dX2_occur_156 ?_
        refine p_iload_n dX2_occur_159 rfl (q := 7) rfl ?_
        have g26 := h.1
        have h := h.2
        refine p_iald G (hS 6 (by decide)).1 (nf_r c_p2) g26.1 (zln_lt (hS 6 (by decide)).2.1 g26.2) dX2_occur_160 (fun c25 => ?_)
        refine p_iadd dX2_occur_161 ?_
        refine p_iconst dX2_occur_162 ?_
        refine p_iload_n dX2_occur_163 rfl (q := 7) rfl ?_
        refine p_iload_n dX2_occur_164 rfl (q := 6) rfl ?_
        refine p_iload dX2_occur_165 (q := 0) rfl ?_
        refine p_aload_n dX2_occur_167 rfl (q := 5) rfl ?_
        refine p_getR (b := (a + 3)) G f_RX2_21 rfl (hS 0 (by decide)).1 ((hS 0 (by decide)).2.2 3 (by decide)) dX2_occur_168 ?_
        refine p_iload_n dX2_occur_171 rfl (q := 6) rfl ?_
        refine p_iload dX2_occur_172 (q := 0) rfl ?_
        refine p_VI G k_RX2_148 (by decide) (hS 3 (by decide)).1 rfl rfl (Nat.le_of_ble_eq_true rfl) ⟨by decide, by decide⟩ ⟨by decide, by decide⟩ dX2_occur_174 h (fun r27 im28 c29 h => ?_)
        refine p_VV G k_RX2_151 (by decide) (hS 18 (by decide)).1 rfl (by simp only [zi_zw]; rfl) (Nat.le_of_ble_eq_true rfl) ⟨by decide, by decide⟩ ⟨by decide, by decide⟩ dX2_occur_177 h (fun im30 h => ?_)
        refine p_goto (tgt := 217) dX2_occur_180 (by decide) ?_
        refine p_iload dX2_occur_217 (q := 2) rfl ?_
        exact p_zretI (by decide) (by decide) rfl (nf_k (by decide)) (by decide) dX2_occur_219 h
  · have h := h.2 b16
    refine p_iconst dX2_occur_56 ?_
    refine p_goto (tgt := 61) dX2_occur_57 (by decide) ?_
    refine p_istore (lv' := [(6, .int (zi 1)), (5, .int (zi r11)), (4, .int (zi r1)), (0, .ref a), (1, .int (zi p1)), (2, .int (zi p2)), (3, .int (zi p3))]) dX2_occur_61 (by decide) rfl ?_
    refine p_iload_n dX2_occur_63 rfl (q := 4) rfl ?_
    refine p_istore (lv' := [(7, .int (zi p1)), (6, .int (zi 1)), (5, .int (zi r11)), (4, .int (zi r1)), (0, .ref a), (1, .int (zi p1)), (2, .int (zi p2)), (3, .int (zi p3))]) dX2_occur_64 (by decide) rfl ?_
    refine p_iload dX2_occur_66 (q := 1) rfl ?_
    refine p_if_eq (tgt := 99) dX2_occur_68 (by decide) (nf_k (by decide)) (fun h9 => absurd h9 (by decide)) (fun _ => ?_)
    refine p_aload_n dX2_occur_71 rfl (q := 4) rfl ?_
    refine p_getR (b := (a + 2)) G f_RX2_15 rfl (hS 0 (by decide)).1 ((hS 0 (by decide)).2.2 2 (by decide)) dX2_occur_72 ?_
    refine p_iload dX2_occur_75 (q := 3) rfl ?_
    refine p_dup2 dX2_occur_77 rfl rfl ?_
    refine p_iald G (hS 2 (by decide)).1 (nf_r c3) g15.1 (zln_lt (hS 2 (by decide)).2.1 g15.2) dX2_occur_78 (fun c16 => ?_)
    refine p_iconst dX2_occur_79 ?_
    refine p_isub dX2_occur_80 ?_
    refine p_iast G (hS 2 (by decide)).1 (nf_r c3) g15.1 (zln_lt (hS 2 (by decide)).2.1 g15.2) (nf_w _) dX2_occur_81 ?_
    refine p_gen (fun im17 e18 => ?_)
    have h := h im17 e18
    refine p_aload_n dX2_occur_82 rfl (q := 4) rfl ?_
    refine p_getR (b := (a + 12)) G f_RX2_28 rfl (hS 0 (by decide)).1 ((hS 0 (by decide)).2.2 4 (by decide)) dX2_occur_83 ?_
    refine p_getR (b := (a + 14)) G f_RX2_131 rfl (hS 12 (by decide)).1 ((hS 12 (by decide)).2.2 2 (by decide)) dX2_occur_86 ?_
    refine p_iload dX2_occur_89 (q := 3) rfl ?_
    refine p_dup2 dX2_occur_91 rfl rfl ?_
    have g20 := h.1
    have h := h.2
    refine p_iald G (hS 14 (by decide)).1 (nf_r c3) g20.1 (zln_lt (hS 14 (by decide)).2.1 g20.2) dX2_occur_92 (fun c19 => ?_)
    refine p_iconst dX2_occur_93 ?_
    refine p_iadd dX2_occur_94 ?_
    refine p_iast G (hS 14 (by decide)).1 (nf_r c3) g20.1 (zln_lt (hS 14 (by decide)).2.1 g20.2) (nf_w _) dX2_occur_95 ?_
    refine p_gen (fun im21 e22 => ?_)
    have h := h im21 e22
    refine p_goto (tgt := 139) dX2_occur_96 (by decide) ?_
    refine p_iload dX2_occur_139 (q := 2) rfl ?_
    refine p_if_eq (tgt := 183) dX2_occur_141 (by decide) (nf_r c13) (fun b23 => ?_) (fun b23 => ?_)
    · have h := h.1 b23
      refine p_aload_n dX2_occur_183 rfl (q := 4) rfl ?_
      refine p_getR (b := (a + 18)) G f_RX2_35 rfl (hS 0 (by decide)).1 ((hS 0 (by decide)).2.2 5 (by decide)) dX2_occur_184 ?_
      refine p_aload_n dX2_occur_187 rfl (q := 4) rfl ?_
      refine p_getI (j := 0) G f_RX2_59 rfl (hS 0 (by decide)).1 dX2_occur_188 (fun c23 => ?_)
      refine p_aload_n dX2_occur_191 rfl (q := 4) rfl ?_
      refine p_getR (b := (a + 3)) G f_RX2_21 rfl (hS 0 (by decide)).1 ((hS 0 (by decide)).2.2 3 (by decide)) dX2_occur_192 ?_
      refine p_getR (b := (a + 7)) G f_RX2_154 rfl (hS 3 (by decide)).1 ((hS 3 (by decide)).2.2 6 (by decide)) dX2_occur_195 ?_
      refine p_iload_n dX2_occur_198 rfl (q := 5) rfl ?_
      have g25 := h.1
      have h := h.2
      refine p_iald G (hS 7 (by decide)).1 (nf_r c_p1) g25.1 (zln_lt (hS 7 (by decide)).2.1 g25.2) dX2_occur_199 (fun c24 => ?_)
      refine p_iadd dX2_occur_200 ?_
      refine p_iconst dX2_occur_201 ?_
      refine p_iload_n dX2_occur_202 rfl (q := 6) rfl ?_
      refine p_iconst dX2_occur_203 ?_
      refine p_iconst dX2_occur_204 ?_
      refine p_iconst dX2_occur_205 ?_
      refine p_VV G k_RX2_151 (by decide) (hS 18 (by decide)).1 rfl (by simp only [zi_zw]; rfl) (Nat.le_of_ble_eq_true rfl) ⟨by decide, by decide⟩ ⟨by decide, by decide⟩ dX2_occur_206 h (fun im26 h => ?_)
      refine p_aload_n dX2_occur_209 rfl (q := 4) rfl ?_
      refine p_iload dX2_occur_210 (q := 0) rfl ?_
      refine p_iload_n dX2_occur_212 rfl (q := 6) rfl ?_
      refine p_iload_n dX2_occur_213 rfl (q := 7) rfl ?_
      refine p_VV G k_RX2_157 (by decide) (hS 0 (by decide)).1 rfl rfl (Nat.le_of_ble_eq_true rfl) ⟨by decide, by decide⟩ ⟨by decide, by decide⟩ dX2_occur_214 h (fun im28 h => ?_)
      refine p_iload dX2_occur_217 (q := 1) rfl ?_
      exact p_zretI (by decide) (by decide) rfl (nf_k (by decide)) (by decide) dX2_occur_219 h
    · have h := h.2 b23
      refine p_aload_n dX2_occur_144 rfl (q := 4) rfl ?_
      refine p_getR (b := (a + 18)) G f_RX2_35 rfl (hS 0 (by decide)).1 ((hS 0 (by decide)).2.2 5 (by decide)) dX2_occur_145 ?_
      refine p_aload_n dX2_occur_148 rfl (q := 4) rfl ?_
      refine p_getI (j := 0) G f_RX2_59 rfl (hS 0 (by decide)).1 dX2_occur_149 (fun c23 => ?_)
      refine p_aload_n dX2_occur_152 rfl (q := 4) rfl ?_
      refine p_getR (b := (a + 3)) G f_RX2_21 rfl (hS 0 (by decide)).1 ((hS 0 (by decide)).2.2 3 (by decide)) dX2_occur_153 ?_
      refine p_getR (b := (a + 6)) G f_RX2_145 rfl (hS 3 (by decide)).1 ((hS 3 (by decide)).2.2 5 (by decide)) dX2_occur_156 ?_
      refine p_iload_n dX2_occur_159 rfl (q := 6) rfl ?_
      have g25 := h.1
      have h := h.2
      refine p_iald G (hS 6 (by decide)).1 (nf_r c_p2) g25.1 (zln_lt (hS 6 (by decide)).2.1 g25.2) dX2_occur_160 (fun c24 => ?_)
      refine p_iadd dX2_occur_161 ?_
      refine p_iconst dX2_occur_162 ?_
      refine p_iload_n dX2_occur_163 rfl (q := 6) rfl ?_
      refine p_iload_n dX2_occur_164 rfl (q := 5) rfl ?_
      refine p_iload dX2_occur_165 (q := 0) rfl ?_
      refine p_aload_n dX2_occur_167 rfl (q := 4) rfl ?_
      refine p_getR (b := (a + 3)) G f_RX2_21 rfl (hS 0 (by decide)).1 ((hS 0 (by decide)).2.2 3 (by decide)) dX2_occur_168 ?_
      refine p_iload_n dX2_occur_171 rfl (q := 5) rfl ?_
      refine p_iload dX2_occur_172 (q := 0) rfl ?_
      refine p_VI G k_RX2_148 (by decide) (hS 3 (by decide)).1 rfl rfl (Nat.le_of_ble_eq_true rfl) ⟨by decide, by decide⟩ ⟨by decide, by decide⟩ dX2_occur_174 h (fun r26 im27 c28 h => ?_)
      refine p_VV G k_RX2_151 (by decide) (hS 18 (by decide)).1 rfl (by simp only [zi_zw]; rfl) (Nat.le_of_ble_eq_true rfl) ⟨by decide, by decide⟩ ⟨by decide, by decide⟩ dX2_occur_177 h (fun im29 h => ?_)
      refine p_goto (tgt := 217) dX2_occur_180 (by decide) ?_
      refine p_iload dX2_occur_217 (q := 1) rfl ?_
      exact p_zretI (by decide) (by decide) rfl (nf_k (by decide)) (by decide) dX2_occur_219 h
set_option maxRecDepth 20000 in
set_option maxHeartbeats 4000000 in
theorem v_X6_removeFirst {g : zG} (G : zOK g) {S : zSh} {im : zIm} {a : Nat} {Q : zIm → Prop} (hS : zS_U S a)
    (h : ((0 < (im a 0) → ∀ im3, im3 = zst im a 0 (zw ((im a 0) - 1)) → zPV g M_X6_removeFirst 20 [(0, .ref a), (1, .int (zi 0))] S im3 Q) ∧ ((im a 0) ≤ 0 → Q im))) :
    zCV g yX6_removeFirst M_X6_removeFirst [.ref a] S im Q := by
  refine zC_of (by decide) rfl rfl rfl rfl (Nat.le_of_ble_eq_true rfl) ?_
  refine p_aload_n dX6_removeFirst_0 rfl (q := 0) rfl ?_
  refine p_getI (j := 0) G f_RX6_30 rfl (hS 0 (by decide)).1 dX6_removeFirst_1 (fun c1 => ?_)
  refine p_if_gt (tgt := 8) dX6_removeFirst_4 (by decide) (nf_r c1) (fun b2 => ?_) (fun b2 => ?_)
  · have h := h.1 b2
    refine p_aload_n dX6_removeFirst_8 rfl (q := 0) rfl ?_
    refine p_dup dX6_removeFirst_9 rfl ?_
    refine p_getI (j := 0) G f_RX6_30 rfl (hS 0 (by decide)).1 dX6_removeFirst_10 (fun c2 => ?_)
    refine p_iconst dX6_removeFirst_13 ?_
    refine p_isub dX6_removeFirst_14 ?_
    refine p_putI (j := 0) G f_RX6_30 rfl rfl rfl (hS 0 (by decide)).1 (nf_w _) dX6_removeFirst_15 ?_
    refine p_gen (fun im3 e4 => ?_)
    have h := h im3 e4
    refine p_iconst dX6_removeFirst_18 ?_
    refine p_istore_n (lv' := [(1, .int (zi 0)), (0, .ref a)]) dX6_removeFirst_19 rfl (by decide) rfl ?_
    refine p_sub (lv' := [(0, .ref a), (1, .int (zi 0))]) [1, 0] rfl ?_
    exact h
  · have h := h.2 b2
    exact p_retV (by decide) (by decide) rfl dX6_removeFirst_7 h
set_option maxRecDepth 20000 in
set_option maxHeartbeats 4000000 in
theorem v_X6_removeFirst_20 {g : zG} (G : zOK g) {S : zSh} {im : zIm} {a : Nat} {x1 : Int} {Q : zIm → Prop} (hS : zS_U S a) (c_x1 : zc x1)
    (h : (((im a 0) ≤ x1 → Q im) ∧ (x1 < (im a 0) → zCV g yX6_move M_X6_move [.ref a, .int (zi (zw (x1 + 1))), .int (zi x1)] S im (fun im2 => zPV g M_X6_removeFirst 20 [(0, .ref a), (1, .int (zi (zw (x1 + 1))))] S im2 Q)))) :
    zPV g M_X6_removeFirst 20 [(0, .ref a), (1, .int (zi x1))] S im Q := by
  refine p_iload_n dX6_removeFirst_20 rfl (q := 1) rfl ?_
  refine p_aload_n dX6_removeFirst_21 rfl (q := 0) rfl ?_
  refine p_getI (j := 0) G f_RX6_30 rfl (hS 0 (by decide)).1 dX6_removeFirst_22 (fun c1 => ?_)
  refine p_icmp_ge (tgt := 42) dX6_removeFirst_25 (by decide) (nf_r c_x1) (nf_r c1) (fun b2 => ?_) (fun b2 => ?_)
  · have h := h.1 b2
    exact p_retV (by decide) (by decide) rfl dX6_removeFirst_42 h
  · have h := h.2 b2
    refine p_aload_n dX6_removeFirst_28 rfl (q := 0) rfl ?_
    refine p_iload_n dX6_removeFirst_29 rfl (q := 1) rfl ?_
    refine p_iconst dX6_removeFirst_30 ?_
    refine p_iadd dX6_removeFirst_31 ?_
    refine p_iload_n dX6_removeFirst_32 rfl (q := 1) rfl ?_
    refine p_VV G k_RX6_38 (by decide) (hS 0 (by decide)).1 rfl (by simp only [zi_zw]; rfl) (Nat.le_of_ble_eq_true rfl) ⟨by decide, by decide⟩ ⟨by decide, by decide⟩ dX6_removeFirst_33 h (fun im2 h => ?_)
    refine p_iinc (q := 1) (lv' := [(1, .int (zi (x1 + 1))), (0, .ref a)]) dX6_removeFirst_36 rfl (by decide) rfl ?_
    refine p_goto (tgt := 20) dX6_removeFirst_39 (by decide) ?_
    refine p_sub (lv' := [(0, .ref a), (1, .int (zi (zw (x1 + 1))))]) [1, 0] (by simp only [zi_zw, zl_zwl]; rfl) ?_
    exact h
set_option maxRecDepth 20000 in
set_option maxHeartbeats 4000000 in
theorem v_X6_countDepotRepairs {g : zG} (G : zOK g) {S : zSh} {im : zIm} {a : Nat} {p1 : Int} {Q : Int → zIm → Prop} (hS : zS_U S a) (c_p1 : zc p1)
    (h : zPI g M_X6_countDepotRepairs 4 [(0, .ref a), (1, .int (zi p1)), (2, .int (zi 0)), (3, .int (zi 0))] S im Q) :
    zCI g yX6_countDepotRepairs M_X6_countDepotRepairs [.ref a, .int (zi p1)] S im Q := by
  refine zC_of (by decide) rfl rfl rfl rfl (Nat.le_of_ble_eq_true rfl) ?_
  refine p_iconst dX6_countDepotRepairs_0 ?_
  refine p_istore_n (lv' := [(2, .int (zi 0)), (0, .ref a), (1, .int (zi p1))]) dX6_countDepotRepairs_1 rfl (by decide) rfl ?_
  refine p_iconst dX6_countDepotRepairs_2 ?_
  refine p_istore_n (lv' := [(3, .int (zi 0)), (2, .int (zi 0)), (0, .ref a), (1, .int (zi p1))]) dX6_countDepotRepairs_3 rfl (by decide) rfl ?_
  refine p_sub (lv' := [(0, .ref a), (1, .int (zi p1)), (2, .int (zi 0)), (3, .int (zi 0))]) [2, 3, 1, 0] rfl ?_
  exact h
set_option maxRecDepth 20000 in
set_option maxHeartbeats 4000000 in
theorem v_X6_countDepotRepairs_4 {g : zG} (G : zOK g) {S : zSh} {im : zIm} {a : Nat} {x1 : Int} {x2 : Int} {x3 : Int} {Q : Int → zIm → Prop} (hS : zS_U S a) (c_x1 : zc x1) (c_x2 : zc x2) (c_x3 : zc x3)
    (h : (((im a 0) ≤ x3 → Q x2 im) ∧ (x3 < (im a 0) → ((0 ≤ x3 ∧ x3 < 300) ∧ ((¬ (im (a + 2) x3) = 1 → zPI g M_X6_countDepotRepairs 4 [(0, .ref a), (1, .int (zi x1)), (2, .int (zi x2)), (3, .int (zi (zw (x3 + 1))))] S im Q) ∧ ((im (a + 2) x3) = 1 → ((0 ≤ x3 ∧ x3 < 300) ∧ ((¬ (im (a + 4) x3) = 0 → zPI g M_X6_countDepotRepairs 4 [(0, .ref a), (1, .int (zi x1)), (2, .int (zi x2)), (3, .int (zi (zw (x3 + 1))))] S im Q) ∧ ((im (a + 4) x3) = 0 → ((0 ≤ x3 ∧ x3 < 300) ∧ ((¬ (im (a + 3) x3) = x1 → zPI g M_X6_countDepotRepairs 4 [(0, .ref a), (1, .int (zi x1)), (2, .int (zi x2)), (3, .int (zi (zw (x3 + 1))))] S im Q) ∧ ((im (a + 3) x3) = x1 → zPI g M_X6_countDepotRepairs 4 [(0, .ref a), (1, .int (zi x1)), (2, .int (zi (zw (x2 + 1)))), (3, .int (zi (zw (x3 + 1))))] S im Q)))))))))))) :
    zPI g M_X6_countDepotRepairs 4 [(0, .ref a), (1, .int (zi x1)), (2, .int (zi x2)), (3, .int (zi x3))] S im Q := by
  refine p_iload_n dX6_countDepotRepairs_4 rfl (q := 3) rfl ?_
  refine p_aload_n dX6_countDepotRepairs_5 rfl (q := 0) rfl ?_
  refine p_getI (j := 0) G f_RX6_30 rfl (hS 0 (by decide)).1 dX6_countDepotRepairs_6 (fun c1 => ?_)
  refine p_icmp_ge (tgt := 50) dX6_countDepotRepairs_9 (by decide) (nf_r c_x3) (nf_r c1) (fun b2 => ?_) (fun b2 => ?_)
  · have h := h.1 b2
    refine p_iload_n dX6_countDepotRepairs_50 rfl (q := 2) rfl ?_
    exact p_iretI (by decide) (by decide) rfl (nf_r c_x2) dX6_countDepotRepairs_51 h
  · have h := h.2 b2
    refine p_aload_n dX6_countDepotRepairs_12 rfl (q := 0) rfl ?_
    refine p_getR (b := (a + 2)) G f_RX6_15 rfl (hS 0 (by decide)).1 ((hS 0 (by decide)).2.2 2 (by decide)) dX6_countDepotRepairs_13 ?_
    refine p_iload_n dX6_countDepotRepairs_16 rfl (q := 3) rfl ?_
    have g3 := h.1
    have h := h.2
    refine p_iald G (hS 2 (by decide)).1 (nf_r c_x3) g3.1 (zln_lt (hS 2 (by decide)).2.1 g3.2) dX6_countDepotRepairs_17 (fun c2 => ?_)
    refine p_iconst dX6_countDepotRepairs_18 ?_
    refine p_icmp_ne (tgt := 44) dX6_countDepotRepairs_19 (by decide) (nf_r c2) (nf_k (by decide)) (fun b4 => ?_) (fun b4 => ?_)
    · have h := h.1 b4
      refine p_iinc (q := 3) (lv' := [(3, .int (zi (x3 + 1))), (0, .ref a), (1, .int (zi x1)), (2, .int (zi x2))]) dX6_countDepotRepairs_44 rfl (by decide) rfl ?_
      refine p_goto (tgt := 4) dX6_countDepotRepairs_47 (by decide) ?_
      refine p_sub (lv' := [(0, .ref a), (1, .int (zi x1)), (2, .int (zi x2)), (3, .int (zi (zw (x3 + 1))))]) [1, 2, 3, 0] (by simp only [zi_zw, zl_zwl]; rfl) ?_
      exact h
    · have h := h.2 b4
      refine p_aload_n dX6_countDepotRepairs_22 rfl (q := 0) rfl ?_
      refine p_getR (b := (a + 4)) G f_RX6_21 rfl (hS 0 (by decide)).1 ((hS 0 (by decide)).2.2 4 (by decide)) dX6_countDepotRepairs_23 ?_
      refine p_iload_n dX6_countDepotRepairs_26 rfl (q := 3) rfl ?_
      have g5 := h.1
      have h := h.2
      refine p_iald G (hS 4 (by decide)).1 (nf_r c_x3) g5.1 (zln_lt (hS 4 (by decide)).2.1 g5.2) dX6_countDepotRepairs_27 (fun c4 => ?_)
      refine p_if_ne (tgt := 44) dX6_countDepotRepairs_28 (by decide) (nf_r c4) (fun b6 => ?_) (fun b6 => ?_)
      · have h := h.1 b6
        refine p_iinc (q := 3) (lv' := [(3, .int (zi (x3 + 1))), (0, .ref a), (1, .int (zi x1)), (2, .int (zi x2))]) dX6_countDepotRepairs_44 rfl (by decide) rfl ?_
        refine p_goto (tgt := 4) dX6_countDepotRepairs_47 (by decide) ?_
        refine p_sub (lv' := [(0, .ref a), (1, .int (zi x1)), (2, .int (zi x2)), (3, .int (zi (zw (x3 + 1))))]) [1, 2, 3, 0] (by simp only [zi_zw, zl_zwl]; rfl) ?_
        exact h
      · have h := h.2 b6
        refine p_aload_n dX6_countDepotRepairs_31 rfl (q := 0) rfl ?_
        refine p_getR (b := (a + 3)) G f_RX6_18 rfl (hS 0 (by decide)).1 ((hS 0 (by decide)).2.2 3 (by decide)) dX6_countDepotRepairs_32 ?_
        refine p_iload_n dX6_countDepotRepairs_35 rfl (q := 3) rfl ?_
        have g7 := h.1
        have h := h.2
        refine p_iald G (hS 3 (by decide)).1 (nf_r c_x3) g7.1 (zln_lt (hS 3 (by decide)).2.1 g7.2) dX6_countDepotRepairs_36 (fun c6 => ?_)
        refine p_iload_n dX6_countDepotRepairs_37 rfl (q := 1) rfl ?_
        refine p_icmp_ne (tgt := 44) dX6_countDepotRepairs_38 (by decide) (nf_r c6) (nf_r c_x1) (fun b8 => ?_) (fun b8 => ?_)
        · have h := h.1 b8
          refine p_iinc (q := 3) (lv' := [(3, .int (zi (x3 + 1))), (0, .ref a), (1, .int (zi x1)), (2, .int (zi x2))]) dX6_countDepotRepairs_44 rfl (by decide) rfl ?_
          refine p_goto (tgt := 4) dX6_countDepotRepairs_47 (by decide) ?_
          refine p_sub (lv' := [(0, .ref a), (1, .int (zi x1)), (2, .int (zi x2)), (3, .int (zi (zw (x3 + 1))))]) [1, 2, 3, 0] (by simp only [zi_zw, zl_zwl]; rfl) ?_
          exact h
        · have h := h.2 b8
          refine p_iinc (q := 2) (lv' := [(2, .int (zi (x2 + 1))), (0, .ref a), (1, .int (zi x1)), (3, .int (zi x3))]) dX6_countDepotRepairs_41 rfl (by decide) rfl ?_
          refine p_iinc (q := 3) (lv' := [(3, .int (zi (x3 + 1))), (2, .int (zi (x2 + 1))), (0, .ref a), (1, .int (zi x1))]) dX6_countDepotRepairs_44 rfl (by decide) rfl ?_
          refine p_goto (tgt := 4) dX6_countDepotRepairs_47 (by decide) ?_
          refine p_sub (lv' := [(0, .ref a), (1, .int (zi x1)), (2, .int (zi (zw (x2 + 1)))), (3, .int (zi (zw (x3 + 1))))]) [2, 3, 1, 0] (by simp only [zi_zw, zl_zwl]; rfl) ?_
          exact h
set_option maxRecDepth 20000 in
set_option maxHeartbeats 4000000 in
theorem v_X2_endReturn {g : zG} (G : zOK g) {S : zSh} {im : zIm} {a : Nat} {p1 : Int} {Q : zIm → Prop} (hS : zS_N S a) (c_p1 : zc p1)
    (h : zCI g yX6_countDepotRepairs M_X6_countDepotRepairs [.ref (a + 18), .int (zi p1)] S im (fun r1 im2 => ((0 ≤ p1 ∧ p1 < 4) ∧ (((im2 (a + 5) p1) ≤ r1 → zCV g yX3_add M_X3_add [.ref (a + 25), .int (zi 0), .int (zi p1), .int (zi 0), .int (zi (im2 a 0))] S im2 (fun im7 => Q im7)) ∧ (r1 < (im2 (a + 5) p1) → ((0 ≤ p1 ∧ p1 < 4) ∧ zCV g yX6_add M_X6_add [.ref (a + 18), .int (zi (zw ((im2 a 0) + (im2 (a + 4) p1)))), .int (zi 1), .int (zi p1), .int (zi 0), .int (zi 0), .int (zi 0)] S im2 (fun im9 => Q im9))))))) :
    zCV g yX2_endReturn M_X2_endReturn [.ref a, .int (zi p1)] S im Q := by
  refine zC_of (by decide) rfl rfl rfl rfl (Nat.le_of_ble_eq_true rfl) ?_
  refine p_aload_n dX2_endReturn_0 rfl (q := 0) rfl ?_
  refine p_getR (b := (a + 18)) G f_RX2_35 rfl (hS 0 (by decide)).1 ((hS 0 (by decide)).2.2 5 (by decide)) dX2_endReturn_1 ?_
  refine p_iload_n dX2_endReturn_4 rfl (q := 1) rfl ?_
  refine p_VI G k_RX2_223 (by decide) (hS 18 (by decide)).1 rfl rfl (Nat.le_of_ble_eq_true rfl) ⟨by decide, by decide⟩ ⟨by decide, by decide⟩ dX2_endReturn_5 h (fun r1 im2 c3 h => ?_)
  refine p_aload_n dX2_endReturn_8 rfl (q := 0) rfl ?_
  refine p_getR (b := (a + 3)) G f_RX2_21 rfl (hS 0 (by decide)).1 ((hS 0 (by decide)).2.2 3 (by decide)) dX2_endReturn_9 ?_
  refine p_getR (b := (a + 5)) G f_RX2_227 rfl (hS 3 (by decide)).1 ((hS 3 (by decide)).2.2 4 (by decide)) dX2_endReturn_12 ?_
  refine p_iload_n dX2_endReturn_15 rfl (q := 1) rfl ?_
  have g5 := h.1
  have h := h.2
  refine p_iald G (hS 5 (by decide)).1 (nf_r c_p1) g5.1 (zln_lt (hS 5 (by decide)).2.1 g5.2) dX2_endReturn_16 (fun c4 => ?_)
  refine p_icmp_ge (tgt := 49) dX2_endReturn_17 (by decide) (nf_r c3) (nf_r c4) (fun b6 => ?_) (fun b6 => ?_)
  · have h := h.1 b6
    refine p_aload_n dX2_endReturn_49 rfl (q := 0) rfl ?_
    refine p_getR (b := (a + 25)) G f_RX2_42 rfl (hS 0 (by decide)).1 ((hS 0 (by decide)).2.2 6 (by decide)) dX2_endReturn_50 ?_
    refine p_iconst dX2_endReturn_53 ?_
    refine p_iload_n dX2_endReturn_54 rfl (q := 1) rfl ?_
    refine p_iconst dX2_endReturn_55 ?_
    refine p_aload_n dX2_endReturn_56 rfl (q := 0) rfl ?_
    refine p_getI (j := 0) G f_RX2_59 rfl (hS 0 (by decide)).1 dX2_endReturn_57 (fun c6 => ?_)
    refine p_VV G k_RX2_134 (by decide) (hS 25 (by decide)).1 rfl rfl (Nat.le_of_ble_eq_true rfl) ⟨by decide, by decide⟩ ⟨by decide, by decide⟩ dX2_endReturn_60 h (fun im7 h => ?_)
    exact p_retV (by decide) (by decide) rfl dX2_endReturn_63 h
  · have h := h.2 b6
    refine p_aload_n dX2_endReturn_20 rfl (q := 0) rfl ?_
    refine p_getR (b := (a + 18)) G f_RX2_35 rfl (hS 0 (by decide)).1 ((hS 0 (by decide)).2.2 5 (by decide)) dX2_endReturn_21 ?_
    refine p_aload_n dX2_endReturn_24 rfl (q := 0) rfl ?_
    refine p_getI (j := 0) G f_RX2_59 rfl (hS 0 (by decide)).1 dX2_endReturn_25 (fun c6 => ?_)
    refine p_aload_n dX2_endReturn_28 rfl (q := 0) rfl ?_
    refine p_getR (b := (a + 3)) G f_RX2_21 rfl (hS 0 (by decide)).1 ((hS 0 (by decide)).2.2 3 (by decide)) dX2_endReturn_29 ?_
    refine p_getR (b := (a + 4)) G f_RX2_230 rfl (hS 3 (by decide)).1 ((hS 3 (by decide)).2.2 3 (by decide)) dX2_endReturn_32 ?_
    refine p_iload_n dX2_endReturn_35 rfl (q := 1) rfl ?_
    have g8 := h.1
    have h := h.2
    refine p_iald G (hS 4 (by decide)).1 (nf_r c_p1) g8.1 (zln_lt (hS 4 (by decide)).2.1 g8.2) dX2_endReturn_36 (fun c7 => ?_)
    refine p_iadd dX2_endReturn_37 ?_
    refine p_iconst dX2_endReturn_38 ?_
    refine p_iload_n dX2_endReturn_39 rfl (q := 1) rfl ?_
    refine p_iconst dX2_endReturn_40 ?_
    refine p_iconst dX2_endReturn_41 ?_
    refine p_iconst dX2_endReturn_42 ?_
    refine p_VV G k_RX2_151 (by decide) (hS 18 (by decide)).1 rfl (by simp only [zi_zw]; rfl) (Nat.le_of_ble_eq_true rfl) ⟨by decide, by decide⟩ ⟨by decide, by decide⟩ dX2_endReturn_43 h (fun im9 h => ?_)
    refine p_goto (tgt := 63) dX2_endReturn_46 (by decide) ?_
    exact p_retV (by decide) (by decide) rfl dX2_endReturn_63 h
set_option maxRecDepth 20000 in
set_option maxHeartbeats 4000000 in
theorem v_X2_freePlace {g : zG} (G : zOK g) {S : zSh} {im : zIm} {a : Nat} {p1 : Int} {Q : zIm → Prop} (hS : zS_N S a) (c_p1 : zc p1)
    (h : zCI g yX3_firstOf M_X3_firstOf [.ref (a + 25), .int (zi 0), .int (zi p1)] S im (fun r1 im2 => ((r1 = (-1) → Q im2) ∧ (¬ r1 = (-1) → zCV g yX3_remove M_X3_remove [.ref (a + 25), .int (zi r1)] S im2 (fun im4 => ((0 ≤ p1 ∧ p1 < 4) ∧ zCV g yX6_add M_X6_add [.ref (a + 18), .int (zi (zw ((im4 a 0) + (im4 (a + 4) p1)))), .int (zi 1), .int (zi p1), .int (zi 0), .int (zi 0), .int (zi 0)] S im4 (fun im9 => Q im9))))))) :
    zCV g yX2_freePlace M_X2_freePlace [.ref a, .int (zi p1)] S im Q := by
  refine zC_of (by decide) rfl rfl rfl rfl (Nat.le_of_ble_eq_true rfl) ?_
  refine p_aload_n dX2_freePlace_0 rfl (q := 0) rfl ?_
  refine p_getR (b := (a + 25)) G f_RX2_42 rfl (hS 0 (by decide)).1 ((hS 0 (by decide)).2.2 6 (by decide)) dX2_freePlace_1 ?_
  refine p_iconst dX2_freePlace_4 ?_
  refine p_iload_n dX2_freePlace_5 rfl (q := 1) rfl ?_
  refine p_VI G k_RX2_177 (by decide) (hS 25 (by decide)).1 rfl rfl (Nat.le_of_ble_eq_true rfl) ⟨by decide, by decide⟩ ⟨by decide, by decide⟩ dX2_freePlace_6 h (fun r1 im2 c3 h => ?_)
  refine p_istore_n (lv' := [(2, .int (zi r1)), (0, .ref a), (1, .int (zi p1))]) dX2_freePlace_9 rfl (by decide) rfl ?_
  refine p_iload_n dX2_freePlace_10 rfl (q := 0) rfl ?_
  refine p_iconst dX2_freePlace_11 ?_
  refine p_icmp_eq (tgt := 49) dX2_freePlace_12 (by decide) (nf_r c3) (nf_k (by decide)) (fun b4 => ?_) (fun b4 => ?_)
  · have h := h.1 b4
    exact p_retV (by decide) (by decide) rfl dX2_freePlace_49 h
  · have h := h.2 b4
    refine p_aload_n dX2_freePlace_15 rfl (q := 1) rfl ?_
    refine p_getR (b := (a + 25)) G f_RX2_42 rfl (hS 0 (by decide)).1 ((hS 0 (by decide)).2.2 6 (by decide)) dX2_freePlace_16 ?_
    refine p_iload_n dX2_freePlace_19 rfl (q := 0) rfl ?_
    refine p_VV G k_RX2_183 (by decide) (hS 25 (by decide)).1 rfl rfl (Nat.le_of_ble_eq_true rfl) ⟨by decide, by decide⟩ ⟨by decide, by decide⟩ dX2_freePlace_20 h (fun im4 h => ?_)
    refine p_aload_n dX2_freePlace_23 rfl (q := 1) rfl ?_
    refine p_getR (b := (a + 18)) G f_RX2_35 rfl (hS 0 (by decide)).1 ((hS 0 (by decide)).2.2 5 (by decide)) dX2_freePlace_24 ?_
    refine p_aload_n dX2_freePlace_27 rfl (q := 1) rfl ?_
    refine p_getI (j := 0) G f_RX2_59 rfl (hS 0 (by decide)).1 dX2_freePlace_28 (fun c6 => ?_)
    refine p_aload_n dX2_freePlace_31 rfl (q := 1) rfl ?_
    refine p_getR (b := (a + 3)) G f_RX2_21 rfl (hS 0 (by decide)).1 ((hS 0 (by decide)).2.2 3 (by decide)) dX2_freePlace_32 ?_
    refine p_getR (b := (a + 4)) G f_RX2_230 rfl (hS 3 (by decide)).1 ((hS 3 (by decide)).2.2 3 (by decide)) dX2_freePlace_35 ?_
    refine p_iload_n dX2_freePlace_38 rfl (q := 2) rfl ?_
    have g8 := h.1
    have h := h.2
    refine p_iald G (hS 4 (by decide)).1 (nf_r c_p1) g8.1 (zln_lt (hS 4 (by decide)).2.1 g8.2) dX2_freePlace_39 (fun c7 => ?_)
    refine p_iadd dX2_freePlace_40 ?_
    refine p_iconst dX2_freePlace_41 ?_
    refine p_iload_n dX2_freePlace_42 rfl (q := 2) rfl ?_
    refine p_iconst dX2_freePlace_43 ?_
    refine p_iconst dX2_freePlace_44 ?_
    refine p_iconst dX2_freePlace_45 ?_
    refine p_VV G k_RX2_151 (by decide) (hS 18 (by decide)).1 rfl (by simp only [zi_zw]; rfl) (Nat.le_of_ble_eq_true rfl) ⟨by decide, by decide⟩ ⟨by decide, by decide⟩ dX2_freePlace_46 h (fun im9 h => ?_)
    exact p_retV (by decide) (by decide) rfl dX2_freePlace_49 h
set_option maxRecDepth 20000 in
set_option maxHeartbeats 4000000 in
theorem v_X2_treatFirst {g : zG} (G : zOK g) {S : zSh} {im : zIm} {a : Nat} {Q : zIm → Prop} (hS : zS_N S a)
    (h : zCV g yX6_removeFirst M_X6_removeFirst [.ref (a + 18)] S im (fun im6 => ((¬ (im (a + 20) 0) = 0 → ((¬ (im (a + 22) 0) = 0 → (((im (a + 22) 0) = (im (a + 23) 0) → zCV g yX2_stockBase M_X2_stockBase [.ref a, .int (zi (im (a + 23) 0)), .int (zi (im (a + 21) 0))] S im6 (fun im8 => Q im8)) ∧ (¬ (im (a + 22) 0) = (im (a + 23) 0) → zCI g yX4_linkTime M_X4_linkTime [.ref (a + 3), .int (zi (im (a + 22) 0)), .int (zi (im (a + 23) 0))] S im6 (fun r8 im9 => ((r8 ≤ 0 → zCV g yX6_add M_X6_add [.ref (a + 18), .int (zi (zw ((im9 a 0) + (im (a + 24) 0)))), .int (zi 3), .int (zi (im (a + 21) 0)), .int (zi (im (a + 23) 0)), .int (zi (im (a + 23) 0)), .int (zi 0)] S im9 (fun im12 => Q im12)) ∧ (0 < r8 → zCV g yX6_add M_X6_add [.ref (a + 18), .int (zi (zw ((im9 a 0) + r8))), .int (zi 3), .int (zi (im (a + 21) 0)), .int (zi (im (a + 23) 0)), .int (zi (im (a + 23) 0)), .int (zi 0)] S im9 (fun im12 => Q im12))))))) ∧ ((im (a + 22) 0) = 0 → zCV g yX2_freePlace M_X2_freePlace [.ref a, .int (zi (im (a + 21) 0))] S im6 (fun im8 => zCV g yX2_stockDepot M_X2_stockDepot [.ref a, .int (zi (im (a + 21) 0))] S im8 (fun im10 => Q im10))))) ∧ ((im (a + 20) 0) = 0 → zCV g yX2_endReturn M_X2_endReturn [.ref a, .int (zi (im (a + 21) 0))] S im6 (fun im8 => Q im8))))) :
    zCV g yX2_treatFirst M_X2_treatFirst [.ref a] S im Q := by
  refine zC_of (by decide) rfl rfl rfl rfl (Nat.le_of_ble_eq_true rfl) ?_
  refine p_aload_n dX2_treatFirst_0 rfl (q := 0) rfl ?_
  refine p_getR (b := (a + 18)) G f_RX2_35 rfl (hS 0 (by decide)).1 ((hS 0 (by decide)).2.2 5 (by decide)) dX2_treatFirst_1 ?_
  refine p_getR (b := (a + 20)) G f_RX2_203 rfl (hS 18 (by decide)).1 ((hS 18 (by decide)).2.2 2 (by decide)) dX2_treatFirst_4 ?_
  refine p_iconst dX2_treatFirst_7 ?_
  refine p_iald G (hS 20 (by decide)).1 (nf_k (by decide)) (by decide) (zln_lt (hS 20 (by decide)).2.1 (by decide)) dX2_treatFirst_8 (fun c1 => ?_)
  refine p_istore_n (lv' := [(1, .int (zi (im (a + 20) 0))), (0, .ref a)]) dX2_treatFirst_9 rfl (by decide) rfl ?_
  refine p_aload_n dX2_treatFirst_10 rfl (q := 1) rfl ?_
  refine p_getR (b := (a + 18)) G f_RX2_35 rfl (hS 0 (by decide)).1 ((hS 0 (by decide)).2.2 5 (by decide)) dX2_treatFirst_11 ?_
  refine p_getR (b := (a + 21)) G f_RX2_206 rfl (hS 18 (by decide)).1 ((hS 18 (by decide)).2.2 3 (by decide)) dX2_treatFirst_14 ?_
  refine p_iconst dX2_treatFirst_17 ?_
  refine p_iald G (hS 21 (by decide)).1 (nf_k (by decide)) (by decide) (zln_lt (hS 21 (by decide)).2.1 (by decide)) dX2_treatFirst_18 (fun c2 => ?_)
  refine p_istore_n (lv' := [(2, .int (zi (im (a + 21) 0))), (1, .int (zi (im (a + 20) 0))), (0, .ref a)]) dX2_treatFirst_19 rfl (by decide) rfl ?_
  refine p_aload_n dX2_treatFirst_20 rfl (q := 2) rfl ?_
  refine p_getR (b := (a + 18)) G f_RX2_35 rfl (hS 0 (by decide)).1 ((hS 0 (by decide)).2.2 5 (by decide)) dX2_treatFirst_21 ?_
  refine p_getR (b := (a + 22)) G f_RX2_207 rfl (hS 18 (by decide)).1 ((hS 18 (by decide)).2.2 4 (by decide)) dX2_treatFirst_24 ?_
  refine p_iconst dX2_treatFirst_27 ?_
  refine p_iald G (hS 22 (by decide)).1 (nf_k (by decide)) (by decide) (zln_lt (hS 22 (by decide)).2.1 (by decide)) dX2_treatFirst_28 (fun c3 => ?_)
  refine p_istore_n (lv' := [(3, .int (zi (im (a + 22) 0))), (2, .int (zi (im (a + 21) 0))), (1, .int (zi (im (a + 20) 0))), (0, .ref a)]) dX2_treatFirst_29 rfl (by decide) rfl ?_
  refine p_aload_n dX2_treatFirst_30 rfl (q := 3) rfl ?_
  refine p_getR (b := (a + 18)) G f_RX2_35 rfl (hS 0 (by decide)).1 ((hS 0 (by decide)).2.2 5 (by decide)) dX2_treatFirst_31 ?_
  refine p_getR (b := (a + 23)) G f_RX2_208 rfl (hS 18 (by decide)).1 ((hS 18 (by decide)).2.2 5 (by decide)) dX2_treatFirst_34 ?_
  refine p_iconst dX2_treatFirst_37 ?_
  refine p_iald G (hS 23 (by decide)).1 (nf_k (by decide)) (by decide) (zln_lt (hS 23 (by decide)).2.1 (by decide)) dX2_treatFirst_38 (fun c4 => ?_)
  refine p_istore (lv' := [(4, .int (zi (im (a + 23) 0))), (3, .int (zi (im (a + 22) 0))), (2, .int (zi (im (a + 21) 0))), (1, .int (zi (im (a + 20) 0))), (0, .ref a)]) dX2_treatFirst_39 (by decide) rfl ?_
  refine p_aload_n dX2_treatFirst_41 rfl (q := 4) rfl ?_
  refine p_getR (b := (a + 18)) G f_RX2_35 rfl (hS 0 (by decide)).1 ((hS 0 (by decide)).2.2 5 (by decide)) dX2_treatFirst_42 ?_
  refine p_getR (b := (a + 24)) G f_RX2_211 rfl (hS 18 (by decide)).1 ((hS 18 (by decide)).2.2 6 (by decide)) dX2_treatFirst_45 ?_
  refine p_iconst dX2_treatFirst_48 ?_
  refine p_iald G (hS 24 (by decide)).1 (nf_k (by decide)) (by decide) (zln_lt (hS 24 (by decide)).2.1 (by decide)) dX2_treatFirst_49 (fun c5 => ?_)
  refine p_istore (lv' := [(5, .int (zi (im (a + 24) 0))), (4, .int (zi (im (a + 23) 0))), (3, .int (zi (im (a + 22) 0))), (2, .int (zi (im (a + 21) 0))), (1, .int (zi (im (a + 20) 0))), (0, .ref a)]) dX2_treatFirst_50 (by decide) rfl ?_
  refine p_aload_n dX2_treatFirst_52 rfl (q := 5) rfl ?_
  refine p_getR (b := (a + 18)) G f_RX2_35 rfl (hS 0 (by decide)).1 ((hS 0 (by decide)).2.2 5 (by decide)) dX2_treatFirst_53 ?_
  refine p_VV G k_RX2_214 (by decide) (hS 18 (by decide)).1 rfl rfl (Nat.le_of_ble_eq_true rfl) ⟨by decide, by decide⟩ ⟨by decide, by decide⟩ dX2_treatFirst_56 h (fun im6 h => ?_)
  refine p_iload_n dX2_treatFirst_59 rfl (q := 4) rfl ?_
  refine p_if_ne (tgt := 71) dX2_treatFirst_60 (by decide) (nf_r c1) (fun b8 => ?_) (fun b8 => ?_)
  · have h := h.1 b8
    refine p_iload_n dX2_treatFirst_71 rfl (q := 2) rfl ?_
    refine p_if_ne (tgt := 88) dX2_treatFirst_72 (by decide) (nf_r c3) (fun b8 => ?_) (fun b8 => ?_)
    · have h := h.1 b8
      refine p_iload_n dX2_treatFirst_88 rfl (q := 2) rfl ?_
      refine p_iload dX2_treatFirst_89 (q := 1) rfl ?_
      refine p_icmp_eq (tgt := 140) dX2_treatFirst_91 (by decide) (nf_r c3) (nf_r c4) (fun b8 => ?_) (fun b8 => ?_)
      · have h := h.1 b8
        refine p_aload_n dX2_treatFirst_140 rfl (q := 5) rfl ?_
        refine p_iload dX2_treatFirst_141 (q := 1) rfl ?_
        refine p_iload_n dX2_treatFirst_143 rfl (q := 3) rfl ?_
        refine p_VV G k_RX2_117 (by decide) (hS 0 (by decide)).1 rfl rfl (Nat.le_of_ble_eq_true rfl) ⟨by decide, by decide⟩ ⟨by decide, by decide⟩ dX2_treatFirst_144 h (fun im8 h => ?_)
        exact p_retV (by decide) (by decide) rfl dX2_treatFirst_147 h
      · have h := h.2 b8
        refine p_aload_n dX2_treatFirst_94 rfl (q := 5) rfl ?_
        refine p_getR (b := (a + 3)) G f_RX2_21 rfl (hS 0 (by decide)).1 ((hS 0 (by decide)).2.2 3 (by decide)) dX2_treatFirst_95 ?_
        refine p_iload_n dX2_treatFirst_98 rfl (q := 2) rfl ?_
        refine p_iload dX2_treatFirst_99 (q := 1) rfl ?_
        refine p_VI G k_RX2_148 (by decide) (hS 3 (by decide)).1 rfl rfl (Nat.le_of_ble_eq_true rfl) ⟨by decide, by decide⟩ ⟨by decide, by decide⟩ dX2_treatFirst_101 h (fun r8 im9 c10 h => ?_)
        refine p_istore (lv' := [(6, .int (zi r8)), (5, .int (zi (im (a + 24) 0))), (4, .int (zi (im (a + 23) 0))), (3, .int (zi (im (a + 22) 0))), (2, .int (zi (im (a + 21) 0))), (1, .int (zi (im (a + 20) 0))), (0, .ref a)]) dX2_treatFirst_104 (by decide) rfl ?_
        refine p_aload_n dX2_treatFirst_106 rfl (q := 6) rfl ?_
        refine p_getR (b := (a + 18)) G f_RX2_35 rfl (hS 0 (by decide)).1 ((hS 0 (by decide)).2.2 5 (by decide)) dX2_treatFirst_107 ?_
        refine p_aload_n dX2_treatFirst_110 rfl (q := 6) rfl ?_
        refine p_getI (j := 0) G f_RX2_59 rfl (hS 0 (by decide)).1 dX2_treatFirst_111 (fun c11 => ?_)
        refine p_iload dX2_treatFirst_114 (q := 0) rfl ?_
        refine p_if_le (tgt := 124) dX2_treatFirst_116 (by decide) (nf_r c10) (fun b12 => ?_) (fun b12 => ?_)
        · have h := h.1 b12
          refine p_iload dX2_treatFirst_124 (q := 1) rfl ?_
          refine p_iadd dX2_treatFirst_126 ?_
          refine p_iconst dX2_treatFirst_127 ?_
          refine p_iload_n dX2_treatFirst_128 rfl (q := 4) rfl ?_
          refine p_iload dX2_treatFirst_129 (q := 2) rfl ?_
          refine p_iload dX2_treatFirst_131 (q := 2) rfl ?_
          refine p_iconst dX2_treatFirst_133 ?_
          refine p_VV G k_RX2_151 (by decide) (hS 18 (by decide)).1 rfl (by simp only [zi_zw]; rfl) (Nat.le_of_ble_eq_true rfl) ⟨by decide, by decide⟩ ⟨by decide, by decide⟩ dX2_treatFirst_134 h (fun im12 h => ?_)
          refine p_goto (tgt := 147) dX2_treatFirst_137 (by decide) ?_
          exact p_retV (by decide) (by decide) rfl dX2_treatFirst_147 h
        · have h := h.2 b12
          refine p_iload dX2_treatFirst_119 (q := 0) rfl ?_
          refine p_goto (tgt := 126) dX2_treatFirst_121 (by decide) ?_
          refine p_iadd dX2_treatFirst_126 ?_
          refine p_iconst dX2_treatFirst_127 ?_
          refine p_iload_n dX2_treatFirst_128 rfl (q := 4) rfl ?_
          refine p_iload dX2_treatFirst_129 (q := 2) rfl ?_
          refine p_iload dX2_treatFirst_131 (q := 2) rfl ?_
          refine p_iconst dX2_treatFirst_133 ?_
          refine p_VV G k_RX2_151 (by decide) (hS 18 (by decide)).1 rfl (by simp only [zi_zw]; rfl) (Nat.le_of_ble_eq_true rfl) ⟨by decide, by decide⟩ ⟨by decide, by decide⟩ dX2_treatFirst_134 h (fun im12 h => ?_)
          refine p_goto (tgt := 147) dX2_treatFirst_137 (by decide) ?_
          exact p_retV (by decide) (by decide) rfl dX2_treatFirst_147 h
    · have h := h.2 b8
      refine p_aload_n dX2_treatFirst_75 rfl (q := 5) rfl ?_
      refine p_iload_n dX2_treatFirst_76 rfl (q := 3) rfl ?_
      refine p_VV G k_RX2_220 (by decide) (hS 0 (by decide)).1 rfl rfl (Nat.le_of_ble_eq_true rfl) ⟨by decide, by decide⟩ ⟨by decide, by decide⟩ dX2_treatFirst_77 h (fun im8 h => ?_)
      refine p_aload_n dX2_treatFirst_80 rfl (q := 5) rfl ?_
      refine p_iload_n dX2_treatFirst_81 rfl (q := 3) rfl ?_
      refine p_VV G k_RX2_113 (by decide) (hS 0 (by decide)).1 rfl rfl (Nat.le_of_ble_eq_true rfl) ⟨by decide, by decide⟩ ⟨by decide, by decide⟩ dX2_treatFirst_82 h (fun im10 h => ?_)
      refine p_goto (tgt := 147) dX2_treatFirst_85 (by decide) ?_
      exact p_retV (by decide) (by decide) rfl dX2_treatFirst_147 h
  · have h := h.2 b8
    refine p_aload_n dX2_treatFirst_63 rfl (q := 5) rfl ?_
    refine p_iload_n dX2_treatFirst_64 rfl (q := 3) rfl ?_
    refine p_VV G k_RX2_217 (by decide) (hS 0 (by decide)).1 rfl rfl (Nat.le_of_ble_eq_true rfl) ⟨by decide, by decide⟩ ⟨by decide, by decide⟩ dX2_treatFirst_65 h (fun im8 h => ?_)
    refine p_goto (tgt := 147) dX2_treatFirst_68 (by decide) ?_
    exact p_retV (by decide) (by decide) rfl dX2_treatFirst_147 h
set_option maxRecDepth 20000 in
set_option maxHeartbeats 4000000 in
theorem v_X2_beginDay {g : zG} (G : zOK g) {S : zSh} {im : zIm} {a : Nat} {Q : zIm → Prop} (hS : zS_N S a)
    (h : ∀ im2, im2 = zst im a 0 (zw ((im a 0) + 1)) → zPV g M_X2_beginDay 20 [(0, .ref a), (1, .int (zi (im2 (a + 18) 0))), (2, .int (zi 0))] S im2 Q) :
    zCV g yX2_beginDay M_X2_beginDay [.ref a] S im Q := by
  refine zC_of (by decide) rfl rfl rfl rfl (Nat.le_of_ble_eq_true rfl) ?_
  refine p_aload_n dX2_beginDay_0 rfl (q := 0) rfl ?_
  refine p_dup dX2_beginDay_1 rfl ?_
  refine p_getI (j := 0) G f_RX2_59 rfl (hS 0 (by decide)).1 dX2_beginDay_2 (fun c1 => ?_)
  refine p_iconst dX2_beginDay_5 ?_
  refine p_iadd dX2_beginDay_6 ?_
  refine p_putI (j := 0) G f_RX2_59 rfl rfl rfl (hS 0 (by decide)).1 (nf_w _) dX2_beginDay_7 ?_
  refine p_gen (fun im2 e3 => ?_)
  have h := h im2 e3
  refine p_aload_n dX2_beginDay_10 rfl (q := 0) rfl ?_
  refine p_getR (b := (a + 18)) G f_RX2_35 rfl (hS 0 (by decide)).1 ((hS 0 (by decide)).2.2 5 (by decide)) dX2_beginDay_11 ?_
  refine p_getI (j := 0) G f_RX2_73 rfl (hS 18 (by decide)).1 dX2_beginDay_14 (fun c4 => ?_)
  refine p_istore_n (lv' := [(1, .int (zi (im2 (a + 18) 0))), (0, .ref a)]) dX2_beginDay_17 rfl (by decide) rfl ?_
  refine p_iconst dX2_beginDay_18 ?_
  refine p_istore_n (lv' := [(2, .int (zi 0)), (1, .int (zi (im2 (a + 18) 0))), (0, .ref a)]) dX2_beginDay_19 rfl (by decide) rfl ?_
  refine p_sub (lv' := [(0, .ref a), (1, .int (zi (im2 (a + 18) 0))), (2, .int (zi 0))]) [2, 1, 0] rfl ?_
  exact h
set_option maxRecDepth 20000 in
set_option maxHeartbeats 4000000 in
theorem v_X2_beginDay_20 {g : zG} (G : zOK g) {S : zSh} {im : zIm} {a : Nat} {x1 : Int} {x2 : Int} {Q : zIm → Prop} (hS : zS_N S a) (c_x1 : zc x1) (c_x2 : zc x2)
    (h : ((x1 ≤ x2 → zPV g M_X2_beginDay 63 [(0, .ref a), (2, .int (zi 0))] S im Q) ∧ (x2 < x1 → (((im (a + 18) 0) ≤ 0 → zPV g M_X2_beginDay 63 [(0, .ref a), (2, .int (zi 0))] S im Q) ∧ (0 < (im (a + 18) 0) → (((im a 0) < (im (a + 19) 0) → zPV g M_X2_beginDay 63 [(0, .ref a), (2, .int (zi 0))] S im Q) ∧ ((im (a + 19) 0) ≤ (im a 0) → zCV g yX2_treatFirst M_X2_treatFirst [.ref a] S im (fun im4 => zPV g M_X2_beginDay 20 [(0, .ref a), (1, .int (zi x1)), (2, .int (zi (zw (x2 + 1))))] S im4 Q)))))))) :
    zPV g M_X2_beginDay 20 [(0, .ref a), (1, .int (zi x1)), (2, .int (zi x2))] S im Q := by
  refine p_iload_n dX2_beginDay_20 rfl (q := 2) rfl ?_
  refine p_iload_n dX2_beginDay_21 rfl (q := 1) rfl ?_
  refine p_icmp_ge (tgt := 61) dX2_beginDay_22 (by decide) (nf_r c_x2) (nf_r c_x1) (fun b1 => ?_) (fun b1 => ?_)
  · have h := h.1 b1
    refine p_iconst dX2_beginDay_61 ?_
    refine p_istore_n (lv' := [(2, .int (zi 0)), (0, .ref a), (1, .int (zi x1))]) dX2_beginDay_62 rfl (by decide) rfl ?_
    refine p_sub (lv' := [(0, .ref a), (2, .int (zi 0))]) [1, 0] rfl ?_
    exact h
  · have h := h.2 b1
    refine p_aload_n dX2_beginDay_25 rfl (q := 0) rfl ?_
    refine p_getR (b := (a + 18)) G f_RX2_35 rfl (hS 0 (by decide)).1 ((hS 0 (by decide)).2.2 5 (by decide)) dX2_beginDay_26 ?_
    refine p_getI (j := 0) G f_RX2_73 rfl (hS 18 (by decide)).1 dX2_beginDay_29 (fun c1 => ?_)
    refine p_if_le (tgt := 61) dX2_beginDay_32 (by decide) (nf_r c1) (fun b2 => ?_) (fun b2 => ?_)
    · have h := h.1 b2
      refine p_iconst dX2_beginDay_61 ?_
      refine p_istore_n (lv' := [(2, .int (zi 0)), (0, .ref a), (1, .int (zi x1))]) dX2_beginDay_62 rfl (by decide) rfl ?_
      refine p_sub (lv' := [(0, .ref a), (2, .int (zi 0))]) [1, 0] rfl ?_
      exact h
    · have h := h.2 b2
      refine p_aload_n dX2_beginDay_35 rfl (q := 0) rfl ?_
      refine p_getR (b := (a + 18)) G f_RX2_35 rfl (hS 0 (by decide)).1 ((hS 0 (by decide)).2.2 5 (by decide)) dX2_beginDay_36 ?_
      refine p_getR (b := (a + 19)) G f_RX2_192 rfl (hS 18 (by decide)).1 ((hS 18 (by decide)).2.2 1 (by decide)) dX2_beginDay_39 ?_
      refine p_iconst dX2_beginDay_42 ?_
      refine p_iald G (hS 19 (by decide)).1 (nf_k (by decide)) (by decide) (zln_lt (hS 19 (by decide)).2.1 (by decide)) dX2_beginDay_43 (fun c2 => ?_)
      refine p_aload_n dX2_beginDay_44 rfl (q := 0) rfl ?_
      refine p_getI (j := 0) G f_RX2_59 rfl (hS 0 (by decide)).1 dX2_beginDay_45 (fun c3 => ?_)
      refine p_icmp_gt (tgt := 61) dX2_beginDay_48 (by decide) (nf_r c2) (nf_r c3) (fun b4 => ?_) (fun b4 => ?_)
      · have h := h.1 b4
        refine p_iconst dX2_beginDay_61 ?_
        refine p_istore_n (lv' := [(2, .int (zi 0)), (0, .ref a), (1, .int (zi x1))]) dX2_beginDay_62 rfl (by decide) rfl ?_
        refine p_sub (lv' := [(0, .ref a), (2, .int (zi 0))]) [1, 0] rfl ?_
        exact h
      · have h := h.2 b4
        refine p_aload_n dX2_beginDay_51 rfl (q := 0) rfl ?_
        refine p_VV G k_RX2_194 (by decide) (hS 0 (by decide)).1 rfl rfl (Nat.le_of_ble_eq_true rfl) ⟨by decide, by decide⟩ ⟨by decide, by decide⟩ dX2_beginDay_52 h (fun im4 h => ?_)
        refine p_iinc (q := 2) (lv' := [(2, .int (zi (x2 + 1))), (0, .ref a), (1, .int (zi x1))]) dX2_beginDay_55 rfl (by decide) rfl ?_
        refine p_goto (tgt := 20) dX2_beginDay_58 (by decide) ?_
        refine p_sub (lv' := [(0, .ref a), (1, .int (zi x1)), (2, .int (zi (zw (x2 + 1))))]) [1, 2, 0] (by simp only [zi_zw, zl_zwl]; rfl) ?_
        exact h
set_option maxRecDepth 20000 in
set_option maxHeartbeats 4000000 in
theorem v_X2_beginDay_63 {g : zG} (G : zOK g) {S : zSh} {im : zIm} {a : Nat} {x2 : Int} {Q : zIm → Prop} (hS : zS_N S a) (c_x2 : zc x2)
    (h : (((im (a + 35) 0) ≤ x2 → Q im) ∧ (x2 < (im (a + 35) 0) → ((0 ≤ x2 ∧ x2 < 300) ∧ ((0 ≤ x2 ∧ x2 < 300) ∧ zCI g yX7_cell M_X7_cell [.int (zi (im (a + 36) x2)), .int (zi (im (a + 37) x2))] S im (fun r6 im7 => ((0 ≤ r6 ∧ r6 < 32) ∧ ∀ im11, im11 = zst im7 (a + 16) r6 (zw ((im7 (a + 16) r6) + 1)) → zPV g M_X2_beginDay 63 [(0, .ref a), (2, .int (zi (zw (x2 + 1))))] S im11 Q))))))) :
    zPV g M_X2_beginDay 63 [(0, .ref a), (2, .int (zi x2))] S im Q := by
  refine p_iload_n dX2_beginDay_63 rfl (q := 1) rfl ?_
  refine p_aload_n dX2_beginDay_64 rfl (q := 0) rfl ?_
  refine p_getR (b := (a + 35)) G f_RX2_49 rfl (hS 0 (by decide)).1 ((hS 0 (by decide)).2.2 8 (by decide)) dX2_beginDay_65 ?_
  refine p_getI (j := 0) G f_RX2_76 rfl (hS 35 (by decide)).1 dX2_beginDay_68 (fun c1 => ?_)
  refine p_icmp_ge (tgt := 113) dX2_beginDay_71 (by decide) (nf_r c_x2) (nf_r c1) (fun b2 => ?_) (fun b2 => ?_)
  · have h := h.1 b2
    exact p_retV (by decide) (by decide) rfl dX2_beginDay_113 h
  · have h := h.2 b2
    refine p_aload_n dX2_beginDay_74 rfl (q := 0) rfl ?_
    refine p_getR (b := (a + 12)) G f_RX2_28 rfl (hS 0 (by decide)).1 ((hS 0 (by decide)).2.2 4 (by decide)) dX2_beginDay_75 ?_
    refine p_getR (b := (a + 16)) G f_RX2_197 rfl (hS 12 (by decide)).1 ((hS 12 (by decide)).2.2 4 (by decide)) dX2_beginDay_78 ?_
    refine p_aload_n dX2_beginDay_81 rfl (q := 0) rfl ?_
    refine p_getR (b := (a + 35)) G f_RX2_49 rfl (hS 0 (by decide)).1 ((hS 0 (by decide)).2.2 8 (by decide)) dX2_beginDay_82 ?_
    refine p_getR (b := (a + 36)) G f_RX2_180 rfl (hS 35 (by decide)).1 ((hS 35 (by decide)).2.2 1 (by decide)) dX2_beginDay_85 ?_
    refine p_iload_n dX2_beginDay_88 rfl (q := 1) rfl ?_
    have g3 := h.1
    have h := h.2
    refine p_iald G (hS 36 (by decide)).1 (nf_r c_x2) g3.1 (zln_lt (hS 36 (by decide)).2.1 g3.2) dX2_beginDay_89 (fun c2 => ?_)
    refine p_aload_n dX2_beginDay_90 rfl (q := 0) rfl ?_
    refine p_getR (b := (a + 35)) G f_RX2_49 rfl (hS 0 (by decide)).1 ((hS 0 (by decide)).2.2 8 (by decide)) dX2_beginDay_91 ?_
    refine p_getR (b := (a + 37)) G f_RX2_200 rfl (hS 35 (by decide)).1 ((hS 35 (by decide)).2.2 2 (by decide)) dX2_beginDay_94 ?_
    refine p_iload_n dX2_beginDay_97 rfl (q := 1) rfl ?_
    have g5 := h.1
    have h := h.2
    refine p_iald G (hS 37 (by decide)).1 (nf_r c_x2) g5.1 (zln_lt (hS 37 (by decide)).2.1 g5.2) dX2_beginDay_98 (fun c4 => ?_)
    refine p_SNI G k_RX2_110 rfl rfl (Nat.le_of_ble_eq_true rfl) ⟨by decide, by decide⟩ ⟨by decide, by decide⟩ dX2_beginDay_99 h (fun r6 im7 c8 h => ?_)
    refine p_dup2 dX2_beginDay_102 rfl rfl ?_
    have g10 := h.1
    have h := h.2
    refine p_iald G (hS 16 (by decide)).1 (nf_r c8) g10.1 (zln_lt (hS 16 (by decide)).2.1 g10.2) dX2_beginDay_103 (fun c9 => ?_)
    refine p_iconst dX2_beginDay_104 ?_
    refine p_iadd dX2_beginDay_105 ?_
    refine p_iast G (hS 16 (by decide)).1 (nf_r c8) g10.1 (zln_lt (hS 16 (by decide)).2.1 g10.2) (nf_w _) dX2_beginDay_106 ?_
    refine p_gen (fun im11 e12 => ?_)
    have h := h im11 e12
    refine p_iinc (q := 1) (lv' := [(2, .int (zi (x2 + 1))), (0, .ref a)]) dX2_beginDay_107 rfl (by decide) rfl ?_
    refine p_goto (tgt := 63) dX2_beginDay_110 (by decide) ?_
    refine p_sub (lv' := [(0, .ref a), (2, .int (zi (zw (x2 + 1))))]) [1, 0] (by simp only [zi_zw, zl_zwl]; rfl) ?_
    exact h
set_option maxRecDepth 20000 in
set_option maxHeartbeats 4000000 in
theorem v_X1_start {g : zG} (G : zOK g) {S : zSh} {im : zIm} {a : Nat} {p1 : Int} {Q : zIm → Prop} (hS : zS_G S a) (c_p1 : zc p1)
    (h : ∀ im1, im1 = zst im a 0 p1 → Q im1) :
    zCV g yX1_start M_X1_start [.ref a, .int (zi p1)] S im Q := by
  refine zC_of (by decide) rfl rfl rfl rfl (Nat.le_of_ble_eq_true rfl) ?_
  refine p_aload_n dX1_start_0 rfl (q := 0) rfl ?_
  refine p_iload_n dX1_start_1 rfl (q := 1) rfl ?_
  refine p_i2l dX1_start_2 (nf_r c_p1) ?_
  refine p_putJ (j := 0) G f_RX1_7 rfl rfl rfl (hS 0 (by decide)).1 (nfl_r (zcl_zc ((nf_r c_p1)).2)) dX1_start_3 ?_
  refine p_gen (fun im1 e2 => ?_)
  have h := h im1 e2
  exact p_retV (by decide) (by decide) rfl dX1_start_6 h
set_option maxRecDepth 20000 in
set_option maxHeartbeats 4000000 in
theorem v_X1_draw {g : zG} (G : zOK g) {S : zSh} {im : zIm} {a : Nat} {p1 : Int} {Q : Int → zIm → Prop} (hS : zS_G S a) (c_p1 : zc p1)
    (h : ∀ im2, im2 = zst im a 0 (zwl (Int.tmod (zwl (((im a 0) * 1103515245) + 12345)) 2147483648)) → ((1 ≤ p1 → (¬ p1 = 0) ∧ Q (zw (zwl (Int.tmod (zwl (Int.tdiv (im2 a 0) 65536)) p1))) im2) ∧ (p1 < 1 → Q 0 im2))) :
    zCI g yX1_draw M_X1_draw [.ref a, .int (zi p1)] S im Q := by
  refine zC_of (by decide) rfl rfl rfl rfl (Nat.le_of_ble_eq_true rfl) ?_
  refine p_aload_n dX1_draw_0 rfl (q := 0) rfl ?_
  refine p_aload_n dX1_draw_1 rfl (q := 0) rfl ?_
  refine p_getJ (j := 0) G f_RX1_7 rfl (hS 0 (by decide)).1 dX1_draw_2 (fun c1 => ?_)
  refine p_ldc2 G q_4_113 (v := 1103515245) (by decide) dX1_draw_5 ?_
  refine p_lmul dX1_draw_8 ?_
  refine p_ldc2 G q_4_114 (v := 12345) (by decide) dX1_draw_9 ?_
  refine p_ladd dX1_draw_12 ?_
  refine p_ldc2 G q_4_115 (v := 2147483648) (by decide) dX1_draw_13 ?_
  refine p_lrem dX1_draw_16 (nfl_w _) (nfl_k (by decide)) (by decide) ?_
  refine p_putJ (j := 0) G f_RX1_7 rfl rfl rfl (hS 0 (by decide)).1 (nfl_w _) dX1_draw_17 ?_
  refine p_gen (fun im2 e3 => ?_)
  have h := h im2 e3
  refine p_iload_n dX1_draw_20 rfl (q := 1) rfl ?_
  refine p_iconst dX1_draw_21 ?_
  refine p_icmp_ge (tgt := 29) dX1_draw_22 (by decide) (nf_r c_p1) (nf_k (by decide)) (fun b4 => ?_) (fun b4 => ?_)
  · have h := h.1 b4
    refine p_aload_n dX1_draw_29 rfl (q := 0) rfl ?_
    refine p_getJ (j := 0) G f_RX1_7 rfl (hS 0 (by decide)).1 dX1_draw_30 (fun c4 => ?_)
    refine p_ldc2 G q_4_116 (v := 65536) (by decide) dX1_draw_33 ?_
    refine p_ldiv dX1_draw_36 (nfl_r c4) (nfl_k (by decide)) (by decide) ?_
    refine p_iload_n dX1_draw_37 rfl (q := 1) rfl ?_
    refine p_i2l dX1_draw_38 (nf_r c_p1) ?_
    have h0_39 := h.1
    have h := h.2
    refine p_lrem dX1_draw_39 (nfl_w _) (nfl_r (zcl_zc ((nf_r c_p1)).2)) h0_39 ?_
    refine p_l2i dX1_draw_40 (nfl_w _) ?_
    exact p_iretI (by decide) (by decide) rfl (nf_w _) dX1_draw_41 h
  · have h := h.2 b4
    refine p_iconst dX1_draw_25 ?_
    refine p_goto (tgt := 41) dX1_draw_26 (by decide) ?_
    exact p_iretI (by decide) (by decide) rfl (nf_k (by decide)) dX1_draw_41 h
set_option maxRecDepth 20000 in
set_option maxHeartbeats 4000000 in
theorem v_X2_drawDemand {g : zG} (G : zOK g) {S : zSh} {im : zIm} {a : Nat} {p1 : Int} {p2 : Int} {Q : Int → zIm → Prop} (hS : zS_N S a) (c_p1 : zc p1) (c_p2 : zc p2)
    (h : zCI g yX1_draw M_X1_draw [.ref (a + 40), .int (zi 100)] S im (fun r1 im2 => zCI g yX7_cell M_X7_cell [.int (zi p1), .int (zi p2)] S im2 (fun r4 im5 => ((0 ≤ r4 ∧ r4 < 32) ∧ ((r1 < (im5 (a + 11) r4) → zCI g yX1_draw M_X1_draw [.ref (a + 40), .int (zi 10)] S im5 (fun r9 im10 => zCI g yX2_refuses M_X2_refuses [.ref a] S im10 (fun r12 im13 => ((r12 = 0 → zCI g yX2_occur M_X2_occur [.ref a, .int (zi p1), .int (zi p2), .int (zi r9)] S im13 (fun r15 im16 => Q 1 im16)) ∧ (¬ r12 = 0 → ∀ im16, im16 = zst im13 (a + 12) 0 (zw ((im13 (a + 12) 0) + 1)) → Q 0 im16))))) ∧ ((im5 (a + 11) r4) ≤ r1 → Q 0 im5)))))) :
    zCI g yX2_drawDemand M_X2_drawDemand [.ref a, .int (zi p1), .int (zi p2)] S im Q := by
  refine zC_of (by decide) rfl rfl rfl rfl (Nat.le_of_ble_eq_true rfl) ?_
  refine p_aload_n dX2_drawDemand_0 rfl (q := 0) rfl ?_
  refine p_getR (b := (a + 40)) G f_RX2_55 rfl (hS 0 (by decide)).1 ((hS 0 (by decide)).2.2 9 (by decide)) dX2_drawDemand_1 ?_
  refine p_bipush dX2_drawDemand_4 (by decide) ?_
  refine p_VI G k_RX2_242 (by decide) (hS 40 (by decide)).1 rfl rfl (Nat.le_of_ble_eq_true rfl) ⟨by decide, by decide⟩ ⟨by decide, by decide⟩ dX2_drawDemand_6 h (fun r1 im2 c3 h => ?_)
  refine p_aload_n dX2_drawDemand_9 rfl (q := 0) rfl ?_
  refine p_getR (b := (a + 3)) G f_RX2_21 rfl (hS 0 (by decide)).1 ((hS 0 (by decide)).2.2 3 (by decide)) dX2_drawDemand_10 ?_
  refine p_getR (b := (a + 11)) G f_RX2_245 rfl (hS 3 (by decide)).1 ((hS 3 (by decide)).2.2 10 (by decide)) dX2_drawDemand_13 ?_
  refine p_iload_n dX2_drawDemand_16 rfl (q := 1) rfl ?_
  refine p_iload_n dX2_drawDemand_17 rfl (q := 2) rfl ?_
  refine p_SNI G k_RX2_110 rfl rfl (Nat.le_of_ble_eq_true rfl) ⟨by decide, by decide⟩ ⟨by decide, by decide⟩ dX2_drawDemand_18 h (fun r4 im5 c6 h => ?_)
  have g8 := h.1
  have h := h.2
  refine p_iald G (hS 11 (by decide)).1 (nf_r c6) g8.1 (zln_lt (hS 11 (by decide)).2.1 g8.2) dX2_drawDemand_21 (fun c7 => ?_)
  refine p_icmp_lt (tgt := 27) dX2_drawDemand_22 (by decide) (nf_r c3) (nf_r c7) (fun b9 => ?_) (fun b9 => ?_)
  · have h := h.1 b9
    refine p_aload_n dX2_drawDemand_27 rfl (q := 0) rfl ?_
    refine p_getR (b := (a + 40)) G f_RX2_55 rfl (hS 0 (by decide)).1 ((hS 0 (by decide)).2.2 9 (by decide)) dX2_drawDemand_28 ?_
    refine p_bipush dX2_drawDemand_31 (by decide) ?_
    refine p_VI G k_RX2_242 (by decide) (hS 40 (by decide)).1 rfl rfl (Nat.le_of_ble_eq_true rfl) ⟨by decide, by decide⟩ ⟨by decide, by decide⟩ dX2_drawDemand_33 h (fun r9 im10 c11 h => ?_)
    refine p_istore_n (lv' := [(3, .int (zi r9)), (0, .ref a), (1, .int (zi p1)), (2, .int (zi p2))]) dX2_drawDemand_36 rfl (by decide) rfl ?_
    refine p_aload_n dX2_drawDemand_37 rfl (q := 1) rfl ?_
    refine p_VI G k_RX2_248 (by decide) (hS 0 (by decide)).1 rfl rfl (Nat.le_of_ble_eq_true rfl) ⟨by decide, by decide⟩ ⟨by decide, by decide⟩ dX2_drawDemand_38 h (fun r12 im13 c14 h => ?_)
    refine p_if_eq (tgt := 59) dX2_drawDemand_41 (by decide) (nf_r c14) (fun b15 => ?_) (fun b15 => ?_)
    · have h := h.1 b15
      refine p_aload_n dX2_drawDemand_59 rfl (q := 1) rfl ?_
      refine p_iload_n dX2_drawDemand_60 rfl (q := 2) rfl ?_
      refine p_iload_n dX2_drawDemand_61 rfl (q := 3) rfl ?_
      refine p_iload_n dX2_drawDemand_62 rfl (q := 0) rfl ?_
      refine p_VI G k_RX2_255 (by decide) (hS 0 (by decide)).1 rfl rfl (Nat.le_of_ble_eq_true rfl) ⟨by decide, by decide⟩ ⟨by decide, by decide⟩ dX2_drawDemand_63 h (fun r15 im16 c17 h => ?_)
      refine p_pop dX2_drawDemand_66 rfl ?_
      refine p_iconst dX2_drawDemand_67 ?_
      exact p_iretI (by decide) (by decide) rfl (nf_k (by decide)) dX2_drawDemand_68 h
    · have h := h.2 b15
      refine p_aload_n dX2_drawDemand_44 rfl (q := 1) rfl ?_
      refine p_getR (b := (a + 12)) G f_RX2_28 rfl (hS 0 (by decide)).1 ((hS 0 (by decide)).2.2 4 (by decide)) dX2_drawDemand_45 ?_
      refine p_dup dX2_drawDemand_48 rfl ?_
      refine p_getI (j := 0) G f_RX2_252 rfl (hS 12 (by decide)).1 dX2_drawDemand_49 (fun c15 => ?_)
      refine p_iconst dX2_drawDemand_52 ?_
      refine p_iadd dX2_drawDemand_53 ?_
      refine p_putI (j := 0) G f_RX2_252 rfl rfl rfl (hS 12 (by decide)).1 (nf_w _) dX2_drawDemand_54 ?_
      refine p_gen (fun im16 e17 => ?_)
      have h := h im16 e17
      refine p_iconst dX2_drawDemand_57 ?_
      exact p_iretI (by decide) (by decide) rfl (nf_k (by decide)) dX2_drawDemand_58 h
  · have h := h.2 b9
    refine p_iconst dX2_drawDemand_25 ?_
    exact p_iretI (by decide) (by decide) rfl (nf_k (by decide)) dX2_drawDemand_26 h
set_option maxRecDepth 20000 in
set_option maxHeartbeats 4000000 in
theorem v_X2_runDays {g : zG} (G : zOK g) {S : zSh} {im : zIm} {a : Nat} {p1 : Int} {p2 : Int} {Q : Int → zIm → Prop} (hS : zS_N S a) (c_p1 : zc p1) (c_p2 : zc p2)
    (h : zCV g yX1_start M_X1_start [.ref (a + 40), .int (zi p1)] S im (fun im1 => zPI g M_X2_runDays 13 [(0, .ref a), (2, .int (zi p2)), (3, .int (zi 0)), (4, .int (zi 0))] S im1 Q)) :
    zCI g yX2_runDays M_X2_runDays [.ref a, .int (zi p1), .int (zi p2)] S im Q := by
  refine zC_of (by decide) rfl rfl rfl rfl (Nat.le_of_ble_eq_true rfl) ?_
  refine p_aload_n dX2_runDays_0 rfl (q := 0) rfl ?_
  refine p_getR (b := (a + 40)) G f_RX2_55 rfl (hS 0 (by decide)).1 ((hS 0 (by decide)).2.2 9 (by decide)) dX2_runDays_1 ?_
  refine p_iload_n dX2_runDays_4 rfl (q := 1) rfl ?_
  refine p_VV G k_RX2_233 (by decide) (hS 40 (by decide)).1 rfl rfl (Nat.le_of_ble_eq_true rfl) ⟨by decide, by decide⟩ ⟨by decide, by decide⟩ dX2_runDays_5 h (fun im1 h => ?_)
  refine p_iconst dX2_runDays_8 ?_
  refine p_istore_n (lv' := [(3, .int (zi 0)), (0, .ref a), (1, .int (zi p1)), (2, .int (zi p2))]) dX2_runDays_9 rfl (by decide) rfl ?_
  refine p_iconst dX2_runDays_10 ?_
  refine p_istore (lv' := [(4, .int (zi 0)), (3, .int (zi 0)), (0, .ref a), (1, .int (zi p1)), (2, .int (zi p2))]) dX2_runDays_11 (by decide) rfl ?_
  refine p_sub (lv' := [(0, .ref a), (2, .int (zi p2)), (3, .int (zi 0)), (4, .int (zi 0))]) [2, 4, 1, 0] rfl ?_
  exact h
set_option maxRecDepth 20000 in
set_option maxHeartbeats 4000000 in
theorem v_X2_runDays_13 {g : zG} (G : zOK g) {S : zSh} {im : zIm} {a : Nat} {x2 : Int} {x3 : Int} {x4 : Int} {Q : Int → zIm → Prop} (hS : zS_N S a) (c_x2 : zc x2) (c_x3 : zc x3) (c_x4 : zc x4)
    (h : ((x2 ≤ x4 → Q x3 im) ∧ (x4 < x2 → zCV g yX2_beginDay M_X2_beginDay [.ref a] S im (fun im1 => zPI g M_X2_runDays 26 [(0, .ref a), (2, .int (zi x2)), (3, .int (zi x3)), (4, .int (zi x4)), (5, .int (zi 1))] S im1 Q)))) :
    zPI g M_X2_runDays 13 [(0, .ref a), (2, .int (zi x2)), (3, .int (zi x3)), (4, .int (zi x4))] S im Q := by
  refine p_iload dX2_runDays_13 (q := 3) rfl ?_
  refine p_iload_n dX2_runDays_15 rfl (q := 1) rfl ?_
  refine p_icmp_ge (tgt := 82) dX2_runDays_16 (by decide) (nf_r c_x4) (nf_r c_x2) (fun b1 => ?_) (fun b1 => ?_)
  · have h := h.1 b1
    refine p_iload_n dX2_runDays_82 rfl (q := 2) rfl ?_
    exact p_iretI (by decide) (by decide) rfl (nf_r c_x3) dX2_runDays_83 h
  · have h := h.2 b1
    refine p_aload_n dX2_runDays_19 rfl (q := 0) rfl ?_
    refine p_VV G k_RX2_236 (by decide) (hS 0 (by decide)).1 rfl rfl (Nat.le_of_ble_eq_true rfl) ⟨by decide, by decide⟩ ⟨by decide, by decide⟩ dX2_runDays_20 h (fun im1 h => ?_)
    refine p_iconst dX2_runDays_23 ?_
    refine p_istore (lv' := [(5, .int (zi 1)), (0, .ref a), (2, .int (zi x2)), (3, .int (zi x3)), (4, .int (zi x4))]) dX2_runDays_24 (by decide) rfl ?_
    refine p_sub (lv' := [(0, .ref a), (2, .int (zi x2)), (3, .int (zi x3)), (4, .int (zi x4)), (5, .int (zi 1))]) [1, 2, 3, 4, 0] rfl ?_
    exact h
set_option maxRecDepth 20000 in
set_option maxHeartbeats 4000000 in
theorem v_X2_runDays_26 {g : zG} (G : zOK g) {S : zSh} {im : zIm} {a : Nat} {x2 : Int} {x3 : Int} {x4 : Int} {x5 : Int} {Q : Int → zIm → Prop} (hS : zS_N S a) (c_x2 : zc x2) (c_x3 : zc x3) (c_x4 : zc x4) (c_x5 : zc x5)
    (h : (((im (a + 3) 1) ≤ x5 → zPI g M_X2_runDays 13 [(0, .ref a), (2, .int (zi x2)), (3, .int (zi x3)), (4, .int (zi (zw (x4 + 1))))] S im Q) ∧ (x5 < (im (a + 3) 1) → zPI g M_X2_runDays 41 [(0, .ref a), (2, .int (zi x2)), (3, .int (zi x3)), (4, .int (zi x4)), (5, .int (zi x5)), (6, .int (zi 0))] S im Q))) :
    zPI g M_X2_runDays 26 [(0, .ref a), (2, .int (zi x2)), (3, .int (zi x3)), (4, .int (zi x4)), (5, .int (zi x5))] S im Q := by
  refine p_iload dX2_runDays_26 (q := 4) rfl ?_
  refine p_aload_n dX2_runDays_28 rfl (q := 0) rfl ?_
  refine p_getR (b := (a + 3)) G f_RX2_21 rfl (hS 0 (by decide)).1 ((hS 0 (by decide)).2.2 3 (by decide)) dX2_runDays_29 ?_
  refine p_getI (j := 1) G f_RX2_104 rfl (hS 3 (by decide)).1 dX2_runDays_32 (fun c1 => ?_)
  refine p_icmp_ge (tgt := 76) dX2_runDays_35 (by decide) (nf_r c_x5) (nf_r c1) (fun b2 => ?_) (fun b2 => ?_)
  · have h := h.1 b2
    refine p_iinc (q := 3) (lv' := [(4, .int (zi (x4 + 1))), (0, .ref a), (2, .int (zi x2)), (3, .int (zi x3)), (5, .int (zi x5))]) dX2_runDays_76 rfl (by decide) rfl ?_
    refine p_goto (tgt := 13) dX2_runDays_79 (by decide) ?_
    refine p_sub (lv' := [(0, .ref a), (2, .int (zi x2)), (3, .int (zi x3)), (4, .int (zi (zw (x4 + 1))))]) [1, 2, 3, 0] (by simp only [zi_zw, zl_zwl]; rfl) ?_
    exact h
  · have h := h.2 b2
    refine p_iconst dX2_runDays_38 ?_
    refine p_istore (lv' := [(6, .int (zi 0)), (0, .ref a), (2, .int (zi x2)), (3, .int (zi x3)), (4, .int (zi x4)), (5, .int (zi x5))]) dX2_runDays_39 (by decide) rfl ?_
    refine p_sub (lv' := [(0, .ref a), (2, .int (zi x2)), (3, .int (zi x3)), (4, .int (zi x4)), (5, .int (zi x5)), (6, .int (zi 0))]) [1, 2, 3, 4, 5, 0] rfl ?_
    exact h
set_option maxRecDepth 20000 in
set_option maxHeartbeats 4000000 in
theorem v_X2_runDays_41 {g : zG} (G : zOK g) {S : zSh} {im : zIm} {a : Nat} {x2 : Int} {x3 : Int} {x4 : Int} {x5 : Int} {x6 : Int} {Q : Int → zIm → Prop} (hS : zS_N S a) (c_x2 : zc x2) (c_x3 : zc x3) (c_x4 : zc x4) (c_x5 : zc x5) (c_x6 : zc x6)
    (h : (((im (a + 3) 0) ≤ x6 → zPI g M_X2_runDays 26 [(0, .ref a), (2, .int (zi x2)), (3, .int (zi x3)), (4, .int (zi x4)), (5, .int (zi (zw (x5 + 1))))] S im Q) ∧ (x6 < (im (a + 3) 0) → zCI g yX2_drawDemand M_X2_drawDemand [.ref a, .int (zi x5), .int (zi x6)] S im (fun r2 im3 => zPI g M_X2_runDays 41 [(0, .ref a), (2, .int (zi x2)), (3, .int (zi (zw (x3 + r2)))), (4, .int (zi x4)), (5, .int (zi x5)), (6, .int (zi (zw (x6 + 1))))] S im3 Q)))) :
    zPI g M_X2_runDays 41 [(0, .ref a), (2, .int (zi x2)), (3, .int (zi x3)), (4, .int (zi x4)), (5, .int (zi x5)), (6, .int (zi x6))] S im Q := by
  refine p_iload dX2_runDays_41 (q := 5) rfl ?_
  refine p_aload_n dX2_runDays_43 rfl (q := 0) rfl ?_
  refine p_getR (b := (a + 3)) G f_RX2_21 rfl (hS 0 (by decide)).1 ((hS 0 (by decide)).2.2 3 (by decide)) dX2_runDays_44 ?_
  refine p_getI (j := 0) G f_RX2_107 rfl (hS 3 (by decide)).1 dX2_runDays_47 (fun c1 => ?_)
  refine p_icmp_ge (tgt := 70) dX2_runDays_50 (by decide) (nf_r c_x6) (nf_r c1) (fun b2 => ?_) (fun b2 => ?_)
  · have h := h.1 b2
    refine p_iinc (q := 4) (lv' := [(5, .int (zi (x5 + 1))), (0, .ref a), (2, .int (zi x2)), (3, .int (zi x3)), (4, .int (zi x4)), (6, .int (zi x6))]) dX2_runDays_70 rfl (by decide) rfl ?_
    refine p_goto (tgt := 26) dX2_runDays_73 (by decide) ?_
    refine p_sub (lv' := [(0, .ref a), (2, .int (zi x2)), (3, .int (zi x3)), (4, .int (zi x4)), (5, .int (zi (zw (x5 + 1))))]) [1, 2, 3, 4, 0] (by simp only [zi_zw, zl_zwl]; rfl) ?_
    exact h
  · have h := h.2 b2
    refine p_iload_n dX2_runDays_53 rfl (q := 2) rfl ?_
    refine p_aload_n dX2_runDays_54 rfl (q := 0) rfl ?_
    refine p_iload dX2_runDays_55 (q := 4) rfl ?_
    refine p_iload dX2_runDays_57 (q := 5) rfl ?_
    refine p_VI G k_RX2_239 (by decide) (hS 0 (by decide)).1 rfl rfl (Nat.le_of_ble_eq_true rfl) ⟨by decide, by decide⟩ ⟨by decide, by decide⟩ dX2_runDays_59 h (fun r2 im3 c4 h => ?_)
    refine p_iadd dX2_runDays_62 ?_
    refine p_istore_n (lv' := [(3, .int (zi (x3 + r2))), (0, .ref a), (2, .int (zi x2)), (4, .int (zi x4)), (5, .int (zi x5)), (6, .int (zi x6))]) dX2_runDays_63 rfl (by decide) rfl ?_
    refine p_iinc (q := 5) (lv' := [(6, .int (zi (x6 + 1))), (3, .int (zi (x3 + r2))), (0, .ref a), (2, .int (zi x2)), (4, .int (zi x4)), (5, .int (zi x5))]) dX2_runDays_64 rfl (by decide) rfl ?_
    refine p_goto (tgt := 41) dX2_runDays_67 (by decide) ?_
    refine p_sub (lv' := [(0, .ref a), (2, .int (zi x2)), (3, .int (zi (zw (x3 + r2)))), (4, .int (zi x4)), (5, .int (zi x5)), (6, .int (zi (zw (x6 + 1))))]) [2, 3, 1, 4, 5, 0] (by simp only [zi_zw, zl_zwl]; rfl) ?_
    exact h
set_option maxRecDepth 20000 in
set_option maxHeartbeats 4000000 in
theorem v_X3_countOf {g : zG} (G : zOK g) {S : zSh} {im : zIm} {a : Nat} {p1 : Int} {p2 : Int} {Q : Int → zIm → Prop} (hS : zS_Q S a) (c_p1 : zc p1) (c_p2 : zc p2)
    (h : zPI g M_X3_countOf 5 [(0, .ref a), (1, .int (zi p1)), (2, .int (zi p2)), (3, .int (zi 0)), (4, .int (zi 0))] S im Q) :
    zCI g yX3_countOf M_X3_countOf [.ref a, .int (zi p1), .int (zi p2)] S im Q := by
  refine zC_of (by decide) rfl rfl rfl rfl (Nat.le_of_ble_eq_true rfl) ?_
  refine p_iconst dX3_countOf_0 ?_
  refine p_istore_n (lv' := [(3, .int (zi 0)), (0, .ref a), (1, .int (zi p1)), (2, .int (zi p2))]) dX3_countOf_1 rfl (by decide) rfl ?_
  refine p_iconst dX3_countOf_2 ?_
  refine p_istore (lv' := [(4, .int (zi 0)), (3, .int (zi 0)), (0, .ref a), (1, .int (zi p1)), (2, .int (zi p2))]) dX3_countOf_3 (by decide) rfl ?_
  refine p_sub (lv' := [(0, .ref a), (1, .int (zi p1)), (2, .int (zi p2)), (3, .int (zi 0)), (4, .int (zi 0))]) [2, 3, 4, 1, 0] rfl ?_
  exact h
set_option maxRecDepth 20000 in
set_option maxHeartbeats 4000000 in
theorem v_X3_countOf_5 {g : zG} (G : zOK g) {S : zSh} {im : zIm} {a : Nat} {x1 : Int} {x2 : Int} {x3 : Int} {x4 : Int} {Q : Int → zIm → Prop} (hS : zS_Q S a) (c_x1 : zc x1) (c_x2 : zc x2) (c_x3 : zc x3) (c_x4 : zc x4)
    (h : (((im a 0) ≤ x4 → Q x3 im) ∧ (x4 < (im a 0) → ((0 ≤ x4 ∧ x4 < 300) ∧ ((¬ (im (a + 2) x4) = x2 → zPI g M_X3_countOf 5 [(0, .ref a), (1, .int (zi x1)), (2, .int (zi x2)), (3, .int (zi x3)), (4, .int (zi (zw (x4 + 1))))] S im Q) ∧ ((im (a + 2) x4) = x2 → ((x1 = (-1) → zPI g M_X3_countOf 5 [(0, .ref a), (1, .int (zi x1)), (2, .int (zi x2)), (3, .int (zi (zw (x3 + 1)))), (4, .int (zi (zw (x4 + 1))))] S im Q) ∧ (¬ x1 = (-1) → ((0 ≤ x4 ∧ x4 < 300) ∧ ((¬ (im (a + 1) x4) = x1 → zPI g M_X3_countOf 5 [(0, .ref a), (1, .int (zi x1)), (2, .int (zi x2)), (3, .int (zi x3)), (4, .int (zi (zw (x4 + 1))))] S im Q) ∧ ((im (a + 1) x4) = x1 → zPI g M_X3_countOf 5 [(0, .ref a), (1, .int (zi x1)), (2, .int (zi x2)), (3, .int (zi (zw (x3 + 1)))), (4, .int (zi (zw (x4 + 1))))] S im Q))))))))))) :
    zPI g M_X3_countOf 5 [(0, .ref a), (1, .int (zi x1)), (2, .int (zi x2)), (3, .int (zi x3)), (4, .int (zi x4))] S im Q := by
  refine p_iload dX3_countOf_5 (q := 4) rfl ?_
  refine p_aload_n dX3_countOf_7 rfl (q := 0) rfl ?_
  refine p_getI (j := 0) G f_RX3_24 rfl (hS 0 (by decide)).1 dX3_countOf_8 (fun c1 => ?_)
  refine p_icmp_ge (tgt := 50) dX3_countOf_11 (by decide) (nf_r c_x4) (nf_r c1) (fun b2 => ?_) (fun b2 => ?_)
  · have h := h.1 b2
    refine p_iload_n dX3_countOf_50 rfl (q := 3) rfl ?_
    exact p_iretI (by decide) (by decide) rfl (nf_r c_x3) dX3_countOf_51 h
  · have h := h.2 b2
    refine p_aload_n dX3_countOf_14 rfl (q := 0) rfl ?_
    refine p_getR (b := (a + 2)) G f_RX3_15 rfl (hS 0 (by decide)).1 ((hS 0 (by decide)).2.2 2 (by decide)) dX3_countOf_15 ?_
    refine p_iload dX3_countOf_18 (q := 4) rfl ?_
    have g3 := h.1
    have h := h.2
    refine p_iald G (hS 2 (by decide)).1 (nf_r c_x4) g3.1 (zln_lt (hS 2 (by decide)).2.1 g3.2) dX3_countOf_20 (fun c2 => ?_)
    refine p_iload_n dX3_countOf_21 rfl (q := 2) rfl ?_
    refine p_icmp_ne (tgt := 44) dX3_countOf_22 (by decide) (nf_r c2) (nf_r c_x2) (fun b4 => ?_) (fun b4 => ?_)
    · have h := h.1 b4
      refine p_iinc (q := 4) (lv' := [(4, .int (zi (x4 + 1))), (0, .ref a), (1, .int (zi x1)), (2, .int (zi x2)), (3, .int (zi x3))]) dX3_countOf_44 rfl (by decide) rfl ?_
      refine p_goto (tgt := 5) dX3_countOf_47 (by decide) ?_
      refine p_sub (lv' := [(0, .ref a), (1, .int (zi x1)), (2, .int (zi x2)), (3, .int (zi x3)), (4, .int (zi (zw (x4 + 1))))]) [1, 2, 3, 4, 0] (by simp only [zi_zw, zl_zwl]; rfl) ?_
      exact h
    · have h := h.2 b4
      refine p_iload_n dX3_countOf_25 rfl (q := 1) rfl ?_
      refine p_iconst dX3_countOf_26 ?_
      refine p_icmp_eq (tgt := 41) dX3_countOf_27 (by decide) (nf_r c_x1) (nf_k (by decide)) (fun b4 => ?_) (fun b4 => ?_)
      · have h := h.1 b4
        refine p_iinc (q := 3) (lv' := [(3, .int (zi (x3 + 1))), (0, .ref a), (1, .int (zi x1)), (2, .int (zi x2)), (4, .int (zi x4))]) dX3_countOf_41 rfl (by decide) rfl ?_
        refine p_iinc (q := 4) (lv' := [(4, .int (zi (x4 + 1))), (3, .int (zi (x3 + 1))), (0, .ref a), (1, .int (zi x1)), (2, .int (zi x2))]) dX3_countOf_44 rfl (by decide) rfl ?_
        refine p_goto (tgt := 5) dX3_countOf_47 (by decide) ?_
        refine p_sub (lv' := [(0, .ref a), (1, .int (zi x1)), (2, .int (zi x2)), (3, .int (zi (zw (x3 + 1)))), (4, .int (zi (zw (x4 + 1))))]) [2, 3, 4, 1, 0] (by simp only [zi_zw, zl_zwl]; rfl) ?_
        exact h
      · have h := h.2 b4
        refine p_aload_n dX3_countOf_30 rfl (q := 0) rfl ?_
        refine p_getR (b := (a + 1)) G f_RX3_9 rfl (hS 0 (by decide)).1 ((hS 0 (by decide)).2.2 1 (by decide)) dX3_countOf_31 ?_
        refine p_iload dX3_countOf_34 (q := 4) rfl ?_
        have g5 := h.1
        have h := h.2
        refine p_iald G (hS 1 (by decide)).1 (nf_r c_x4) g5.1 (zln_lt (hS 1 (by decide)).2.1 g5.2) dX3_countOf_36 (fun c4 => ?_)
        refine p_iload_n dX3_countOf_37 rfl (q := 1) rfl ?_
        refine p_icmp_ne (tgt := 44) dX3_countOf_38 (by decide) (nf_r c4) (nf_r c_x1) (fun b6 => ?_) (fun b6 => ?_)
        · have h := h.1 b6
          refine p_iinc (q := 4) (lv' := [(4, .int (zi (x4 + 1))), (0, .ref a), (1, .int (zi x1)), (2, .int (zi x2)), (3, .int (zi x3))]) dX3_countOf_44 rfl (by decide) rfl ?_
          refine p_goto (tgt := 5) dX3_countOf_47 (by decide) ?_
          refine p_sub (lv' := [(0, .ref a), (1, .int (zi x1)), (2, .int (zi x2)), (3, .int (zi x3)), (4, .int (zi (zw (x4 + 1))))]) [1, 2, 3, 4, 0] (by simp only [zi_zw, zl_zwl]; rfl) ?_
          exact h
        · have h := h.2 b6
          refine p_iinc (q := 3) (lv' := [(3, .int (zi (x3 + 1))), (0, .ref a), (1, .int (zi x1)), (2, .int (zi x2)), (4, .int (zi x4))]) dX3_countOf_41 rfl (by decide) rfl ?_
          refine p_iinc (q := 4) (lv' := [(4, .int (zi (x4 + 1))), (3, .int (zi (x3 + 1))), (0, .ref a), (1, .int (zi x1)), (2, .int (zi x2))]) dX3_countOf_44 rfl (by decide) rfl ?_
          refine p_goto (tgt := 5) dX3_countOf_47 (by decide) ?_
          refine p_sub (lv' := [(0, .ref a), (1, .int (zi x1)), (2, .int (zi x2)), (3, .int (zi (zw (x3 + 1)))), (4, .int (zi (zw (x4 + 1))))]) [2, 3, 4, 1, 0] (by simp only [zi_zw, zl_zwl]; rfl) ?_
          exact h
set_option maxRecDepth 20000 in
set_option maxHeartbeats 4000000 in
theorem v_X6_countOwned {g : zG} (G : zOK g) {S : zSh} {im : zIm} {a : Nat} {p1 : Int} {p2 : Int} {Q : Int → zIm → Prop} (hS : zS_U S a) (c_p1 : zc p1) (c_p2 : zc p2)
    (h : zPI g M_X6_countOwned 5 [(0, .ref a), (1, .int (zi p1)), (2, .int (zi p2)), (3, .int (zi 0)), (4, .int (zi 0))] S im Q) :
    zCI g yX6_countOwned M_X6_countOwned [.ref a, .int (zi p1), .int (zi p2)] S im Q := by
  refine zC_of (by decide) rfl rfl rfl rfl (Nat.le_of_ble_eq_true rfl) ?_
  refine p_iconst dX6_countOwned_0 ?_
  refine p_istore_n (lv' := [(3, .int (zi 0)), (0, .ref a), (1, .int (zi p1)), (2, .int (zi p2))]) dX6_countOwned_1 rfl (by decide) rfl ?_
  refine p_iconst dX6_countOwned_2 ?_
  refine p_istore (lv' := [(4, .int (zi 0)), (3, .int (zi 0)), (0, .ref a), (1, .int (zi p1)), (2, .int (zi p2))]) dX6_countOwned_3 (by decide) rfl ?_
  refine p_sub (lv' := [(0, .ref a), (1, .int (zi p1)), (2, .int (zi p2)), (3, .int (zi 0)), (4, .int (zi 0))]) [2, 3, 4, 1, 0] rfl ?_
  exact h
set_option maxRecDepth 20000 in
set_option maxHeartbeats 4000000 in
theorem v_X6_countOwned_5 {g : zG} (G : zOK g) {S : zSh} {im : zIm} {a : Nat} {x1 : Int} {x2 : Int} {x3 : Int} {x4 : Int} {Q : Int → zIm → Prop} (hS : zS_U S a) (c_x1 : zc x1) (c_x2 : zc x2) (c_x3 : zc x3) (c_x4 : zc x4)
    (h : (((im a 0) ≤ x4 → Q x3 im) ∧ (x4 < (im a 0) → ((0 ≤ x4 ∧ x4 < 300) ∧ ((¬ (im (a + 5) x4) = x1 → zPI g M_X6_countOwned 5 [(0, .ref a), (1, .int (zi x1)), (2, .int (zi x2)), (3, .int (zi x3)), (4, .int (zi (zw (x4 + 1))))] S im Q) ∧ ((im (a + 5) x4) = x1 → ((0 ≤ x4 ∧ x4 < 300) ∧ ((¬ (im (a + 3) x4) = x2 → zPI g M_X6_countOwned 5 [(0, .ref a), (1, .int (zi x1)), (2, .int (zi x2)), (3, .int (zi x3)), (4, .int (zi (zw (x4 + 1))))] S im Q) ∧ ((im (a + 3) x4) = x2 → zPI g M_X6_countOwned 5 [(0, .ref a), (1, .int (zi x1)), (2, .int (zi x2)), (3, .int (zi (zw (x3 + 1)))), (4, .int (zi (zw (x4 + 1))))] S im Q))))))))) :
    zPI g M_X6_countOwned 5 [(0, .ref a), (1, .int (zi x1)), (2, .int (zi x2)), (3, .int (zi x3)), (4, .int (zi x4))] S im Q := by
  refine p_iload dX6_countOwned_5 (q := 4) rfl ?_
  refine p_aload_n dX6_countOwned_7 rfl (q := 0) rfl ?_
  refine p_getI (j := 0) G f_RX6_30 rfl (hS 0 (by decide)).1 dX6_countOwned_8 (fun c1 => ?_)
  refine p_icmp_ge (tgt := 45) dX6_countOwned_11 (by decide) (nf_r c_x4) (nf_r c1) (fun b2 => ?_) (fun b2 => ?_)
  · have h := h.1 b2
    refine p_iload_n dX6_countOwned_45 rfl (q := 3) rfl ?_
    exact p_iretI (by decide) (by decide) rfl (nf_r c_x3) dX6_countOwned_46 h
  · have h := h.2 b2
    refine p_aload_n dX6_countOwned_14 rfl (q := 0) rfl ?_
    refine p_getR (b := (a + 5)) G f_RX6_24 rfl (hS 0 (by decide)).1 ((hS 0 (by decide)).2.2 5 (by decide)) dX6_countOwned_15 ?_
    refine p_iload dX6_countOwned_18 (q := 4) rfl ?_
    have g3 := h.1
    have h := h.2
    refine p_iald G (hS 5 (by decide)).1 (nf_r c_x4) g3.1 (zln_lt (hS 5 (by decide)).2.1 g3.2) dX6_countOwned_20 (fun c2 => ?_)
    refine p_iload_n dX6_countOwned_21 rfl (q := 1) rfl ?_
    refine p_icmp_ne (tgt := 39) dX6_countOwned_22 (by decide) (nf_r c2) (nf_r c_x1) (fun b4 => ?_) (fun b4 => ?_)
    · have h := h.1 b4
      refine p_iinc (q := 4) (lv' := [(4, .int (zi (x4 + 1))), (0, .ref a), (1, .int (zi x1)), (2, .int (zi x2)), (3, .int (zi x3))]) dX6_countOwned_39 rfl (by decide) rfl ?_
      refine p_goto (tgt := 5) dX6_countOwned_42 (by decide) ?_
      refine p_sub (lv' := [(0, .ref a), (1, .int (zi x1)), (2, .int (zi x2)), (3, .int (zi x3)), (4, .int (zi (zw (x4 + 1))))]) [1, 2, 3, 4, 0] (by simp only [zi_zw, zl_zwl]; rfl) ?_
      exact h
    · have h := h.2 b4
      refine p_aload_n dX6_countOwned_25 rfl (q := 0) rfl ?_
      refine p_getR (b := (a + 3)) G f_RX6_18 rfl (hS 0 (by decide)).1 ((hS 0 (by decide)).2.2 3 (by decide)) dX6_countOwned_26 ?_
      refine p_iload dX6_countOwned_29 (q := 4) rfl ?_
      have g5 := h.1
      have h := h.2
      refine p_iald G (hS 3 (by decide)).1 (nf_r c_x4) g5.1 (zln_lt (hS 3 (by decide)).2.1 g5.2) dX6_countOwned_31 (fun c4 => ?_)
      refine p_iload_n dX6_countOwned_32 rfl (q := 2) rfl ?_
      refine p_icmp_ne (tgt := 39) dX6_countOwned_33 (by decide) (nf_r c4) (nf_r c_x2) (fun b6 => ?_) (fun b6 => ?_)
      · have h := h.1 b6
        refine p_iinc (q := 4) (lv' := [(4, .int (zi (x4 + 1))), (0, .ref a), (1, .int (zi x1)), (2, .int (zi x2)), (3, .int (zi x3))]) dX6_countOwned_39 rfl (by decide) rfl ?_
        refine p_goto (tgt := 5) dX6_countOwned_42 (by decide) ?_
        refine p_sub (lv' := [(0, .ref a), (1, .int (zi x1)), (2, .int (zi x2)), (3, .int (zi x3)), (4, .int (zi (zw (x4 + 1))))]) [1, 2, 3, 4, 0] (by simp only [zi_zw, zl_zwl]; rfl) ?_
        exact h
      · have h := h.2 b6
        refine p_iinc (q := 3) (lv' := [(3, .int (zi (x3 + 1))), (0, .ref a), (1, .int (zi x1)), (2, .int (zi x2)), (4, .int (zi x4))]) dX6_countOwned_36 rfl (by decide) rfl ?_
        refine p_iinc (q := 4) (lv' := [(4, .int (zi (x4 + 1))), (3, .int (zi (x3 + 1))), (0, .ref a), (1, .int (zi x1)), (2, .int (zi x2))]) dX6_countOwned_39 rfl (by decide) rfl ?_
        refine p_goto (tgt := 5) dX6_countOwned_42 (by decide) ?_
        refine p_sub (lv' := [(0, .ref a), (1, .int (zi x1)), (2, .int (zi x2)), (3, .int (zi (zw (x3 + 1)))), (4, .int (zi (zw (x4 + 1))))]) [2, 3, 4, 1, 0] (by simp only [zi_zw, zl_zwl]; rfl) ?_
        exact h
set_option maxRecDepth 20000 in
set_option maxHeartbeats 4000000 in
theorem v_X2_expected {g : zG} (G : zOK g) {S : zSh} {im : zIm} {a : Nat} {p1 : Int} {p2 : Int} {Q : Int → zIm → Prop} (hS : zS_N S a) (c_p1 : zc p1) (c_p2 : zc p2)
    (h : zCI g yX6_countOwned M_X6_countOwned [.ref (a + 18), .int (zi p1), .int (zi p2)] S im (fun r1 im2 => zCI g yX3_countOf M_X3_countOf [.ref (a + 30), .int (zi p1), .int (zi p2)] S im2 (fun r4 im5 => Q (zw (r1 + r4)) im5))) :
    zCI g yX2_expected M_X2_expected [.ref a, .int (zi p1), .int (zi p2)] S im Q := by
  refine zC_of (by decide) rfl rfl rfl rfl (Nat.le_of_ble_eq_true rfl) ?_
  refine p_aload_n dX2_expected_0 rfl (q := 0) rfl ?_
  refine p_getR (b := (a + 18)) G f_RX2_35 rfl (hS 0 (by decide)).1 ((hS 0 (by decide)).2.2 5 (by decide)) dX2_expected_1 ?_
  refine p_iload_n dX2_expected_4 rfl (q := 1) rfl ?_
  refine p_iload_n dX2_expected_5 rfl (q := 2) rfl ?_
  refine p_VI G k_RX2_101 (by decide) (hS 18 (by decide)).1 rfl rfl (Nat.le_of_ble_eq_true rfl) ⟨by decide, by decide⟩ ⟨by decide, by decide⟩ dX2_expected_6 h (fun r1 im2 c3 h => ?_)
  refine p_aload_n dX2_expected_9 rfl (q := 0) rfl ?_
  refine p_getR (b := (a + 30)) G f_RX2_46 rfl (hS 0 (by decide)).1 ((hS 0 (by decide)).2.2 7 (by decide)) dX2_expected_10 ?_
  refine p_iload_n dX2_expected_13 rfl (q := 1) rfl ?_
  refine p_iload_n dX2_expected_14 rfl (q := 2) rfl ?_
  refine p_VI G k_RX2_94 (by decide) (hS 30 (by decide)).1 rfl rfl (Nat.le_of_ble_eq_true rfl) ⟨by decide, by decide⟩ ⟨by decide, by decide⟩ dX2_expected_15 h (fun r4 im5 c6 h => ?_)
  refine p_iadd dX2_expected_18 ?_
  exact p_iretI (by decide) (by decide) rfl (nf_w _) dX2_expected_19 h
set_option maxRecDepth 20000 in
set_option maxHeartbeats 4000000 in
theorem v_X6_countKind {g : zG} (G : zOK g) {S : zSh} {im : zIm} {a : Nat} {p1 : Int} {p2 : Int} {Q : Int → zIm → Prop} (hS : zS_U S a) (c_p1 : zc p1) (c_p2 : zc p2)
    (h : zPI g M_X6_countKind 5 [(0, .ref a), (1, .int (zi p1)), (2, .int (zi p2)), (3, .int (zi 0)), (4, .int (zi 0))] S im Q) :
    zCI g yX6_countKind M_X6_countKind [.ref a, .int (zi p1), .int (zi p2)] S im Q := by
  refine zC_of (by decide) rfl rfl rfl rfl (Nat.le_of_ble_eq_true rfl) ?_
  refine p_iconst dX6_countKind_0 ?_
  refine p_istore_n (lv' := [(3, .int (zi 0)), (0, .ref a), (1, .int (zi p1)), (2, .int (zi p2))]) dX6_countKind_1 rfl (by decide) rfl ?_
  refine p_iconst dX6_countKind_2 ?_
  refine p_istore (lv' := [(4, .int (zi 0)), (3, .int (zi 0)), (0, .ref a), (1, .int (zi p1)), (2, .int (zi p2))]) dX6_countKind_3 (by decide) rfl ?_
  refine p_sub (lv' := [(0, .ref a), (1, .int (zi p1)), (2, .int (zi p2)), (3, .int (zi 0)), (4, .int (zi 0))]) [2, 3, 4, 1, 0] rfl ?_
  exact h
set_option maxRecDepth 20000 in
set_option maxHeartbeats 4000000 in
theorem v_X6_countKind_5 {g : zG} (G : zOK g) {S : zSh} {im : zIm} {a : Nat} {x1 : Int} {x2 : Int} {x3 : Int} {x4 : Int} {Q : Int → zIm → Prop} (hS : zS_U S a) (c_x1 : zc x1) (c_x2 : zc x2) (c_x3 : zc x3) (c_x4 : zc x4)
    (h : (((im a 0) ≤ x4 → Q x3 im) ∧ (x4 < (im a 0) → ((0 ≤ x4 ∧ x4 < 300) ∧ ((¬ (im (a + 3) x4) = x1 → zPI g M_X6_countKind 5 [(0, .ref a), (1, .int (zi x1)), (2, .int (zi x2)), (3, .int (zi x3)), (4, .int (zi (zw (x4 + 1))))] S im Q) ∧ ((im (a + 3) x4) = x1 → ((0 ≤ x4 ∧ x4 < 300) ∧ ((¬ (im (a + 2) x4) = x2 → zPI g M_X6_countKind 5 [(0, .ref a), (1, .int (zi x1)), (2, .int (zi x2)), (3, .int (zi x3)), (4, .int (zi (zw (x4 + 1))))] S im Q) ∧ ((im (a + 2) x4) = x2 → zPI g M_X6_countKind 5 [(0, .ref a), (1, .int (zi x1)), (2, .int (zi x2)), (3, .int (zi (zw (x3 + 1)))), (4, .int (zi (zw (x4 + 1))))] S im Q))))))))) :
    zPI g M_X6_countKind 5 [(0, .ref a), (1, .int (zi x1)), (2, .int (zi x2)), (3, .int (zi x3)), (4, .int (zi x4))] S im Q := by
  refine p_iload dX6_countKind_5 (q := 4) rfl ?_
  refine p_aload_n dX6_countKind_7 rfl (q := 0) rfl ?_
  refine p_getI (j := 0) G f_RX6_30 rfl (hS 0 (by decide)).1 dX6_countKind_8 (fun c1 => ?_)
  refine p_icmp_ge (tgt := 45) dX6_countKind_11 (by decide) (nf_r c_x4) (nf_r c1) (fun b2 => ?_) (fun b2 => ?_)
  · have h := h.1 b2
    refine p_iload_n dX6_countKind_45 rfl (q := 3) rfl ?_
    exact p_iretI (by decide) (by decide) rfl (nf_r c_x3) dX6_countKind_46 h
  · have h := h.2 b2
    refine p_aload_n dX6_countKind_14 rfl (q := 0) rfl ?_
    refine p_getR (b := (a + 3)) G f_RX6_18 rfl (hS 0 (by decide)).1 ((hS 0 (by decide)).2.2 3 (by decide)) dX6_countKind_15 ?_
    refine p_iload dX6_countKind_18 (q := 4) rfl ?_
    have g3 := h.1
    have h := h.2
    refine p_iald G (hS 3 (by decide)).1 (nf_r c_x4) g3.1 (zln_lt (hS 3 (by decide)).2.1 g3.2) dX6_countKind_20 (fun c2 => ?_)
    refine p_iload_n dX6_countKind_21 rfl (q := 1) rfl ?_
    refine p_icmp_ne (tgt := 39) dX6_countKind_22 (by decide) (nf_r c2) (nf_r c_x1) (fun b4 => ?_) (fun b4 => ?_)
    · have h := h.1 b4
      refine p_iinc (q := 4) (lv' := [(4, .int (zi (x4 + 1))), (0, .ref a), (1, .int (zi x1)), (2, .int (zi x2)), (3, .int (zi x3))]) dX6_countKind_39 rfl (by decide) rfl ?_
      refine p_goto (tgt := 5) dX6_countKind_42 (by decide) ?_
      refine p_sub (lv' := [(0, .ref a), (1, .int (zi x1)), (2, .int (zi x2)), (3, .int (zi x3)), (4, .int (zi (zw (x4 + 1))))]) [1, 2, 3, 4, 0] (by simp only [zi_zw, zl_zwl]; rfl) ?_
      exact h
    · have h := h.2 b4
      refine p_aload_n dX6_countKind_25 rfl (q := 0) rfl ?_
      refine p_getR (b := (a + 2)) G f_RX6_15 rfl (hS 0 (by decide)).1 ((hS 0 (by decide)).2.2 2 (by decide)) dX6_countKind_26 ?_
      refine p_iload dX6_countKind_29 (q := 4) rfl ?_
      have g5 := h.1
      have h := h.2
      refine p_iald G (hS 2 (by decide)).1 (nf_r c_x4) g5.1 (zln_lt (hS 2 (by decide)).2.1 g5.2) dX6_countKind_31 (fun c4 => ?_)
      refine p_iload_n dX6_countKind_32 rfl (q := 2) rfl ?_
      refine p_icmp_ne (tgt := 39) dX6_countKind_33 (by decide) (nf_r c4) (nf_r c_x2) (fun b6 => ?_) (fun b6 => ?_)
      · have h := h.1 b6
        refine p_iinc (q := 4) (lv' := [(4, .int (zi (x4 + 1))), (0, .ref a), (1, .int (zi x1)), (2, .int (zi x2)), (3, .int (zi x3))]) dX6_countKind_39 rfl (by decide) rfl ?_
        refine p_goto (tgt := 5) dX6_countKind_42 (by decide) ?_
        refine p_sub (lv' := [(0, .ref a), (1, .int (zi x1)), (2, .int (zi x2)), (3, .int (zi x3)), (4, .int (zi (zw (x4 + 1))))]) [1, 2, 3, 4, 0] (by simp only [zi_zw, zl_zwl]; rfl) ?_
        exact h
      · have h := h.2 b6
        refine p_iinc (q := 3) (lv' := [(3, .int (zi (x3 + 1))), (0, .ref a), (1, .int (zi x1)), (2, .int (zi x2)), (4, .int (zi x4))]) dX6_countKind_36 rfl (by decide) rfl ?_
        refine p_iinc (q := 4) (lv' := [(4, .int (zi (x4 + 1))), (3, .int (zi (x3 + 1))), (0, .ref a), (1, .int (zi x1)), (2, .int (zi x2))]) dX6_countKind_39 rfl (by decide) rfl ?_
        refine p_goto (tgt := 5) dX6_countKind_42 (by decide) ?_
        refine p_sub (lv' := [(0, .ref a), (1, .int (zi x1)), (2, .int (zi x2)), (3, .int (zi (zw (x3 + 1)))), (4, .int (zi (zw (x4 + 1))))]) [2, 3, 4, 1, 0] (by simp only [zi_zw, zl_zwl]; rfl) ?_
        exact h
set_option maxRecDepth 20000 in
set_option maxHeartbeats 4000000 in
theorem v_X2_countKind {g : zG} (G : zOK g) {S : zSh} {im : zIm} {a : Nat} {p1 : Int} {p2 : Int} {Q : Int → zIm → Prop} (hS : zS_N S a) (c_p1 : zc p1) (c_p2 : zc p2)
    (h : ((¬ p2 = 4 → zCI g yX6_countKind M_X6_countKind [.ref (a + 18), .int (zi p1), .int (zi p2)] S im (fun r1 im2 => Q r1 im2)) ∧ (p2 = 4 → zCI g yX3_countOf M_X3_countOf [.ref (a + 25), .int (zi 0), .int (zi p1)] S im (fun r1 im2 => Q r1 im2)))) :
    zCI g yX2_countKind M_X2_countKind [.ref a, .int (zi p1), .int (zi p2)] S im Q := by
  refine zC_of (by decide) rfl rfl rfl rfl (Nat.le_of_ble_eq_true rfl) ?_
  refine p_iload_n dX2_countKind_0 rfl (q := 2) rfl ?_
  refine p_iconst dX2_countKind_1 ?_
  refine p_icmp_ne (tgt := 17) dX2_countKind_2 (by decide) (nf_r c_p2) (nf_k (by decide)) (fun b1 => ?_) (fun b1 => ?_)
  · have h := h.1 b1
    refine p_aload_n dX2_countKind_17 rfl (q := 0) rfl ?_
    refine p_getR (b := (a + 18)) G f_RX2_35 rfl (hS 0 (by decide)).1 ((hS 0 (by decide)).2.2 5 (by decide)) dX2_countKind_18 ?_
    refine p_iload_n dX2_countKind_21 rfl (q := 1) rfl ?_
    refine p_iload_n dX2_countKind_22 rfl (q := 2) rfl ?_
    refine p_VI G k_RX2_98 (by decide) (hS 18 (by decide)).1 rfl rfl (Nat.le_of_ble_eq_true rfl) ⟨by decide, by decide⟩ ⟨by decide, by decide⟩ dX2_countKind_23 h (fun r1 im2 c3 h => ?_)
    exact p_iretI (by decide) (by decide) rfl (nf_r c3) dX2_countKind_26 h
  · have h := h.2 b1
    refine p_aload_n dX2_countKind_5 rfl (q := 0) rfl ?_
    refine p_getR (b := (a + 25)) G f_RX2_42 rfl (hS 0 (by decide)).1 ((hS 0 (by decide)).2.2 6 (by decide)) dX2_countKind_6 ?_
    refine p_iconst dX2_countKind_9 ?_
    refine p_iload_n dX2_countKind_10 rfl (q := 1) rfl ?_
    refine p_VI G k_RX2_94 (by decide) (hS 25 (by decide)).1 rfl rfl (Nat.le_of_ble_eq_true rfl) ⟨by decide, by decide⟩ ⟨by decide, by decide⟩ dX2_countKind_11 h (fun r1 im2 c3 h => ?_)
    refine p_goto (tgt := 26) dX2_countKind_14 (by decide) ?_
    exact p_iretI (by decide) (by decide) rfl (nf_r c3) dX2_countKind_26 h
set_option maxRecDepth 20000 in
set_option maxHeartbeats 4000000 in
theorem v_X6_firstArrival {g : zG} (G : zOK g) {S : zSh} {im : zIm} {a : Nat} {p1 : Int} {p2 : Int} {Q : Int → zIm → Prop} (hS : zS_U S a) (c_p1 : zc p1) (c_p2 : zc p2)
    (h : zPI g M_X6_firstArrival 2 [(0, .ref a), (1, .int (zi p1)), (2, .int (zi p2)), (3, .int (zi 0))] S im Q) :
    zCI g yX6_firstArrival M_X6_firstArrival [.ref a, .int (zi p1), .int (zi p2)] S im Q := by
  refine zC_of (by decide) rfl rfl rfl rfl (Nat.le_of_ble_eq_true rfl) ?_
  refine p_iconst dX6_firstArrival_0 ?_
  refine p_istore_n (lv' := [(3, .int (zi 0)), (0, .ref a), (1, .int (zi p1)), (2, .int (zi p2))]) dX6_firstArrival_1 rfl (by decide) rfl ?_
  refine p_sub (lv' := [(0, .ref a), (1, .int (zi p1)), (2, .int (zi p2)), (3, .int (zi 0))]) [1, 2, 3, 0] rfl ?_
  exact h
set_option maxRecDepth 20000 in
set_option maxHeartbeats 4000000 in
theorem v_X6_firstArrival_2 {g : zG} (G : zOK g) {S : zSh} {im : zIm} {a : Nat} {x1 : Int} {x2 : Int} {x3 : Int} {Q : Int → zIm → Prop} (hS : zS_U S a) (c_x1 : zc x1) (c_x2 : zc x2) (c_x3 : zc x3)
    (h : (((im a 0) ≤ x3 → Q (-1) im) ∧ (x3 < (im a 0) → ((0 ≤ x3 ∧ x3 < 300) ∧ ((¬ (im (a + 5) x3) = x1 → zPI g M_X6_firstArrival 2 [(0, .ref a), (1, .int (zi x1)), (2, .int (zi x2)), (3, .int (zi (zw (x3 + 1))))] S im Q) ∧ ((im (a + 5) x3) = x1 → ((0 ≤ x3 ∧ x3 < 300) ∧ ((¬ (im (a + 4) x3) = x1 → zPI g M_X6_firstArrival 2 [(0, .ref a), (1, .int (zi x1)), (2, .int (zi x2)), (3, .int (zi (zw (x3 + 1))))] S im Q) ∧ ((im (a + 4) x3) = x1 → ((0 ≤ x3 ∧ x3 < 300) ∧ ((¬ (im (a + 3) x3) = x2 → zPI g M_X6_firstArrival 2 [(0, .ref a), (1, .int (zi x1)), (2, .int (zi x2)), (3, .int (zi (zw (x3 + 1))))] S im Q) ∧ ((im (a + 3) x3) = x2 → Q x3 im)))))))))))) :
    zPI g M_X6_firstArrival 2 [(0, .ref a), (1, .int (zi x1)), (2, .int (zi x2)), (3, .int (zi x3))] S im Q := by
  refine p_iload_n dX6_firstArrival_2 rfl (q := 3) rfl ?_
  refine p_aload_n dX6_firstArrival_3 rfl (q := 0) rfl ?_
  refine p_getI (j := 0) G f_RX6_30 rfl (hS 0 (by decide)).1 dX6_firstArrival_4 (fun c1 => ?_)
  refine p_icmp_ge (tgt := 48) dX6_firstArrival_7 (by decide) (nf_r c_x3) (nf_r c1) (fun b2 => ?_) (fun b2 => ?_)
  · have h := h.1 b2
    refine p_iconst dX6_firstArrival_48 ?_
    exact p_iretI (by decide) (by decide) rfl (nf_k (by decide)) dX6_firstArrival_49 h
  · have h := h.2 b2
    refine p_aload_n dX6_firstArrival_10 rfl (q := 0) rfl ?_
    refine p_getR (b := (a + 5)) G f_RX6_24 rfl (hS 0 (by decide)).1 ((hS 0 (by decide)).2.2 5 (by decide)) dX6_firstArrival_11 ?_
    refine p_iload_n dX6_firstArrival_14 rfl (q := 3) rfl ?_
    have g3 := h.1
    have h := h.2
    refine p_iald G (hS 5 (by decide)).1 (nf_r c_x3) g3.1 (zln_lt (hS 5 (by decide)).2.1 g3.2) dX6_firstArrival_15 (fun c2 => ?_)
    refine p_iload_n dX6_firstArrival_16 rfl (q := 1) rfl ?_
    refine p_icmp_ne (tgt := 42) dX6_firstArrival_17 (by decide) (nf_r c2) (nf_r c_x1) (fun b4 => ?_) (fun b4 => ?_)
    · have h := h.1 b4
      refine p_iinc (q := 3) (lv' := [(3, .int (zi (x3 + 1))), (0, .ref a), (1, .int (zi x1)), (2, .int (zi x2))]) dX6_firstArrival_42 rfl (by decide) rfl ?_
      refine p_goto (tgt := 2) dX6_firstArrival_45 (by decide) ?_
      refine p_sub (lv' := [(0, .ref a), (1, .int (zi x1)), (2, .int (zi x2)), (3, .int (zi (zw (x3 + 1))))]) [1, 2, 3, 0] (by simp only [zi_zw, zl_zwl]; rfl) ?_
      exact h
    · have h := h.2 b4
      refine p_aload_n dX6_firstArrival_20 rfl (q := 0) rfl ?_
      refine p_getR (b := (a + 4)) G f_RX6_21 rfl (hS 0 (by decide)).1 ((hS 0 (by decide)).2.2 4 (by decide)) dX6_firstArrival_21 ?_
      refine p_iload_n dX6_firstArrival_24 rfl (q := 3) rfl ?_
      have g5 := h.1
      have h := h.2
      refine p_iald G (hS 4 (by decide)).1 (nf_r c_x3) g5.1 (zln_lt (hS 4 (by decide)).2.1 g5.2) dX6_firstArrival_25 (fun c4 => ?_)
      refine p_iload_n dX6_firstArrival_26 rfl (q := 1) rfl ?_
      refine p_icmp_ne (tgt := 42) dX6_firstArrival_27 (by decide) (nf_r c4) (nf_r c_x1) (fun b6 => ?_) (fun b6 => ?_)
      · have h := h.1 b6
        refine p_iinc (q := 3) (lv' := [(3, .int (zi (x3 + 1))), (0, .ref a), (1, .int (zi x1)), (2, .int (zi x2))]) dX6_firstArrival_42 rfl (by decide) rfl ?_
        refine p_goto (tgt := 2) dX6_firstArrival_45 (by decide) ?_
        refine p_sub (lv' := [(0, .ref a), (1, .int (zi x1)), (2, .int (zi x2)), (3, .int (zi (zw (x3 + 1))))]) [1, 2, 3, 0] (by simp only [zi_zw, zl_zwl]; rfl) ?_
        exact h
      · have h := h.2 b6
        refine p_aload_n dX6_firstArrival_30 rfl (q := 0) rfl ?_
        refine p_getR (b := (a + 3)) G f_RX6_18 rfl (hS 0 (by decide)).1 ((hS 0 (by decide)).2.2 3 (by decide)) dX6_firstArrival_31 ?_
        refine p_iload_n dX6_firstArrival_34 rfl (q := 3) rfl ?_
        have g7 := h.1
        have h := h.2
        refine p_iald G (hS 3 (by decide)).1 (nf_r c_x3) g7.1 (zln_lt (hS 3 (by decide)).2.1 g7.2) dX6_firstArrival_35 (fun c6 => ?_)
        refine p_iload_n dX6_firstArrival_36 rfl (q := 2) rfl ?_
        refine p_icmp_ne (tgt := 42) dX6_firstArrival_37 (by decide) (nf_r c6) (nf_r c_x2) (fun b8 => ?_) (fun b8 => ?_)
        · have h := h.1 b8
          refine p_iinc (q := 3) (lv' := [(3, .int (zi (x3 + 1))), (0, .ref a), (1, .int (zi x1)), (2, .int (zi x2))]) dX6_firstArrival_42 rfl (by decide) rfl ?_
          refine p_goto (tgt := 2) dX6_firstArrival_45 (by decide) ?_
          refine p_sub (lv' := [(0, .ref a), (1, .int (zi x1)), (2, .int (zi x2)), (3, .int (zi (zw (x3 + 1))))]) [1, 2, 3, 0] (by simp only [zi_zw, zl_zwl]; rfl) ?_
          exact h
        · have h := h.2 b8
          refine p_iload_n dX6_firstArrival_40 rfl (q := 3) rfl ?_
          exact p_iretI (by decide) (by decide) rfl (nf_r c_x3) dX6_firstArrival_41 h
set_option maxRecDepth 20000 in
set_option maxHeartbeats 4000000 in
theorem v_X2_total {g : zG} (G : zOK g) {S : zSh} {im : zIm} {a : Nat} {p1 : Nat} {p2 : Int} {p3 : Int} {Q : Int → zIm → Prop} (hS : zS_N S a) (hk_p1 : zkd S p1 = 9) (c_p2 : zc p2) (c_p3 : zc p3)
    (h : ((¬ p2 = (-1) → ((¬ p2 = (-1) → ((¬ p3 = (-1) → ((¬ p3 = (-1) → zPI g M_X2_total 71 [(1, .ref p1), (5, .int (zi p2)), (6, .int (zi p3)), (7, .int (zi p3)), (8, .int (zi 0)), (9, .int (zi p2))] S im Q) ∧ (p3 = (-1) → zPI g M_X2_total 71 [(1, .ref p1), (5, .int (zi p2)), (6, .int (zi p3)), (7, .int (zi (zw ((im (a + 3) 0) - 1)))), (8, .int (zi 0)), (9, .int (zi p2))] S im Q))) ∧ (p3 = (-1) → ((¬ p3 = (-1) → zPI g M_X2_total 71 [(1, .ref p1), (5, .int (zi p2)), (6, .int (zi 0)), (7, .int (zi p3)), (8, .int (zi 0)), (9, .int (zi p2))] S im Q) ∧ (p3 = (-1) → zPI g M_X2_total 71 [(1, .ref p1), (5, .int (zi p2)), (6, .int (zi 0)), (7, .int (zi (zw ((im (a + 3) 0) - 1)))), (8, .int (zi 0)), (9, .int (zi p2))] S im Q))))) ∧ (p2 = (-1) → ((¬ p3 = (-1) → ((¬ p3 = (-1) → zPI g M_X2_total 71 [(1, .ref p1), (5, .int (zi (zw ((im (a + 3) 1) - 1)))), (6, .int (zi p3)), (7, .int (zi p3)), (8, .int (zi 0)), (9, .int (zi p2))] S im Q) ∧ (p3 = (-1) → zPI g M_X2_total 71 [(1, .ref p1), (5, .int (zi (zw ((im (a + 3) 1) - 1)))), (6, .int (zi p3)), (7, .int (zi (zw ((im (a + 3) 0) - 1)))), (8, .int (zi 0)), (9, .int (zi p2))] S im Q))) ∧ (p3 = (-1) → ((¬ p3 = (-1) → zPI g M_X2_total 71 [(1, .ref p1), (5, .int (zi (zw ((im (a + 3) 1) - 1)))), (6, .int (zi 0)), (7, .int (zi p3)), (8, .int (zi 0)), (9, .int (zi p2))] S im Q) ∧ (p3 = (-1) → zPI g M_X2_total 71 [(1, .ref p1), (5, .int (zi (zw ((im (a + 3) 1) - 1)))), (6, .int (zi 0)), (7, .int (zi (zw ((im (a + 3) 0) - 1)))), (8, .int (zi 0)), (9, .int (zi p2))] S im Q))))))) ∧ (p2 = (-1) → ((¬ p2 = (-1) → ((¬ p3 = (-1) → ((¬ p3 = (-1) → zPI g M_X2_total 71 [(1, .ref p1), (5, .int (zi p2)), (6, .int (zi p3)), (7, .int (zi p3)), (8, .int (zi 0)), (9, .int (zi 1))] S im Q) ∧ (p3 = (-1) → zPI g M_X2_total 71 [(1, .ref p1), (5, .int (zi p2)), (6, .int (zi p3)), (7, .int (zi (zw ((im (a + 3) 0) - 1)))), (8, .int (zi 0)), (9, .int (zi 1))] S im Q))) ∧ (p3 = (-1) → ((¬ p3 = (-1) → zPI g M_X2_total 71 [(1, .ref p1), (5, .int (zi p2)), (6, .int (zi 0)), (7, .int (zi p3)), (8, .int (zi 0)), (9, .int (zi 1))] S im Q) ∧ (p3 = (-1) → zPI g M_X2_total 71 [(1, .ref p1), (5, .int (zi p2)), (6, .int (zi 0)), (7, .int (zi (zw ((im (a + 3) 0) - 1)))), (8, .int (zi 0)), (9, .int (zi 1))] S im Q))))) ∧ (p2 = (-1) → ((¬ p3 = (-1) → ((¬ p3 = (-1) → zPI g M_X2_total 71 [(1, .ref p1), (5, .int (zi (zw ((im (a + 3) 1) - 1)))), (6, .int (zi p3)), (7, .int (zi p3)), (8, .int (zi 0)), (9, .int (zi 1))] S im Q) ∧ (p3 = (-1) → zPI g M_X2_total 71 [(1, .ref p1), (5, .int (zi (zw ((im (a + 3) 1) - 1)))), (6, .int (zi p3)), (7, .int (zi (zw ((im (a + 3) 0) - 1)))), (8, .int (zi 0)), (9, .int (zi 1))] S im Q))) ∧ (p3 = (-1) → ((¬ p3 = (-1) → zPI g M_X2_total 71 [(1, .ref p1), (5, .int (zi (zw ((im (a + 3) 1) - 1)))), (6, .int (zi 0)), (7, .int (zi p3)), (8, .int (zi 0)), (9, .int (zi 1))] S im Q) ∧ (p3 = (-1) → zPI g M_X2_total 71 [(1, .ref p1), (5, .int (zi (zw ((im (a + 3) 1) - 1)))), (6, .int (zi 0)), (7, .int (zi (zw ((im (a + 3) 0) - 1)))), (8, .int (zi 0)), (9, .int (zi 1))] S im Q))))))))) :
    zCI g yX2_total M_X2_total [.ref a, .ref p1, .int (zi p2), .int (zi p3)] S im Q := by
  refine zC_of (by decide) rfl rfl rfl rfl (Nat.le_of_ble_eq_true rfl) ?_
  refine p_iload_n dX2_total_0 rfl (q := 2) rfl ?_
  refine p_iconst dX2_total_1 ?_
  refine p_icmp_ne (tgt := 9) dX2_total_2 (by decide) (nf_r c_p2) (nf_k (by decide)) (fun b1 => ?_) (fun b1 => ?_)
  · have h := h.1 b1
    refine p_iload_n dX2_total_9 rfl (q := 2) rfl ?_
    refine p_istore (lv' := [(4, .int (zi p2)), (0, .ref a), (1, .ref p1), (2, .int (zi p2)), (3, .int (zi p3))]) dX2_total_10 (by decide) rfl ?_
    refine p_iload_n dX2_total_12 rfl (q := 3) rfl ?_
    refine p_iconst dX2_total_13 ?_
    refine p_icmp_ne (tgt := 29) dX2_total_14 (by decide) (nf_r c_p2) (nf_k (by decide)) (fun b1 => ?_) (fun b1 => ?_)
    · have h := h.1 b1
      refine p_iload_n dX2_total_29 rfl (q := 3) rfl ?_
      refine p_istore (lv' := [(5, .int (zi p2)), (4, .int (zi p2)), (0, .ref a), (1, .ref p1), (2, .int (zi p2)), (3, .int (zi p3))]) dX2_total_30 (by decide) rfl ?_
      refine p_iload_n dX2_total_32 rfl (q := 5) rfl ?_
      refine p_iconst dX2_total_33 ?_
      refine p_icmp_ne (tgt := 41) dX2_total_34 (by decide) (nf_r c_p3) (nf_k (by decide)) (fun b1 => ?_) (fun b1 => ?_)
      · have h := h.1 b1
        refine p_iload_n dX2_total_41 rfl (q := 5) rfl ?_
        refine p_istore (lv' := [(6, .int (zi p3)), (5, .int (zi p2)), (4, .int (zi p2)), (0, .ref a), (1, .ref p1), (2, .int (zi p2)), (3, .int (zi p3))]) dX2_total_42 (by decide) rfl ?_
        refine p_iload_n dX2_total_44 rfl (q := 6) rfl ?_
        refine p_iconst dX2_total_45 ?_
        refine p_icmp_ne (tgt := 61) dX2_total_46 (by decide) (nf_r c_p3) (nf_k (by decide)) (fun b1 => ?_) (fun b1 => ?_)
        · have h := h.1 b1
          refine p_iload_n dX2_total_61 rfl (q := 6) rfl ?_
          refine p_istore (lv' := [(7, .int (zi p3)), (6, .int (zi p3)), (5, .int (zi p2)), (4, .int (zi p2)), (0, .ref a), (1, .ref p1), (2, .int (zi p2)), (3, .int (zi p3))]) dX2_total_62 (by decide) rfl ?_
          refine p_iconst dX2_total_64 ?_
          refine p_istore (lv' := [(8, .int (zi 0)), (7, .int (zi p3)), (6, .int (zi p3)), (5, .int (zi p2)), (4, .int (zi p2)), (0, .ref a), (1, .ref p1), (2, .int (zi p2)), (3, .int (zi p3))]) dX2_total_65 (by decide) rfl ?_
          refine p_iload dX2_total_67 (q := 4) rfl ?_
          refine p_istore (lv' := [(9, .int (zi p2)), (8, .int (zi 0)), (7, .int (zi p3)), (6, .int (zi p3)), (5, .int (zi p2)), (4, .int (zi p2)), (0, .ref a), (1, .ref p1), (2, .int (zi p2)), (3, .int (zi p3))]) dX2_total_69 (by decide) rfl ?_
          refine p_sub (lv' := [(1, .ref p1), (5, .int (zi p2)), (6, .int (zi p3)), (7, .int (zi p3)), (8, .int (zi 0)), (9, .int (zi p2))]) [7, 4, 3, 2, 1, 0] rfl ?_
          exact h
        · have h := h.2 b1
          refine p_aload_n dX2_total_49 rfl (q := 3) rfl ?_
          refine p_getR (b := (a + 3)) G f_RX2_21 rfl (hS 0 (by decide)).1 ((hS 0 (by decide)).2.2 3 (by decide)) dX2_total_50 ?_
          refine p_getI (j := 0) G f_RX2_107 rfl (hS 3 (by decide)).1 dX2_total_53 (fun c1 => ?_)
          refine p_iconst dX2_total_56 ?_
          refine p_isub dX2_total_57 ?_
          refine p_goto (tgt := 62) dX2_total_58 (by decide) ?_
          refine p_istore (lv' := [(7, .int (zi ((im (a + 3) 0) - 1))), (6, .int (zi p3)), (5, .int (zi p2)), (4, .int (zi p2)), (0, .ref a), (1, .ref p1), (2, .int (zi p2)), (3, .int (zi p3))]) dX2_total_62 (by decide) rfl ?_
          refine p_iconst dX2_total_64 ?_
          refine p_istore (lv' := [(8, .int (zi 0)), (7, .int (zi ((im (a + 3) 0) - 1))), (6, .int (zi p3)), (5, .int (zi p2)), (4, .int (zi p2)), (0, .ref a), (1, .ref p1), (2, .int (zi p2)), (3, .int (zi p3))]) dX2_total_65 (by decide) rfl ?_
          refine p_iload dX2_total_67 (q := 4) rfl ?_
          refine p_istore (lv' := [(9, .int (zi p2)), (8, .int (zi 0)), (7, .int (zi ((im (a + 3) 0) - 1))), (6, .int (zi p3)), (5, .int (zi p2)), (4, .int (zi p2)), (0, .ref a), (1, .ref p1), (2, .int (zi p2)), (3, .int (zi p3))]) dX2_total_69 (by decide) rfl ?_
          refine p_sub (lv' := [(1, .ref p1), (5, .int (zi p2)), (6, .int (zi p3)), (7, .int (zi (zw ((im (a + 3) 0) - 1)))), (8, .int (zi 0)), (9, .int (zi p2))]) [7, 4, 3, 2, 1, 0] (by simp only [zi_zw, zl_zwl]; rfl) ?_
          exact h
      · have h := h.2 b1
        refine p_iconst dX2_total_37 ?_
        refine p_goto (tgt := 42) dX2_total_38 (by decide) ?_
        refine p_istore (lv' := [(6, .int (zi 0)), (5, .int (zi p2)), (4, .int (zi p2)), (0, .ref a), (1, .ref p1), (2, .int (zi p2)), (3, .int (zi p3))]) dX2_total_42 (by decide) rfl ?_
        refine p_iload_n dX2_total_44 rfl (q := 6) rfl ?_
        refine p_iconst dX2_total_45 ?_
        refine p_icmp_ne (tgt := 61) dX2_total_46 (by decide) (nf_r c_p3) (nf_k (by decide)) (fun b1 => ?_) (fun b1 => ?_)
        · have h := h.1 b1
          refine p_iload_n dX2_total_61 rfl (q := 6) rfl ?_
          refine p_istore (lv' := [(7, .int (zi p3)), (6, .int (zi 0)), (5, .int (zi p2)), (4, .int (zi p2)), (0, .ref a), (1, .ref p1), (2, .int (zi p2)), (3, .int (zi p3))]) dX2_total_62 (by decide) rfl ?_
          refine p_iconst dX2_total_64 ?_
          refine p_istore (lv' := [(8, .int (zi 0)), (7, .int (zi p3)), (6, .int (zi 0)), (5, .int (zi p2)), (4, .int (zi p2)), (0, .ref a), (1, .ref p1), (2, .int (zi p2)), (3, .int (zi p3))]) dX2_total_65 (by decide) rfl ?_
          refine p_iload dX2_total_67 (q := 4) rfl ?_
          refine p_istore (lv' := [(9, .int (zi p2)), (8, .int (zi 0)), (7, .int (zi p3)), (6, .int (zi 0)), (5, .int (zi p2)), (4, .int (zi p2)), (0, .ref a), (1, .ref p1), (2, .int (zi p2)), (3, .int (zi p3))]) dX2_total_69 (by decide) rfl ?_
          refine p_sub (lv' := [(1, .ref p1), (5, .int (zi p2)), (6, .int (zi 0)), (7, .int (zi p3)), (8, .int (zi 0)), (9, .int (zi p2))]) [7, 4, 3, 2, 1, 0] rfl ?_
          exact h
        · have h := h.2 b1
          refine p_aload_n dX2_total_49 rfl (q := 3) rfl ?_
          refine p_getR (b := (a + 3)) G f_RX2_21 rfl (hS 0 (by decide)).1 ((hS 0 (by decide)).2.2 3 (by decide)) dX2_total_50 ?_
          refine p_getI (j := 0) G f_RX2_107 rfl (hS 3 (by decide)).1 dX2_total_53 (fun c1 => ?_)
          refine p_iconst dX2_total_56 ?_
          refine p_isub dX2_total_57 ?_
          refine p_goto (tgt := 62) dX2_total_58 (by decide) ?_
          refine p_istore (lv' := [(7, .int (zi ((im (a + 3) 0) - 1))), (6, .int (zi 0)), (5, .int (zi p2)), (4, .int (zi p2)), (0, .ref a), (1, .ref p1), (2, .int (zi p2)), (3, .int (zi p3))]) dX2_total_62 (by decide) rfl ?_
          refine p_iconst dX2_total_64 ?_
          refine p_istore (lv' := [(8, .int (zi 0)), (7, .int (zi ((im (a + 3) 0) - 1))), (6, .int (zi 0)), (5, .int (zi p2)), (4, .int (zi p2)), (0, .ref a), (1, .ref p1), (2, .int (zi p2)), (3, .int (zi p3))]) dX2_total_65 (by decide) rfl ?_
          refine p_iload dX2_total_67 (q := 4) rfl ?_
          refine p_istore (lv' := [(9, .int (zi p2)), (8, .int (zi 0)), (7, .int (zi ((im (a + 3) 0) - 1))), (6, .int (zi 0)), (5, .int (zi p2)), (4, .int (zi p2)), (0, .ref a), (1, .ref p1), (2, .int (zi p2)), (3, .int (zi p3))]) dX2_total_69 (by decide) rfl ?_
          refine p_sub (lv' := [(1, .ref p1), (5, .int (zi p2)), (6, .int (zi 0)), (7, .int (zi (zw ((im (a + 3) 0) - 1)))), (8, .int (zi 0)), (9, .int (zi p2))]) [7, 4, 3, 2, 1, 0] (by simp only [zi_zw, zl_zwl]; rfl) ?_
          exact h
    · have h := h.2 b1
      refine p_aload_n dX2_total_17 rfl (q := 1) rfl ?_
      refine p_getR (b := (a + 3)) G f_RX2_21 rfl (hS 0 (by decide)).1 ((hS 0 (by decide)).2.2 3 (by decide)) dX2_total_18 ?_
      refine p_getI (j := 1) G f_RX2_104 rfl (hS 3 (by decide)).1 dX2_total_21 (fun c1 => ?_)
      refine p_iconst dX2_total_24 ?_
      refine p_isub dX2_total_25 ?_
      refine p_goto (tgt := 30) dX2_total_26 (by decide) ?_
      refine p_istore (lv' := [(5, .int (zi ((im (a + 3) 1) - 1))), (4, .int (zi p2)), (0, .ref a), (1, .ref p1), (2, .int (zi p2)), (3, .int (zi p3))]) dX2_total_30 (by decide) rfl ?_
      refine p_iload_n dX2_total_32 rfl (q := 5) rfl ?_
      refine p_iconst dX2_total_33 ?_
      refine p_icmp_ne (tgt := 41) dX2_total_34 (by decide) (nf_r c_p3) (nf_k (by decide)) (fun b2 => ?_) (fun b2 => ?_)
      · have h := h.1 b2
        refine p_iload_n dX2_total_41 rfl (q := 5) rfl ?_
        refine p_istore (lv' := [(6, .int (zi p3)), (5, .int (zi ((im (a + 3) 1) - 1))), (4, .int (zi p2)), (0, .ref a), (1, .ref p1), (2, .int (zi p2)), (3, .int (zi p3))]) dX2_total_42 (by decide) rfl ?_
        refine p_iload_n dX2_total_44 rfl (q := 6) rfl ?_
        refine p_iconst dX2_total_45 ?_
        refine p_icmp_ne (tgt := 61) dX2_total_46 (by decide) (nf_r c_p3) (nf_k (by decide)) (fun b2 => ?_) (fun b2 => ?_)
        · have h := h.1 b2
          refine p_iload_n dX2_total_61 rfl (q := 6) rfl ?_
          refine p_istore (lv' := [(7, .int (zi p3)), (6, .int (zi p3)), (5, .int (zi ((im (a + 3) 1) - 1))), (4, .int (zi p2)), (0, .ref a), (1, .ref p1), (2, .int (zi p2)), (3, .int (zi p3))]) dX2_total_62 (by decide) rfl ?_
          refine p_iconst dX2_total_64 ?_
          refine p_istore (lv' := [(8, .int (zi 0)), (7, .int (zi p3)), (6, .int (zi p3)), (5, .int (zi ((im (a + 3) 1) - 1))), (4, .int (zi p2)), (0, .ref a), (1, .ref p1), (2, .int (zi p2)), (3, .int (zi p3))]) dX2_total_65 (by decide) rfl ?_
          refine p_iload dX2_total_67 (q := 4) rfl ?_
          refine p_istore (lv' := [(9, .int (zi p2)), (8, .int (zi 0)), (7, .int (zi p3)), (6, .int (zi p3)), (5, .int (zi ((im (a + 3) 1) - 1))), (4, .int (zi p2)), (0, .ref a), (1, .ref p1), (2, .int (zi p2)), (3, .int (zi p3))]) dX2_total_69 (by decide) rfl ?_
          refine p_sub (lv' := [(1, .ref p1), (5, .int (zi (zw ((im (a + 3) 1) - 1)))), (6, .int (zi p3)), (7, .int (zi p3)), (8, .int (zi 0)), (9, .int (zi p2))]) [7, 4, 3, 2, 1, 0] (by simp only [zi_zw, zl_zwl]; rfl) ?_
          exact h
        · have h := h.2 b2
          refine p_aload_n dX2_total_49 rfl (q := 3) rfl ?_
          refine p_getR (b := (a + 3)) G f_RX2_21 rfl (hS 0 (by decide)).1 ((hS 0 (by decide)).2.2 3 (by decide)) dX2_total_50 ?_
          refine p_getI (j := 0) G f_RX2_107 rfl (hS 3 (by decide)).1 dX2_total_53 (fun c2 => ?_)
          refine p_iconst dX2_total_56 ?_
          refine p_isub dX2_total_57 ?_
          refine p_goto (tgt := 62) dX2_total_58 (by decide) ?_
          refine p_istore (lv' := [(7, .int (zi ((im (a + 3) 0) - 1))), (6, .int (zi p3)), (5, .int (zi ((im (a + 3) 1) - 1))), (4, .int (zi p2)), (0, .ref a), (1, .ref p1), (2, .int (zi p2)), (3, .int (zi p3))]) dX2_total_62 (by decide) rfl ?_
          refine p_iconst dX2_total_64 ?_
          refine p_istore (lv' := [(8, .int (zi 0)), (7, .int (zi ((im (a + 3) 0) - 1))), (6, .int (zi p3)), (5, .int (zi ((im (a + 3) 1) - 1))), (4, .int (zi p2)), (0, .ref a), (1, .ref p1), (2, .int (zi p2)), (3, .int (zi p3))]) dX2_total_65 (by decide) rfl ?_
          refine p_iload dX2_total_67 (q := 4) rfl ?_
          refine p_istore (lv' := [(9, .int (zi p2)), (8, .int (zi 0)), (7, .int (zi ((im (a + 3) 0) - 1))), (6, .int (zi p3)), (5, .int (zi ((im (a + 3) 1) - 1))), (4, .int (zi p2)), (0, .ref a), (1, .ref p1), (2, .int (zi p2)), (3, .int (zi p3))]) dX2_total_69 (by decide) rfl ?_
          refine p_sub (lv' := [(1, .ref p1), (5, .int (zi (zw ((im (a + 3) 1) - 1)))), (6, .int (zi p3)), (7, .int (zi (zw ((im (a + 3) 0) - 1)))), (8, .int (zi 0)), (9, .int (zi p2))]) [7, 4, 3, 2, 1, 0] (by simp only [zi_zw, zl_zwl]; rfl) ?_
          exact h
      · have h := h.2 b2
        refine p_iconst dX2_total_37 ?_
        refine p_goto (tgt := 42) dX2_total_38 (by decide) ?_
        refine p_istore (lv' := [(6, .int (zi 0)), (5, .int (zi ((im (a + 3) 1) - 1))), (4, .int (zi p2)), (0, .ref a), (1, .ref p1), (2, .int (zi p2)), (3, .int (zi p3))]) dX2_total_42 (by decide) rfl ?_
        refine p_iload_n dX2_total_44 rfl (q := 6) rfl ?_
        refine p_iconst dX2_total_45 ?_
        refine p_icmp_ne (tgt := 61) dX2_total_46 (by decide) (nf_r c_p3) (nf_k (by decide)) (fun b2 => ?_) (fun b2 => ?_)
        · have h := h.1 b2
          refine p_iload_n dX2_total_61 rfl (q := 6) rfl ?_
          refine p_istore (lv' := [(7, .int (zi p3)), (6, .int (zi 0)), (5, .int (zi ((im (a + 3) 1) - 1))), (4, .int (zi p2)), (0, .ref a), (1, .ref p1), (2, .int (zi p2)), (3, .int (zi p3))]) dX2_total_62 (by decide) rfl ?_
          refine p_iconst dX2_total_64 ?_
          refine p_istore (lv' := [(8, .int (zi 0)), (7, .int (zi p3)), (6, .int (zi 0)), (5, .int (zi ((im (a + 3) 1) - 1))), (4, .int (zi p2)), (0, .ref a), (1, .ref p1), (2, .int (zi p2)), (3, .int (zi p3))]) dX2_total_65 (by decide) rfl ?_
          refine p_iload dX2_total_67 (q := 4) rfl ?_
          refine p_istore (lv' := [(9, .int (zi p2)), (8, .int (zi 0)), (7, .int (zi p3)), (6, .int (zi 0)), (5, .int (zi ((im (a + 3) 1) - 1))), (4, .int (zi p2)), (0, .ref a), (1, .ref p1), (2, .int (zi p2)), (3, .int (zi p3))]) dX2_total_69 (by decide) rfl ?_
          refine p_sub (lv' := [(1, .ref p1), (5, .int (zi (zw ((im (a + 3) 1) - 1)))), (6, .int (zi 0)), (7, .int (zi p3)), (8, .int (zi 0)), (9, .int (zi p2))]) [7, 4, 3, 2, 1, 0] (by simp only [zi_zw, zl_zwl]; rfl) ?_
          exact h
        · have h := h.2 b2
          refine p_aload_n dX2_total_49 rfl (q := 3) rfl ?_
          refine p_getR (b := (a + 3)) G f_RX2_21 rfl (hS 0 (by decide)).1 ((hS 0 (by decide)).2.2 3 (by decide)) dX2_total_50 ?_
          refine p_getI (j := 0) G f_RX2_107 rfl (hS 3 (by decide)).1 dX2_total_53 (fun c2 => ?_)
          refine p_iconst dX2_total_56 ?_
          refine p_isub dX2_total_57 ?_
          refine p_goto (tgt := 62) dX2_total_58 (by decide) ?_
          refine p_istore (lv' := [(7, .int (zi ((im (a + 3) 0) - 1))), (6, .int (zi 0)), (5, .int (zi ((im (a + 3) 1) - 1))), (4, .int (zi p2)), (0, .ref a), (1, .ref p1), (2, .int (zi p2)), (3, .int (zi p3))]) dX2_total_62 (by decide) rfl ?_
          refine p_iconst dX2_total_64 ?_
          refine p_istore (lv' := [(8, .int (zi 0)), (7, .int (zi ((im (a + 3) 0) - 1))), (6, .int (zi 0)), (5, .int (zi ((im (a + 3) 1) - 1))), (4, .int (zi p2)), (0, .ref a), (1, .ref p1), (2, .int (zi p2)), (3, .int (zi p3))]) dX2_total_65 (by decide) rfl ?_
          refine p_iload dX2_total_67 (q := 4) rfl ?_
          refine p_istore (lv' := [(9, .int (zi p2)), (8, .int (zi 0)), (7, .int (zi ((im (a + 3) 0) - 1))), (6, .int (zi 0)), (5, .int (zi ((im (a + 3) 1) - 1))), (4, .int (zi p2)), (0, .ref a), (1, .ref p1), (2, .int (zi p2)), (3, .int (zi p3))]) dX2_total_69 (by decide) rfl ?_
          refine p_sub (lv' := [(1, .ref p1), (5, .int (zi (zw ((im (a + 3) 1) - 1)))), (6, .int (zi 0)), (7, .int (zi (zw ((im (a + 3) 0) - 1)))), (8, .int (zi 0)), (9, .int (zi p2))]) [7, 4, 3, 2, 1, 0] (by simp only [zi_zw, zl_zwl]; rfl) ?_
          exact h
  · have h := h.2 b1
    refine p_iconst dX2_total_5 ?_
    refine p_goto (tgt := 10) dX2_total_6 (by decide) ?_
    refine p_istore (lv' := [(4, .int (zi 1)), (0, .ref a), (1, .ref p1), (2, .int (zi p2)), (3, .int (zi p3))]) dX2_total_10 (by decide) rfl ?_
    refine p_iload_n dX2_total_12 rfl (q := 3) rfl ?_
    refine p_iconst dX2_total_13 ?_
    refine p_icmp_ne (tgt := 29) dX2_total_14 (by decide) (nf_r c_p2) (nf_k (by decide)) (fun b1 => ?_) (fun b1 => ?_)
    · have h := h.1 b1
      refine p_iload_n dX2_total_29 rfl (q := 3) rfl ?_
      refine p_istore (lv' := [(5, .int (zi p2)), (4, .int (zi 1)), (0, .ref a), (1, .ref p1), (2, .int (zi p2)), (3, .int (zi p3))]) dX2_total_30 (by decide) rfl ?_
      refine p_iload_n dX2_total_32 rfl (q := 5) rfl ?_
      refine p_iconst dX2_total_33 ?_
      refine p_icmp_ne (tgt := 41) dX2_total_34 (by decide) (nf_r c_p3) (nf_k (by decide)) (fun b1 => ?_) (fun b1 => ?_)
      · have h := h.1 b1
        refine p_iload_n dX2_total_41 rfl (q := 5) rfl ?_
        refine p_istore (lv' := [(6, .int (zi p3)), (5, .int (zi p2)), (4, .int (zi 1)), (0, .ref a), (1, .ref p1), (2, .int (zi p2)), (3, .int (zi p3))]) dX2_total_42 (by decide) rfl ?_
        refine p_iload_n dX2_total_44 rfl (q := 6) rfl ?_
        refine p_iconst dX2_total_45 ?_
        refine p_icmp_ne (tgt := 61) dX2_total_46 (by decide) (nf_r c_p3) (nf_k (by decide)) (fun b1 => ?_) (fun b1 => ?_)
        · have h := h.1 b1
          refine p_iload_n dX2_total_61 rfl (q := 6) rfl ?_
          refine p_istore (lv' := [(7, .int (zi p3)), (6, .int (zi p3)), (5, .int (zi p2)), (4, .int (zi 1)), (0, .ref a), (1, .ref p1), (2, .int (zi p2)), (3, .int (zi p3))]) dX2_total_62 (by decide) rfl ?_
          refine p_iconst dX2_total_64 ?_
          refine p_istore (lv' := [(8, .int (zi 0)), (7, .int (zi p3)), (6, .int (zi p3)), (5, .int (zi p2)), (4, .int (zi 1)), (0, .ref a), (1, .ref p1), (2, .int (zi p2)), (3, .int (zi p3))]) dX2_total_65 (by decide) rfl ?_
          refine p_iload dX2_total_67 (q := 4) rfl ?_
          refine p_istore (lv' := [(9, .int (zi 1)), (8, .int (zi 0)), (7, .int (zi p3)), (6, .int (zi p3)), (5, .int (zi p2)), (4, .int (zi 1)), (0, .ref a), (1, .ref p1), (2, .int (zi p2)), (3, .int (zi p3))]) dX2_total_69 (by decide) rfl ?_
          refine p_sub (lv' := [(1, .ref p1), (5, .int (zi p2)), (6, .int (zi p3)), (7, .int (zi p3)), (8, .int (zi 0)), (9, .int (zi 1))]) [7, 4, 3, 2, 1, 0] rfl ?_
          exact h
        · have h := h.2 b1
          refine p_aload_n dX2_total_49 rfl (q := 3) rfl ?_
          refine p_getR (b := (a + 3)) G f_RX2_21 rfl (hS 0 (by decide)).1 ((hS 0 (by decide)).2.2 3 (by decide)) dX2_total_50 ?_
          refine p_getI (j := 0) G f_RX2_107 rfl (hS 3 (by decide)).1 dX2_total_53 (fun c1 => ?_)
          refine p_iconst dX2_total_56 ?_
          refine p_isub dX2_total_57 ?_
          refine p_goto (tgt := 62) dX2_total_58 (by decide) ?_
          refine p_istore (lv' := [(7, .int (zi ((im (a + 3) 0) - 1))), (6, .int (zi p3)), (5, .int (zi p2)), (4, .int (zi 1)), (0, .ref a), (1, .ref p1), (2, .int (zi p2)), (3, .int (zi p3))]) dX2_total_62 (by decide) rfl ?_
          refine p_iconst dX2_total_64 ?_
          refine p_istore (lv' := [(8, .int (zi 0)), (7, .int (zi ((im (a + 3) 0) - 1))), (6, .int (zi p3)), (5, .int (zi p2)), (4, .int (zi 1)), (0, .ref a), (1, .ref p1), (2, .int (zi p2)), (3, .int (zi p3))]) dX2_total_65 (by decide) rfl ?_
          refine p_iload dX2_total_67 (q := 4) rfl ?_
          refine p_istore (lv' := [(9, .int (zi 1)), (8, .int (zi 0)), (7, .int (zi ((im (a + 3) 0) - 1))), (6, .int (zi p3)), (5, .int (zi p2)), (4, .int (zi 1)), (0, .ref a), (1, .ref p1), (2, .int (zi p2)), (3, .int (zi p3))]) dX2_total_69 (by decide) rfl ?_
          refine p_sub (lv' := [(1, .ref p1), (5, .int (zi p2)), (6, .int (zi p3)), (7, .int (zi (zw ((im (a + 3) 0) - 1)))), (8, .int (zi 0)), (9, .int (zi 1))]) [7, 4, 3, 2, 1, 0] (by simp only [zi_zw, zl_zwl]; rfl) ?_
          exact h
      · have h := h.2 b1
        refine p_iconst dX2_total_37 ?_
        refine p_goto (tgt := 42) dX2_total_38 (by decide) ?_
        refine p_istore (lv' := [(6, .int (zi 0)), (5, .int (zi p2)), (4, .int (zi 1)), (0, .ref a), (1, .ref p1), (2, .int (zi p2)), (3, .int (zi p3))]) dX2_total_42 (by decide) rfl ?_
        refine p_iload_n dX2_total_44 rfl (q := 6) rfl ?_
        refine p_iconst dX2_total_45 ?_
        refine p_icmp_ne (tgt := 61) dX2_total_46 (by decide) (nf_r c_p3) (nf_k (by decide)) (fun b1 => ?_) (fun b1 => ?_)
        · have h := h.1 b1
          refine p_iload_n dX2_total_61 rfl (q := 6) rfl ?_
          refine p_istore (lv' := [(7, .int (zi p3)), (6, .int (zi 0)), (5, .int (zi p2)), (4, .int (zi 1)), (0, .ref a), (1, .ref p1), (2, .int (zi p2)), (3, .int (zi p3))]) dX2_total_62 (by decide) rfl ?_
          refine p_iconst dX2_total_64 ?_
          refine p_istore (lv' := [(8, .int (zi 0)), (7, .int (zi p3)), (6, .int (zi 0)), (5, .int (zi p2)), (4, .int (zi 1)), (0, .ref a), (1, .ref p1), (2, .int (zi p2)), (3, .int (zi p3))]) dX2_total_65 (by decide) rfl ?_
          refine p_iload dX2_total_67 (q := 4) rfl ?_
          refine p_istore (lv' := [(9, .int (zi 1)), (8, .int (zi 0)), (7, .int (zi p3)), (6, .int (zi 0)), (5, .int (zi p2)), (4, .int (zi 1)), (0, .ref a), (1, .ref p1), (2, .int (zi p2)), (3, .int (zi p3))]) dX2_total_69 (by decide) rfl ?_
          refine p_sub (lv' := [(1, .ref p1), (5, .int (zi p2)), (6, .int (zi 0)), (7, .int (zi p3)), (8, .int (zi 0)), (9, .int (zi 1))]) [7, 4, 3, 2, 1, 0] rfl ?_
          exact h
        · have h := h.2 b1
          refine p_aload_n dX2_total_49 rfl (q := 3) rfl ?_
          refine p_getR (b := (a + 3)) G f_RX2_21 rfl (hS 0 (by decide)).1 ((hS 0 (by decide)).2.2 3 (by decide)) dX2_total_50 ?_
          refine p_getI (j := 0) G f_RX2_107 rfl (hS 3 (by decide)).1 dX2_total_53 (fun c1 => ?_)
          refine p_iconst dX2_total_56 ?_
          refine p_isub dX2_total_57 ?_
          refine p_goto (tgt := 62) dX2_total_58 (by decide) ?_
          refine p_istore (lv' := [(7, .int (zi ((im (a + 3) 0) - 1))), (6, .int (zi 0)), (5, .int (zi p2)), (4, .int (zi 1)), (0, .ref a), (1, .ref p1), (2, .int (zi p2)), (3, .int (zi p3))]) dX2_total_62 (by decide) rfl ?_
          refine p_iconst dX2_total_64 ?_
          refine p_istore (lv' := [(8, .int (zi 0)), (7, .int (zi ((im (a + 3) 0) - 1))), (6, .int (zi 0)), (5, .int (zi p2)), (4, .int (zi 1)), (0, .ref a), (1, .ref p1), (2, .int (zi p2)), (3, .int (zi p3))]) dX2_total_65 (by decide) rfl ?_
          refine p_iload dX2_total_67 (q := 4) rfl ?_
          refine p_istore (lv' := [(9, .int (zi 1)), (8, .int (zi 0)), (7, .int (zi ((im (a + 3) 0) - 1))), (6, .int (zi 0)), (5, .int (zi p2)), (4, .int (zi 1)), (0, .ref a), (1, .ref p1), (2, .int (zi p2)), (3, .int (zi p3))]) dX2_total_69 (by decide) rfl ?_
          refine p_sub (lv' := [(1, .ref p1), (5, .int (zi p2)), (6, .int (zi 0)), (7, .int (zi (zw ((im (a + 3) 0) - 1)))), (8, .int (zi 0)), (9, .int (zi 1))]) [7, 4, 3, 2, 1, 0] (by simp only [zi_zw, zl_zwl]; rfl) ?_
          exact h
    · have h := h.2 b1
      refine p_aload_n dX2_total_17 rfl (q := 1) rfl ?_
      refine p_getR (b := (a + 3)) G f_RX2_21 rfl (hS 0 (by decide)).1 ((hS 0 (by decide)).2.2 3 (by decide)) dX2_total_18 ?_
      refine p_getI (j := 1) G f_RX2_104 rfl (hS 3 (by decide)).1 dX2_total_21 (fun c1 => ?_)
      refine p_iconst dX2_total_24 ?_
      refine p_isub dX2_total_25 ?_
      refine p_goto (tgt := 30) dX2_total_26 (by decide) ?_
      refine p_istore (lv' := [(5, .int (zi ((im (a + 3) 1) - 1))), (4, .int (zi 1)), (0, .ref a), (1, .ref p1), (2, .int (zi p2)), (3, .int (zi p3))]) dX2_total_30 (by decide) rfl ?_
      refine p_iload_n dX2_total_32 rfl (q := 5) rfl ?_
      refine p_iconst dX2_total_33 ?_
      refine p_icmp_ne (tgt := 41) dX2_total_34 (by decide) (nf_r c_p3) (nf_k (by decide)) (fun b2 => ?_) (fun b2 => ?_)
      · have h := h.1 b2
        refine p_iload_n dX2_total_41 rfl (q := 5) rfl ?_
        refine p_istore (lv' := [(6, .int (zi p3)), (5, .int (zi ((im (a + 3) 1) - 1))), (4, .int (zi 1)), (0, .ref a), (1, .ref p1), (2, .int (zi p2)), (3, .int (zi p3))]) dX2_total_42 (by decide) rfl ?_
        refine p_iload_n dX2_total_44 rfl (q := 6) rfl ?_
        refine p_iconst dX2_total_45 ?_
        refine p_icmp_ne (tgt := 61) dX2_total_46 (by decide) (nf_r c_p3) (nf_k (by decide)) (fun b2 => ?_) (fun b2 => ?_)
        · have h := h.1 b2
          refine p_iload_n dX2_total_61 rfl (q := 6) rfl ?_
          refine p_istore (lv' := [(7, .int (zi p3)), (6, .int (zi p3)), (5, .int (zi ((im (a + 3) 1) - 1))), (4, .int (zi 1)), (0, .ref a), (1, .ref p1), (2, .int (zi p2)), (3, .int (zi p3))]) dX2_total_62 (by decide) rfl ?_
          refine p_iconst dX2_total_64 ?_
          refine p_istore (lv' := [(8, .int (zi 0)), (7, .int (zi p3)), (6, .int (zi p3)), (5, .int (zi ((im (a + 3) 1) - 1))), (4, .int (zi 1)), (0, .ref a), (1, .ref p1), (2, .int (zi p2)), (3, .int (zi p3))]) dX2_total_65 (by decide) rfl ?_
          refine p_iload dX2_total_67 (q := 4) rfl ?_
          refine p_istore (lv' := [(9, .int (zi 1)), (8, .int (zi 0)), (7, .int (zi p3)), (6, .int (zi p3)), (5, .int (zi ((im (a + 3) 1) - 1))), (4, .int (zi 1)), (0, .ref a), (1, .ref p1), (2, .int (zi p2)), (3, .int (zi p3))]) dX2_total_69 (by decide) rfl ?_
          refine p_sub (lv' := [(1, .ref p1), (5, .int (zi (zw ((im (a + 3) 1) - 1)))), (6, .int (zi p3)), (7, .int (zi p3)), (8, .int (zi 0)), (9, .int (zi 1))]) [7, 4, 3, 2, 1, 0] (by simp only [zi_zw, zl_zwl]; rfl) ?_
          exact h
        · have h := h.2 b2
          refine p_aload_n dX2_total_49 rfl (q := 3) rfl ?_
          refine p_getR (b := (a + 3)) G f_RX2_21 rfl (hS 0 (by decide)).1 ((hS 0 (by decide)).2.2 3 (by decide)) dX2_total_50 ?_
          refine p_getI (j := 0) G f_RX2_107 rfl (hS 3 (by decide)).1 dX2_total_53 (fun c2 => ?_)
          refine p_iconst dX2_total_56 ?_
          refine p_isub dX2_total_57 ?_
          refine p_goto (tgt := 62) dX2_total_58 (by decide) ?_
          refine p_istore (lv' := [(7, .int (zi ((im (a + 3) 0) - 1))), (6, .int (zi p3)), (5, .int (zi ((im (a + 3) 1) - 1))), (4, .int (zi 1)), (0, .ref a), (1, .ref p1), (2, .int (zi p2)), (3, .int (zi p3))]) dX2_total_62 (by decide) rfl ?_
          refine p_iconst dX2_total_64 ?_
          refine p_istore (lv' := [(8, .int (zi 0)), (7, .int (zi ((im (a + 3) 0) - 1))), (6, .int (zi p3)), (5, .int (zi ((im (a + 3) 1) - 1))), (4, .int (zi 1)), (0, .ref a), (1, .ref p1), (2, .int (zi p2)), (3, .int (zi p3))]) dX2_total_65 (by decide) rfl ?_
          refine p_iload dX2_total_67 (q := 4) rfl ?_
          refine p_istore (lv' := [(9, .int (zi 1)), (8, .int (zi 0)), (7, .int (zi ((im (a + 3) 0) - 1))), (6, .int (zi p3)), (5, .int (zi ((im (a + 3) 1) - 1))), (4, .int (zi 1)), (0, .ref a), (1, .ref p1), (2, .int (zi p2)), (3, .int (zi p3))]) dX2_total_69 (by decide) rfl ?_
          refine p_sub (lv' := [(1, .ref p1), (5, .int (zi (zw ((im (a + 3) 1) - 1)))), (6, .int (zi p3)), (7, .int (zi (zw ((im (a + 3) 0) - 1)))), (8, .int (zi 0)), (9, .int (zi 1))]) [7, 4, 3, 2, 1, 0] (by simp only [zi_zw, zl_zwl]; rfl) ?_
          exact h
      · have h := h.2 b2
        refine p_iconst dX2_total_37 ?_
        refine p_goto (tgt := 42) dX2_total_38 (by decide) ?_
        refine p_istore (lv' := [(6, .int (zi 0)), (5, .int (zi ((im (a + 3) 1) - 1))), (4, .int (zi 1)), (0, .ref a), (1, .ref p1), (2, .int (zi p2)), (3, .int (zi p3))]) dX2_total_42 (by decide) rfl ?_
        refine p_iload_n dX2_total_44 rfl (q := 6) rfl ?_
        refine p_iconst dX2_total_45 ?_
        refine p_icmp_ne (tgt := 61) dX2_total_46 (by decide) (nf_r c_p3) (nf_k (by decide)) (fun b2 => ?_) (fun b2 => ?_)
        · have h := h.1 b2
          refine p_iload_n dX2_total_61 rfl (q := 6) rfl ?_
          refine p_istore (lv' := [(7, .int (zi p3)), (6, .int (zi 0)), (5, .int (zi ((im (a + 3) 1) - 1))), (4, .int (zi 1)), (0, .ref a), (1, .ref p1), (2, .int (zi p2)), (3, .int (zi p3))]) dX2_total_62 (by decide) rfl ?_
          refine p_iconst dX2_total_64 ?_
          refine p_istore (lv' := [(8, .int (zi 0)), (7, .int (zi p3)), (6, .int (zi 0)), (5, .int (zi ((im (a + 3) 1) - 1))), (4, .int (zi 1)), (0, .ref a), (1, .ref p1), (2, .int (zi p2)), (3, .int (zi p3))]) dX2_total_65 (by decide) rfl ?_
          refine p_iload dX2_total_67 (q := 4) rfl ?_
          refine p_istore (lv' := [(9, .int (zi 1)), (8, .int (zi 0)), (7, .int (zi p3)), (6, .int (zi 0)), (5, .int (zi ((im (a + 3) 1) - 1))), (4, .int (zi 1)), (0, .ref a), (1, .ref p1), (2, .int (zi p2)), (3, .int (zi p3))]) dX2_total_69 (by decide) rfl ?_
          refine p_sub (lv' := [(1, .ref p1), (5, .int (zi (zw ((im (a + 3) 1) - 1)))), (6, .int (zi 0)), (7, .int (zi p3)), (8, .int (zi 0)), (9, .int (zi 1))]) [7, 4, 3, 2, 1, 0] (by simp only [zi_zw, zl_zwl]; rfl) ?_
          exact h
        · have h := h.2 b2
          refine p_aload_n dX2_total_49 rfl (q := 3) rfl ?_
          refine p_getR (b := (a + 3)) G f_RX2_21 rfl (hS 0 (by decide)).1 ((hS 0 (by decide)).2.2 3 (by decide)) dX2_total_50 ?_
          refine p_getI (j := 0) G f_RX2_107 rfl (hS 3 (by decide)).1 dX2_total_53 (fun c2 => ?_)
          refine p_iconst dX2_total_56 ?_
          refine p_isub dX2_total_57 ?_
          refine p_goto (tgt := 62) dX2_total_58 (by decide) ?_
          refine p_istore (lv' := [(7, .int (zi ((im (a + 3) 0) - 1))), (6, .int (zi 0)), (5, .int (zi ((im (a + 3) 1) - 1))), (4, .int (zi 1)), (0, .ref a), (1, .ref p1), (2, .int (zi p2)), (3, .int (zi p3))]) dX2_total_62 (by decide) rfl ?_
          refine p_iconst dX2_total_64 ?_
          refine p_istore (lv' := [(8, .int (zi 0)), (7, .int (zi ((im (a + 3) 0) - 1))), (6, .int (zi 0)), (5, .int (zi ((im (a + 3) 1) - 1))), (4, .int (zi 1)), (0, .ref a), (1, .ref p1), (2, .int (zi p2)), (3, .int (zi p3))]) dX2_total_65 (by decide) rfl ?_
          refine p_iload dX2_total_67 (q := 4) rfl ?_
          refine p_istore (lv' := [(9, .int (zi 1)), (8, .int (zi 0)), (7, .int (zi ((im (a + 3) 0) - 1))), (6, .int (zi 0)), (5, .int (zi ((im (a + 3) 1) - 1))), (4, .int (zi 1)), (0, .ref a), (1, .ref p1), (2, .int (zi p2)), (3, .int (zi p3))]) dX2_total_69 (by decide) rfl ?_
          refine p_sub (lv' := [(1, .ref p1), (5, .int (zi (zw ((im (a + 3) 1) - 1)))), (6, .int (zi 0)), (7, .int (zi (zw ((im (a + 3) 0) - 1)))), (8, .int (zi 0)), (9, .int (zi 1))]) [7, 4, 3, 2, 1, 0] (by simp only [zi_zw, zl_zwl]; rfl) ?_
          exact h
set_option maxRecDepth 20000 in
set_option maxHeartbeats 4000000 in
theorem v_X2_total_71 {g : zG} (G : zOK g) {S : zSh} {im : zIm} {p1 : Nat} {x5 : Int} {x6 : Int} {x7 : Int} {x8 : Int} {x9 : Int} {Q : Int → zIm → Prop} (hk_p1 : zkd S p1 = 9) (c_x5 : zc x5) (c_x6 : zc x6) (c_x7 : zc x7) (c_x8 : zc x8) (c_x9 : zc x9)
    (h : ((x5 < x9 → Q x8 im) ∧ (x9 ≤ x5 → zPI g M_X2_total 82 [(1, .ref p1), (5, .int (zi x5)), (6, .int (zi x6)), (7, .int (zi x7)), (8, .int (zi x8)), (9, .int (zi x9)), (10, .int (zi x6))] S im Q))) :
    zPI g M_X2_total 71 [(1, .ref p1), (5, .int (zi x5)), (6, .int (zi x6)), (7, .int (zi x7)), (8, .int (zi x8)), (9, .int (zi x9))] S im Q := by
  refine p_iload dX2_total_71 (q := 5) rfl ?_
  refine p_iload dX2_total_73 (q := 1) rfl ?_
  refine p_icmp_gt (tgt := 115) dX2_total_75 (by decide) (nf_r c_x9) (nf_r c_x5) (fun b1 => ?_) (fun b1 => ?_)
  · have h := h.1 b1
    refine p_iload dX2_total_115 (q := 4) rfl ?_
    exact p_iretI (by decide) (by decide) rfl (nf_r c_x8) dX2_total_117 h
  · have h := h.2 b1
    refine p_iload dX2_total_78 (q := 2) rfl ?_
    refine p_istore (lv' := [(10, .int (zi x6)), (1, .ref p1), (5, .int (zi x5)), (6, .int (zi x6)), (7, .int (zi x7)), (8, .int (zi x8)), (9, .int (zi x9))]) dX2_total_80 (by decide) rfl ?_
    refine p_sub (lv' := [(1, .ref p1), (5, .int (zi x5)), (6, .int (zi x6)), (7, .int (zi x7)), (8, .int (zi x8)), (9, .int (zi x9)), (10, .int (zi x6))]) [1, 2, 3, 4, 5, 6, 0] rfl ?_
    exact h
set_option maxRecDepth 20000 in
set_option maxHeartbeats 4000000 in
theorem v_X2_total_82 {g : zG} (G : zOK g) {S : zSh} {im : zIm} {p1 : Nat} {x5 : Int} {x6 : Int} {x7 : Int} {x8 : Int} {x9 : Int} {x10 : Int} {Q : Int → zIm → Prop} (hk_p1 : zkd S p1 = 9) (c_x5 : zc x5) (c_x6 : zc x6) (c_x7 : zc x7) (c_x8 : zc x8) (c_x9 : zc x9) (c_x10 : zc x10)
    (h : ((x7 < x10 → zPI g M_X2_total 71 [(1, .ref p1), (5, .int (zi x5)), (6, .int (zi x6)), (7, .int (zi x7)), (8, .int (zi x8)), (9, .int (zi (zw (x9 + 1))))] S im Q) ∧ (x10 ≤ x7 → zCI g yX7_cell M_X7_cell [.int (zi x9), .int (zi x10)] S im (fun r1 im2 => ((0 ≤ r1 ∧ r1 < (zln S p1 : Int)) ∧ zPI g M_X2_total 82 [(1, .ref p1), (5, .int (zi x5)), (6, .int (zi x6)), (7, .int (zi x7)), (8, .int (zi (zw (x8 + (im2 p1 r1))))), (9, .int (zi x9)), (10, .int (zi (zw (x10 + 1))))] S im2 Q))))) :
    zPI g M_X2_total 82 [(1, .ref p1), (5, .int (zi x5)), (6, .int (zi x6)), (7, .int (zi x7)), (8, .int (zi x8)), (9, .int (zi x9)), (10, .int (zi x10))] S im Q := by
  refine p_iload dX2_total_82 (q := 6) rfl ?_
  refine p_iload dX2_total_84 (q := 3) rfl ?_
  refine p_icmp_gt (tgt := 109) dX2_total_86 (by decide) (nf_r c_x10) (nf_r c_x7) (fun b1 => ?_) (fun b1 => ?_)
  · have h := h.1 b1
    refine p_iinc (q := 5) (lv' := [(9, .int (zi (x9 + 1))), (1, .ref p1), (5, .int (zi x5)), (6, .int (zi x6)), (7, .int (zi x7)), (8, .int (zi x8)), (10, .int (zi x10))]) dX2_total_109 rfl (by decide) rfl ?_
    refine p_goto (tgt := 71) dX2_total_112 (by decide) ?_
    refine p_sub (lv' := [(1, .ref p1), (5, .int (zi x5)), (6, .int (zi x6)), (7, .int (zi x7)), (8, .int (zi x8)), (9, .int (zi (zw (x9 + 1))))]) [1, 2, 3, 4, 5, 0] (by simp only [zi_zw, zl_zwl]; rfl) ?_
    exact h
  · have h := h.2 b1
    refine p_iload dX2_total_89 (q := 4) rfl ?_
    refine p_aload_n dX2_total_91 rfl (q := 0) rfl ?_
    refine p_iload dX2_total_92 (q := 5) rfl ?_
    refine p_iload dX2_total_94 (q := 6) rfl ?_
    refine p_SNI G k_RX2_110 rfl rfl (Nat.le_of_ble_eq_true rfl) ⟨by decide, by decide⟩ ⟨by decide, by decide⟩ dX2_total_96 h (fun r1 im2 c3 h => ?_)
    have g5 := h.1
    have h := h.2
    refine p_iald G hk_p1 (nf_r c3) g5.1 g5.2 dX2_total_99 (fun c4 => ?_)
    refine p_iadd dX2_total_100 ?_
    refine p_istore (lv' := [(8, .int (zi (x8 + (im2 p1 r1)))), (1, .ref p1), (5, .int (zi x5)), (6, .int (zi x6)), (7, .int (zi x7)), (9, .int (zi x9)), (10, .int (zi x10))]) dX2_total_101 (by decide) rfl ?_
    refine p_iinc (q := 6) (lv' := [(10, .int (zi (x10 + 1))), (8, .int (zi (x8 + (im2 p1 r1)))), (1, .ref p1), (5, .int (zi x5)), (6, .int (zi x6)), (7, .int (zi x7)), (9, .int (zi x9))]) dX2_total_103 rfl (by decide) rfl ?_
    refine p_goto (tgt := 82) dX2_total_106 (by decide) ?_
    refine p_sub (lv' := [(1, .ref p1), (5, .int (zi x5)), (6, .int (zi x6)), (7, .int (zi x7)), (8, .int (zi (zw (x8 + (im2 p1 r1))))), (9, .int (zi x9)), (10, .int (zi (zw (x10 + 1))))]) [2, 3, 4, 5, 1, 6, 0] (by simp only [zi_zw, zl_zwl]; rfl) ?_
    exact h
set_option maxRecDepth 20000 in
set_option maxHeartbeats 4000000 in
theorem v_X7_commonDivisor {g : zG} (G : zOK g) {S : zSh} {im : zIm} {p1 : Int} {p2 : Int} {Q : Int → zIm → Prop} (c_p1 : zc p1) (c_p2 : zc p2)
    (h : zPI g M_X7_commonDivisor 7 [(2, .int (zi p1)), (3, .int (zi p2)), (4, .int (zi 0))] S im Q) :
    zCI g yX7_commonDivisor M_X7_commonDivisor [.int (zi p1), .int (zi p2)] S im Q := by
  refine zC_of (by decide) rfl rfl rfl rfl (Nat.le_of_ble_eq_true rfl) ?_
  refine p_iload_n dX7_commonDivisor_0 rfl (q := 0) rfl ?_
  refine p_istore_n (lv' := [(2, .int (zi p1)), (0, .int (zi p1)), (1, .int (zi p2))]) dX7_commonDivisor_1 rfl (by decide) rfl ?_
  refine p_iload_n dX7_commonDivisor_2 rfl (q := 2) rfl ?_
  refine p_istore_n (lv' := [(3, .int (zi p2)), (2, .int (zi p1)), (0, .int (zi p1)), (1, .int (zi p2))]) dX7_commonDivisor_3 rfl (by decide) rfl ?_
  refine p_iconst dX7_commonDivisor_4 ?_
  refine p_istore (lv' := [(4, .int (zi 0)), (3, .int (zi p2)), (2, .int (zi p1)), (0, .int (zi p1)), (1, .int (zi p2))]) dX7_commonDivisor_5 (by decide) rfl ?_
  refine p_sub (lv' := [(2, .int (zi p1)), (3, .int (zi p2)), (4, .int (zi 0))]) [2, 1, 0] rfl ?_
  exact h
set_option maxRecDepth 20000 in
set_option maxHeartbeats 4000000 in
theorem v_X7_commonDivisor_7 {g : zG} (G : zOK g) {S : zSh} {im : zIm} {x2 : Int} {x3 : Int} {x4 : Int} {Q : Int → zIm → Prop} (c_x2 : zc x2) (c_x3 : zc x3) (c_x4 : zc x4)
    (h : ((64 ≤ x4 → ((¬ x2 = 0 → Q x2 im) ∧ (x2 = 0 → Q 1 im))) ∧ (x4 < 64 → ((x3 = 0 → ((¬ x2 = 0 → Q x2 im) ∧ (x2 = 0 → Q 1 im))) ∧ (¬ x3 = 0 → (¬ x3 = 0) ∧ zPI g M_X7_commonDivisor 7 [(2, .int (zi x3)), (3, .int (zi (zw (Int.tmod x2 x3)))), (4, .int (zi (zw (x4 + 1))))] S im Q))))) :
    zPI g M_X7_commonDivisor 7 [(2, .int (zi x2)), (3, .int (zi x3)), (4, .int (zi x4))] S im Q := by
  refine p_iload dX7_commonDivisor_7 (q := 2) rfl ?_
  refine p_bipush dX7_commonDivisor_9 (by decide) ?_
  refine p_icmp_ge (tgt := 34) dX7_commonDivisor_11 (by decide) (nf_r c_x4) (nf_k (by decide)) (fun b1 => ?_) (fun b1 => ?_)
  · have h := h.1 b1
    refine p_iload_n dX7_commonDivisor_34 rfl (q := 0) rfl ?_
    refine p_if_ne (tgt := 42) dX7_commonDivisor_35 (by decide) (nf_r c_x2) (fun b1 => ?_) (fun b1 => ?_)
    · have h := h.1 b1
      refine p_iload_n dX7_commonDivisor_42 rfl (q := 0) rfl ?_
      exact p_iretI (by decide) (by decide) rfl (nf_r c_x2) dX7_commonDivisor_43 h
    · have h := h.2 b1
      refine p_iconst dX7_commonDivisor_38 ?_
      refine p_goto (tgt := 43) dX7_commonDivisor_39 (by decide) ?_
      exact p_iretI (by decide) (by decide) rfl (nf_k (by decide)) dX7_commonDivisor_43 h
  · have h := h.2 b1
    refine p_iload_n dX7_commonDivisor_14 rfl (q := 1) rfl ?_
    refine p_if_eq (tgt := 34) dX7_commonDivisor_15 (by decide) (nf_r c_x3) (fun b1 => ?_) (fun b1 => ?_)
    · have h := h.1 b1
      refine p_iload_n dX7_commonDivisor_34 rfl (q := 0) rfl ?_
      refine p_if_ne (tgt := 42) dX7_commonDivisor_35 (by decide) (nf_r c_x2) (fun b1 => ?_) (fun b1 => ?_)
      · have h := h.1 b1
        refine p_iload_n dX7_commonDivisor_42 rfl (q := 0) rfl ?_
        exact p_iretI (by decide) (by decide) rfl (nf_r c_x2) dX7_commonDivisor_43 h
      · have h := h.2 b1
        refine p_iconst dX7_commonDivisor_38 ?_
        refine p_goto (tgt := 43) dX7_commonDivisor_39 (by decide) ?_
        exact p_iretI (by decide) (by decide) rfl (nf_k (by decide)) dX7_commonDivisor_43 h
    · have h := h.2 b1
      refine p_iload_n dX7_commonDivisor_18 rfl (q := 0) rfl ?_
      refine p_iload_n dX7_commonDivisor_19 rfl (q := 1) rfl ?_
      have h0_20 := h.1
      have h := h.2
      refine p_irem dX7_commonDivisor_20 (nf_r c_x2) (nf_r c_x3) h0_20 ?_
      refine p_istore (lv' := [(5, .int (zi (Int.tmod x2 x3))), (2, .int (zi x2)), (3, .int (zi x3)), (4, .int (zi x4))]) dX7_commonDivisor_21 (by decide) rfl ?_
      refine p_iload_n dX7_commonDivisor_23 rfl (q := 2) rfl ?_
      refine p_istore_n (lv' := [(2, .int (zi x3)), (5, .int (zi (Int.tmod x2 x3))), (3, .int (zi x3)), (4, .int (zi x4))]) dX7_commonDivisor_24 rfl (by decide) rfl ?_
      refine p_iload dX7_commonDivisor_25 (q := 1) rfl ?_
      refine p_istore_n (lv' := [(3, .int (zi (Int.tmod x2 x3))), (2, .int (zi x3)), (5, .int (zi (Int.tmod x2 x3))), (4, .int (zi x4))]) dX7_commonDivisor_27 rfl (by decide) rfl ?_
      refine p_iinc (q := 3) (lv' := [(4, .int (zi (x4 + 1))), (3, .int (zi (Int.tmod x2 x3))), (2, .int (zi x3)), (5, .int (zi (Int.tmod x2 x3)))]) dX7_commonDivisor_28 rfl (by decide) rfl ?_
      refine p_goto (tgt := 7) dX7_commonDivisor_31 (by decide) ?_
      refine p_sub (lv' := [(2, .int (zi x3)), (3, .int (zi (zw (Int.tmod x2 x3)))), (4, .int (zi (zw (x4 + 1))))]) [2, 1, 0] (by simp only [zi_zw, zl_zwl]; rfl) ?_
      exact h
set_option maxRecDepth 20000 in
set_option maxHeartbeats 4000000 in
theorem v_X7_copyRow {g : zG} (G : zOK g) {S : zSh} {im : zIm} {p1 : Nat} {p2 : Nat} {p3 : Int} {Q : zIm → Prop} (hk_p1 : zkd S p1 = 9) (hk_p2 : zkd S p2 = 9) (c_p3 : zc p3)
    (h : ((0 ≤ p3 ∧ p3 ≤ (zln S p1 : Int) ∧ p3 ≤ (zln S p2 : Int)) ∧ ∀ im1, im1 = zcp im p1 p2 p3 → Q im1)) :
    zCV g yX7_copyRow M_X7_copyRow [.ref p1, .ref p2, .int (zi p3)] S im Q := by
  refine zC_of (by decide) rfl rfl rfl rfl (Nat.le_of_ble_eq_true rfl) ?_
  refine p_aload_n dX7_copyRow_0 rfl (q := 0) rfl ?_
  refine p_iconst dX7_copyRow_1 ?_
  refine p_aload_n dX7_copyRow_2 rfl (q := 1) rfl ?_
  refine p_iconst dX7_copyRow_3 ?_
  refine p_iload_n dX7_copyRow_4 rfl (q := 2) rfl ?_
  refine p_copy G q_5_82 q_5_84 q_5_83 q_1_17 hk_p1 hk_p2 (nf_r c_p3) h.1.1 h.1.2.1 h.1.2.2 (by decide) (Nat.le_of_ble_eq_true rfl) dX7_copyRow_5 ?_
  have h := h.2
  refine p_gen (fun im1 e2 => ?_)
  have h := h im1 e2
  exact p_retV (by decide) (by decide) rfl dX7_copyRow_8 h
set_option maxRecDepth 20000 in
set_option maxHeartbeats 4000000 in
theorem v_X4_copyFrom {g : zG} (G : zOK g) {S : zSh} {im : zIm} {a : Nat} {p1 : Nat} {Q : zIm → Prop} (hS : zS_S S a) (h_p1 : zS_S S p1)
    (h : ∀ im2, im2 = zst im a 0 (im p1 0) → ∀ im5, im5 = zst im2 a 1 (im2 p1 1) → ∀ im8, im8 = zst im5 a 2 (im5 p1 2) → zCV g yX7_copyRow M_X7_copyRow [.ref (p1 + 1), .ref (a + 1), .int (zi 4)] S im8 (fun im10 => zCV g yX7_copyRow M_X7_copyRow [.ref (p1 + 2), .ref (a + 2), .int (zi 4)] S im10 (fun im12 => zCV g yX7_copyRow M_X7_copyRow [.ref (p1 + 3), .ref (a + 3), .int (zi 4)] S im12 (fun im14 => zCV g yX7_copyRow M_X7_copyRow [.ref (p1 + 4), .ref (a + 4), .int (zi 8)] S im14 (fun im16 => zCV g yX7_copyRow M_X7_copyRow [.ref (p1 + 5), .ref (a + 5), .int (zi 64)] S im16 (fun im18 => zCV g yX7_copyRow M_X7_copyRow [.ref (p1 + 6), .ref (a + 6), .int (zi 32)] S im18 (fun im20 => zCV g yX7_copyRow M_X7_copyRow [.ref (p1 + 7), .ref (a + 7), .int (zi 32)] S im20 (fun im22 => zCV g yX7_copyRow M_X7_copyRow [.ref (p1 + 8), .ref (a + 8), .int (zi 32)] S im22 (fun im24 => Q im24))))))))) :
    zCV g yX4_copyFrom M_X4_copyFrom [.ref a, .ref p1] S im Q := by
  refine zC_of (by decide) rfl rfl rfl rfl (Nat.le_of_ble_eq_true rfl) ?_
  refine p_aload_n dX4_copyFrom_0 rfl (q := 0) rfl ?_
  refine p_aload_n dX4_copyFrom_1 rfl (q := 1) rfl ?_
  refine p_getI (j := 0) G f_RX4_40 rfl (h_p1 0 (by decide)).1 dX4_copyFrom_2 (fun c1 => ?_)
  refine p_putI (j := 0) G f_RX4_40 rfl rfl rfl (hS 0 (by decide)).1 (nf_r c1) dX4_copyFrom_5 ?_
  refine p_gen (fun im2 e3 => ?_)
  have h := h im2 e3
  refine p_aload_n dX4_copyFrom_8 rfl (q := 0) rfl ?_
  refine p_aload_n dX4_copyFrom_9 rfl (q := 1) rfl ?_
  refine p_getI (j := 1) G f_RX4_9 rfl (h_p1 0 (by decide)).1 dX4_copyFrom_10 (fun c4 => ?_)
  refine p_putI (j := 1) G f_RX4_9 rfl rfl rfl (hS 0 (by decide)).1 (nf_r c4) dX4_copyFrom_13 ?_
  refine p_gen (fun im5 e6 => ?_)
  have h := h im5 e6
  refine p_aload_n dX4_copyFrom_16 rfl (q := 0) rfl ?_
  refine p_aload_n dX4_copyFrom_17 rfl (q := 1) rfl ?_
  refine p_getI (j := 2) G f_RX4_43 rfl (h_p1 0 (by decide)).1 dX4_copyFrom_18 (fun c7 => ?_)
  refine p_putI (j := 2) G f_RX4_43 rfl rfl rfl (hS 0 (by decide)).1 (nf_r c7) dX4_copyFrom_21 ?_
  refine p_gen (fun im8 e9 => ?_)
  have h := h im8 e9
  refine p_aload_n dX4_copyFrom_24 rfl (q := 1) rfl ?_
  refine p_getR (b := (p1 + 1)) G f_RX4_15 rfl (h_p1 0 (by decide)).1 ((h_p1 0 (by decide)).2.2 3 (by decide)) dX4_copyFrom_25 ?_
  refine p_aload_n dX4_copyFrom_28 rfl (q := 0) rfl ?_
  refine p_getR (b := (a + 1)) G f_RX4_15 rfl (hS 0 (by decide)).1 ((hS 0 (by decide)).2.2 3 (by decide)) dX4_copyFrom_29 ?_
  refine p_iconst dX4_copyFrom_32 ?_
  refine p_SNV G k_RX4_52 rfl rfl (Nat.le_of_ble_eq_true rfl) ⟨by decide, by decide⟩ ⟨by decide, by decide⟩ dX4_copyFrom_33 h (fun im10 h => ?_)
  refine p_aload_n dX4_copyFrom_36 rfl (q := 1) rfl ?_
  refine p_getR (b := (p1 + 2)) G f_RX4_19 rfl (h_p1 0 (by decide)).1 ((h_p1 0 (by decide)).2.2 4 (by decide)) dX4_copyFrom_37 ?_
  refine p_aload_n dX4_copyFrom_40 rfl (q := 0) rfl ?_
  refine p_getR (b := (a + 2)) G f_RX4_19 rfl (hS 0 (by decide)).1 ((hS 0 (by decide)).2.2 4 (by decide)) dX4_copyFrom_41 ?_
  refine p_iconst dX4_copyFrom_44 ?_
  refine p_SNV G k_RX4_52 rfl rfl (Nat.le_of_ble_eq_true rfl) ⟨by decide, by decide⟩ ⟨by decide, by decide⟩ dX4_copyFrom_45 h (fun im12 h => ?_)
  refine p_aload_n dX4_copyFrom_48 rfl (q := 1) rfl ?_
  refine p_getR (b := (p1 + 3)) G f_RX4_22 rfl (h_p1 0 (by decide)).1 ((h_p1 0 (by decide)).2.2 5 (by decide)) dX4_copyFrom_49 ?_
  refine p_aload_n dX4_copyFrom_52 rfl (q := 0) rfl ?_
  refine p_getR (b := (a + 3)) G f_RX4_22 rfl (hS 0 (by decide)).1 ((hS 0 (by decide)).2.2 5 (by decide)) dX4_copyFrom_53 ?_
  refine p_iconst dX4_copyFrom_56 ?_
  refine p_SNV G k_RX4_52 rfl rfl (Nat.le_of_ble_eq_true rfl) ⟨by decide, by decide⟩ ⟨by decide, by decide⟩ dX4_copyFrom_57 h (fun im14 h => ?_)
  refine p_aload_n dX4_copyFrom_60 rfl (q := 1) rfl ?_
  refine p_getR (b := (p1 + 4)) G f_RX4_25 rfl (h_p1 0 (by decide)).1 ((h_p1 0 (by decide)).2.2 6 (by decide)) dX4_copyFrom_61 ?_
  refine p_aload_n dX4_copyFrom_64 rfl (q := 0) rfl ?_
  refine p_getR (b := (a + 4)) G f_RX4_25 rfl (hS 0 (by decide)).1 ((hS 0 (by decide)).2.2 6 (by decide)) dX4_copyFrom_65 ?_
  refine p_bipush dX4_copyFrom_68 (by decide) ?_
  refine p_SNV G k_RX4_52 rfl rfl (Nat.le_of_ble_eq_true rfl) ⟨by decide, by decide⟩ ⟨by decide, by decide⟩ dX4_copyFrom_70 h (fun im16 h => ?_)
  refine p_aload_n dX4_copyFrom_73 rfl (q := 1) rfl ?_
  refine p_getR (b := (p1 + 5)) G f_RX4_28 rfl (h_p1 0 (by decide)).1 ((h_p1 0 (by decide)).2.2 7 (by decide)) dX4_copyFrom_74 ?_
  refine p_aload_n dX4_copyFrom_77 rfl (q := 0) rfl ?_
  refine p_getR (b := (a + 5)) G f_RX4_28 rfl (hS 0 (by decide)).1 ((hS 0 (by decide)).2.2 7 (by decide)) dX4_copyFrom_78 ?_
  refine p_bipush dX4_copyFrom_81 (by decide) ?_
  refine p_SNV G k_RX4_52 rfl rfl (Nat.le_of_ble_eq_true rfl) ⟨by decide, by decide⟩ ⟨by decide, by decide⟩ dX4_copyFrom_83 h (fun im18 h => ?_)
  refine p_aload_n dX4_copyFrom_86 rfl (q := 1) rfl ?_
  refine p_getR (b := (p1 + 6)) G f_RX4_31 rfl (h_p1 0 (by decide)).1 ((h_p1 0 (by decide)).2.2 8 (by decide)) dX4_copyFrom_87 ?_
  refine p_aload_n dX4_copyFrom_90 rfl (q := 0) rfl ?_
  refine p_getR (b := (a + 6)) G f_RX4_31 rfl (hS 0 (by decide)).1 ((hS 0 (by decide)).2.2 8 (by decide)) dX4_copyFrom_91 ?_
  refine p_bipush dX4_copyFrom_94 (by decide) ?_
  refine p_SNV G k_RX4_52 rfl rfl (Nat.le_of_ble_eq_true rfl) ⟨by decide, by decide⟩ ⟨by decide, by decide⟩ dX4_copyFrom_96 h (fun im20 h => ?_)
  refine p_aload_n dX4_copyFrom_99 rfl (q := 1) rfl ?_
  refine p_getR (b := (p1 + 7)) G f_RX4_34 rfl (h_p1 0 (by decide)).1 ((h_p1 0 (by decide)).2.2 9 (by decide)) dX4_copyFrom_100 ?_
  refine p_aload_n dX4_copyFrom_103 rfl (q := 0) rfl ?_
  refine p_getR (b := (a + 7)) G f_RX4_34 rfl (hS 0 (by decide)).1 ((hS 0 (by decide)).2.2 9 (by decide)) dX4_copyFrom_104 ?_
  refine p_bipush dX4_copyFrom_107 (by decide) ?_
  refine p_SNV G k_RX4_52 rfl rfl (Nat.le_of_ble_eq_true rfl) ⟨by decide, by decide⟩ ⟨by decide, by decide⟩ dX4_copyFrom_109 h (fun im22 h => ?_)
  refine p_aload_n dX4_copyFrom_112 rfl (q := 1) rfl ?_
  refine p_getR (b := (p1 + 8)) G f_RX4_37 rfl (h_p1 0 (by decide)).1 ((h_p1 0 (by decide)).2.2 10 (by decide)) dX4_copyFrom_113 ?_
  refine p_aload_n dX4_copyFrom_116 rfl (q := 0) rfl ?_
  refine p_getR (b := (a + 8)) G f_RX4_37 rfl (hS 0 (by decide)).1 ((hS 0 (by decide)).2.2 10 (by decide)) dX4_copyFrom_117 ?_
  refine p_bipush dX4_copyFrom_120 (by decide) ?_
  refine p_SNV G k_RX4_52 rfl rfl (Nat.le_of_ble_eq_true rfl) ⟨by decide, by decide⟩ ⟨by decide, by decide⟩ dX4_copyFrom_122 h (fun im24 h => ?_)
  exact p_retV (by decide) (by decide) rfl dX4_copyFrom_125 h
set_option maxRecDepth 20000 in
set_option maxHeartbeats 4000000 in
theorem v_X0_copyFrom {g : zG} (G : zOK g) {S : zSh} {im : zIm} {a : Nat} {p1 : Nat} {Q : zIm → Prop} (hS : zS_F S a) (h_p1 : zS_F S p1)
    (h : ∀ im2, im2 = zst im a 0 (im p1 0) → zCV g yX7_copyRow M_X7_copyRow [.ref (p1 + 1), .ref (a + 1), .int (zi 32)] S im2 (fun im4 => zCV g yX7_copyRow M_X7_copyRow [.ref (p1 + 2), .ref (a + 2), .int (zi 32)] S im4 (fun im6 => zCV g yX7_copyRow M_X7_copyRow [.ref (p1 + 3), .ref (a + 3), .int (zi 32)] S im6 (fun im8 => zCV g yX7_copyRow M_X7_copyRow [.ref (p1 + 4), .ref (a + 4), .int (zi 32)] S im8 (fun im10 => zCV g yX7_copyRow M_X7_copyRow [.ref (p1 + 5), .ref (a + 5), .int (zi 32)] S im10 (fun im12 => Q im12)))))) :
    zCV g yX0_copyFrom M_X0_copyFrom [.ref a, .ref p1] S im Q := by
  refine zC_of (by decide) rfl rfl rfl rfl (Nat.le_of_ble_eq_true rfl) ?_
  refine p_aload_n dX0_copyFrom_0 rfl (q := 0) rfl ?_
  refine p_aload_n dX0_copyFrom_1 rfl (q := 1) rfl ?_
  refine p_getI (j := 0) G f_RX0_27 rfl (h_p1 0 (by decide)).1 dX0_copyFrom_2 (fun c1 => ?_)
  refine p_putI (j := 0) G f_RX0_27 rfl rfl rfl (hS 0 (by decide)).1 (nf_r c1) dX0_copyFrom_5 ?_
  refine p_gen (fun im2 e3 => ?_)
  have h := h im2 e3
  refine p_aload_n dX0_copyFrom_8 rfl (q := 1) rfl ?_
  refine p_getR (b := (p1 + 1)) G f_RX0_9 rfl (h_p1 0 (by decide)).1 ((h_p1 0 (by decide)).2.2 1 (by decide)) dX0_copyFrom_9 ?_
  refine p_aload_n dX0_copyFrom_12 rfl (q := 0) rfl ?_
  refine p_getR (b := (a + 1)) G f_RX0_9 rfl (hS 0 (by decide)).1 ((hS 0 (by decide)).2.2 1 (by decide)) dX0_copyFrom_13 ?_
  refine p_bipush dX0_copyFrom_16 (by decide) ?_
  refine p_SNV G k_RX0_37 rfl rfl (Nat.le_of_ble_eq_true rfl) ⟨by decide, by decide⟩ ⟨by decide, by decide⟩ dX0_copyFrom_18 h (fun im4 h => ?_)
  refine p_aload_n dX0_copyFrom_21 rfl (q := 1) rfl ?_
  refine p_getR (b := (p1 + 2)) G f_RX0_15 rfl (h_p1 0 (by decide)).1 ((h_p1 0 (by decide)).2.2 2 (by decide)) dX0_copyFrom_22 ?_
  refine p_aload_n dX0_copyFrom_25 rfl (q := 0) rfl ?_
  refine p_getR (b := (a + 2)) G f_RX0_15 rfl (hS 0 (by decide)).1 ((hS 0 (by decide)).2.2 2 (by decide)) dX0_copyFrom_26 ?_
  refine p_bipush dX0_copyFrom_29 (by decide) ?_
  refine p_SNV G k_RX0_37 rfl rfl (Nat.le_of_ble_eq_true rfl) ⟨by decide, by decide⟩ ⟨by decide, by decide⟩ dX0_copyFrom_31 h (fun im6 h => ?_)
  refine p_aload_n dX0_copyFrom_34 rfl (q := 1) rfl ?_
  refine p_getR (b := (p1 + 3)) G f_RX0_18 rfl (h_p1 0 (by decide)).1 ((h_p1 0 (by decide)).2.2 3 (by decide)) dX0_copyFrom_35 ?_
  refine p_aload_n dX0_copyFrom_38 rfl (q := 0) rfl ?_
  refine p_getR (b := (a + 3)) G f_RX0_18 rfl (hS 0 (by decide)).1 ((hS 0 (by decide)).2.2 3 (by decide)) dX0_copyFrom_39 ?_
  refine p_bipush dX0_copyFrom_42 (by decide) ?_
  refine p_SNV G k_RX0_37 rfl rfl (Nat.le_of_ble_eq_true rfl) ⟨by decide, by decide⟩ ⟨by decide, by decide⟩ dX0_copyFrom_44 h (fun im8 h => ?_)
  refine p_aload_n dX0_copyFrom_47 rfl (q := 1) rfl ?_
  refine p_getR (b := (p1 + 4)) G f_RX0_21 rfl (h_p1 0 (by decide)).1 ((h_p1 0 (by decide)).2.2 4 (by decide)) dX0_copyFrom_48 ?_
  refine p_aload_n dX0_copyFrom_51 rfl (q := 0) rfl ?_
  refine p_getR (b := (a + 4)) G f_RX0_21 rfl (hS 0 (by decide)).1 ((hS 0 (by decide)).2.2 4 (by decide)) dX0_copyFrom_52 ?_
  refine p_bipush dX0_copyFrom_55 (by decide) ?_
  refine p_SNV G k_RX0_37 rfl rfl (Nat.le_of_ble_eq_true rfl) ⟨by decide, by decide⟩ ⟨by decide, by decide⟩ dX0_copyFrom_57 h (fun im10 h => ?_)
  refine p_aload_n dX0_copyFrom_60 rfl (q := 1) rfl ?_
  refine p_getR (b := (p1 + 5)) G f_RX0_24 rfl (h_p1 0 (by decide)).1 ((h_p1 0 (by decide)).2.2 5 (by decide)) dX0_copyFrom_61 ?_
  refine p_aload_n dX0_copyFrom_64 rfl (q := 0) rfl ?_
  refine p_getR (b := (a + 5)) G f_RX0_24 rfl (hS 0 (by decide)).1 ((hS 0 (by decide)).2.2 5 (by decide)) dX0_copyFrom_65 ?_
  refine p_bipush dX0_copyFrom_68 (by decide) ?_
  refine p_SNV G k_RX0_37 rfl rfl (Nat.le_of_ble_eq_true rfl) ⟨by decide, by decide⟩ ⟨by decide, by decide⟩ dX0_copyFrom_70 h (fun im12 h => ?_)
  exact p_retV (by decide) (by decide) rfl dX0_copyFrom_73 h
set_option maxRecDepth 20000 in
set_option maxHeartbeats 4000000 in
theorem v_X6_copyFrom {g : zG} (G : zOK g) {S : zSh} {im : zIm} {a : Nat} {p1 : Nat} {Q : zIm → Prop} (hS : zS_U S a) (h_p1 : zS_U S p1)
    (h : ∀ im2, im2 = zst im a 0 (im p1 0) → zCV g yX7_copyRow M_X7_copyRow [.ref (p1 + 1), .ref (a + 1), .int (zi (im2 a 0))] S im2 (fun im5 => zCV g yX7_copyRow M_X7_copyRow [.ref (p1 + 2), .ref (a + 2), .int (zi (im5 a 0))] S im5 (fun im8 => zCV g yX7_copyRow M_X7_copyRow [.ref (p1 + 3), .ref (a + 3), .int (zi (im8 a 0))] S im8 (fun im11 => zCV g yX7_copyRow M_X7_copyRow [.ref (p1 + 4), .ref (a + 4), .int (zi (im11 a 0))] S im11 (fun im14 => zCV g yX7_copyRow M_X7_copyRow [.ref (p1 + 5), .ref (a + 5), .int (zi (im14 a 0))] S im14 (fun im17 => zCV g yX7_copyRow M_X7_copyRow [.ref (p1 + 6), .ref (a + 6), .int (zi (im17 a 0))] S im17 (fun im20 => Q im20))))))) :
    zCV g yX6_copyFrom M_X6_copyFrom [.ref a, .ref p1] S im Q := by
  refine zC_of (by decide) rfl rfl rfl rfl (Nat.le_of_ble_eq_true rfl) ?_
  refine p_aload_n dX6_copyFrom_0 rfl (q := 0) rfl ?_
  refine p_aload_n dX6_copyFrom_1 rfl (q := 1) rfl ?_
  refine p_getI (j := 0) G f_RX6_30 rfl (h_p1 0 (by decide)).1 dX6_copyFrom_2 (fun c1 => ?_)
  refine p_putI (j := 0) G f_RX6_30 rfl rfl rfl (hS 0 (by decide)).1 (nf_r c1) dX6_copyFrom_5 ?_
  refine p_gen (fun im2 e3 => ?_)
  have h := h im2 e3
  refine p_aload_n dX6_copyFrom_8 rfl (q := 1) rfl ?_
  refine p_getR (b := (p1 + 1)) G f_RX6_9 rfl (h_p1 0 (by decide)).1 ((h_p1 0 (by decide)).2.2 1 (by decide)) dX6_copyFrom_9 ?_
  refine p_aload_n dX6_copyFrom_12 rfl (q := 0) rfl ?_
  refine p_getR (b := (a + 1)) G f_RX6_9 rfl (hS 0 (by decide)).1 ((hS 0 (by decide)).2.2 1 (by decide)) dX6_copyFrom_13 ?_
  refine p_aload_n dX6_copyFrom_16 rfl (q := 0) rfl ?_
  refine p_getI (j := 0) G f_RX6_30 rfl (hS 0 (by decide)).1 dX6_copyFrom_17 (fun c4 => ?_)
  refine p_SNV G k_RX6_34 rfl rfl (Nat.le_of_ble_eq_true rfl) ⟨by decide, by decide⟩ ⟨by decide, by decide⟩ dX6_copyFrom_20 h (fun im5 h => ?_)
  refine p_aload_n dX6_copyFrom_23 rfl (q := 1) rfl ?_
  refine p_getR (b := (p1 + 2)) G f_RX6_15 rfl (h_p1 0 (by decide)).1 ((h_p1 0 (by decide)).2.2 2 (by decide)) dX6_copyFrom_24 ?_
  refine p_aload_n dX6_copyFrom_27 rfl (q := 0) rfl ?_
  refine p_getR (b := (a + 2)) G f_RX6_15 rfl (hS 0 (by decide)).1 ((hS 0 (by decide)).2.2 2 (by decide)) dX6_copyFrom_28 ?_
  refine p_aload_n dX6_copyFrom_31 rfl (q := 0) rfl ?_
  refine p_getI (j := 0) G f_RX6_30 rfl (hS 0 (by decide)).1 dX6_copyFrom_32 (fun c7 => ?_)
  refine p_SNV G k_RX6_34 rfl rfl (Nat.le_of_ble_eq_true rfl) ⟨by decide, by decide⟩ ⟨by decide, by decide⟩ dX6_copyFrom_35 h (fun im8 h => ?_)
  refine p_aload_n dX6_copyFrom_38 rfl (q := 1) rfl ?_
  refine p_getR (b := (p1 + 3)) G f_RX6_18 rfl (h_p1 0 (by decide)).1 ((h_p1 0 (by decide)).2.2 3 (by decide)) dX6_copyFrom_39 ?_
  refine p_aload_n dX6_copyFrom_42 rfl (q := 0) rfl ?_
  refine p_getR (b := (a + 3)) G f_RX6_18 rfl (hS 0 (by decide)).1 ((hS 0 (by decide)).2.2 3 (by decide)) dX6_copyFrom_43 ?_
  refine p_aload_n dX6_copyFrom_46 rfl (q := 0) rfl ?_
  refine p_getI (j := 0) G f_RX6_30 rfl (hS 0 (by decide)).1 dX6_copyFrom_47 (fun c10 => ?_)
  refine p_SNV G k_RX6_34 rfl rfl (Nat.le_of_ble_eq_true rfl) ⟨by decide, by decide⟩ ⟨by decide, by decide⟩ dX6_copyFrom_50 h (fun im11 h => ?_)
  refine p_aload_n dX6_copyFrom_53 rfl (q := 1) rfl ?_
  refine p_getR (b := (p1 + 4)) G f_RX6_21 rfl (h_p1 0 (by decide)).1 ((h_p1 0 (by decide)).2.2 4 (by decide)) dX6_copyFrom_54 ?_
  refine p_aload_n dX6_copyFrom_57 rfl (q := 0) rfl ?_
  refine p_getR (b := (a + 4)) G f_RX6_21 rfl (hS 0 (by decide)).1 ((hS 0 (by decide)).2.2 4 (by decide)) dX6_copyFrom_58 ?_
  refine p_aload_n dX6_copyFrom_61 rfl (q := 0) rfl ?_
  refine p_getI (j := 0) G f_RX6_30 rfl (hS 0 (by decide)).1 dX6_copyFrom_62 (fun c13 => ?_)
  refine p_SNV G k_RX6_34 rfl rfl (Nat.le_of_ble_eq_true rfl) ⟨by decide, by decide⟩ ⟨by decide, by decide⟩ dX6_copyFrom_65 h (fun im14 h => ?_)
  refine p_aload_n dX6_copyFrom_68 rfl (q := 1) rfl ?_
  refine p_getR (b := (p1 + 5)) G f_RX6_24 rfl (h_p1 0 (by decide)).1 ((h_p1 0 (by decide)).2.2 5 (by decide)) dX6_copyFrom_69 ?_
  refine p_aload_n dX6_copyFrom_72 rfl (q := 0) rfl ?_
  refine p_getR (b := (a + 5)) G f_RX6_24 rfl (hS 0 (by decide)).1 ((hS 0 (by decide)).2.2 5 (by decide)) dX6_copyFrom_73 ?_
  refine p_aload_n dX6_copyFrom_76 rfl (q := 0) rfl ?_
  refine p_getI (j := 0) G f_RX6_30 rfl (hS 0 (by decide)).1 dX6_copyFrom_77 (fun c16 => ?_)
  refine p_SNV G k_RX6_34 rfl rfl (Nat.le_of_ble_eq_true rfl) ⟨by decide, by decide⟩ ⟨by decide, by decide⟩ dX6_copyFrom_80 h (fun im17 h => ?_)
  refine p_aload_n dX6_copyFrom_83 rfl (q := 1) rfl ?_
  refine p_getR (b := (p1 + 6)) G f_RX6_27 rfl (h_p1 0 (by decide)).1 ((h_p1 0 (by decide)).2.2 6 (by decide)) dX6_copyFrom_84 ?_
  refine p_aload_n dX6_copyFrom_87 rfl (q := 0) rfl ?_
  refine p_getR (b := (a + 6)) G f_RX6_27 rfl (hS 0 (by decide)).1 ((hS 0 (by decide)).2.2 6 (by decide)) dX6_copyFrom_88 ?_
  refine p_aload_n dX6_copyFrom_91 rfl (q := 0) rfl ?_
  refine p_getI (j := 0) G f_RX6_30 rfl (hS 0 (by decide)).1 dX6_copyFrom_92 (fun c19 => ?_)
  refine p_SNV G k_RX6_34 rfl rfl (Nat.le_of_ble_eq_true rfl) ⟨by decide, by decide⟩ ⟨by decide, by decide⟩ dX6_copyFrom_95 h (fun im20 h => ?_)
  exact p_retV (by decide) (by decide) rfl dX6_copyFrom_98 h
set_option maxRecDepth 20000 in
set_option maxHeartbeats 4000000 in
theorem v_X3_copyFrom {g : zG} (G : zOK g) {S : zSh} {im : zIm} {a : Nat} {p1 : Nat} {Q : zIm → Prop} (hS : zS_Q S a) (h_p1 : zS_Q S p1)
    (h : ∀ im2, im2 = zst im a 0 (im p1 0) → zCV g yX7_copyRow M_X7_copyRow [.ref (p1 + 1), .ref (a + 1), .int (zi (im2 a 0))] S im2 (fun im5 => zCV g yX7_copyRow M_X7_copyRow [.ref (p1 + 2), .ref (a + 2), .int (zi (im5 a 0))] S im5 (fun im8 => zCV g yX7_copyRow M_X7_copyRow [.ref (p1 + 3), .ref (a + 3), .int (zi (im8 a 0))] S im8 (fun im11 => zCV g yX7_copyRow M_X7_copyRow [.ref (p1 + 4), .ref (a + 4), .int (zi (im11 a 0))] S im11 (fun im14 => Q im14))))) :
    zCV g yX3_copyFrom M_X3_copyFrom [.ref a, .ref p1] S im Q := by
  refine zC_of (by decide) rfl rfl rfl rfl (Nat.le_of_ble_eq_true rfl) ?_
  refine p_aload_n dX3_copyFrom_0 rfl (q := 0) rfl ?_
  refine p_aload_n dX3_copyFrom_1 rfl (q := 1) rfl ?_
  refine p_getI (j := 0) G f_RX3_24 rfl (h_p1 0 (by decide)).1 dX3_copyFrom_2 (fun c1 => ?_)
  refine p_putI (j := 0) G f_RX3_24 rfl rfl rfl (hS 0 (by decide)).1 (nf_r c1) dX3_copyFrom_5 ?_
  refine p_gen (fun im2 e3 => ?_)
  have h := h im2 e3
  refine p_aload_n dX3_copyFrom_8 rfl (q := 1) rfl ?_
  refine p_getR (b := (p1 + 1)) G f_RX3_9 rfl (h_p1 0 (by decide)).1 ((h_p1 0 (by decide)).2.2 1 (by decide)) dX3_copyFrom_9 ?_
  refine p_aload_n dX3_copyFrom_12 rfl (q := 0) rfl ?_
  refine p_getR (b := (a + 1)) G f_RX3_9 rfl (hS 0 (by decide)).1 ((hS 0 (by decide)).2.2 1 (by decide)) dX3_copyFrom_13 ?_
  refine p_aload_n dX3_copyFrom_16 rfl (q := 0) rfl ?_
  refine p_getI (j := 0) G f_RX3_24 rfl (hS 0 (by decide)).1 dX3_copyFrom_17 (fun c4 => ?_)
  refine p_SNV G k_RX3_28 rfl rfl (Nat.le_of_ble_eq_true rfl) ⟨by decide, by decide⟩ ⟨by decide, by decide⟩ dX3_copyFrom_20 h (fun im5 h => ?_)
  refine p_aload_n dX3_copyFrom_23 rfl (q := 1) rfl ?_
  refine p_getR (b := (p1 + 2)) G f_RX3_15 rfl (h_p1 0 (by decide)).1 ((h_p1 0 (by decide)).2.2 2 (by decide)) dX3_copyFrom_24 ?_
  refine p_aload_n dX3_copyFrom_27 rfl (q := 0) rfl ?_
  refine p_getR (b := (a + 2)) G f_RX3_15 rfl (hS 0 (by decide)).1 ((hS 0 (by decide)).2.2 2 (by decide)) dX3_copyFrom_28 ?_
  refine p_aload_n dX3_copyFrom_31 rfl (q := 0) rfl ?_
  refine p_getI (j := 0) G f_RX3_24 rfl (hS 0 (by decide)).1 dX3_copyFrom_32 (fun c7 => ?_)
  refine p_SNV G k_RX3_28 rfl rfl (Nat.le_of_ble_eq_true rfl) ⟨by decide, by decide⟩ ⟨by decide, by decide⟩ dX3_copyFrom_35 h (fun im8 h => ?_)
  refine p_aload_n dX3_copyFrom_38 rfl (q := 1) rfl ?_
  refine p_getR (b := (p1 + 3)) G f_RX3_18 rfl (h_p1 0 (by decide)).1 ((h_p1 0 (by decide)).2.2 3 (by decide)) dX3_copyFrom_39 ?_
  refine p_aload_n dX3_copyFrom_42 rfl (q := 0) rfl ?_
  refine p_getR (b := (a + 3)) G f_RX3_18 rfl (hS 0 (by decide)).1 ((hS 0 (by decide)).2.2 3 (by decide)) dX3_copyFrom_43 ?_
  refine p_aload_n dX3_copyFrom_46 rfl (q := 0) rfl ?_
  refine p_getI (j := 0) G f_RX3_24 rfl (hS 0 (by decide)).1 dX3_copyFrom_47 (fun c10 => ?_)
  refine p_SNV G k_RX3_28 rfl rfl (Nat.le_of_ble_eq_true rfl) ⟨by decide, by decide⟩ ⟨by decide, by decide⟩ dX3_copyFrom_50 h (fun im11 h => ?_)
  refine p_aload_n dX3_copyFrom_53 rfl (q := 1) rfl ?_
  refine p_getR (b := (p1 + 4)) G f_RX3_21 rfl (h_p1 0 (by decide)).1 ((h_p1 0 (by decide)).2.2 4 (by decide)) dX3_copyFrom_54 ?_
  refine p_aload_n dX3_copyFrom_57 rfl (q := 0) rfl ?_
  refine p_getR (b := (a + 4)) G f_RX3_21 rfl (hS 0 (by decide)).1 ((hS 0 (by decide)).2.2 4 (by decide)) dX3_copyFrom_58 ?_
  refine p_aload_n dX3_copyFrom_61 rfl (q := 0) rfl ?_
  refine p_getI (j := 0) G f_RX3_24 rfl (hS 0 (by decide)).1 dX3_copyFrom_62 (fun c13 => ?_)
  refine p_SNV G k_RX3_28 rfl rfl (Nat.le_of_ble_eq_true rfl) ⟨by decide, by decide⟩ ⟨by decide, by decide⟩ dX3_copyFrom_65 h (fun im14 h => ?_)
  exact p_retV (by decide) (by decide) rfl dX3_copyFrom_68 h
set_option maxRecDepth 20000 in
set_option maxHeartbeats 4000000 in
theorem v_X2_copyFrom {g : zG} (G : zOK g) {S : zSh} {im : zIm} {a : Nat} {p1 : Nat} {Q : zIm → Prop} (hS : zS_N S a) (h_p1 : zS_N S p1)
    (h : ∀ im2, im2 = zst im a 0 (im p1 0) → zCV g yX7_copyRow M_X7_copyRow [.ref (p1 + 1), .ref (a + 1), .int (zi 32)] S im2 (fun im4 => zCV g yX7_copyRow M_X7_copyRow [.ref (p1 + 2), .ref (a + 2), .int (zi 32)] S im4 (fun im6 => zCV g yX4_copyFrom M_X4_copyFrom [.ref (a + 3), .ref (p1 + 3)] S im6 (fun im8 => zCV g yX0_copyFrom M_X0_copyFrom [.ref (a + 12), .ref (p1 + 12)] S im8 (fun im10 => zCV g yX6_copyFrom M_X6_copyFrom [.ref (a + 18), .ref (p1 + 18)] S im10 (fun im12 => zCV g yX3_copyFrom M_X3_copyFrom [.ref (a + 25), .ref (p1 + 25)] S im12 (fun im14 => zCV g yX3_copyFrom M_X3_copyFrom [.ref (a + 30), .ref (p1 + 30)] S im14 (fun im16 => zCV g yX3_copyFrom M_X3_copyFrom [.ref (a + 35), .ref (p1 + 35)] S im16 (fun im18 => Q im18))))))))) :
    zCV g yX2_copyFrom M_X2_copyFrom [.ref a, .ref p1] S im Q := by
  refine zC_of (by decide) rfl rfl rfl rfl (Nat.le_of_ble_eq_true rfl) ?_
  refine p_aload_n dX2_copyFrom_0 rfl (q := 0) rfl ?_
  refine p_aload_n dX2_copyFrom_1 rfl (q := 1) rfl ?_
  refine p_getI (j := 0) G f_RX2_59 rfl (h_p1 0 (by decide)).1 dX2_copyFrom_2 (fun c1 => ?_)
  refine p_putI (j := 0) G f_RX2_59 rfl rfl rfl (hS 0 (by decide)).1 (nf_r c1) dX2_copyFrom_5 ?_
  refine p_gen (fun im2 e3 => ?_)
  have h := h im2 e3
  refine p_aload_n dX2_copyFrom_8 rfl (q := 1) rfl ?_
  refine p_getR (b := (p1 + 1)) G f_RX2_9 rfl (h_p1 0 (by decide)).1 ((h_p1 0 (by decide)).2.2 1 (by decide)) dX2_copyFrom_9 ?_
  refine p_aload_n dX2_copyFrom_12 rfl (q := 0) rfl ?_
  refine p_getR (b := (a + 1)) G f_RX2_9 rfl (hS 0 (by decide)).1 ((hS 0 (by decide)).2.2 1 (by decide)) dX2_copyFrom_13 ?_
  refine p_bipush dX2_copyFrom_16 (by decide) ?_
  refine p_SNV G k_RX2_77 rfl rfl (Nat.le_of_ble_eq_true rfl) ⟨by decide, by decide⟩ ⟨by decide, by decide⟩ dX2_copyFrom_18 h (fun im4 h => ?_)
  refine p_aload_n dX2_copyFrom_21 rfl (q := 1) rfl ?_
  refine p_getR (b := (p1 + 2)) G f_RX2_15 rfl (h_p1 0 (by decide)).1 ((h_p1 0 (by decide)).2.2 2 (by decide)) dX2_copyFrom_22 ?_
  refine p_aload_n dX2_copyFrom_25 rfl (q := 0) rfl ?_
  refine p_getR (b := (a + 2)) G f_RX2_15 rfl (hS 0 (by decide)).1 ((hS 0 (by decide)).2.2 2 (by decide)) dX2_copyFrom_26 ?_
  refine p_bipush dX2_copyFrom_29 (by decide) ?_
  refine p_SNV G k_RX2_77 rfl rfl (Nat.le_of_ble_eq_true rfl) ⟨by decide, by decide⟩ ⟨by decide, by decide⟩ dX2_copyFrom_31 h (fun im6 h => ?_)
  refine p_aload_n dX2_copyFrom_34 rfl (q := 0) rfl ?_
  refine p_getR (b := (a + 3)) G f_RX2_21 rfl (hS 0 (by decide)).1 ((hS 0 (by decide)).2.2 3 (by decide)) dX2_copyFrom_35 ?_
  refine p_aload_n dX2_copyFrom_38 rfl (q := 1) rfl ?_
  refine p_getR (b := (p1 + 3)) G f_RX2_21 rfl (h_p1 0 (by decide)).1 ((h_p1 0 (by decide)).2.2 3 (by decide)) dX2_copyFrom_39 ?_
  refine p_VV G k_RX2_81 (by decide) (hS 3 (by decide)).1 rfl rfl (Nat.le_of_ble_eq_true rfl) ⟨by decide, by decide⟩ ⟨by decide, by decide⟩ dX2_copyFrom_42 h (fun im8 h => ?_)
  refine p_aload_n dX2_copyFrom_45 rfl (q := 0) rfl ?_
  refine p_getR (b := (a + 12)) G f_RX2_28 rfl (hS 0 (by decide)).1 ((hS 0 (by decide)).2.2 4 (by decide)) dX2_copyFrom_46 ?_
  refine p_aload_n dX2_copyFrom_49 rfl (q := 1) rfl ?_
  refine p_getR (b := (p1 + 12)) G f_RX2_28 rfl (h_p1 0 (by decide)).1 ((h_p1 0 (by decide)).2.2 4 (by decide)) dX2_copyFrom_50 ?_
  refine p_VV G k_RX2_85 (by decide) (hS 12 (by decide)).1 rfl rfl (Nat.le_of_ble_eq_true rfl) ⟨by decide, by decide⟩ ⟨by decide, by decide⟩ dX2_copyFrom_53 h (fun im10 h => ?_)
  refine p_aload_n dX2_copyFrom_56 rfl (q := 0) rfl ?_
  refine p_getR (b := (a + 18)) G f_RX2_35 rfl (hS 0 (by decide)).1 ((hS 0 (by decide)).2.2 5 (by decide)) dX2_copyFrom_57 ?_
  refine p_aload_n dX2_copyFrom_60 rfl (q := 1) rfl ?_
  refine p_getR (b := (p1 + 18)) G f_RX2_35 rfl (h_p1 0 (by decide)).1 ((h_p1 0 (by decide)).2.2 5 (by decide)) dX2_copyFrom_61 ?_
  refine p_VV G k_RX2_88 (by decide) (hS 18 (by decide)).1 rfl rfl (Nat.le_of_ble_eq_true rfl) ⟨by decide, by decide⟩ ⟨by decide, by decide⟩ dX2_copyFrom_64 h (fun im12 h => ?_)
  refine p_aload_n dX2_copyFrom_67 rfl (q := 0) rfl ?_
  refine p_getR (b := (a + 25)) G f_RX2_42 rfl (hS 0 (by decide)).1 ((hS 0 (by decide)).2.2 6 (by decide)) dX2_copyFrom_68 ?_
  refine p_aload_n dX2_copyFrom_71 rfl (q := 1) rfl ?_
  refine p_getR (b := (p1 + 25)) G f_RX2_42 rfl (h_p1 0 (by decide)).1 ((h_p1 0 (by decide)).2.2 6 (by decide)) dX2_copyFrom_72 ?_
  refine p_VV G k_RX2_91 (by decide) (hS 25 (by decide)).1 rfl rfl (Nat.le_of_ble_eq_true rfl) ⟨by decide, by decide⟩ ⟨by decide, by decide⟩ dX2_copyFrom_75 h (fun im14 h => ?_)
  refine p_aload_n dX2_copyFrom_78 rfl (q := 0) rfl ?_
  refine p_getR (b := (a + 30)) G f_RX2_46 rfl (hS 0 (by decide)).1 ((hS 0 (by decide)).2.2 7 (by decide)) dX2_copyFrom_79 ?_
  refine p_aload_n dX2_copyFrom_82 rfl (q := 1) rfl ?_
  refine p_getR (b := (p1 + 30)) G f_RX2_46 rfl (h_p1 0 (by decide)).1 ((h_p1 0 (by decide)).2.2 7 (by decide)) dX2_copyFrom_83 ?_
  refine p_VV G k_RX2_91 (by decide) (hS 30 (by decide)).1 rfl rfl (Nat.le_of_ble_eq_true rfl) ⟨by decide, by decide⟩ ⟨by decide, by decide⟩ dX2_copyFrom_86 h (fun im16 h => ?_)
  refine p_aload_n dX2_copyFrom_89 rfl (q := 0) rfl ?_
  refine p_getR (b := (a + 35)) G f_RX2_49 rfl (hS 0 (by decide)).1 ((hS 0 (by decide)).2.2 8 (by decide)) dX2_copyFrom_90 ?_
  refine p_aload_n dX2_copyFrom_93 rfl (q := 1) rfl ?_
  refine p_getR (b := (p1 + 35)) G f_RX2_49 rfl (h_p1 0 (by decide)).1 ((h_p1 0 (by decide)).2.2 8 (by decide)) dX2_copyFrom_94 ?_
  refine p_VV G k_RX2_91 (by decide) (hS 35 (by decide)).1 rfl rfl (Nat.le_of_ble_eq_true rfl) ⟨by decide, by decide⟩ ⟨by decide, by decide⟩ dX2_copyFrom_97 h (fun im18 h => ?_)
  exact p_retV (by decide) (by decide) rfl dX2_copyFrom_100 h
