set_option maxRecDepth 20000 in
set_option maxHeartbeats 4000000 in
theorem v_L_addItem {g : zG} (G : zOK g) {S : zSh} {im : zIm} {a o : Nat} {p1 : Int} {p2 : Int} {p3 : Int} {Q : Int → zSh → zIm → Prop} (hk : zkd S a = 7) (ho : zkd S o = 12) (hl : zln S o = 1) (c_p1 : zc p1) (c_p2 : zc p2) (c_p3 : zc p3)
    (h : zCIx g yX7_addItem M_X7_addItem [.ref a, .int (zi p1), .int (zi p2), .int (zi p3)] S im (fun r im1 => Q 0 S (zst im1 o 0 r)) (fun E S1 im1 => (E = "java/lang/IllegalArgumentException" ∧ Q 1 S1 im1) ∨ (E = "java/lang/IllegalStateException" ∧ Q 2 S1 im1))) :
    zCW g yL_addItem M_L_addItem [(0, 12, 15, 13), (0, 12, 19, 15)] [.ref a, .int (zi p1), .int (zi p2), .int (zi p3), .ref o] S im (zQW Q) zX0 := by
  refine zCW_of (by decide) rfl rfl rfl rfl (Nat.le_of_ble_eq_true rfl) ?_
  refine p_aload dL_addItem_0 (q := 4) rfl ?_
  refine p_iconst dL_addItem_2 ?_
  refine p_aload_n dL_addItem_3 rfl (q := 0) rfl ?_
  refine p_iload_n dL_addItem_4 rfl (q := 1) rfl ?_
  refine p_iload_n dL_addItem_5 rfl (q := 2) rfl ?_
  refine p_iload_n dL_addItem_6 rfl (q := 3) rfl ?_
  refine p_V G k_RL_7 (by decide) hk rfl (rest := [.int (zi 0), .ref o]) rfl (Nat.le_of_ble_eq_true rfl) ⟨by decide, by decide⟩ ⟨by decide, by decide⟩ dL_addItem_7 h (fun v S1 im1 h => ?_) (fun E S1 im1 h => ?_)
  · obtain ⟨r, rfl, cr, rfl, h⟩ := h
    refine p_i2l dL_addItem_10 (nf_r cr) ?_
    refine p_last G ho (nf_k (by decide)) (by decide) (by rw [hl]; decide) (nfl_r (zcl_zc cr)) dL_addItem_11 ?_
    refine p_goto (tgt := 23) dL_addItem_12 (by decide) ?_
    refine p_iconst dL_addItem_23 ?_
    exact p_iretW (by decide) (by decide) rfl (nf_k (by decide)) dL_addItem_24 h
  · rcases h with ⟨rfl, h⟩ | ⟨rfl, h⟩
    · refine p_catch G (pre := []) (x := (0, 12, 15, 13)) (suf := [(0, 12, 19, 15)]) rfl (fun _ h => nomatch h) (by decide) (by decide) q_3_57 q_3_69 (fun q => ?_)
      refine p_astore (lv' := [(5, .ref q), (0, .ref a), (1, .int (zi p1)), (2, .int (zi p2)), (3, .int (zi p3)), (4, .ref o)]) dL_addItem_15 (by decide) rfl ?_
      refine p_iconst dL_addItem_17 ?_
      exact p_iretW (by decide) (by decide) rfl (nf_k (by decide)) dL_addItem_18 h
    · refine p_catch G (pre := [(0, 12, 15, 13)]) (x := (0, 12, 19, 15)) (suf := []) rfl (List.forall_mem_cons.mpr ⟨⟨by decide, _, q_3_57, G.2.2.2.2.2.2.2.1.1⟩, fun _ h => nomatch h⟩) (by decide) (by decide) q_3_58 q_3_136 (fun q => ?_)
      refine p_astore (lv' := [(5, .ref q), (0, .ref a), (1, .int (zi p1)), (2, .int (zi p2)), (3, .int (zi p3)), (4, .ref o)]) dL_addItem_19 (by decide) rfl ?_
      refine p_iconst dL_addItem_21 ?_
      exact p_iretW (by decide) (by decide) rfl (nf_k (by decide)) dL_addItem_22 h
set_option maxRecDepth 20000 in
set_option maxHeartbeats 4000000 in
theorem v_L_addBase {g : zG} (G : zOK g) {S : zSh} {im : zIm} {a o : Nat} {p1 : Int} {Q : Int → zSh → zIm → Prop} (hk : zkd S a = 7) (ho : zkd S o = 12) (hl : zln S o = 1) (c_p1 : zc p1)
    (h : zCIx g yX7_addBase M_X7_addBase [.ref a, .int (zi p1)] S im (fun r im1 => Q 0 S (zst im1 o 0 r)) (fun E S1 im1 => (E = "java/lang/IllegalArgumentException" ∧ Q 1 S1 im1) ∨ (E = "java/lang/IllegalStateException" ∧ Q 2 S1 im1))) :
    zCW g yL_addBase M_L_addBase [(0, 9, 12, 13), (0, 9, 15, 15)] [.ref a, .int (zi p1), .ref o] S im (zQW Q) zX0 := by
  refine zCW_of (by decide) rfl rfl rfl rfl (Nat.le_of_ble_eq_true rfl) ?_
  refine p_aload_n dL_addBase_0 rfl (q := 2) rfl ?_
  refine p_iconst dL_addBase_1 ?_
  refine p_aload_n dL_addBase_2 rfl (q := 0) rfl ?_
  refine p_iload_n dL_addBase_3 rfl (q := 1) rfl ?_
  refine p_V G k_RL_17 (by decide) hk rfl (rest := [.int (zi 0), .ref o]) rfl (Nat.le_of_ble_eq_true rfl) ⟨by decide, by decide⟩ ⟨by decide, by decide⟩ dL_addBase_4 h (fun v S1 im1 h => ?_) (fun E S1 im1 h => ?_)
  · obtain ⟨r, rfl, cr, rfl, h⟩ := h
    refine p_i2l dL_addBase_7 (nf_r cr) ?_
    refine p_last G ho (nf_k (by decide)) (by decide) (by rw [hl]; decide) (nfl_r (zcl_zc cr)) dL_addBase_8 ?_
    refine p_goto (tgt := 18) dL_addBase_9 (by decide) ?_
    refine p_iconst dL_addBase_18 ?_
    exact p_iretW (by decide) (by decide) rfl (nf_k (by decide)) dL_addBase_19 h
  · rcases h with ⟨rfl, h⟩ | ⟨rfl, h⟩
    · refine p_catch G (pre := []) (x := (0, 9, 12, 13)) (suf := [(0, 9, 15, 15)]) rfl (fun _ h => nomatch h) (by decide) (by decide) q_3_57 q_3_69 (fun q => ?_)
      refine p_astore_n (lv' := [(3, .ref q), (0, .ref a), (1, .int (zi p1)), (2, .ref o)]) dL_addBase_12 rfl (by decide) rfl ?_
      refine p_iconst dL_addBase_13 ?_
      exact p_iretW (by decide) (by decide) rfl (nf_k (by decide)) dL_addBase_14 h
    · refine p_catch G (pre := [(0, 9, 12, 13)]) (x := (0, 9, 15, 15)) (suf := []) rfl (List.forall_mem_cons.mpr ⟨⟨by decide, _, q_3_57, G.2.2.2.2.2.2.2.1.1⟩, fun _ h => nomatch h⟩) (by decide) (by decide) q_3_58 q_3_136 (fun q => ?_)
      refine p_astore_n (lv' := [(3, .ref q), (0, .ref a), (1, .int (zi p1)), (2, .ref o)]) dL_addBase_15 rfl (by decide) rfl ?_
      refine p_iconst dL_addBase_16 ?_
      exact p_iretW (by decide) (by decide) rfl (nf_k (by decide)) dL_addBase_17 h
set_option maxRecDepth 20000 in
set_option maxHeartbeats 4000000 in
theorem v_L_setLink {g : zG} (G : zOK g) {S : zSh} {im : zIm} {a o : Nat} {p1 : Int} {p2 : Int} {p3 : Int} {Q : Int → zSh → zIm → Prop} (hk : zkd S a = 7) (ho : zkd S o = 12) (hl : zln S o = 1) (c_p1 : zc p1) (c_p2 : zc p2) (c_p3 : zc p3)
    (h : zCIx g yX7_setLink M_X7_setLink [.ref a, .int (zi p1), .int (zi p2), .int (zi p3)] S im (fun r im1 => Q 0 S (zst im1 o 0 r)) (fun E S1 im1 => (E = "java/lang/IndexOutOfBoundsException" ∧ Q 1 S1 im1) ∨ (E = "java/lang/IllegalArgumentException" ∧ Q 2 S1 im1))) :
    zCW g yL_setLink M_L_setLink [(0, 12, 15, 24), (0, 12, 19, 13)] [.ref a, .int (zi p1), .int (zi p2), .int (zi p3), .ref o] S im (zQW Q) zX0 := by
  refine zCW_of (by decide) rfl rfl rfl rfl (Nat.le_of_ble_eq_true rfl) ?_
  refine p_aload dL_setLink_0 (q := 4) rfl ?_
  refine p_iconst dL_setLink_2 ?_
  refine p_aload_n dL_setLink_3 rfl (q := 0) rfl ?_
  refine p_iload_n dL_setLink_4 rfl (q := 1) rfl ?_
  refine p_iload_n dL_setLink_5 rfl (q := 2) rfl ?_
  refine p_iload_n dL_setLink_6 rfl (q := 3) rfl ?_
  refine p_V G k_RL_21 (by decide) hk rfl (rest := [.int (zi 0), .ref o]) rfl (Nat.le_of_ble_eq_true rfl) ⟨by decide, by decide⟩ ⟨by decide, by decide⟩ dL_setLink_7 h (fun v S1 im1 h => ?_) (fun E S1 im1 h => ?_)
  · obtain ⟨r, rfl, cr, rfl, h⟩ := h
    refine p_i2l dL_setLink_10 (nf_r cr) ?_
    refine p_last G ho (nf_k (by decide)) (by decide) (by rw [hl]; decide) (nfl_r (zcl_zc cr)) dL_setLink_11 ?_
    refine p_goto (tgt := 23) dL_setLink_12 (by decide) ?_
    refine p_iconst dL_setLink_23 ?_
    exact p_iretW (by decide) (by decide) rfl (nf_k (by decide)) dL_setLink_24 h
  · rcases h with ⟨rfl, h⟩ | ⟨rfl, h⟩
    · refine p_catch G (pre := []) (x := (0, 12, 15, 24)) (suf := [(0, 12, 19, 13)]) rfl (fun _ h => nomatch h) (by decide) (by decide) q_3_163 q_3_175 (fun q => ?_)
      refine p_astore (lv' := [(5, .ref q), (0, .ref a), (1, .int (zi p1)), (2, .int (zi p2)), (3, .int (zi p3)), (4, .ref o)]) dL_setLink_15 (by decide) rfl ?_
      refine p_iconst dL_setLink_17 ?_
      exact p_iretW (by decide) (by decide) rfl (nf_k (by decide)) dL_setLink_18 h
    · refine p_catch G (pre := [(0, 12, 15, 24)]) (x := (0, 12, 19, 13)) (suf := []) rfl (List.forall_mem_cons.mpr ⟨⟨by decide, _, q_3_163, G.2.2.2.2.2.2.2.1.2.1⟩, fun _ h => nomatch h⟩) (by decide) (by decide) q_3_57 q_3_69 (fun q => ?_)
      refine p_astore (lv' := [(5, .ref q), (0, .ref a), (1, .int (zi p1)), (2, .int (zi p2)), (3, .int (zi p3)), (4, .ref o)]) dL_setLink_19 (by decide) rfl ?_
      refine p_iconst dL_setLink_21 ?_
      exact p_iretW (by decide) (by decide) rfl (nf_k (by decide)) dL_setLink_22 h
set_option maxRecDepth 20000 in
set_option maxHeartbeats 4000000 in
theorem v_L_setLevel {g : zG} (G : zOK g) {S : zSh} {im : zIm} {a o : Nat} {p1 : Int} {p2 : Int} {p3 : Int} {Q : Int → zSh → zIm → Prop} (hk : zkd S a = 7) (ho : zkd S o = 12) (hl : zln S o = 1) (c_p1 : zc p1) (c_p2 : zc p2) (c_p3 : zc p3)
    (h : zCIx g yX7_setLevel M_X7_setLevel [.ref a, .int (zi p1), .int (zi p2), .int (zi p3)] S im (fun r im1 => Q 0 S (zst im1 o 0 r)) (fun E S1 im1 => (E = "java/lang/IndexOutOfBoundsException" ∧ Q 1 S1 im1) ∨ (E = "java/lang/IllegalArgumentException" ∧ Q 2 S1 im1) ∨ (E = "java/lang/IllegalStateException" ∧ Q 3 S1 im1))) :
    zCW g yL_setLevel M_L_setLevel [(0, 12, 15, 24), (0, 12, 19, 13), (0, 12, 23, 15)] [.ref a, .int (zi p1), .int (zi p2), .int (zi p3), .ref o] S im (zQW Q) zX0 := by
  refine zCW_of (by decide) rfl rfl rfl rfl (Nat.le_of_ble_eq_true rfl) ?_
  refine p_aload dL_setLevel_0 (q := 4) rfl ?_
  refine p_iconst dL_setLevel_2 ?_
  refine p_aload_n dL_setLevel_3 rfl (q := 0) rfl ?_
  refine p_iload_n dL_setLevel_4 rfl (q := 1) rfl ?_
  refine p_iload_n dL_setLevel_5 rfl (q := 2) rfl ?_
  refine p_iload_n dL_setLevel_6 rfl (q := 3) rfl ?_
  refine p_V G k_RL_26 (by decide) hk rfl (rest := [.int (zi 0), .ref o]) rfl (Nat.le_of_ble_eq_true rfl) ⟨by decide, by decide⟩ ⟨by decide, by decide⟩ dL_setLevel_7 h (fun v S1 im1 h => ?_) (fun E S1 im1 h => ?_)
  · obtain ⟨r, rfl, cr, rfl, h⟩ := h
    refine p_i2l dL_setLevel_10 (nf_r cr) ?_
    refine p_last G ho (nf_k (by decide)) (by decide) (by rw [hl]; decide) (nfl_r (zcl_zc cr)) dL_setLevel_11 ?_
    refine p_goto (tgt := 27) dL_setLevel_12 (by decide) ?_
    refine p_iconst dL_setLevel_27 ?_
    exact p_iretW (by decide) (by decide) rfl (nf_k (by decide)) dL_setLevel_28 h
  · rcases h with ⟨rfl, h⟩ | ⟨rfl, h⟩ | ⟨rfl, h⟩
    · refine p_catch G (pre := []) (x := (0, 12, 15, 24)) (suf := [(0, 12, 19, 13), (0, 12, 23, 15)]) rfl (fun _ h => nomatch h) (by decide) (by decide) q_3_163 q_3_175 (fun q => ?_)
      refine p_astore (lv' := [(5, .ref q), (0, .ref a), (1, .int (zi p1)), (2, .int (zi p2)), (3, .int (zi p3)), (4, .ref o)]) dL_setLevel_15 (by decide) rfl ?_
      refine p_iconst dL_setLevel_17 ?_
      exact p_iretW (by decide) (by decide) rfl (nf_k (by decide)) dL_setLevel_18 h
    · refine p_catch G (pre := [(0, 12, 15, 24)]) (x := (0, 12, 19, 13)) (suf := [(0, 12, 23, 15)]) rfl (List.forall_mem_cons.mpr ⟨⟨by decide, _, q_3_163, G.2.2.2.2.2.2.2.1.2.1⟩, fun _ h => nomatch h⟩) (by decide) (by decide) q_3_57 q_3_69 (fun q => ?_)
      refine p_astore (lv' := [(5, .ref q), (0, .ref a), (1, .int (zi p1)), (2, .int (zi p2)), (3, .int (zi p3)), (4, .ref o)]) dL_setLevel_19 (by decide) rfl ?_
      refine p_iconst dL_setLevel_21 ?_
      exact p_iretW (by decide) (by decide) rfl (nf_k (by decide)) dL_setLevel_22 h
    · refine p_catch G (pre := [(0, 12, 15, 24), (0, 12, 19, 13)]) (x := (0, 12, 23, 15)) (suf := []) rfl (List.forall_mem_cons.mpr ⟨⟨by decide, _, q_3_163, G.2.2.2.2.2.2.2.1.2.2⟩, List.forall_mem_cons.mpr ⟨⟨by decide, _, q_3_57, G.2.2.2.2.2.2.2.1.1⟩, fun _ h => nomatch h⟩⟩) (by decide) (by decide) q_3_58 q_3_136 (fun q => ?_)
      refine p_astore (lv' := [(5, .ref q), (0, .ref a), (1, .int (zi p1)), (2, .int (zi p2)), (3, .int (zi p3)), (4, .ref o)]) dL_setLevel_23 (by decide) rfl ?_
      refine p_iconst dL_setLevel_25 ?_
      exact p_iretW (by decide) (by decide) rfl (nf_k (by decide)) dL_setLevel_26 h
set_option maxRecDepth 20000 in
set_option maxHeartbeats 4000000 in
theorem v_L_setShare {g : zG} (G : zOK g) {S : zSh} {im : zIm} {a o : Nat} {p1 : Int} {p2 : Int} {p3 : Int} {Q : Int → zSh → zIm → Prop} (hk : zkd S a = 7) (ho : zkd S o = 12) (hl : zln S o = 1) (c_p1 : zc p1) (c_p2 : zc p2) (c_p3 : zc p3)
    (h : zCIx g yX7_setShare M_X7_setShare [.ref a, .int (zi p1), .int (zi p2), .int (zi p3)] S im (fun r im1 => Q 0 S (zst im1 o 0 r)) (fun E S1 im1 => (E = "java/lang/IndexOutOfBoundsException" ∧ Q 1 S1 im1) ∨ (E = "java/lang/IllegalArgumentException" ∧ Q 2 S1 im1))) :
    zCW g yL_setShare M_L_setShare [(0, 12, 15, 24), (0, 12, 19, 13)] [.ref a, .int (zi p1), .int (zi p2), .int (zi p3), .ref o] S im (zQW Q) zX0 := by
  refine zCW_of (by decide) rfl rfl rfl rfl (Nat.le_of_ble_eq_true rfl) ?_
  refine p_aload dL_setShare_0 (q := 4) rfl ?_
  refine p_iconst dL_setShare_2 ?_
  refine p_aload_n dL_setShare_3 rfl (q := 0) rfl ?_
  refine p_iload_n dL_setShare_4 rfl (q := 1) rfl ?_
  refine p_iload_n dL_setShare_5 rfl (q := 2) rfl ?_
  refine p_iload_n dL_setShare_6 rfl (q := 3) rfl ?_
  refine p_V G k_RL_29 (by decide) hk rfl (rest := [.int (zi 0), .ref o]) rfl (Nat.le_of_ble_eq_true rfl) ⟨by decide, by decide⟩ ⟨by decide, by decide⟩ dL_setShare_7 h (fun v S1 im1 h => ?_) (fun E S1 im1 h => ?_)
  · obtain ⟨r, rfl, cr, rfl, h⟩ := h
    refine p_i2l dL_setShare_10 (nf_r cr) ?_
    refine p_last G ho (nf_k (by decide)) (by decide) (by rw [hl]; decide) (nfl_r (zcl_zc cr)) dL_setShare_11 ?_
    refine p_goto (tgt := 23) dL_setShare_12 (by decide) ?_
    refine p_iconst dL_setShare_23 ?_
    exact p_iretW (by decide) (by decide) rfl (nf_k (by decide)) dL_setShare_24 h
  · rcases h with ⟨rfl, h⟩ | ⟨rfl, h⟩
    · refine p_catch G (pre := []) (x := (0, 12, 15, 24)) (suf := [(0, 12, 19, 13)]) rfl (fun _ h => nomatch h) (by decide) (by decide) q_3_163 q_3_175 (fun q => ?_)
      refine p_astore (lv' := [(5, .ref q), (0, .ref a), (1, .int (zi p1)), (2, .int (zi p2)), (3, .int (zi p3)), (4, .ref o)]) dL_setShare_15 (by decide) rfl ?_
      refine p_iconst dL_setShare_17 ?_
      exact p_iretW (by decide) (by decide) rfl (nf_k (by decide)) dL_setShare_18 h
    · refine p_catch G (pre := [(0, 12, 15, 24)]) (x := (0, 12, 19, 13)) (suf := []) rfl (List.forall_mem_cons.mpr ⟨⟨by decide, _, q_3_163, G.2.2.2.2.2.2.2.1.2.1⟩, fun _ h => nomatch h⟩) (by decide) (by decide) q_3_57 q_3_69 (fun q => ?_)
      refine p_astore (lv' := [(5, .ref q), (0, .ref a), (1, .int (zi p1)), (2, .int (zi p2)), (3, .int (zi p3)), (4, .ref o)]) dL_setShare_19 (by decide) rfl ?_
      refine p_iconst dL_setShare_21 ?_
      exact p_iretW (by decide) (by decide) rfl (nf_k (by decide)) dL_setShare_22 h
set_option maxRecDepth 20000 in
set_option maxHeartbeats 4000000 in
theorem v_L_setReserve {g : zG} (G : zOK g) {S : zSh} {im : zIm} {a o : Nat} {p1 : Int} {p2 : Int} {p3 : Int} {Q : Int → zSh → zIm → Prop} (hk : zkd S a = 7) (ho : zkd S o = 12) (hl : zln S o = 1) (c_p1 : zc p1) (c_p2 : zc p2) (c_p3 : zc p3)
    (h : zCIx g yX7_setReserve M_X7_setReserve [.ref a, .int (zi p1), .int (zi p2), .int (zi p3)] S im (fun r im1 => Q 0 S (zst im1 o 0 r)) (fun E S1 im1 => (E = "java/lang/IndexOutOfBoundsException" ∧ Q 1 S1 im1) ∨ (E = "java/lang/IllegalArgumentException" ∧ Q 2 S1 im1))) :
    zCW g yL_setReserve M_L_setReserve [(0, 12, 15, 24), (0, 12, 19, 13)] [.ref a, .int (zi p1), .int (zi p2), .int (zi p3), .ref o] S im (zQW Q) zX0 := by
  refine zCW_of (by decide) rfl rfl rfl rfl (Nat.le_of_ble_eq_true rfl) ?_
  refine p_aload dL_setReserve_0 (q := 4) rfl ?_
  refine p_iconst dL_setReserve_2 ?_
  refine p_aload_n dL_setReserve_3 rfl (q := 0) rfl ?_
  refine p_iload_n dL_setReserve_4 rfl (q := 1) rfl ?_
  refine p_iload_n dL_setReserve_5 rfl (q := 2) rfl ?_
  refine p_iload_n dL_setReserve_6 rfl (q := 3) rfl ?_
  refine p_V G k_RL_32 (by decide) hk rfl (rest := [.int (zi 0), .ref o]) rfl (Nat.le_of_ble_eq_true rfl) ⟨by decide, by decide⟩ ⟨by decide, by decide⟩ dL_setReserve_7 h (fun v S1 im1 h => ?_) (fun E S1 im1 h => ?_)
  · obtain ⟨r, rfl, cr, rfl, h⟩ := h
    refine p_i2l dL_setReserve_10 (nf_r cr) ?_
    refine p_last G ho (nf_k (by decide)) (by decide) (by rw [hl]; decide) (nfl_r (zcl_zc cr)) dL_setReserve_11 ?_
    refine p_goto (tgt := 23) dL_setReserve_12 (by decide) ?_
    refine p_iconst dL_setReserve_23 ?_
    exact p_iretW (by decide) (by decide) rfl (nf_k (by decide)) dL_setReserve_24 h
  · rcases h with ⟨rfl, h⟩ | ⟨rfl, h⟩
    · refine p_catch G (pre := []) (x := (0, 12, 15, 24)) (suf := [(0, 12, 19, 13)]) rfl (fun _ h => nomatch h) (by decide) (by decide) q_3_163 q_3_175 (fun q => ?_)
      refine p_astore (lv' := [(5, .ref q), (0, .ref a), (1, .int (zi p1)), (2, .int (zi p2)), (3, .int (zi p3)), (4, .ref o)]) dL_setReserve_15 (by decide) rfl ?_
      refine p_iconst dL_setReserve_17 ?_
      exact p_iretW (by decide) (by decide) rfl (nf_k (by decide)) dL_setReserve_18 h
    · refine p_catch G (pre := [(0, 12, 15, 24)]) (x := (0, 12, 19, 13)) (suf := []) rfl (List.forall_mem_cons.mpr ⟨⟨by decide, _, q_3_163, G.2.2.2.2.2.2.2.1.2.1⟩, fun _ h => nomatch h⟩) (by decide) (by decide) q_3_57 q_3_69 (fun q => ?_)
      refine p_astore (lv' := [(5, .ref q), (0, .ref a), (1, .int (zi p1)), (2, .int (zi p2)), (3, .int (zi p3)), (4, .ref o)]) dL_setReserve_19 (by decide) rfl ?_
      refine p_iconst dL_setReserve_21 ?_
      exact p_iretW (by decide) (by decide) rfl (nf_k (by decide)) dL_setReserve_22 h
set_option maxRecDepth 20000 in
set_option maxHeartbeats 4000000 in
theorem v_L_setRate {g : zG} (G : zOK g) {S : zSh} {im : zIm} {a o : Nat} {p1 : Int} {p2 : Int} {p3 : Int} {Q : Int → zSh → zIm → Prop} (hk : zkd S a = 7) (ho : zkd S o = 12) (hl : zln S o = 1) (c_p1 : zc p1) (c_p2 : zc p2) (c_p3 : zc p3)
    (h : zCIx g yX7_setRate M_X7_setRate [.ref a, .int (zi p1), .int (zi p2), .int (zi p3)] S im (fun r im1 => Q 0 S (zst im1 o 0 r)) (fun E S1 im1 => (E = "java/lang/IndexOutOfBoundsException" ∧ Q 1 S1 im1) ∨ (E = "java/lang/IllegalArgumentException" ∧ Q 2 S1 im1))) :
    zCW g yL_setRate M_L_setRate [(0, 12, 15, 24), (0, 12, 19, 13)] [.ref a, .int (zi p1), .int (zi p2), .int (zi p3), .ref o] S im (zQW Q) zX0 := by
  refine zCW_of (by decide) rfl rfl rfl rfl (Nat.le_of_ble_eq_true rfl) ?_
  refine p_aload dL_setRate_0 (q := 4) rfl ?_
  refine p_iconst dL_setRate_2 ?_
  refine p_aload_n dL_setRate_3 rfl (q := 0) rfl ?_
  refine p_iload_n dL_setRate_4 rfl (q := 1) rfl ?_
  refine p_iload_n dL_setRate_5 rfl (q := 2) rfl ?_
  refine p_iload_n dL_setRate_6 rfl (q := 3) rfl ?_
  refine p_V G k_RL_35 (by decide) hk rfl (rest := [.int (zi 0), .ref o]) rfl (Nat.le_of_ble_eq_true rfl) ⟨by decide, by decide⟩ ⟨by decide, by decide⟩ dL_setRate_7 h (fun v S1 im1 h => ?_) (fun E S1 im1 h => ?_)
  · obtain ⟨r, rfl, cr, rfl, h⟩ := h
    refine p_i2l dL_setRate_10 (nf_r cr) ?_
    refine p_last G ho (nf_k (by decide)) (by decide) (by rw [hl]; decide) (nfl_r (zcl_zc cr)) dL_setRate_11 ?_
    refine p_goto (tgt := 23) dL_setRate_12 (by decide) ?_
    refine p_iconst dL_setRate_23 ?_
    exact p_iretW (by decide) (by decide) rfl (nf_k (by decide)) dL_setRate_24 h
  · rcases h with ⟨rfl, h⟩ | ⟨rfl, h⟩
    · refine p_catch G (pre := []) (x := (0, 12, 15, 24)) (suf := [(0, 12, 19, 13)]) rfl (fun _ h => nomatch h) (by decide) (by decide) q_3_163 q_3_175 (fun q => ?_)
      refine p_astore (lv' := [(5, .ref q), (0, .ref a), (1, .int (zi p1)), (2, .int (zi p2)), (3, .int (zi p3)), (4, .ref o)]) dL_setRate_15 (by decide) rfl ?_
      refine p_iconst dL_setRate_17 ?_
      exact p_iretW (by decide) (by decide) rfl (nf_k (by decide)) dL_setRate_18 h
    · refine p_catch G (pre := [(0, 12, 15, 24)]) (x := (0, 12, 19, 13)) (suf := []) rfl (List.forall_mem_cons.mpr ⟨⟨by decide, _, q_3_163, G.2.2.2.2.2.2.2.1.2.1⟩, fun _ h => nomatch h⟩) (by decide) (by decide) q_3_57 q_3_69 (fun q => ?_)
      refine p_astore (lv' := [(5, .ref q), (0, .ref a), (1, .int (zi p1)), (2, .int (zi p2)), (3, .int (zi p3)), (4, .ref o)]) dL_setRate_19 (by decide) rfl ?_
      refine p_iconst dL_setRate_21 ?_
      exact p_iretW (by decide) (by decide) rfl (nf_k (by decide)) dL_setRate_22 h
set_option maxRecDepth 20000 in
set_option maxHeartbeats 4000000 in
theorem v_L_setLateralLimit {g : zG} (G : zOK g) {S : zSh} {im : zIm} {a o : Nat} {p1 : Int} {Q : Int → zSh → zIm → Prop} (hk : zkd S a = 7) (ho : zkd S o = 12) (hl : zln S o = 1) (c_p1 : zc p1)
    (h : zCIx g yX7_setLateralLimit M_X7_setLateralLimit [.ref a, .int (zi p1)] S im (fun r im1 => Q 0 S (zst im1 o 0 r)) (fun E S1 im1 => (E = "java/lang/IllegalArgumentException" ∧ Q 1 S1 im1))) :
    zCW g yL_setLateralLimit M_L_setLateralLimit [(0, 9, 12, 13)] [.ref a, .int (zi p1), .ref o] S im (zQW Q) zX0 := by
  refine zCW_of (by decide) rfl rfl rfl rfl (Nat.le_of_ble_eq_true rfl) ?_
  refine p_aload_n dL_setLateralLimit_0 rfl (q := 2) rfl ?_
  refine p_iconst dL_setLateralLimit_1 ?_
  refine p_aload_n dL_setLateralLimit_2 rfl (q := 0) rfl ?_
  refine p_iload_n dL_setLateralLimit_3 rfl (q := 1) rfl ?_
  refine p_V G k_RL_38 (by decide) hk rfl (rest := [.int (zi 0), .ref o]) rfl (Nat.le_of_ble_eq_true rfl) ⟨by decide, by decide⟩ ⟨by decide, by decide⟩ dL_setLateralLimit_4 h (fun v S1 im1 h => ?_) (fun E S1 im1 h => ?_)
  · obtain ⟨r, rfl, cr, rfl, h⟩ := h
    refine p_i2l dL_setLateralLimit_7 (nf_r cr) ?_
    refine p_last G ho (nf_k (by decide)) (by decide) (by rw [hl]; decide) (nfl_r (zcl_zc cr)) dL_setLateralLimit_8 ?_
    refine p_goto (tgt := 15) dL_setLateralLimit_9 (by decide) ?_
    refine p_iconst dL_setLateralLimit_15 ?_
    exact p_iretW (by decide) (by decide) rfl (nf_k (by decide)) dL_setLateralLimit_16 h
  · obtain ⟨rfl, h⟩ := h
    refine p_catch G (pre := []) (x := (0, 9, 12, 13)) (suf := []) rfl (fun _ h => nomatch h) (by decide) (by decide) q_3_57 q_3_69 (fun q => ?_)
    refine p_astore_n (lv' := [(3, .ref q), (0, .ref a), (1, .int (zi p1)), (2, .ref o)]) dL_setLateralLimit_12 rfl (by decide) rfl ?_
    refine p_iconst dL_setLateralLimit_13 ?_
    exact p_iretW (by decide) (by decide) rfl (nf_k (by decide)) dL_setLateralLimit_14 h
set_option maxRecDepth 20000 in
set_option maxHeartbeats 4000000 in
theorem v_L_demand {g : zG} (G : zOK g) {S : zSh} {im : zIm} {a o : Nat} {p1 : Int} {p2 : Int} {p3 : Int} {Q : Int → zSh → zIm → Prop} (hk : zkd S a = 7) (ho : zkd S o = 12) (hl : zln S o = 1) (c_p1 : zc p1) (c_p2 : zc p2) (c_p3 : zc p3)
    (h : zCIx g yX7_demand M_X7_demand [.ref a, .int (zi p1), .int (zi p2), .int (zi p3)] S im (fun r im1 => Q 0 S (zst im1 o 0 (if r = 0 then 0 else 1))) (fun E S1 im1 => (E = "java/lang/IndexOutOfBoundsException" ∧ Q 1 S1 im1) ∨ (E = "java/lang/IllegalArgumentException" ∧ Q 2 S1 im1) ∨ (E = "java/lang/IllegalStateException" ∧ Q 3 S1 im1))) :
    zCW g yL_demand M_L_demand [(0, 19, 22, 24), (0, 19, 26, 13), (0, 19, 30, 15)] [.ref a, .int (zi p1), .int (zi p2), .int (zi p3), .ref o] S im (zQW Q) zX0 := by
  refine zCW_of (by decide) rfl rfl rfl rfl (Nat.le_of_ble_eq_true rfl) ?_
  refine p_aload dL_demand_0 (q := 4) rfl ?_
  refine p_iconst dL_demand_2 ?_
  refine p_aload_n dL_demand_3 rfl (q := 0) rfl ?_
  refine p_iload_n dL_demand_4 rfl (q := 1) rfl ?_
  refine p_iload_n dL_demand_5 rfl (q := 2) rfl ?_
  refine p_iload_n dL_demand_6 rfl (q := 3) rfl ?_
  refine p_V G k_RL_41 (by decide) hk rfl (rest := [.int (zi 0), .ref o]) rfl (Nat.le_of_ble_eq_true rfl) ⟨by decide, by decide⟩ ⟨by decide, by decide⟩ dL_demand_7 h (fun v S1 im1 h => ?_) (fun E S1 im1 h => ?_)
  · obtain ⟨r, rfl, cr, rfl, h⟩ := h
    refine p_if_eq (tgt := 17) dL_demand_10 (by decide) (nf_r cr) (fun b1 => ?_) (fun b1 => ?_)
    · rw [if_pos b1] at h
      refine p_lconst (x := 0) dL_demand_17 rfl ?_
      refine p_last G ho (nf_k (by decide)) (by decide) (by rw [hl]; decide) (nfl_k (by decide)) dL_demand_18 ?_
      refine p_goto (tgt := 34) dL_demand_19 (by decide) ?_
      refine p_iconst dL_demand_34 ?_
      exact p_iretW (by decide) (by decide) rfl (nf_k (by decide)) dL_demand_35 h
    · rw [if_neg b1] at h
      refine p_lconst (x := 1) dL_demand_13 rfl ?_
      refine p_goto (tgt := 18) dL_demand_14 (by decide) ?_
      refine p_last G ho (nf_k (by decide)) (by decide) (by rw [hl]; decide) (nfl_k (by decide)) dL_demand_18 ?_
      refine p_goto (tgt := 34) dL_demand_19 (by decide) ?_
      refine p_iconst dL_demand_34 ?_
      exact p_iretW (by decide) (by decide) rfl (nf_k (by decide)) dL_demand_35 h
  · rcases h with ⟨rfl, h⟩ | ⟨rfl, h⟩ | ⟨rfl, h⟩
    · refine p_catch G (pre := []) (x := (0, 19, 22, 24)) (suf := [(0, 19, 26, 13), (0, 19, 30, 15)]) rfl (fun _ h => nomatch h) (by decide) (by decide) q_3_163 q_3_175 (fun q => ?_)
      refine p_astore (lv' := [(5, .ref q), (0, .ref a), (1, .int (zi p1)), (2, .int (zi p2)), (3, .int (zi p3)), (4, .ref o)]) dL_demand_22 (by decide) rfl ?_
      refine p_iconst dL_demand_24 ?_
      exact p_iretW (by decide) (by decide) rfl (nf_k (by decide)) dL_demand_25 h
    · refine p_catch G (pre := [(0, 19, 22, 24)]) (x := (0, 19, 26, 13)) (suf := [(0, 19, 30, 15)]) rfl (List.forall_mem_cons.mpr ⟨⟨by decide, _, q_3_163, G.2.2.2.2.2.2.2.1.2.1⟩, fun _ h => nomatch h⟩) (by decide) (by decide) q_3_57 q_3_69 (fun q => ?_)
      refine p_astore (lv' := [(5, .ref q), (0, .ref a), (1, .int (zi p1)), (2, .int (zi p2)), (3, .int (zi p3)), (4, .ref o)]) dL_demand_26 (by decide) rfl ?_
      refine p_iconst dL_demand_28 ?_
      exact p_iretW (by decide) (by decide) rfl (nf_k (by decide)) dL_demand_29 h
    · refine p_catch G (pre := [(0, 19, 22, 24), (0, 19, 26, 13)]) (x := (0, 19, 30, 15)) (suf := []) rfl (List.forall_mem_cons.mpr ⟨⟨by decide, _, q_3_163, G.2.2.2.2.2.2.2.1.2.2⟩, List.forall_mem_cons.mpr ⟨⟨by decide, _, q_3_57, G.2.2.2.2.2.2.2.1.1⟩, fun _ h => nomatch h⟩⟩) (by decide) (by decide) q_3_58 q_3_136 (fun q => ?_)
      refine p_astore (lv' := [(5, .ref q), (0, .ref a), (1, .int (zi p1)), (2, .int (zi p2)), (3, .int (zi p3)), (4, .ref o)]) dL_demand_30 (by decide) rfl ?_
      refine p_iconst dL_demand_32 ?_
      exact p_iretW (by decide) (by decide) rfl (nf_k (by decide)) dL_demand_33 h
set_option maxRecDepth 20000 in
set_option maxHeartbeats 4000000 in
theorem v_L_advance {g : zG} (G : zOK g) {S : zSh} {im : zIm} {a o : Nat} {p1 : Int} {Q : Int → zSh → zIm → Prop} (hk : zkd S a = 7) (ho : zkd S o = 12) (hl : zln S o = 1) (c_p1 : zc p1)
    (h : zCIx g yX7_advance M_X7_advance [.ref a, .int (zi p1)] S im (fun r im1 => Q 0 S (zst im1 o 0 r)) (fun E S1 im1 => (E = "java/lang/IllegalArgumentException" ∧ Q 1 S1 im1) ∨ (E = "java/lang/IllegalStateException" ∧ Q 2 S1 im1))) :
    zCW g yL_advance M_L_advance [(0, 9, 12, 13), (0, 9, 15, 15)] [.ref a, .int (zi p1), .ref o] S im (zQW Q) zX0 := by
  refine zCW_of (by decide) rfl rfl rfl rfl (Nat.le_of_ble_eq_true rfl) ?_
  refine p_aload_n dL_advance_0 rfl (q := 2) rfl ?_
  refine p_iconst dL_advance_1 ?_
  refine p_aload_n dL_advance_2 rfl (q := 0) rfl ?_
  refine p_iload_n dL_advance_3 rfl (q := 1) rfl ?_
  refine p_V G k_RL_45 (by decide) hk rfl (rest := [.int (zi 0), .ref o]) rfl (Nat.le_of_ble_eq_true rfl) ⟨by decide, by decide⟩ ⟨by decide, by decide⟩ dL_advance_4 h (fun v S1 im1 h => ?_) (fun E S1 im1 h => ?_)
  · obtain ⟨r, rfl, cr, rfl, h⟩ := h
    refine p_i2l dL_advance_7 (nf_r cr) ?_
    refine p_last G ho (nf_k (by decide)) (by decide) (by rw [hl]; decide) (nfl_r (zcl_zc cr)) dL_advance_8 ?_
    refine p_goto (tgt := 18) dL_advance_9 (by decide) ?_
    refine p_iconst dL_advance_18 ?_
    exact p_iretW (by decide) (by decide) rfl (nf_k (by decide)) dL_advance_19 h
  · rcases h with ⟨rfl, h⟩ | ⟨rfl, h⟩
    · refine p_catch G (pre := []) (x := (0, 9, 12, 13)) (suf := [(0, 9, 15, 15)]) rfl (fun _ h => nomatch h) (by decide) (by decide) q_3_57 q_3_69 (fun q => ?_)
      refine p_astore_n (lv' := [(3, .ref q), (0, .ref a), (1, .int (zi p1)), (2, .ref o)]) dL_advance_12 rfl (by decide) rfl ?_
      refine p_iconst dL_advance_13 ?_
      exact p_iretW (by decide) (by decide) rfl (nf_k (by decide)) dL_advance_14 h
    · refine p_catch G (pre := [(0, 9, 12, 13)]) (x := (0, 9, 15, 15)) (suf := []) rfl (List.forall_mem_cons.mpr ⟨⟨by decide, _, q_3_57, G.2.2.2.2.2.2.2.1.1⟩, fun _ h => nomatch h⟩) (by decide) (by decide) q_3_58 q_3_136 (fun q => ?_)
      refine p_astore_n (lv' := [(3, .ref q), (0, .ref a), (1, .int (zi p1)), (2, .ref o)]) dL_advance_15 rfl (by decide) rfl ?_
      refine p_iconst dL_advance_16 ?_
      exact p_iretW (by decide) (by decide) rfl (nf_k (by decide)) dL_advance_17 h
set_option maxRecDepth 20000 in
set_option maxHeartbeats 4000000 in
theorem v_L_run {g : zG} (G : zOK g) {S : zSh} {im : zIm} {a o : Nat} {p1 : Int} {p2 : Int} {Q : Int → zSh → zIm → Prop} (hk : zkd S a = 7) (ho : zkd S o = 12) (hl : zln S o = 1) (c_p1 : zc p1) (c_p2 : zc p2)
    (h : zCIx g yX7_run M_X7_run [.ref a, .int (zi p1), .int (zi p2)] S im (fun r im1 => Q 0 S (zst im1 o 0 r)) (fun E S1 im1 => (E = "java/lang/IllegalArgumentException" ∧ Q 1 S1 im1) ∨ (E = "java/lang/IllegalStateException" ∧ Q 2 S1 im1))) :
    zCW g yL_run M_L_run [(0, 10, 13, 13), (0, 10, 17, 15)] [.ref a, .int (zi p1), .int (zi p2), .ref o] S im (zQW Q) zX0 := by
  refine zCW_of (by decide) rfl rfl rfl rfl (Nat.le_of_ble_eq_true rfl) ?_
  refine p_aload_n dL_run_0 rfl (q := 3) rfl ?_
  refine p_iconst dL_run_1 ?_
  refine p_aload_n dL_run_2 rfl (q := 0) rfl ?_
  refine p_iload_n dL_run_3 rfl (q := 1) rfl ?_
  refine p_iload_n dL_run_4 rfl (q := 2) rfl ?_
  refine p_V G k_RL_48 (by decide) hk rfl (rest := [.int (zi 0), .ref o]) rfl (Nat.le_of_ble_eq_true rfl) ⟨by decide, by decide⟩ ⟨by decide, by decide⟩ dL_run_5 h (fun v S1 im1 h => ?_) (fun E S1 im1 h => ?_)
  · obtain ⟨r, rfl, cr, rfl, h⟩ := h
    refine p_i2l dL_run_8 (nf_r cr) ?_
    refine p_last G ho (nf_k (by decide)) (by decide) (by rw [hl]; decide) (nfl_r (zcl_zc cr)) dL_run_9 ?_
    refine p_goto (tgt := 21) dL_run_10 (by decide) ?_
    refine p_iconst dL_run_21 ?_
    exact p_iretW (by decide) (by decide) rfl (nf_k (by decide)) dL_run_22 h
  · rcases h with ⟨rfl, h⟩ | ⟨rfl, h⟩
    · refine p_catch G (pre := []) (x := (0, 10, 13, 13)) (suf := [(0, 10, 17, 15)]) rfl (fun _ h => nomatch h) (by decide) (by decide) q_3_57 q_3_69 (fun q => ?_)
      refine p_astore (lv' := [(4, .ref q), (0, .ref a), (1, .int (zi p1)), (2, .int (zi p2)), (3, .ref o)]) dL_run_13 (by decide) rfl ?_
      refine p_iconst dL_run_15 ?_
      exact p_iretW (by decide) (by decide) rfl (nf_k (by decide)) dL_run_16 h
    · refine p_catch G (pre := [(0, 10, 13, 13)]) (x := (0, 10, 17, 15)) (suf := []) rfl (List.forall_mem_cons.mpr ⟨⟨by decide, _, q_3_57, G.2.2.2.2.2.2.2.1.1⟩, fun _ h => nomatch h⟩) (by decide) (by decide) q_3_58 q_3_136 (fun q => ?_)
      refine p_astore (lv' := [(4, .ref q), (0, .ref a), (1, .int (zi p1)), (2, .int (zi p2)), (3, .ref o)]) dL_run_17 (by decide) rfl ?_
      refine p_iconst dL_run_19 ?_
      exact p_iretW (by decide) (by decide) rfl (nf_k (by decide)) dL_run_20 h
set_option maxRecDepth 20000 in
set_option maxHeartbeats 4000000 in
theorem v_L_level {g : zG} (G : zOK g) {S : zSh} {im : zIm} {a o : Nat} {p1 : Int} {p2 : Int} {Q : Int → zSh → zIm → Prop} (hk : zkd S a = 7) (ho : zkd S o = 12) (hl : zln S o = 1) (c_p1 : zc p1) (c_p2 : zc p2)
    (h : zCIx g yX7_level M_X7_level [.ref a, .int (zi p1), .int (zi p2)] S im (fun r im1 => Q 0 S (zst im1 o 0 r)) (fun E S1 im1 => (E = "java/lang/IndexOutOfBoundsException" ∧ Q 1 S1 im1))) :
    zCW g yL_level M_L_level [(0, 10, 13, 24)] [.ref a, .int (zi p1), .int (zi p2), .ref o] S im (zQW Q) zX0 := by
  refine zCW_of (by decide) rfl rfl rfl rfl (Nat.le_of_ble_eq_true rfl) ?_
  refine p_aload_n dL_level_0 rfl (q := 3) rfl ?_
  refine p_iconst dL_level_1 ?_
  refine p_aload_n dL_level_2 rfl (q := 0) rfl ?_
  refine p_iload_n dL_level_3 rfl (q := 1) rfl ?_
  refine p_iload_n dL_level_4 rfl (q := 2) rfl ?_
  refine p_V G k_RL_52 (by decide) hk rfl (rest := [.int (zi 0), .ref o]) rfl (Nat.le_of_ble_eq_true rfl) ⟨by decide, by decide⟩ ⟨by decide, by decide⟩ dL_level_5 h (fun v S1 im1 h => ?_) (fun E S1 im1 h => ?_)
  · obtain ⟨r, rfl, cr, rfl, h⟩ := h
    refine p_i2l dL_level_8 (nf_r cr) ?_
    refine p_last G ho (nf_k (by decide)) (by decide) (by rw [hl]; decide) (nfl_r (zcl_zc cr)) dL_level_9 ?_
    refine p_goto (tgt := 17) dL_level_10 (by decide) ?_
    refine p_iconst dL_level_17 ?_
    exact p_iretW (by decide) (by decide) rfl (nf_k (by decide)) dL_level_18 h
  · obtain ⟨rfl, h⟩ := h
    refine p_catch G (pre := []) (x := (0, 10, 13, 24)) (suf := []) rfl (fun _ h => nomatch h) (by decide) (by decide) q_3_163 q_3_175 (fun q => ?_)
    refine p_astore (lv' := [(4, .ref q), (0, .ref a), (1, .int (zi p1)), (2, .int (zi p2)), (3, .ref o)]) dL_level_13 (by decide) rfl ?_
    refine p_iconst dL_level_15 ?_
    exact p_iretW (by decide) (by decide) rfl (nf_k (by decide)) dL_level_16 h
set_option maxRecDepth 20000 in
set_option maxHeartbeats 4000000 in
theorem v_L_onHand {g : zG} (G : zOK g) {S : zSh} {im : zIm} {a o : Nat} {p1 : Int} {p2 : Int} {Q : Int → zSh → zIm → Prop} (hk : zkd S a = 7) (ho : zkd S o = 12) (hl : zln S o = 1) (c_p1 : zc p1) (c_p2 : zc p2)
    (h : zCIx g yX7_onHand M_X7_onHand [.ref a, .int (zi p1), .int (zi p2)] S im (fun r im1 => Q 0 S (zst im1 o 0 r)) (fun E S1 im1 => (E = "java/lang/IndexOutOfBoundsException" ∧ Q 1 S1 im1))) :
    zCW g yL_onHand M_L_onHand [(0, 10, 13, 24)] [.ref a, .int (zi p1), .int (zi p2), .ref o] S im (zQW Q) zX0 := by
  refine zCW_of (by decide) rfl rfl rfl rfl (Nat.le_of_ble_eq_true rfl) ?_
  refine p_aload_n dL_onHand_0 rfl (q := 3) rfl ?_
  refine p_iconst dL_onHand_1 ?_
  refine p_aload_n dL_onHand_2 rfl (q := 0) rfl ?_
  refine p_iload_n dL_onHand_3 rfl (q := 1) rfl ?_
  refine p_iload_n dL_onHand_4 rfl (q := 2) rfl ?_
  refine p_V G k_RL_55 (by decide) hk rfl (rest := [.int (zi 0), .ref o]) rfl (Nat.le_of_ble_eq_true rfl) ⟨by decide, by decide⟩ ⟨by decide, by decide⟩ dL_onHand_5 h (fun v S1 im1 h => ?_) (fun E S1 im1 h => ?_)
  · obtain ⟨r, rfl, cr, rfl, h⟩ := h
    refine p_i2l dL_onHand_8 (nf_r cr) ?_
    refine p_last G ho (nf_k (by decide)) (by decide) (by rw [hl]; decide) (nfl_r (zcl_zc cr)) dL_onHand_9 ?_
    refine p_goto (tgt := 17) dL_onHand_10 (by decide) ?_
    refine p_iconst dL_onHand_17 ?_
    exact p_iretW (by decide) (by decide) rfl (nf_k (by decide)) dL_onHand_18 h
  · obtain ⟨rfl, h⟩ := h
    refine p_catch G (pre := []) (x := (0, 10, 13, 24)) (suf := []) rfl (fun _ h => nomatch h) (by decide) (by decide) q_3_163 q_3_175 (fun q => ?_)
    refine p_astore (lv' := [(4, .ref q), (0, .ref a), (1, .int (zi p1)), (2, .int (zi p2)), (3, .ref o)]) dL_onHand_13 (by decide) rfl ?_
    refine p_iconst dL_onHand_15 ?_
    exact p_iretW (by decide) (by decide) rfl (nf_k (by decide)) dL_onHand_16 h
set_option maxRecDepth 20000 in
set_option maxHeartbeats 4000000 in
theorem v_L_waiting {g : zG} (G : zOK g) {S : zSh} {im : zIm} {a o : Nat} {p1 : Int} {p2 : Int} {Q : Int → zSh → zIm → Prop} (hk : zkd S a = 7) (ho : zkd S o = 12) (hl : zln S o = 1) (c_p1 : zc p1) (c_p2 : zc p2)
    (h : zCIx g yX7_waiting M_X7_waiting [.ref a, .int (zi p1), .int (zi p2)] S im (fun r im1 => Q 0 S (zst im1 o 0 r)) (fun E S1 im1 => (E = "java/lang/IndexOutOfBoundsException" ∧ Q 1 S1 im1))) :
    zCW g yL_waiting M_L_waiting [(0, 10, 13, 24)] [.ref a, .int (zi p1), .int (zi p2), .ref o] S im (zQW Q) zX0 := by
  refine zCW_of (by decide) rfl rfl rfl rfl (Nat.le_of_ble_eq_true rfl) ?_
  refine p_aload_n dL_waiting_0 rfl (q := 3) rfl ?_
  refine p_iconst dL_waiting_1 ?_
  refine p_aload_n dL_waiting_2 rfl (q := 0) rfl ?_
  refine p_iload_n dL_waiting_3 rfl (q := 1) rfl ?_
  refine p_iload_n dL_waiting_4 rfl (q := 2) rfl ?_
  refine p_V G k_RL_58 (by decide) hk rfl (rest := [.int (zi 0), .ref o]) rfl (Nat.le_of_ble_eq_true rfl) ⟨by decide, by decide⟩ ⟨by decide, by decide⟩ dL_waiting_5 h (fun v S1 im1 h => ?_) (fun E S1 im1 h => ?_)
  · obtain ⟨r, rfl, cr, rfl, h⟩ := h
    refine p_i2l dL_waiting_8 (nf_r cr) ?_
    refine p_last G ho (nf_k (by decide)) (by decide) (by rw [hl]; decide) (nfl_r (zcl_zc cr)) dL_waiting_9 ?_
    refine p_goto (tgt := 17) dL_waiting_10 (by decide) ?_
    refine p_iconst dL_waiting_17 ?_
    exact p_iretW (by decide) (by decide) rfl (nf_k (by decide)) dL_waiting_18 h
  · obtain ⟨rfl, h⟩ := h
    refine p_catch G (pre := []) (x := (0, 10, 13, 24)) (suf := []) rfl (fun _ h => nomatch h) (by decide) (by decide) q_3_163 q_3_175 (fun q => ?_)
    refine p_astore (lv' := [(4, .ref q), (0, .ref a), (1, .int (zi p1)), (2, .int (zi p2)), (3, .ref o)]) dL_waiting_13 (by decide) rfl ?_
    refine p_iconst dL_waiting_15 ?_
    exact p_iretW (by decide) (by decide) rfl (nf_k (by decide)) dL_waiting_16 h
set_option maxRecDepth 20000 in
set_option maxHeartbeats 4000000 in
theorem v_L_topPriority {g : zG} (G : zOK g) {S : zSh} {im : zIm} {a o : Nat} {p1 : Int} {p2 : Int} {Q : Int → zSh → zIm → Prop} (hk : zkd S a = 7) (ho : zkd S o = 12) (hl : zln S o = 1) (c_p1 : zc p1) (c_p2 : zc p2)
    (h : zCIx g yX7_topPriority M_X7_topPriority [.ref a, .int (zi p1), .int (zi p2)] S im (fun r im1 => Q 0 S (zst im1 o 0 r)) (fun E S1 im1 => (E = "java/lang/IndexOutOfBoundsException" ∧ Q 1 S1 im1))) :
    zCW g yL_topPriority M_L_topPriority [(0, 10, 13, 24)] [.ref a, .int (zi p1), .int (zi p2), .ref o] S im (zQW Q) zX0 := by
  refine zCW_of (by decide) rfl rfl rfl rfl (Nat.le_of_ble_eq_true rfl) ?_
  refine p_aload_n dL_topPriority_0 rfl (q := 3) rfl ?_
  refine p_iconst dL_topPriority_1 ?_
  refine p_aload_n dL_topPriority_2 rfl (q := 0) rfl ?_
  refine p_iload_n dL_topPriority_3 rfl (q := 1) rfl ?_
  refine p_iload_n dL_topPriority_4 rfl (q := 2) rfl ?_
  refine p_V G k_RL_61 (by decide) hk rfl (rest := [.int (zi 0), .ref o]) rfl (Nat.le_of_ble_eq_true rfl) ⟨by decide, by decide⟩ ⟨by decide, by decide⟩ dL_topPriority_5 h (fun v S1 im1 h => ?_) (fun E S1 im1 h => ?_)
  · obtain ⟨r, rfl, cr, rfl, h⟩ := h
    refine p_i2l dL_topPriority_8 (nf_r cr) ?_
    refine p_last G ho (nf_k (by decide)) (by decide) (by rw [hl]; decide) (nfl_r (zcl_zc cr)) dL_topPriority_9 ?_
    refine p_goto (tgt := 17) dL_topPriority_10 (by decide) ?_
    refine p_iconst dL_topPriority_17 ?_
    exact p_iretW (by decide) (by decide) rfl (nf_k (by decide)) dL_topPriority_18 h
  · obtain ⟨rfl, h⟩ := h
    refine p_catch G (pre := []) (x := (0, 10, 13, 24)) (suf := []) rfl (fun _ h => nomatch h) (by decide) (by decide) q_3_163 q_3_175 (fun q => ?_)
    refine p_astore (lv' := [(4, .ref q), (0, .ref a), (1, .int (zi p1)), (2, .int (zi p2)), (3, .ref o)]) dL_topPriority_13 (by decide) rfl ?_
    refine p_iconst dL_topPriority_15 ?_
    exact p_iretW (by decide) (by decide) rfl (nf_k (by decide)) dL_topPriority_16 h
set_option maxRecDepth 20000 in
set_option maxHeartbeats 4000000 in
theorem v_L_keptOrders {g : zG} (G : zOK g) {S : zSh} {im : zIm} {a o : Nat} {p1 : Int} {Q : Int → zSh → zIm → Prop} (hk : zkd S a = 7) (ho : zkd S o = 12) (hl : zln S o = 1) (c_p1 : zc p1)
    (h : zCIx g yX7_keptOrders M_X7_keptOrders [.ref a, .int (zi p1)] S im (fun r im1 => Q 0 S (zst im1 o 0 r)) (fun E S1 im1 => (E = "java/lang/IndexOutOfBoundsException" ∧ Q 1 S1 im1))) :
    zCW g yL_keptOrders M_L_keptOrders [(0, 9, 12, 24)] [.ref a, .int (zi p1), .ref o] S im (zQW Q) zX0 := by
  refine zCW_of (by decide) rfl rfl rfl rfl (Nat.le_of_ble_eq_true rfl) ?_
  refine p_aload_n dL_keptOrders_0 rfl (q := 2) rfl ?_
  refine p_iconst dL_keptOrders_1 ?_
  refine p_aload_n dL_keptOrders_2 rfl (q := 0) rfl ?_
  refine p_iload_n dL_keptOrders_3 rfl (q := 1) rfl ?_
  refine p_V G k_RL_64 (by decide) hk rfl (rest := [.int (zi 0), .ref o]) rfl (Nat.le_of_ble_eq_true rfl) ⟨by decide, by decide⟩ ⟨by decide, by decide⟩ dL_keptOrders_4 h (fun v S1 im1 h => ?_) (fun E S1 im1 h => ?_)
  · obtain ⟨r, rfl, cr, rfl, h⟩ := h
    refine p_i2l dL_keptOrders_7 (nf_r cr) ?_
    refine p_last G ho (nf_k (by decide)) (by decide) (by rw [hl]; decide) (nfl_r (zcl_zc cr)) dL_keptOrders_8 ?_
    refine p_goto (tgt := 15) dL_keptOrders_9 (by decide) ?_
    refine p_iconst dL_keptOrders_15 ?_
    exact p_iretW (by decide) (by decide) rfl (nf_k (by decide)) dL_keptOrders_16 h
  · obtain ⟨rfl, h⟩ := h
    refine p_catch G (pre := []) (x := (0, 9, 12, 24)) (suf := []) rfl (fun _ h => nomatch h) (by decide) (by decide) q_3_163 q_3_175 (fun q => ?_)
    refine p_astore_n (lv' := [(3, .ref q), (0, .ref a), (1, .int (zi p1)), (2, .ref o)]) dL_keptOrders_12 rfl (by decide) rfl ?_
    refine p_iconst dL_keptOrders_13 ?_
    exact p_iretW (by decide) (by decide) rfl (nf_k (by decide)) dL_keptOrders_14 h
set_option maxRecDepth 20000 in
set_option maxHeartbeats 4000000 in
theorem v_L_dueIn {g : zG} (G : zOK g) {S : zSh} {im : zIm} {a o : Nat} {p1 : Int} {p2 : Int} {Q : Int → zSh → zIm → Prop} (hk : zkd S a = 7) (ho : zkd S o = 12) (hl : zln S o = 1) (c_p1 : zc p1) (c_p2 : zc p2)
    (h : zCIx g yX7_dueIn M_X7_dueIn [.ref a, .int (zi p1), .int (zi p2)] S im (fun r im1 => Q 0 S (zst im1 o 0 r)) (fun E S1 im1 => (E = "java/lang/IndexOutOfBoundsException" ∧ Q 1 S1 im1))) :
    zCW g yL_dueIn M_L_dueIn [(0, 10, 13, 24)] [.ref a, .int (zi p1), .int (zi p2), .ref o] S im (zQW Q) zX0 := by
  refine zCW_of (by decide) rfl rfl rfl rfl (Nat.le_of_ble_eq_true rfl) ?_
  refine p_aload_n dL_dueIn_0 rfl (q := 3) rfl ?_
  refine p_iconst dL_dueIn_1 ?_
  refine p_aload_n dL_dueIn_2 rfl (q := 0) rfl ?_
  refine p_iload_n dL_dueIn_3 rfl (q := 1) rfl ?_
  refine p_iload_n dL_dueIn_4 rfl (q := 2) rfl ?_
  refine p_V G k_RL_67 (by decide) hk rfl (rest := [.int (zi 0), .ref o]) rfl (Nat.le_of_ble_eq_true rfl) ⟨by decide, by decide⟩ ⟨by decide, by decide⟩ dL_dueIn_5 h (fun v S1 im1 h => ?_) (fun E S1 im1 h => ?_)
  · obtain ⟨r, rfl, cr, rfl, h⟩ := h
    refine p_i2l dL_dueIn_8 (nf_r cr) ?_
    refine p_last G ho (nf_k (by decide)) (by decide) (by rw [hl]; decide) (nfl_r (zcl_zc cr)) dL_dueIn_9 ?_
    refine p_goto (tgt := 17) dL_dueIn_10 (by decide) ?_
    refine p_iconst dL_dueIn_17 ?_
    exact p_iretW (by decide) (by decide) rfl (nf_k (by decide)) dL_dueIn_18 h
  · obtain ⟨rfl, h⟩ := h
    refine p_catch G (pre := []) (x := (0, 10, 13, 24)) (suf := []) rfl (fun _ h => nomatch h) (by decide) (by decide) q_3_163 q_3_175 (fun q => ?_)
    refine p_astore (lv' := [(4, .ref q), (0, .ref a), (1, .int (zi p1)), (2, .int (zi p2)), (3, .ref o)]) dL_dueIn_13 (by decide) rfl ?_
    refine p_iconst dL_dueIn_15 ?_
    exact p_iretW (by decide) (by decide) rfl (nf_k (by decide)) dL_dueIn_16 h
set_option maxRecDepth 20000 in
set_option maxHeartbeats 4000000 in
theorem v_L_position {g : zG} (G : zOK g) {S : zSh} {im : zIm} {a o : Nat} {p1 : Int} {p2 : Int} {Q : Int → zSh → zIm → Prop} (hk : zkd S a = 7) (ho : zkd S o = 12) (hl : zln S o = 1) (c_p1 : zc p1) (c_p2 : zc p2)
    (h : zCIx g yX7_position M_X7_position [.ref a, .int (zi p1), .int (zi p2)] S im (fun r im1 => Q 0 S (zst im1 o 0 r)) (fun E S1 im1 => (E = "java/lang/IndexOutOfBoundsException" ∧ Q 1 S1 im1))) :
    zCW g yL_position M_L_position [(0, 10, 13, 24)] [.ref a, .int (zi p1), .int (zi p2), .ref o] S im (zQW Q) zX0 := by
  refine zCW_of (by decide) rfl rfl rfl rfl (Nat.le_of_ble_eq_true rfl) ?_
  refine p_aload_n dL_position_0 rfl (q := 3) rfl ?_
  refine p_iconst dL_position_1 ?_
  refine p_aload_n dL_position_2 rfl (q := 0) rfl ?_
  refine p_iload_n dL_position_3 rfl (q := 1) rfl ?_
  refine p_iload_n dL_position_4 rfl (q := 2) rfl ?_
  refine p_V G k_RL_70 (by decide) hk rfl (rest := [.int (zi 0), .ref o]) rfl (Nat.le_of_ble_eq_true rfl) ⟨by decide, by decide⟩ ⟨by decide, by decide⟩ dL_position_5 h (fun v S1 im1 h => ?_) (fun E S1 im1 h => ?_)
  · obtain ⟨r, rfl, cr, rfl, h⟩ := h
    refine p_i2l dL_position_8 (nf_r cr) ?_
    refine p_last G ho (nf_k (by decide)) (by decide) (by rw [hl]; decide) (nfl_r (zcl_zc cr)) dL_position_9 ?_
    refine p_goto (tgt := 17) dL_position_10 (by decide) ?_
    refine p_iconst dL_position_17 ?_
    exact p_iretW (by decide) (by decide) rfl (nf_k (by decide)) dL_position_18 h
  · obtain ⟨rfl, h⟩ := h
    refine p_catch G (pre := []) (x := (0, 10, 13, 24)) (suf := []) rfl (fun _ h => nomatch h) (by decide) (by decide) q_3_163 q_3_175 (fun q => ?_)
    refine p_astore (lv' := [(4, .ref q), (0, .ref a), (1, .int (zi p1)), (2, .int (zi p2)), (3, .ref o)]) dL_position_13 (by decide) rfl ?_
    refine p_iconst dL_position_15 ?_
    exact p_iretW (by decide) (by decide) rfl (nf_k (by decide)) dL_position_16 h
set_option maxRecDepth 20000 in
set_option maxHeartbeats 4000000 in
theorem v_L_underWay {g : zG} (G : zOK g) {S : zSh} {im : zIm} {a o : Nat} {p1 : Int} {p2 : Int} {Q : Int → zSh → zIm → Prop} (hk : zkd S a = 7) (ho : zkd S o = 12) (hl : zln S o = 1) (c_p1 : zc p1) (c_p2 : zc p2)
    (h : zCIx g yX7_underWay M_X7_underWay [.ref a, .int (zi p1), .int (zi p2)] S im (fun r im1 => Q 0 S (zst im1 o 0 r)) (fun E S1 im1 => (E = "java/lang/IndexOutOfBoundsException" ∧ Q 1 S1 im1) ∨ (E = "java/lang/IllegalArgumentException" ∧ Q 2 S1 im1))) :
    zCW g yL_underWay M_L_underWay [(0, 10, 13, 24), (0, 10, 17, 13)] [.ref a, .int (zi p1), .int (zi p2), .ref o] S im (zQW Q) zX0 := by
  refine zCW_of (by decide) rfl rfl rfl rfl (Nat.le_of_ble_eq_true rfl) ?_
  refine p_aload_n dL_underWay_0 rfl (q := 3) rfl ?_
  refine p_iconst dL_underWay_1 ?_
  refine p_aload_n dL_underWay_2 rfl (q := 0) rfl ?_
  refine p_iload_n dL_underWay_3 rfl (q := 1) rfl ?_
  refine p_iload_n dL_underWay_4 rfl (q := 2) rfl ?_
  refine p_V G k_RL_73 (by decide) hk rfl (rest := [.int (zi 0), .ref o]) rfl (Nat.le_of_ble_eq_true rfl) ⟨by decide, by decide⟩ ⟨by decide, by decide⟩ dL_underWay_5 h (fun v S1 im1 h => ?_) (fun E S1 im1 h => ?_)
  · obtain ⟨r, rfl, cr, rfl, h⟩ := h
    refine p_i2l dL_underWay_8 (nf_r cr) ?_
    refine p_last G ho (nf_k (by decide)) (by decide) (by rw [hl]; decide) (nfl_r (zcl_zc cr)) dL_underWay_9 ?_
    refine p_goto (tgt := 21) dL_underWay_10 (by decide) ?_
    refine p_iconst dL_underWay_21 ?_
    exact p_iretW (by decide) (by decide) rfl (nf_k (by decide)) dL_underWay_22 h
  · rcases h with ⟨rfl, h⟩ | ⟨rfl, h⟩
    · refine p_catch G (pre := []) (x := (0, 10, 13, 24)) (suf := [(0, 10, 17, 13)]) rfl (fun _ h => nomatch h) (by decide) (by decide) q_3_163 q_3_175 (fun q => ?_)
      refine p_astore (lv' := [(4, .ref q), (0, .ref a), (1, .int (zi p1)), (2, .int (zi p2)), (3, .ref o)]) dL_underWay_13 (by decide) rfl ?_
      refine p_iconst dL_underWay_15 ?_
      exact p_iretW (by decide) (by decide) rfl (nf_k (by decide)) dL_underWay_16 h
    · refine p_catch G (pre := [(0, 10, 13, 24)]) (x := (0, 10, 17, 13)) (suf := []) rfl (List.forall_mem_cons.mpr ⟨⟨by decide, _, q_3_163, G.2.2.2.2.2.2.2.1.2.1⟩, fun _ h => nomatch h⟩) (by decide) (by decide) q_3_57 q_3_69 (fun q => ?_)
      refine p_astore (lv' := [(4, .ref q), (0, .ref a), (1, .int (zi p1)), (2, .int (zi p2)), (3, .ref o)]) dL_underWay_17 (by decide) rfl ?_
      refine p_iconst dL_underWay_19 ?_
      exact p_iretW (by decide) (by decide) rfl (nf_k (by decide)) dL_underWay_20 h
set_option maxRecDepth 20000 in
set_option maxHeartbeats 4000000 in
theorem v_L_fleet {g : zG} (G : zOK g) {S : zSh} {im : zIm} {a o : Nat} {p1 : Int} {Q : Int → zSh → zIm → Prop} (hk : zkd S a = 7) (ho : zkd S o = 12) (hl : zln S o = 1) (c_p1 : zc p1)
    (h : zCIx g yX7_fleet M_X7_fleet [.ref a, .int (zi p1)] S im (fun r im1 => Q 0 S (zst im1 o 0 r)) (fun E S1 im1 => (E = "java/lang/IndexOutOfBoundsException" ∧ Q 1 S1 im1))) :
    zCW g yL_fleet M_L_fleet [(0, 9, 12, 24)] [.ref a, .int (zi p1), .ref o] S im (zQW Q) zX0 := by
  refine zCW_of (by decide) rfl rfl rfl rfl (Nat.le_of_ble_eq_true rfl) ?_
  refine p_aload_n dL_fleet_0 rfl (q := 2) rfl ?_
  refine p_iconst dL_fleet_1 ?_
  refine p_aload_n dL_fleet_2 rfl (q := 0) rfl ?_
  refine p_iload_n dL_fleet_3 rfl (q := 1) rfl ?_
  refine p_V G k_RL_76 (by decide) hk rfl (rest := [.int (zi 0), .ref o]) rfl (Nat.le_of_ble_eq_true rfl) ⟨by decide, by decide⟩ ⟨by decide, by decide⟩ dL_fleet_4 h (fun v S1 im1 h => ?_) (fun E S1 im1 h => ?_)
  · obtain ⟨r, rfl, cr, rfl, h⟩ := h
    refine p_i2l dL_fleet_7 (nf_r cr) ?_
    refine p_last G ho (nf_k (by decide)) (by decide) (by rw [hl]; decide) (nfl_r (zcl_zc cr)) dL_fleet_8 ?_
    refine p_goto (tgt := 15) dL_fleet_9 (by decide) ?_
    refine p_iconst dL_fleet_15 ?_
    exact p_iretW (by decide) (by decide) rfl (nf_k (by decide)) dL_fleet_16 h
  · obtain ⟨rfl, h⟩ := h
    refine p_catch G (pre := []) (x := (0, 9, 12, 24)) (suf := []) rfl (fun _ h => nomatch h) (by decide) (by decide) q_3_163 q_3_175 (fun q => ?_)
    refine p_astore_n (lv' := [(3, .ref q), (0, .ref a), (1, .int (zi p1)), (2, .ref o)]) dL_fleet_12 rfl (by decide) rfl ?_
    refine p_iconst dL_fleet_13 ?_
    exact p_iretW (by decide) (by decide) rfl (nf_k (by decide)) dL_fleet_14 h
set_option maxRecDepth 20000 in
set_option maxHeartbeats 4000000 in
theorem v_L_nextArrival {g : zG} (G : zOK g) {S : zSh} {im : zIm} {a o : Nat} {p1 : Int} {p2 : Int} {Q : Int → zSh → zIm → Prop} (hk : zkd S a = 7) (ho : zkd S o = 12) (hl : zln S o = 1) (c_p1 : zc p1) (c_p2 : zc p2)
    (h : zCIx g yX7_nextArrival M_X7_nextArrival [.ref a, .int (zi p1), .int (zi p2)] S im (fun r im1 => Q 0 S (zst im1 o 0 r)) (fun E S1 im1 => (E = "java/lang/IndexOutOfBoundsException" ∧ Q 1 S1 im1))) :
    zCW g yL_nextArrival M_L_nextArrival [(0, 10, 13, 24)] [.ref a, .int (zi p1), .int (zi p2), .ref o] S im (zQW Q) zX0 := by
  refine zCW_of (by decide) rfl rfl rfl rfl (Nat.le_of_ble_eq_true rfl) ?_
  refine p_aload_n dL_nextArrival_0 rfl (q := 3) rfl ?_
  refine p_iconst dL_nextArrival_1 ?_
  refine p_aload_n dL_nextArrival_2 rfl (q := 0) rfl ?_
  refine p_iload_n dL_nextArrival_3 rfl (q := 1) rfl ?_
  refine p_iload_n dL_nextArrival_4 rfl (q := 2) rfl ?_
  refine p_V G k_RL_79 (by decide) hk rfl (rest := [.int (zi 0), .ref o]) rfl (Nat.le_of_ble_eq_true rfl) ⟨by decide, by decide⟩ ⟨by decide, by decide⟩ dL_nextArrival_5 h (fun v S1 im1 h => ?_) (fun E S1 im1 h => ?_)
  · obtain ⟨r, rfl, cr, rfl, h⟩ := h
    refine p_i2l dL_nextArrival_8 (nf_r cr) ?_
    refine p_last G ho (nf_k (by decide)) (by decide) (by rw [hl]; decide) (nfl_r (zcl_zc cr)) dL_nextArrival_9 ?_
    refine p_goto (tgt := 17) dL_nextArrival_10 (by decide) ?_
    refine p_iconst dL_nextArrival_17 ?_
    exact p_iretW (by decide) (by decide) rfl (nf_k (by decide)) dL_nextArrival_18 h
  · obtain ⟨rfl, h⟩ := h
    refine p_catch G (pre := []) (x := (0, 10, 13, 24)) (suf := []) rfl (fun _ h => nomatch h) (by decide) (by decide) q_3_163 q_3_175 (fun q => ?_)
    refine p_astore (lv' := [(4, .ref q), (0, .ref a), (1, .int (zi p1)), (2, .int (zi p2)), (3, .ref o)]) dL_nextArrival_13 (by decide) rfl ?_
    refine p_iconst dL_nextArrival_15 ?_
    exact p_iretW (by decide) (by decide) rfl (nf_k (by decide)) dL_nextArrival_16 h
set_option maxRecDepth 20000 in
set_option maxHeartbeats 4000000 in
theorem v_L_dueDay {g : zG} (G : zOK g) {S : zSh} {im : zIm} {a o : Nat} {p1 : Int} {Q : Int → zSh → zIm → Prop} (hk : zkd S a = 7) (ho : zkd S o = 12) (hl : zln S o = 1) (c_p1 : zc p1)
    (h : zCIx g yX7_dueDay M_X7_dueDay [.ref a, .int (zi p1)] S im (fun r im1 => Q 0 S (zst im1 o 0 r)) (fun E S1 im1 => (E = "java/lang/IndexOutOfBoundsException" ∧ Q 1 S1 im1))) :
    zCW g yL_dueDay M_L_dueDay [(0, 9, 12, 24)] [.ref a, .int (zi p1), .ref o] S im (zQW Q) zX0 := by
  refine zCW_of (by decide) rfl rfl rfl rfl (Nat.le_of_ble_eq_true rfl) ?_
  refine p_aload_n dL_dueDay_0 rfl (q := 2) rfl ?_
  refine p_iconst dL_dueDay_1 ?_
  refine p_aload_n dL_dueDay_2 rfl (q := 0) rfl ?_
  refine p_iload_n dL_dueDay_3 rfl (q := 1) rfl ?_
  refine p_V G k_RL_82 (by decide) hk rfl (rest := [.int (zi 0), .ref o]) rfl (Nat.le_of_ble_eq_true rfl) ⟨by decide, by decide⟩ ⟨by decide, by decide⟩ dL_dueDay_4 h (fun v S1 im1 h => ?_) (fun E S1 im1 h => ?_)
  · obtain ⟨r, rfl, cr, rfl, h⟩ := h
    refine p_i2l dL_dueDay_7 (nf_r cr) ?_
    refine p_last G ho (nf_k (by decide)) (by decide) (by rw [hl]; decide) (nfl_r (zcl_zc cr)) dL_dueDay_8 ?_
    refine p_goto (tgt := 15) dL_dueDay_9 (by decide) ?_
    refine p_iconst dL_dueDay_15 ?_
    exact p_iretW (by decide) (by decide) rfl (nf_k (by decide)) dL_dueDay_16 h
  · obtain ⟨rfl, h⟩ := h
    refine p_catch G (pre := []) (x := (0, 9, 12, 24)) (suf := []) rfl (fun _ h => nomatch h) (by decide) (by decide) q_3_163 q_3_175 (fun q => ?_)
    refine p_astore_n (lv' := [(3, .ref q), (0, .ref a), (1, .int (zi p1)), (2, .ref o)]) dL_dueDay_12 rfl (by decide) rfl ?_
    refine p_iconst dL_dueDay_13 ?_
    exact p_iretW (by decide) (by decide) rfl (nf_k (by decide)) dL_dueDay_14 h
set_option maxRecDepth 20000 in
set_option maxHeartbeats 4000000 in
theorem v_L_dueKind {g : zG} (G : zOK g) {S : zSh} {im : zIm} {a o : Nat} {p1 : Int} {Q : Int → zSh → zIm → Prop} (hk : zkd S a = 7) (ho : zkd S o = 12) (hl : zln S o = 1) (c_p1 : zc p1)
    (h : zCIx g yX7_dueKind M_X7_dueKind [.ref a, .int (zi p1)] S im (fun r im1 => Q 0 S (zst im1 o 0 r)) (fun E S1 im1 => (E = "java/lang/IndexOutOfBoundsException" ∧ Q 1 S1 im1))) :
    zCW g yL_dueKind M_L_dueKind [(0, 9, 12, 24)] [.ref a, .int (zi p1), .ref o] S im (zQW Q) zX0 := by
  refine zCW_of (by decide) rfl rfl rfl rfl (Nat.le_of_ble_eq_true rfl) ?_
  refine p_aload_n dL_dueKind_0 rfl (q := 2) rfl ?_
  refine p_iconst dL_dueKind_1 ?_
  refine p_aload_n dL_dueKind_2 rfl (q := 0) rfl ?_
  refine p_iload_n dL_dueKind_3 rfl (q := 1) rfl ?_
  refine p_V G k_RL_85 (by decide) hk rfl (rest := [.int (zi 0), .ref o]) rfl (Nat.le_of_ble_eq_true rfl) ⟨by decide, by decide⟩ ⟨by decide, by decide⟩ dL_dueKind_4 h (fun v S1 im1 h => ?_) (fun E S1 im1 h => ?_)
  · obtain ⟨r, rfl, cr, rfl, h⟩ := h
    refine p_i2l dL_dueKind_7 (nf_r cr) ?_
    refine p_last G ho (nf_k (by decide)) (by decide) (by rw [hl]; decide) (nfl_r (zcl_zc cr)) dL_dueKind_8 ?_
    refine p_goto (tgt := 15) dL_dueKind_9 (by decide) ?_
    refine p_iconst dL_dueKind_15 ?_
    exact p_iretW (by decide) (by decide) rfl (nf_k (by decide)) dL_dueKind_16 h
  · obtain ⟨rfl, h⟩ := h
    refine p_catch G (pre := []) (x := (0, 9, 12, 24)) (suf := []) rfl (fun _ h => nomatch h) (by decide) (by decide) q_3_163 q_3_175 (fun q => ?_)
    refine p_astore_n (lv' := [(3, .ref q), (0, .ref a), (1, .int (zi p1)), (2, .ref o)]) dL_dueKind_12 rfl (by decide) rfl ?_
    refine p_iconst dL_dueKind_13 ?_
    exact p_iretW (by decide) (by decide) rfl (nf_k (by decide)) dL_dueKind_14 h
set_option maxRecDepth 20000 in
set_option maxHeartbeats 4000000 in
theorem v_L_dueItem {g : zG} (G : zOK g) {S : zSh} {im : zIm} {a o : Nat} {p1 : Int} {Q : Int → zSh → zIm → Prop} (hk : zkd S a = 7) (ho : zkd S o = 12) (hl : zln S o = 1) (c_p1 : zc p1)
    (h : zCIx g yX7_dueItem M_X7_dueItem [.ref a, .int (zi p1)] S im (fun r im1 => Q 0 S (zst im1 o 0 r)) (fun E S1 im1 => (E = "java/lang/IndexOutOfBoundsException" ∧ Q 1 S1 im1))) :
    zCW g yL_dueItem M_L_dueItem [(0, 9, 12, 24)] [.ref a, .int (zi p1), .ref o] S im (zQW Q) zX0 := by
  refine zCW_of (by decide) rfl rfl rfl rfl (Nat.le_of_ble_eq_true rfl) ?_
  refine p_aload_n dL_dueItem_0 rfl (q := 2) rfl ?_
  refine p_iconst dL_dueItem_1 ?_
  refine p_aload_n dL_dueItem_2 rfl (q := 0) rfl ?_
  refine p_iload_n dL_dueItem_3 rfl (q := 1) rfl ?_
  refine p_V G k_RL_88 (by decide) hk rfl (rest := [.int (zi 0), .ref o]) rfl (Nat.le_of_ble_eq_true rfl) ⟨by decide, by decide⟩ ⟨by decide, by decide⟩ dL_dueItem_4 h (fun v S1 im1 h => ?_) (fun E S1 im1 h => ?_)
  · obtain ⟨r, rfl, cr, rfl, h⟩ := h
    refine p_i2l dL_dueItem_7 (nf_r cr) ?_
    refine p_last G ho (nf_k (by decide)) (by decide) (by rw [hl]; decide) (nfl_r (zcl_zc cr)) dL_dueItem_8 ?_
    refine p_goto (tgt := 15) dL_dueItem_9 (by decide) ?_
    refine p_iconst dL_dueItem_15 ?_
    exact p_iretW (by decide) (by decide) rfl (nf_k (by decide)) dL_dueItem_16 h
  · obtain ⟨rfl, h⟩ := h
    refine p_catch G (pre := []) (x := (0, 9, 12, 24)) (suf := []) rfl (fun _ h => nomatch h) (by decide) (by decide) q_3_163 q_3_175 (fun q => ?_)
    refine p_astore_n (lv' := [(3, .ref q), (0, .ref a), (1, .int (zi p1)), (2, .ref o)]) dL_dueItem_12 rfl (by decide) rfl ?_
    refine p_iconst dL_dueItem_13 ?_
    exact p_iretW (by decide) (by decide) rfl (nf_k (by decide)) dL_dueItem_14 h
set_option maxRecDepth 20000 in
set_option maxHeartbeats 4000000 in
theorem v_L_dueSite {g : zG} (G : zOK g) {S : zSh} {im : zIm} {a o : Nat} {p1 : Int} {Q : Int → zSh → zIm → Prop} (hk : zkd S a = 7) (ho : zkd S o = 12) (hl : zln S o = 1) (c_p1 : zc p1)
    (h : zCIx g yX7_dueSite M_X7_dueSite [.ref a, .int (zi p1)] S im (fun r im1 => Q 0 S (zst im1 o 0 r)) (fun E S1 im1 => (E = "java/lang/IndexOutOfBoundsException" ∧ Q 1 S1 im1))) :
    zCW g yL_dueSite M_L_dueSite [(0, 9, 12, 24)] [.ref a, .int (zi p1), .ref o] S im (zQW Q) zX0 := by
  refine zCW_of (by decide) rfl rfl rfl rfl (Nat.le_of_ble_eq_true rfl) ?_
  refine p_aload_n dL_dueSite_0 rfl (q := 2) rfl ?_
  refine p_iconst dL_dueSite_1 ?_
  refine p_aload_n dL_dueSite_2 rfl (q := 0) rfl ?_
  refine p_iload_n dL_dueSite_3 rfl (q := 1) rfl ?_
  refine p_V G k_RL_91 (by decide) hk rfl (rest := [.int (zi 0), .ref o]) rfl (Nat.le_of_ble_eq_true rfl) ⟨by decide, by decide⟩ ⟨by decide, by decide⟩ dL_dueSite_4 h (fun v S1 im1 h => ?_) (fun E S1 im1 h => ?_)
  · obtain ⟨r, rfl, cr, rfl, h⟩ := h
    refine p_i2l dL_dueSite_7 (nf_r cr) ?_
    refine p_last G ho (nf_k (by decide)) (by decide) (by rw [hl]; decide) (nfl_r (zcl_zc cr)) dL_dueSite_8 ?_
    refine p_goto (tgt := 15) dL_dueSite_9 (by decide) ?_
    refine p_iconst dL_dueSite_15 ?_
    exact p_iretW (by decide) (by decide) rfl (nf_k (by decide)) dL_dueSite_16 h
  · obtain ⟨rfl, h⟩ := h
    refine p_catch G (pre := []) (x := (0, 9, 12, 24)) (suf := []) rfl (fun _ h => nomatch h) (by decide) (by decide) q_3_163 q_3_175 (fun q => ?_)
    refine p_astore_n (lv' := [(3, .ref q), (0, .ref a), (1, .int (zi p1)), (2, .ref o)]) dL_dueSite_12 rfl (by decide) rfl ?_
    refine p_iconst dL_dueSite_13 ?_
    exact p_iretW (by decide) (by decide) rfl (nf_k (by decide)) dL_dueSite_14 h
set_option maxRecDepth 20000 in
set_option maxHeartbeats 4000000 in
theorem v_L_dueOwner {g : zG} (G : zOK g) {S : zSh} {im : zIm} {a o : Nat} {p1 : Int} {Q : Int → zSh → zIm → Prop} (hk : zkd S a = 7) (ho : zkd S o = 12) (hl : zln S o = 1) (c_p1 : zc p1)
    (h : zCIx g yX7_dueOwner M_X7_dueOwner [.ref a, .int (zi p1)] S im (fun r im1 => Q 0 S (zst im1 o 0 r)) (fun E S1 im1 => (E = "java/lang/IndexOutOfBoundsException" ∧ Q 1 S1 im1))) :
    zCW g yL_dueOwner M_L_dueOwner [(0, 9, 12, 24)] [.ref a, .int (zi p1), .ref o] S im (zQW Q) zX0 := by
  refine zCW_of (by decide) rfl rfl rfl rfl (Nat.le_of_ble_eq_true rfl) ?_
  refine p_aload_n dL_dueOwner_0 rfl (q := 2) rfl ?_
  refine p_iconst dL_dueOwner_1 ?_
  refine p_aload_n dL_dueOwner_2 rfl (q := 0) rfl ?_
  refine p_iload_n dL_dueOwner_3 rfl (q := 1) rfl ?_
  refine p_V G k_RL_94 (by decide) hk rfl (rest := [.int (zi 0), .ref o]) rfl (Nat.le_of_ble_eq_true rfl) ⟨by decide, by decide⟩ ⟨by decide, by decide⟩ dL_dueOwner_4 h (fun v S1 im1 h => ?_) (fun E S1 im1 h => ?_)
  · obtain ⟨r, rfl, cr, rfl, h⟩ := h
    refine p_i2l dL_dueOwner_7 (nf_r cr) ?_
    refine p_last G ho (nf_k (by decide)) (by decide) (by rw [hl]; decide) (nfl_r (zcl_zc cr)) dL_dueOwner_8 ?_
    refine p_goto (tgt := 15) dL_dueOwner_9 (by decide) ?_
    refine p_iconst dL_dueOwner_15 ?_
    exact p_iretW (by decide) (by decide) rfl (nf_k (by decide)) dL_dueOwner_16 h
  · obtain ⟨rfl, h⟩ := h
    refine p_catch G (pre := []) (x := (0, 9, 12, 24)) (suf := []) rfl (fun _ h => nomatch h) (by decide) (by decide) q_3_163 q_3_175 (fun q => ?_)
    refine p_astore_n (lv' := [(3, .ref q), (0, .ref a), (1, .int (zi p1)), (2, .ref o)]) dL_dueOwner_12 rfl (by decide) rfl ?_
    refine p_iconst dL_dueOwner_13 ?_
    exact p_iretW (by decide) (by decide) rfl (nf_k (by decide)) dL_dueOwner_14 h
set_option maxRecDepth 20000 in
set_option maxHeartbeats 4000000 in
theorem v_L_demands {g : zG} (G : zOK g) {S : zSh} {im : zIm} {a o : Nat} {p1 : Int} {p2 : Int} {Q : Int → zSh → zIm → Prop} (hk : zkd S a = 7) (ho : zkd S o = 12) (hl : zln S o = 1) (c_p1 : zc p1) (c_p2 : zc p2)
    (h : zCIx g yX7_demands M_X7_demands [.ref a, .int (zi p1), .int (zi p2)] S im (fun r im1 => Q 0 S (zst im1 o 0 r)) (fun E S1 im1 => (E = "java/lang/IndexOutOfBoundsException" ∧ Q 1 S1 im1))) :
    zCW g yL_demands M_L_demands [(0, 10, 13, 24)] [.ref a, .int (zi p1), .int (zi p2), .ref o] S im (zQW Q) zX0 := by
  refine zCW_of (by decide) rfl rfl rfl rfl (Nat.le_of_ble_eq_true rfl) ?_
  refine p_aload_n dL_demands_0 rfl (q := 3) rfl ?_
  refine p_iconst dL_demands_1 ?_
  refine p_aload_n dL_demands_2 rfl (q := 0) rfl ?_
  refine p_iload_n dL_demands_3 rfl (q := 1) rfl ?_
  refine p_iload_n dL_demands_4 rfl (q := 2) rfl ?_
  refine p_V G k_RL_97 (by decide) hk rfl (rest := [.int (zi 0), .ref o]) rfl (Nat.le_of_ble_eq_true rfl) ⟨by decide, by decide⟩ ⟨by decide, by decide⟩ dL_demands_5 h (fun v S1 im1 h => ?_) (fun E S1 im1 h => ?_)
  · obtain ⟨r, rfl, cr, rfl, h⟩ := h
    refine p_i2l dL_demands_8 (nf_r cr) ?_
    refine p_last G ho (nf_k (by decide)) (by decide) (by rw [hl]; decide) (nfl_r (zcl_zc cr)) dL_demands_9 ?_
    refine p_goto (tgt := 17) dL_demands_10 (by decide) ?_
    refine p_iconst dL_demands_17 ?_
    exact p_iretW (by decide) (by decide) rfl (nf_k (by decide)) dL_demands_18 h
  · obtain ⟨rfl, h⟩ := h
    refine p_catch G (pre := []) (x := (0, 10, 13, 24)) (suf := []) rfl (fun _ h => nomatch h) (by decide) (by decide) q_3_163 q_3_175 (fun q => ?_)
    refine p_astore (lv' := [(4, .ref q), (0, .ref a), (1, .int (zi p1)), (2, .int (zi p2)), (3, .ref o)]) dL_demands_13 (by decide) rfl ?_
    refine p_iconst dL_demands_15 ?_
    exact p_iretW (by decide) (by decide) rfl (nf_k (by decide)) dL_demands_16 h
set_option maxRecDepth 20000 in
set_option maxHeartbeats 4000000 in
theorem v_L_fillNumerator {g : zG} (G : zOK g) {S : zSh} {im : zIm} {a o : Nat} {p1 : Int} {p2 : Int} {Q : Int → zSh → zIm → Prop} (hk : zkd S a = 7) (ho : zkd S o = 12) (hl : zln S o = 1) (c_p1 : zc p1) (c_p2 : zc p2)
    (h : zCIx g yX7_fillNumerator M_X7_fillNumerator [.ref a, .int (zi p1), .int (zi p2)] S im (fun r im1 => Q 0 S (zst im1 o 0 r)) (fun E S1 im1 => (E = "java/lang/IndexOutOfBoundsException" ∧ Q 1 S1 im1))) :
    zCW g yL_fillNumerator M_L_fillNumerator [(0, 10, 13, 24)] [.ref a, .int (zi p1), .int (zi p2), .ref o] S im (zQW Q) zX0 := by
  refine zCW_of (by decide) rfl rfl rfl rfl (Nat.le_of_ble_eq_true rfl) ?_
  refine p_aload_n dL_fillNumerator_0 rfl (q := 3) rfl ?_
  refine p_iconst dL_fillNumerator_1 ?_
  refine p_aload_n dL_fillNumerator_2 rfl (q := 0) rfl ?_
  refine p_iload_n dL_fillNumerator_3 rfl (q := 1) rfl ?_
  refine p_iload_n dL_fillNumerator_4 rfl (q := 2) rfl ?_
  refine p_V G k_RL_100 (by decide) hk rfl (rest := [.int (zi 0), .ref o]) rfl (Nat.le_of_ble_eq_true rfl) ⟨by decide, by decide⟩ ⟨by decide, by decide⟩ dL_fillNumerator_5 h (fun v S1 im1 h => ?_) (fun E S1 im1 h => ?_)
  · obtain ⟨r, rfl, cr, rfl, h⟩ := h
    refine p_i2l dL_fillNumerator_8 (nf_r cr) ?_
    refine p_last G ho (nf_k (by decide)) (by decide) (by rw [hl]; decide) (nfl_r (zcl_zc cr)) dL_fillNumerator_9 ?_
    refine p_goto (tgt := 17) dL_fillNumerator_10 (by decide) ?_
    refine p_iconst dL_fillNumerator_17 ?_
    exact p_iretW (by decide) (by decide) rfl (nf_k (by decide)) dL_fillNumerator_18 h
  · obtain ⟨rfl, h⟩ := h
    refine p_catch G (pre := []) (x := (0, 10, 13, 24)) (suf := []) rfl (fun _ h => nomatch h) (by decide) (by decide) q_3_163 q_3_175 (fun q => ?_)
    refine p_astore (lv' := [(4, .ref q), (0, .ref a), (1, .int (zi p1)), (2, .int (zi p2)), (3, .ref o)]) dL_fillNumerator_13 (by decide) rfl ?_
    refine p_iconst dL_fillNumerator_15 ?_
    exact p_iretW (by decide) (by decide) rfl (nf_k (by decide)) dL_fillNumerator_16 h
set_option maxRecDepth 20000 in
set_option maxHeartbeats 4000000 in
theorem v_L_fillDenominator {g : zG} (G : zOK g) {S : zSh} {im : zIm} {a o : Nat} {p1 : Int} {p2 : Int} {Q : Int → zSh → zIm → Prop} (hk : zkd S a = 7) (ho : zkd S o = 12) (hl : zln S o = 1) (c_p1 : zc p1) (c_p2 : zc p2)
    (h : zCIx g yX7_fillDenominator M_X7_fillDenominator [.ref a, .int (zi p1), .int (zi p2)] S im (fun r im1 => Q 0 S (zst im1 o 0 r)) (fun E S1 im1 => (E = "java/lang/IndexOutOfBoundsException" ∧ Q 1 S1 im1))) :
    zCW g yL_fillDenominator M_L_fillDenominator [(0, 10, 13, 24)] [.ref a, .int (zi p1), .int (zi p2), .ref o] S im (zQW Q) zX0 := by
  refine zCW_of (by decide) rfl rfl rfl rfl (Nat.le_of_ble_eq_true rfl) ?_
  refine p_aload_n dL_fillDenominator_0 rfl (q := 3) rfl ?_
  refine p_iconst dL_fillDenominator_1 ?_
  refine p_aload_n dL_fillDenominator_2 rfl (q := 0) rfl ?_
  refine p_iload_n dL_fillDenominator_3 rfl (q := 1) rfl ?_
  refine p_iload_n dL_fillDenominator_4 rfl (q := 2) rfl ?_
  refine p_V G k_RL_103 (by decide) hk rfl (rest := [.int (zi 0), .ref o]) rfl (Nat.le_of_ble_eq_true rfl) ⟨by decide, by decide⟩ ⟨by decide, by decide⟩ dL_fillDenominator_5 h (fun v S1 im1 h => ?_) (fun E S1 im1 h => ?_)
  · obtain ⟨r, rfl, cr, rfl, h⟩ := h
    refine p_i2l dL_fillDenominator_8 (nf_r cr) ?_
    refine p_last G ho (nf_k (by decide)) (by decide) (by rw [hl]; decide) (nfl_r (zcl_zc cr)) dL_fillDenominator_9 ?_
    refine p_goto (tgt := 17) dL_fillDenominator_10 (by decide) ?_
    refine p_iconst dL_fillDenominator_17 ?_
    exact p_iretW (by decide) (by decide) rfl (nf_k (by decide)) dL_fillDenominator_18 h
  · obtain ⟨rfl, h⟩ := h
    refine p_catch G (pre := []) (x := (0, 10, 13, 24)) (suf := []) rfl (fun _ h => nomatch h) (by decide) (by decide) q_3_163 q_3_175 (fun q => ?_)
    refine p_astore (lv' := [(4, .ref q), (0, .ref a), (1, .int (zi p1)), (2, .int (zi p2)), (3, .ref o)]) dL_fillDenominator_13 (by decide) rfl ?_
    refine p_iconst dL_fillDenominator_15 ?_
    exact p_iretW (by decide) (by decide) rfl (nf_k (by decide)) dL_fillDenominator_16 h
set_option maxRecDepth 20000 in
set_option maxHeartbeats 4000000 in
theorem v_L_delays {g : zG} (G : zOK g) {S : zSh} {im : zIm} {a o : Nat} {p1 : Int} {p2 : Int} {Q : Int → zSh → zIm → Prop} (hk : zkd S a = 7) (ho : zkd S o = 12) (hl : zln S o = 1) (c_p1 : zc p1) (c_p2 : zc p2)
    (h : zCIx g yX7_delays M_X7_delays [.ref a, .int (zi p1), .int (zi p2)] S im (fun r im1 => Q 0 S (zst im1 o 0 r)) (fun E S1 im1 => (E = "java/lang/IndexOutOfBoundsException" ∧ Q 1 S1 im1))) :
    zCW g yL_delays M_L_delays [(0, 10, 13, 24)] [.ref a, .int (zi p1), .int (zi p2), .ref o] S im (zQW Q) zX0 := by
  refine zCW_of (by decide) rfl rfl rfl rfl (Nat.le_of_ble_eq_true rfl) ?_
  refine p_aload_n dL_delays_0 rfl (q := 3) rfl ?_
  refine p_iconst dL_delays_1 ?_
  refine p_aload_n dL_delays_2 rfl (q := 0) rfl ?_
  refine p_iload_n dL_delays_3 rfl (q := 1) rfl ?_
  refine p_iload_n dL_delays_4 rfl (q := 2) rfl ?_
  refine p_V G k_RL_106 (by decide) hk rfl (rest := [.int (zi 0), .ref o]) rfl (Nat.le_of_ble_eq_true rfl) ⟨by decide, by decide⟩ ⟨by decide, by decide⟩ dL_delays_5 h (fun v S1 im1 h => ?_) (fun E S1 im1 h => ?_)
  · obtain ⟨r, rfl, cr, rfl, h⟩ := h
    refine p_i2l dL_delays_8 (nf_r cr) ?_
    refine p_last G ho (nf_k (by decide)) (by decide) (by rw [hl]; decide) (nfl_r (zcl_zc cr)) dL_delays_9 ?_
    refine p_goto (tgt := 17) dL_delays_10 (by decide) ?_
    refine p_iconst dL_delays_17 ?_
    exact p_iretW (by decide) (by decide) rfl (nf_k (by decide)) dL_delays_18 h
  · obtain ⟨rfl, h⟩ := h
    refine p_catch G (pre := []) (x := (0, 10, 13, 24)) (suf := []) rfl (fun _ h => nomatch h) (by decide) (by decide) q_3_163 q_3_175 (fun q => ?_)
    refine p_astore (lv' := [(4, .ref q), (0, .ref a), (1, .int (zi p1)), (2, .int (zi p2)), (3, .ref o)]) dL_delays_13 (by decide) rfl ?_
    refine p_iconst dL_delays_15 ?_
    exact p_iretW (by decide) (by decide) rfl (nf_k (by decide)) dL_delays_16 h
set_option maxRecDepth 20000 in
set_option maxHeartbeats 4000000 in
theorem v_L_backorderDays {g : zG} (G : zOK g) {S : zSh} {im : zIm} {a o : Nat} {p1 : Int} {p2 : Int} {Q : Int → zSh → zIm → Prop} (hk : zkd S a = 7) (ho : zkd S o = 12) (hl : zln S o = 1) (c_p1 : zc p1) (c_p2 : zc p2)
    (h : zCIx g yX7_backorderDays M_X7_backorderDays [.ref a, .int (zi p1), .int (zi p2)] S im (fun r im1 => Q 0 S (zst im1 o 0 r)) (fun E S1 im1 => (E = "java/lang/IndexOutOfBoundsException" ∧ Q 1 S1 im1))) :
    zCW g yL_backorderDays M_L_backorderDays [(0, 10, 13, 24)] [.ref a, .int (zi p1), .int (zi p2), .ref o] S im (zQW Q) zX0 := by
  refine zCW_of (by decide) rfl rfl rfl rfl (Nat.le_of_ble_eq_true rfl) ?_
  refine p_aload_n dL_backorderDays_0 rfl (q := 3) rfl ?_
  refine p_iconst dL_backorderDays_1 ?_
  refine p_aload_n dL_backorderDays_2 rfl (q := 0) rfl ?_
  refine p_iload_n dL_backorderDays_3 rfl (q := 1) rfl ?_
  refine p_iload_n dL_backorderDays_4 rfl (q := 2) rfl ?_
  refine p_V G k_RL_109 (by decide) hk rfl (rest := [.int (zi 0), .ref o]) rfl (Nat.le_of_ble_eq_true rfl) ⟨by decide, by decide⟩ ⟨by decide, by decide⟩ dL_backorderDays_5 h (fun v S1 im1 h => ?_) (fun E S1 im1 h => ?_)
  · obtain ⟨r, rfl, cr, rfl, h⟩ := h
    refine p_i2l dL_backorderDays_8 (nf_r cr) ?_
    refine p_last G ho (nf_k (by decide)) (by decide) (by rw [hl]; decide) (nfl_r (zcl_zc cr)) dL_backorderDays_9 ?_
    refine p_goto (tgt := 17) dL_backorderDays_10 (by decide) ?_
    refine p_iconst dL_backorderDays_17 ?_
    exact p_iretW (by decide) (by decide) rfl (nf_k (by decide)) dL_backorderDays_18 h
  · obtain ⟨rfl, h⟩ := h
    refine p_catch G (pre := []) (x := (0, 10, 13, 24)) (suf := []) rfl (fun _ h => nomatch h) (by decide) (by decide) q_3_163 q_3_175 (fun q => ?_)
    refine p_astore (lv' := [(4, .ref q), (0, .ref a), (1, .int (zi p1)), (2, .int (zi p2)), (3, .ref o)]) dL_backorderDays_13 (by decide) rfl ?_
    refine p_iconst dL_backorderDays_15 ?_
    exact p_iretW (by decide) (by decide) rfl (nf_k (by decide)) dL_backorderDays_16 h
set_option maxRecDepth 20000 in
set_option maxHeartbeats 4000000 in
theorem v_L_helped {g : zG} (G : zOK g) {S : zSh} {im : zIm} {a o : Nat} {p1 : Int} {p2 : Int} {Q : Int → zSh → zIm → Prop} (hk : zkd S a = 7) (ho : zkd S o = 12) (hl : zln S o = 1) (c_p1 : zc p1) (c_p2 : zc p2)
    (h : zCIx g yX7_helped M_X7_helped [.ref a, .int (zi p1), .int (zi p2)] S im (fun r im1 => Q 0 S (zst im1 o 0 r)) (fun E S1 im1 => (E = "java/lang/IndexOutOfBoundsException" ∧ Q 1 S1 im1))) :
    zCW g yL_helped M_L_helped [(0, 10, 13, 24)] [.ref a, .int (zi p1), .int (zi p2), .ref o] S im (zQW Q) zX0 := by
  refine zCW_of (by decide) rfl rfl rfl rfl (Nat.le_of_ble_eq_true rfl) ?_
  refine p_aload_n dL_helped_0 rfl (q := 3) rfl ?_
  refine p_iconst dL_helped_1 ?_
  refine p_aload_n dL_helped_2 rfl (q := 0) rfl ?_
  refine p_iload_n dL_helped_3 rfl (q := 1) rfl ?_
  refine p_iload_n dL_helped_4 rfl (q := 2) rfl ?_
  refine p_V G k_RL_112 (by decide) hk rfl (rest := [.int (zi 0), .ref o]) rfl (Nat.le_of_ble_eq_true rfl) ⟨by decide, by decide⟩ ⟨by decide, by decide⟩ dL_helped_5 h (fun v S1 im1 h => ?_) (fun E S1 im1 h => ?_)
  · obtain ⟨r, rfl, cr, rfl, h⟩ := h
    refine p_i2l dL_helped_8 (nf_r cr) ?_
    refine p_last G ho (nf_k (by decide)) (by decide) (by rw [hl]; decide) (nfl_r (zcl_zc cr)) dL_helped_9 ?_
    refine p_goto (tgt := 17) dL_helped_10 (by decide) ?_
    refine p_iconst dL_helped_17 ?_
    exact p_iretW (by decide) (by decide) rfl (nf_k (by decide)) dL_helped_18 h
  · obtain ⟨rfl, h⟩ := h
    refine p_catch G (pre := []) (x := (0, 10, 13, 24)) (suf := []) rfl (fun _ h => nomatch h) (by decide) (by decide) q_3_163 q_3_175 (fun q => ?_)
    refine p_astore (lv' := [(4, .ref q), (0, .ref a), (1, .int (zi p1)), (2, .int (zi p2)), (3, .ref o)]) dL_helped_13 (by decide) rfl ?_
    refine p_iconst dL_helped_15 ?_
    exact p_iretW (by decide) (by decide) rfl (nf_k (by decide)) dL_helped_16 h
set_option maxRecDepth 20000 in
set_option maxHeartbeats 4000000 in
theorem v_L_bestSite {g : zG} (G : zOK g) {S : zSh} {im : zIm} {a o : Nat} {p1 : Int} {p2 : Int} {p3 : Int} {Q : Int → zSh → zIm → Prop} (hk : zkd S a = 7) (ho : zkd S o = 12) (hl : zln S o = 1) (c_p1 : zc p1) (c_p2 : zc p2) (c_p3 : zc p3)
    (h : zCIx g yX7_bestSite M_X7_bestSite [.ref a, .int (zi p1), .int (zi p2), .int (zi p3)] S im (fun r im1 => Q 0 S (zst im1 o 0 r)) (fun E S1 im1 => (E = "java/lang/IndexOutOfBoundsException" ∧ Q 1 S1 im1) ∨ (E = "java/lang/IllegalArgumentException" ∧ Q 2 S1 im1) ∨ (E = "java/lang/IllegalStateException" ∧ Q 3 S1 im1))) :
    zCW g yL_bestSite M_L_bestSite [(0, 12, 15, 24), (0, 12, 19, 13), (0, 12, 23, 15)] [.ref a, .int (zi p1), .int (zi p2), .int (zi p3), .ref o] S im (zQW Q) zX0 := by
  refine zCW_of (by decide) rfl rfl rfl rfl (Nat.le_of_ble_eq_true rfl) ?_
  refine p_aload dL_bestSite_0 (q := 4) rfl ?_
  refine p_iconst dL_bestSite_2 ?_
  refine p_aload_n dL_bestSite_3 rfl (q := 0) rfl ?_
  refine p_iload_n dL_bestSite_4 rfl (q := 1) rfl ?_
  refine p_iload_n dL_bestSite_5 rfl (q := 2) rfl ?_
  refine p_iload_n dL_bestSite_6 rfl (q := 3) rfl ?_
  refine p_V G k_RL_115 (by decide) hk rfl (rest := [.int (zi 0), .ref o]) rfl (Nat.le_of_ble_eq_true rfl) ⟨by decide, by decide⟩ ⟨by decide, by decide⟩ dL_bestSite_7 h (fun v S1 im1 h => ?_) (fun E S1 im1 h => ?_)
  · obtain ⟨r, rfl, cr, rfl, h⟩ := h
    refine p_i2l dL_bestSite_10 (nf_r cr) ?_
    refine p_last G ho (nf_k (by decide)) (by decide) (by rw [hl]; decide) (nfl_r (zcl_zc cr)) dL_bestSite_11 ?_
    refine p_goto (tgt := 27) dL_bestSite_12 (by decide) ?_
    refine p_iconst dL_bestSite_27 ?_
    exact p_iretW (by decide) (by decide) rfl (nf_k (by decide)) dL_bestSite_28 h
  · rcases h with ⟨rfl, h⟩ | ⟨rfl, h⟩ | ⟨rfl, h⟩
    · refine p_catch G (pre := []) (x := (0, 12, 15, 24)) (suf := [(0, 12, 19, 13), (0, 12, 23, 15)]) rfl (fun _ h => nomatch h) (by decide) (by decide) q_3_163 q_3_175 (fun q => ?_)
      refine p_astore (lv' := [(5, .ref q), (0, .ref a), (1, .int (zi p1)), (2, .int (zi p2)), (3, .int (zi p3)), (4, .ref o)]) dL_bestSite_15 (by decide) rfl ?_
      refine p_iconst dL_bestSite_17 ?_
      exact p_iretW (by decide) (by decide) rfl (nf_k (by decide)) dL_bestSite_18 h
    · refine p_catch G (pre := [(0, 12, 15, 24)]) (x := (0, 12, 19, 13)) (suf := [(0, 12, 23, 15)]) rfl (List.forall_mem_cons.mpr ⟨⟨by decide, _, q_3_163, G.2.2.2.2.2.2.2.1.2.1⟩, fun _ h => nomatch h⟩) (by decide) (by decide) q_3_57 q_3_69 (fun q => ?_)
      refine p_astore (lv' := [(5, .ref q), (0, .ref a), (1, .int (zi p1)), (2, .int (zi p2)), (3, .int (zi p3)), (4, .ref o)]) dL_bestSite_19 (by decide) rfl ?_
      refine p_iconst dL_bestSite_21 ?_
      exact p_iretW (by decide) (by decide) rfl (nf_k (by decide)) dL_bestSite_22 h
    · refine p_catch G (pre := [(0, 12, 15, 24), (0, 12, 19, 13)]) (x := (0, 12, 23, 15)) (suf := []) rfl (List.forall_mem_cons.mpr ⟨⟨by decide, _, q_3_163, G.2.2.2.2.2.2.2.1.2.2⟩, List.forall_mem_cons.mpr ⟨⟨by decide, _, q_3_57, G.2.2.2.2.2.2.2.1.1⟩, fun _ h => nomatch h⟩⟩) (by decide) (by decide) q_3_58 q_3_136 (fun q => ?_)
      refine p_astore (lv' := [(5, .ref q), (0, .ref a), (1, .int (zi p1)), (2, .int (zi p2)), (3, .int (zi p3)), (4, .ref o)]) dL_bestSite_23 (by decide) rfl ?_
      refine p_iconst dL_bestSite_25 ?_
      exact p_iretW (by decide) (by decide) rfl (nf_k (by decide)) dL_bestSite_26 h
set_option maxRecDepth 20000 in
set_option maxHeartbeats 4000000 in
theorem v_L_appendText {g : zG} (G : zOK g) {S : zSh} {im : zIm} {a o : Nat} {p1 : Int} {Q : Int → zSh → zIm → Prop} (hk : zkd S a = 7) (ho : zkd S o = 12) (hl : zln S o = 1) (c_p1 : zc p1)
    (h : zCIx g yX7_appendText M_X7_appendText [.ref a, .int (zi p1)] S im (fun r im1 => Q 0 S (zst im1 o 0 r)) (fun E S1 im1 => (E = "java/lang/IllegalStateException" ∧ Q 1 S1 im1))) :
    zCW g yL_appendText M_L_appendText [(0, 9, 12, 15)] [.ref a, .int (zi p1), .ref o] S im (zQW Q) zX0 := by
  refine zCW_of (by decide) rfl rfl rfl rfl (Nat.le_of_ble_eq_true rfl) ?_
  refine p_aload_n dL_appendText_0 rfl (q := 2) rfl ?_
  refine p_iconst dL_appendText_1 ?_
  refine p_aload_n dL_appendText_2 rfl (q := 0) rfl ?_
  refine p_iload_n dL_appendText_3 rfl (q := 1) rfl ?_
  refine p_V G k_RL_118 (by decide) hk rfl (rest := [.int (zi 0), .ref o]) rfl (Nat.le_of_ble_eq_true rfl) ⟨by decide, by decide⟩ ⟨by decide, by decide⟩ dL_appendText_4 h (fun v S1 im1 h => ?_) (fun E S1 im1 h => ?_)
  · obtain ⟨r, rfl, cr, rfl, h⟩ := h
    refine p_i2l dL_appendText_7 (nf_r cr) ?_
    refine p_last G ho (nf_k (by decide)) (by decide) (by rw [hl]; decide) (nfl_r (zcl_zc cr)) dL_appendText_8 ?_
    refine p_goto (tgt := 15) dL_appendText_9 (by decide) ?_
    refine p_iconst dL_appendText_15 ?_
    exact p_iretW (by decide) (by decide) rfl (nf_k (by decide)) dL_appendText_16 h
  · obtain ⟨rfl, h⟩ := h
    refine p_catch G (pre := []) (x := (0, 9, 12, 15)) (suf := []) rfl (fun _ h => nomatch h) (by decide) (by decide) q_3_58 q_3_136 (fun q => ?_)
    refine p_astore_n (lv' := [(3, .ref q), (0, .ref a), (1, .int (zi p1)), (2, .ref o)]) dL_appendText_12 rfl (by decide) rfl ?_
    refine p_iconst dL_appendText_13 ?_
    exact p_iretW (by decide) (by decide) rfl (nf_k (by decide)) dL_appendText_14 h
set_option maxRecDepth 20000 in
set_option maxHeartbeats 4000000 in
theorem v_L_truncateText {g : zG} (G : zOK g) {S : zSh} {im : zIm} {a o : Nat} {p1 : Int} {Q : Int → zSh → zIm → Prop} (hk : zkd S a = 7) (ho : zkd S o = 12) (hl : zln S o = 1) (c_p1 : zc p1)
    (h : zCIx g yX7_truncateText M_X7_truncateText [.ref a, .int (zi p1)] S im (fun r im1 => Q 0 S (zst im1 o 0 r)) (fun E S1 im1 => (E = "java/lang/IllegalArgumentException" ∧ Q 1 S1 im1))) :
    zCW g yL_truncateText M_L_truncateText [(0, 9, 12, 13)] [.ref a, .int (zi p1), .ref o] S im (zQW Q) zX0 := by
  refine zCW_of (by decide) rfl rfl rfl rfl (Nat.le_of_ble_eq_true rfl) ?_
  refine p_aload_n dL_truncateText_0 rfl (q := 2) rfl ?_
  refine p_iconst dL_truncateText_1 ?_
  refine p_aload_n dL_truncateText_2 rfl (q := 0) rfl ?_
  refine p_iload_n dL_truncateText_3 rfl (q := 1) rfl ?_
  refine p_V G k_RL_121 (by decide) hk rfl (rest := [.int (zi 0), .ref o]) rfl (Nat.le_of_ble_eq_true rfl) ⟨by decide, by decide⟩ ⟨by decide, by decide⟩ dL_truncateText_4 h (fun v S1 im1 h => ?_) (fun E S1 im1 h => ?_)
  · obtain ⟨r, rfl, cr, rfl, h⟩ := h
    refine p_i2l dL_truncateText_7 (nf_r cr) ?_
    refine p_last G ho (nf_k (by decide)) (by decide) (by rw [hl]; decide) (nfl_r (zcl_zc cr)) dL_truncateText_8 ?_
    refine p_goto (tgt := 15) dL_truncateText_9 (by decide) ?_
    refine p_iconst dL_truncateText_15 ?_
    exact p_iretW (by decide) (by decide) rfl (nf_k (by decide)) dL_truncateText_16 h
  · obtain ⟨rfl, h⟩ := h
    refine p_catch G (pre := []) (x := (0, 9, 12, 13)) (suf := []) rfl (fun _ h => nomatch h) (by decide) (by decide) q_3_57 q_3_69 (fun q => ?_)
    refine p_astore_n (lv' := [(3, .ref q), (0, .ref a), (1, .int (zi p1)), (2, .ref o)]) dL_truncateText_12 rfl (by decide) rfl ?_
    refine p_iconst dL_truncateText_13 ?_
    exact p_iretW (by decide) (by decide) rfl (nf_k (by decide)) dL_truncateText_14 h
set_option maxRecDepth 20000 in
set_option maxHeartbeats 4000000 in
theorem v_L_save {g : zG} (G : zOK g) {S : zSh} {im : zIm} {a : Nat} {p1 : Int} {Q : Int → zSh → zIm → Prop} (hk : zkd S a = 7) (c_p1 : zc p1)
    (h : zC g yX7_save M_X7_save [.ref a, .int (zi p1)] S im (fun v S1 im1 => v = none ∧ Q 0 S1 im1) (fun E S1 im1 => (E = "java/lang/IllegalArgumentException" ∧ Q 1 S1 im1))) :
    zCW g yL_save M_L_save [(0, 5, 8, 13)] [.ref a, .int (zi p1)] S im (zQW Q) zX0 := by
  refine zCW_of (by decide) rfl rfl rfl rfl (Nat.le_of_ble_eq_true rfl) ?_
  refine p_aload_n dL_save_0 rfl (q := 0) rfl ?_
  refine p_iload_n dL_save_1 rfl (q := 1) rfl ?_
  refine p_V G k_RL_124 (by decide) hk rfl (rest := []) rfl (Nat.le_of_ble_eq_true rfl) ⟨by decide, by decide⟩ ⟨by decide, by decide⟩ dL_save_2 h (fun v S1 im1 h => ?_) (fun E S1 im1 h => ?_)
  · obtain ⟨rfl, h⟩ := h
    refine p_goto (tgt := 11) dL_save_5 (by decide) ?_
    refine p_iconst dL_save_11 ?_
    exact p_iretW (by decide) (by decide) rfl (nf_k (by decide)) dL_save_12 h
  · obtain ⟨rfl, h⟩ := h
    refine p_catch G (pre := []) (x := (0, 5, 8, 13)) (suf := []) rfl (fun _ h => nomatch h) (by decide) (by decide) q_3_57 q_3_69 (fun q => ?_)
    refine p_astore_n (lv' := [(2, .ref q), (0, .ref a), (1, .int (zi p1))]) dL_save_8 rfl (by decide) rfl ?_
    refine p_iconst dL_save_9 ?_
    exact p_iretW (by decide) (by decide) rfl (nf_k (by decide)) dL_save_10 h
set_option maxRecDepth 20000 in
set_option maxHeartbeats 4000000 in
theorem v_L_restore {g : zG} (G : zOK g) {S : zSh} {im : zIm} {a : Nat} {p1 : Int} {Q : Int → zSh → zIm → Prop} (hk : zkd S a = 7) (c_p1 : zc p1)
    (h : zC g yX7_restore M_X7_restore [.ref a, .int (zi p1)] S im (fun v S1 im1 => v = none ∧ Q 0 S1 im1) (fun E S1 im1 => (E = "java/lang/IllegalArgumentException" ∧ Q 1 S1 im1) ∨ (E = "java/lang/IllegalStateException" ∧ Q 2 S1 im1))) :
    zCW g yL_restore M_L_restore [(0, 5, 8, 13), (0, 5, 11, 15)] [.ref a, .int (zi p1)] S im (zQW Q) zX0 := by
  refine zCW_of (by decide) rfl rfl rfl rfl (Nat.le_of_ble_eq_true rfl) ?_
  refine p_aload_n dL_restore_0 rfl (q := 0) rfl ?_
  refine p_iload_n dL_restore_1 rfl (q := 1) rfl ?_
  refine p_V G k_RL_128 (by decide) hk rfl (rest := []) rfl (Nat.le_of_ble_eq_true rfl) ⟨by decide, by decide⟩ ⟨by decide, by decide⟩ dL_restore_2 h (fun v S1 im1 h => ?_) (fun E S1 im1 h => ?_)
  · obtain ⟨rfl, h⟩ := h
    refine p_goto (tgt := 14) dL_restore_5 (by decide) ?_
    refine p_iconst dL_restore_14 ?_
    exact p_iretW (by decide) (by decide) rfl (nf_k (by decide)) dL_restore_15 h
  · rcases h with ⟨rfl, h⟩ | ⟨rfl, h⟩
    · refine p_catch G (pre := []) (x := (0, 5, 8, 13)) (suf := [(0, 5, 11, 15)]) rfl (fun _ h => nomatch h) (by decide) (by decide) q_3_57 q_3_69 (fun q => ?_)
      refine p_astore_n (lv' := [(2, .ref q), (0, .ref a), (1, .int (zi p1))]) dL_restore_8 rfl (by decide) rfl ?_
      refine p_iconst dL_restore_9 ?_
      exact p_iretW (by decide) (by decide) rfl (nf_k (by decide)) dL_restore_10 h
    · refine p_catch G (pre := [(0, 5, 8, 13)]) (x := (0, 5, 11, 15)) (suf := []) rfl (List.forall_mem_cons.mpr ⟨⟨by decide, _, q_3_57, G.2.2.2.2.2.2.2.1.1⟩, fun _ h => nomatch h⟩) (by decide) (by decide) q_3_58 q_3_136 (fun q => ?_)
      refine p_astore_n (lv' := [(2, .ref q), (0, .ref a), (1, .int (zi p1))]) dL_restore_11 rfl (by decide) rfl ?_
      refine p_iconst dL_restore_12 ?_
      exact p_iretW (by decide) (by decide) rfl (nf_k (by decide)) dL_restore_13 h
