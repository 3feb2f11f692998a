/-! Strings that were there before: length, charAt -/
abbrev M_J0_coder : zM := (RJ0, cJ0_coder_7d493, 1, some .byte, { frames := 0, cells := 0, slots := 0, locals := 0 }, some [], "coder")
abbrev M_J0_isLatin1 : zM := (RJ0, cJ0_isLatin1_aae02, 1, some .boolean, { frames := 0, cells := 0, slots := 0, locals := 0 }, some [], "isLatin1")
abbrev M_J0_length : zM := (RJ0, cJ0_length_8abf5, 1, some .int, { frames := 1, cells := 0, slots := 0, locals := 20 }, some [], "length")
abbrev M_J3_checkIndex : zM := (RJ3, cJ3_checkIndex_8e157, 3, some .int, { frames := 0, cells := 0, slots := 0, locals := 0 }, some [], "checkIndex")
abbrev M_J0_checkIndex : zM := (RJ0, cJ0_checkIndex_df160, 2, none, { frames := 1, cells := 0, slots := 0, locals := 22 }, some [], "checkIndex")
abbrev M_J1_charAt : zM := (RJ1, cJ1_charAt_3b067, 2, some .char, { frames := 2, cells := 0, slots := 0, locals := 43 }, some [], "charAt")
abbrev M_J0_charAt : zM := (RJ0, cJ0_charAt_5068e, 2, some .char, { frames := 3, cells := 0, slots := 0, locals := 64 }, some [], "charAt")
section ZS
variable {g : zG} {M : zM} {k n pc : Nat} {lv lv' : List (Nat × Value)} {st : List Value} {S : zSh} {im : zIm} {Z : zEnd} {Q : Option Value → zSh → zIm → Prop} {X : String → zSh → zIm → Prop}
theorem p_breturn {x x' : Int} {ty : FieldType} (hk : k ≤ (zrm M).cells) (hn : n ≤ (zrm M).slots) (hr : zret M = some ty) (hx : nf x x') (h01 : narrow ty (.int (zi x')) = .int (zi x')) (hd : decode (zcc M) pc = .ok (.ireturn, 1)) (hq : Q (some (.int (zi x'))) S im) : zPz g M k n pc lv [.int (zi x)] S im (zZ g M Q X) := by
  intro p e s m args below meth c H locs ls B R L V
  rw [hx.1]
  exact W.widen hk hn (vx_ret (W.zret B.1 B.2.1 (B.2.2.2.2.2.1.trans hr) h01 (fun t ht hW => ⟨_, S, im, rfl, hq, by rw [ht]; exact R⟩) L hd (hlocks := B.2.2.2.2.2.2.1)))
theorem zkeep {g : zG} {S : zSh} {im : zIm} {H : Heap} (R : zRel g S im H) : ∀ a : Nat, a < g.2.1.heap.size → ¬ (fun q => zbs g ≤ q) a → H[a]? = g.2.1.heap[a]? := fun a _ hn => R.2.2.1 a (Nat.not_le.mp hn)
theorem p_getS {o nm d : String} {idx a : Nat} {v : Value} (G : zOK g) (hE : va_OF o nm d v a (fun q => zbs g ≤ q) g.2.1 g.2.1.heap) (hl : Cond.fieldLink (zown M) idx o nm d ∈ lw_tbl) (hd : decode (zcc M) pc = .ok (.getfield idx, 3)) (kk : zPz g M k n (pc + 3) lv (v :: st) S im Z) : zPz g M k n pc lv (.ref a :: st) S im Z := by
  intro p e s m args below meth c H locs ls B R L V
  obtain ⟨cf, k9, fi, f, cell, h1, h2, h3, h4, h5, h6⟩ := va_OF.moved B.2.2.2.2.1.alike (hE.kept (zkeep R))
  exact W.getf B.1 B.2.1 B.2.2.2.1 (B.ts G hl rfl args) h1 h2 h3 h4 (v := v) h5 rfl rfl hd (kk p e s m args below meth c H locs ls B R L V)
theorem p_gets {o nm d : String} {idx : Nat} {v : Value} (G : zOK g) (hE : va_Z o nm d v (fun q => zbs g ≤ q) g.2.1 g.2.1.heap) (hl : Cond.fieldLink (zown M) idx o nm d ∈ lw_tbl) (hd : decode (zcc M) pc = .ok (.getstatic idx, 3)) (kk : zPz g M k n (pc + 3) lv (v :: st) S im Z) : zPz g M k n pc lv st S im Z := by
  intro p e s m args below meth c H locs ls B R L V
  obtain ⟨cf, kf, fi, f, a, cell, h1, h2, h3, h4, h5, h6, h7, h8⟩ := va_Z.moved B.2.2.2.2.1.alike (hE.kept (zkeep R))
  exact W.gets B.1 B.2.1 B.2.2.2.1 (B.ts G hl rfl args) h1 h2 h3 h4 h5 (fun e => by rw [e] at h6; cases h6) h7 rfl hd (kk p e s m args below meth c H locs ls B R L V)
theorem p_tlen {t N : Nat} {ty : FieldType} {f : Nat → Value} (hT : va_T ty t N f (fun q => zbs g ≤ q) g.2.1 g.2.1.heap) (hN : N < 2147483648) (hd : decode (zcc M) pc = .ok (.arraylength, 1)) (kk : zPz g M k n (pc + 1) lv (.int (zi N) :: st) S im Z) : zPz g M k n pc lv (.ref t :: st) S im Z := by
  intro p e s m args below meth c H locs ls B R L V
  obtain ⟨cell, h1, h2, h3, h4, h5, h6, h7⟩ := va_T.moved B.2.2.2.2.1.alike (hT.kept (zkeep R))
  exact W.alen (n := zi N) B.1 B.2.1 h1 h2 (by rw [h5]; apply Int32.toInt_inj.mp; rw [zi_toInt, zw_of (by omega) (by omega)]; exact Int32.toInt_ofNat_of_lt (by omega)) rfl rfl hd (kk p e s m args below meth c H locs ls B R L V)
theorem p_tb {t N : Nat} {i i' : Int} {f : Nat → Value} (hT : va_T .byte t N f (fun q => zbs g ≤ q) g.2.1 g.2.1.heap) (hN : N < 2147483648) (hi : nf i i') (h0 : 0 ≤ i') (h1 : i' < N) (hd : decode (zcc M) pc = .ok (.baload, 1)) (kk : zPz g M k n (pc + 1) lv (f i'.toNat :: st) S im Z) : zPz g M k n pc lv (.int (zi i) :: .ref t :: st) S im Z := by
  intro p e s m args below meth c H locs ls B R L V
  obtain ⟨cell, q1, q2, q3, q4, q5, q6, q7⟩ := va_T.moved B.2.2.2.2.1.alike (hT.kept (zkeep R))
  rw [hi.1]
  have hz := zi_nat h0 (by omega)
  have hin : ¬ (zi i' < 0 ∨ cell.slots.size ≤ (zi i').toNatClampNeg) := by
    rintro (h | h)
    · exact zi_in h0 h1 hN (Or.inl h)
    · rw [hz] at h; omega
  refine W.bald (v := f i'.toNat) B.1 B.2.1 q1 q2 q3 hin (by rw [hz, q6 _ (by omega)]) rfl rfl hd (kk p e s m args below meth c H locs ls B R L V)
def zKT (own : String) (idx : Nat) (y : MethodName) (M' : zM) (np : Nat) : Prop :=
  Cond.methodLink own idx y ∈ lw_tbl ∧ Cond.instanceMethod y ∈ lw_tbl ∧ Cond.selects "java/lang/String" y y ∈ lw_tbl ∧ Cond.initialized y.cls ∈ lw_tbl ∧ Cond.code y (zcc M') (znL M') (zret M') ∈ lw_tbl ∧
  (y.cls ≠ "java/lang/invoke/MethodHandle" ∧ y.cls ≠ "java/lang/invoke/VarHandle") ∧ (parseMethodDescriptor y.desc).map (fun d => d.parameters.length) = some np
theorem p_VT (G : zOK g) {idx np a : Nat} {bs : List Int} {y : MethodName} {M' : zM} {As rest : List Value} {Q' : Int → zIm → Prop} (hz : zStrAt g a bs) (hK : zKT (zown M) idx y M' np) (hn : As.length = np) (hst : st = As.reverse ++ .ref a :: rest) (hrs : (rest.map fun v => v.category).sum ≤ 8)
    (hR : (zrm M').frames + 1 ≤ (zrm M).frames ∧ 8 + (znL M' + 11) + (zrm M').locals ≤ (zrm M).locals) (hc : k + (zrm M').cells ≤ (zrm M).cells ∧ n + (zrm M').slots ≤ (zrm M).slots) (hd : decode (zcc M) pc = .ok (.invokevirtual idx, 3))
    (hM : zCI g y M' (.ref a :: As) S im Q') (kk : ∀ r im', zc r → Q' r im' → zPz g M (k + (zrm M').cells) (n + (zrm M').slots) (pc + 3) lv (.int (zi r) :: rest) S im' Z) : zPz g M k n pc lv st S im Z := by
  intro p e s m args below meth c H locs ls B R L V
  obtain ⟨h1, h2, h3, h4, h5, h6, h7⟩ := hK
  obtain ⟨t, hO, -⟩ := hz
  obtain ⟨cell, o1, o2, o3, -⟩ := va_O.moved B.2.2.2.2.1.alike (hO.kept (zkeep R))
  exact p_ran (Q' := zQI S Q') (X' := zX0) (fun v S' im' ⟨r, h1, h2, h3, h4⟩ => by subst h1; subst h3; exact kk r im' h2 h4) (fun _ _ _ h => absurd h id) B L V (vx_runV (C := "java/lang/String") (Ts := []) ⟨B.1, B.2.1, B.2.2.1, B.2.2.2.1, fun _ h => nomatch h⟩ hM ⟨⟨rfl, rfl, hR.1, hR.2, zcode G B h5 rfl, List.mem_singleton.mpr rfl, B.ts G h5 rfl args, B.ts G h4 rfl args, h6, znp h7, B.ts G h1 rfl args⟩, B.ts G h2 rfl args, B.ts G h3 rfl args⟩ ⟨zPc_blind g _ S im, ⟨cell, o1, o2, o3⟩, fun U hU hW => ⟨rfl, State.WarmedH.trans B.2.2.2.2.1 hW, by rw [hU]; exact R⟩⟩ rfl hn V.1 hst (zroom hrs) hd hc)
theorem c_coder (G : zOK g) {a : Nat} {bs : List Int} (hz : zStrAt g a bs) : zCI g yJ0_coder_7d493 M_J0_coder [.ref a] S im (fun r im' => r = 0 ∧ im' = im) := by
  obtain ⟨t, hO, hco, hva, hT⟩ := hz
  refine zC_of (by decide) rfl rfl rfl rfl (Nat.le_of_ble_eq_true rfl) ?_
  refine p_gets G G.2.2.2.2.2.2.2.2.1 q_2_157 dJ0_coder_7d493_0 ?_
  refine p_if_eq (a := 1) (tgt := 13) dJ0_coder_7d493_3 (by decide) (nf_k (by decide)) (fun h9 => absurd h9 (by decide)) (fun _ => ?_)
  refine p_aload_n dJ0_coder_7d493_6 rfl (q := 0) rfl ?_
  refine p_getS G hco q_7_202 dJ0_coder_7d493_7 ?_
  refine p_goto (tgt := 14) dJ0_coder_7d493_10 (by decide) ?_
  exact p_breturn (x := 0) (x' := 0) (by decide) (by decide) rfl (nf_k (by decide)) rfl dJ0_coder_7d493_14 ⟨0, rfl, zc_0, rfl, rfl, rfl⟩
theorem c_isLatin1 (G : zOK g) {a : Nat} {bs : List Int} (hz : zStrAt g a bs) : zCI g yJ0_isLatin1_aae02 M_J0_isLatin1 [.ref a] S im (fun r im' => r = 1 ∧ im' = im) := by
  obtain ⟨t, hO, hco, hva, hT⟩ := hz
  refine zC_of (by decide) rfl rfl rfl rfl (Nat.le_of_ble_eq_true rfl) ?_
  refine p_gets G G.2.2.2.2.2.2.2.2.1 q_2_157 dJ0_isLatin1_aae02_0 ?_
  refine p_if_eq (a := 1) (tgt := 17) dJ0_isLatin1_aae02_3 (by decide) (nf_k (by decide)) (fun h9 => absurd h9 (by decide)) (fun _ => ?_)
  refine p_aload_n dJ0_isLatin1_aae02_6 rfl (q := 0) rfl ?_
  refine p_getS G hco q_7_202 dJ0_isLatin1_aae02_7 ?_
  refine p_if_ne (a := 0) (tgt := 17) dJ0_isLatin1_aae02_10 (by decide) (nf_k (by decide)) (fun h9 => absurd rfl h9) (fun _ => ?_)
  refine p_iconst dJ0_isLatin1_aae02_13 ?_
  refine p_goto (tgt := 18) dJ0_isLatin1_aae02_14 (by decide) ?_
  exact p_zretI (by decide) (by decide) rfl (nf_k (by decide)) (by decide) dJ0_isLatin1_aae02_18 ⟨rfl, rfl⟩
theorem k_coder : zKT RJ0 335 yJ0_coder_7d493 M_J0_coder 0 := ⟨q_2_153, by decide +kernel, by decide +kernel, by decide +kernel, by decide +kernel, ⟨by decide +kernel, by decide +kernel⟩, by decide +kernel⟩
theorem k_isLatin1 : zKT RJ0 492 yJ0_isLatin1_aae02 M_J0_isLatin1 0 := ⟨q_2_163, by decide +kernel, by decide +kernel, by decide +kernel, by decide +kernel, ⟨by decide +kernel, by decide +kernel⟩, by decide +kernel⟩
theorem k_lat : zKS RJ0 495 yJ1_charAt_3b067 M_J1_charAt 2 := ⟨q_2_167, by decide +kernel, by decide +kernel, by decide +kernel, ⟨by decide +kernel, by decide +kernel⟩, by decide +kernel⟩
theorem k_chk : zKS RJ1 9 yJ0_checkIndex_df160 M_J0_checkIndex 2 := ⟨q_2_170, by decide +kernel, by decide +kernel, by decide +kernel, ⟨by decide +kernel, by decide +kernel⟩, by decide +kernel⟩
theorem k_pre : zKS RJ0 1059 yJ3_checkIndex_8e157 M_J3_checkIndex 3 := ⟨q_2_175, by decide +kernel, by decide +kernel, by decide +kernel, ⟨by decide +kernel, by decide +kernel⟩, by decide +kernel⟩
theorem zshr_0 {a : Int} (ha : zc a) : zshr a 0 = a := by
  unfold zshr
  have e : zi a >>> (zi 0 &&& 31) = zi a := sb_shr0 _
  rw [e, zi_toInt, ha]
theorem c_length (G : zOK g) {a : Nat} {bs : List Int} (hz : zStrAt g a bs) (hb : bs.length < 2147483648) : zCI g yJ0_length_8abf5 M_J0_length [.ref a] S im (fun r im' => r = bs.length ∧ im' = im) := by
  have hz0 := hz
  obtain ⟨t, hO, hco, hva, hT⟩ := hz
  refine zC_of (by decide) rfl rfl rfl rfl (Nat.le_of_ble_eq_true rfl) ?_
  refine p_aload_n dJ0_length_8abf5_0 rfl (q := 0) rfl ?_
  refine p_getS G hva q_7_201 dJ0_length_8abf5_1 ?_
  refine p_tlen hT hb dJ0_length_8abf5_4 ?_
  refine p_aload_n dJ0_length_8abf5_5 rfl (q := 0) rfl ?_
  refine p_VT G hz0 k_coder rfl rfl (Nat.le_of_ble_eq_true rfl) ⟨by decide, by decide⟩ ⟨by decide, by decide⟩ dJ0_length_8abf5_6 (c_coder G hz0) (fun r im' c h => ?_)
  obtain ⟨rfl, rfl⟩ := h
  refine p_ishr dJ0_length_8abf5_9 ?_
  have hc : zc (bs.length : Int) := zc_of (by omega) (by omega)
  rw [zshr_0 hc]
  exact p_iretI (by decide) (by decide) rfl (nf_r hc) dJ0_length_8abf5_10 ⟨rfl, rfl⟩
theorem c_pre (G : zOK g) {i N : Int} {v : Value} (hi : zc i) (hN : zc N) (h0 : 0 ≤ i) (h1 : i < N) (hv : v = .null ∨ ∃ t, v = .ref t) : zCI g yJ3_checkIndex_8e157 M_J3_checkIndex [.int (zi i), .int (zi N), v] S im (fun r im' => im' = im) := by
  have key : ∀ lv : List (Nat × Value), lv[0]? = some (0, .int (zi i)) → lv[1]? = some (1, .int (zi N)) → zPz g M_J3_checkIndex 0 0 0 lv [] S im (zZ g M_J3_checkIndex (zQI S (fun r im' => im' = im)) zX0) := by
    intro lv e0 e1
    refine p_iload_n dJ3_checkIndex_8e157_0 rfl (q := 0) e0 ?_
    refine p_if_lt (tgt := 9) dJ3_checkIndex_8e157_1 (by decide) (nf_r hi) (fun h9 => absurd h9 (by omega)) (fun _ => ?_)
    refine p_iload_n dJ3_checkIndex_8e157_4 rfl (q := 0) e0 ?_
    refine p_iload_n dJ3_checkIndex_8e157_5 rfl (q := 1) e1 ?_
    refine p_icmp_lt (tgt := 16) dJ3_checkIndex_8e157_6 (by decide) (nf_r hi) (nf_r hN) (fun _ => ?_) (fun h9 => absurd h9 (by omega))
    refine p_iload_n dJ3_checkIndex_8e157_16 rfl (q := 0) e0 ?_
    exact p_iretI (by decide) (by decide) rfl (nf_r hi) dJ3_checkIndex_8e157_17 rfl
  rcases hv with rfl | ⟨t, rfl⟩
  · exact zC_of (by decide) rfl rfl rfl rfl (Nat.le_of_ble_eq_true rfl) (key _ rfl rfl)
  · exact zC_of (by decide) rfl rfl rfl rfl (Nat.le_of_ble_eq_true rfl) (key _ rfl rfl)
theorem c_chk (G : zOK g) {i N : Int} (hi : zc i) (hN : zc N) (h0 : 0 ≤ i) (h1 : i < N) : zCV g yJ0_checkIndex_df160 M_J0_checkIndex [.int (zi i), .int (zi N)] S im (fun im' => im' = im) := by
  refine zC_of (by decide) rfl rfl rfl rfl (Nat.le_of_ble_eq_true rfl) ?_
  refine p_iload_n dJ0_checkIndex_df160_0 rfl (q := 0) rfl ?_
  refine p_iload_n dJ0_checkIndex_df160_1 rfl (q := 1) rfl ?_
  rcases G.2.2.2.2.2.2.2.2.2.1 with hZ | ⟨t, hZ⟩
  · refine p_gets G hZ q_2_173 dJ0_checkIndex_df160_2 ?_
    refine p_SI G k_pre rfl rfl (Nat.le_of_ble_eq_true rfl) ⟨by decide, by decide⟩ ⟨by decide, by decide⟩ dJ0_checkIndex_df160_5 (c_pre G hi hN h0 h1 (Or.inl rfl)) (fun r im' c h => ?_)
    refine p_pop dJ0_checkIndex_df160_8 rfl ?_
    exact p_retV (by decide) (by decide) rfl dJ0_checkIndex_df160_9 h
  · refine p_gets G hZ q_2_173 dJ0_checkIndex_df160_2 ?_
    refine p_SI G k_pre rfl rfl (Nat.le_of_ble_eq_true rfl) ⟨by decide, by decide⟩ ⟨by decide, by decide⟩ dJ0_checkIndex_df160_5 (c_pre G hi hN h0 h1 (Or.inr ⟨t, rfl⟩)) (fun r im' c h => ?_)
    refine p_pop dJ0_checkIndex_df160_8 rfl ?_
    exact p_retV (by decide) (by decide) rfl dJ0_checkIndex_df160_9 h
theorem zi_nI {a : Int} (h : 0 ≤ a) : zi a = nI a.toNat := by
  obtain ⟨m, rfl⟩ := Int.eq_ofNat_of_zero_le h
  rfl
theorem zand_255 {a : Int} (h : 0 ≤ a) (h2 : a < 4294967296) : zand a 255 = a % 256 := by
  unfold zand
  rw [zi_nI h, pk_andN (n := a.toNat) (by omega) 8 (by decide), nI_toInt (by omega)]
  omega
theorem p_i2c {a a' : Int} (ha : nf a a') (h0 : 0 ≤ a') (h1 : a' < 65536) (hd : decode (zcc M) pc = .ok (.i2c, 1)) (kk : zPz g M k n (pc + 1) lv (.int (zi a') :: st) S im Z) : zPz g M k n pc lv (.int (zi a) :: st) S im Z := by
  intro p e s m args below meth c H locs ls B R L V
  refine lv_i2c B.1 B.2.1 hd ?_ (kk p e s m args below meth c H locs ls B R L V)
  rw [ha.1, pk_char, zi_nI h0, pk_tn (by omega)]
  congr 1
  omega
theorem c_lat (G : zOK g) {t : Nat} {bs : List Int} {i : Int} (hT : va_T .byte t bs.length (fun j => .int (zi (bs.getD j 0))) (fun q => zbs g ≤ q) g.2.1 g.2.1.heap) (hb : bs.length < 2147483648) (hi : zc i) (h0 : 0 ≤ i) (h1 : i < bs.length) (ha : ∀ b ∈ bs, 0 ≤ b ∧ b < 128) : zCI g yJ1_charAt_3b067 M_J1_charAt [.ref t, .int (zi i)] S im (fun r im' => r = bs.getD i.toNat 0 ∧ im' = im) := by
  have hc : zc (bs.length : Int) := zc_of (by omega) (by omega)
  have hb9 : 0 ≤ bs.getD i.toNat 0 ∧ bs.getD i.toNat 0 < 128 := by
    have hl : i.toNat < bs.length := by omega
    have e : bs.getD i.toNat 0 = bs[i.toNat] := by simp [List.getD, hl]
    rw [e]
    exact ha _ (List.getElem_mem hl)
  refine zC_of (by decide) rfl rfl rfl rfl (Nat.le_of_ble_eq_true rfl) ?_
  refine p_iload_n dJ1_charAt_3b067_0 rfl (q := 1) rfl ?_
  refine p_aload_n dJ1_charAt_3b067_1 rfl (q := 0) rfl ?_
  refine p_tlen hT hb dJ1_charAt_3b067_2 ?_
  refine p_SV G k_chk rfl rfl (Nat.le_of_ble_eq_true rfl) ⟨by decide, by decide⟩ ⟨by decide, by decide⟩ dJ1_charAt_3b067_3 (c_chk G hi hc h0 h1) (fun im' h => ?_)
  subst h
  refine p_aload_n dJ1_charAt_3b067_6 rfl (q := 0) rfl ?_
  refine p_iload_n dJ1_charAt_3b067_7 rfl (q := 1) rfl ?_
  refine p_tb hT hb (nf_r hi) h0 h1 dJ1_charAt_3b067_8 ?_
  refine p_sipush dJ1_charAt_3b067_9 (by decide) ?_
  refine p_iand dJ1_charAt_3b067_12 ?_
  rw [zand_255 hb9.1 (by omega), Int.emod_eq_of_lt hb9.1 (by omega)]
  have hc9 : zc (bs.getD i.toNat 0) := zc_of (by omega) (by omega)
  refine p_i2c (nf_r hc9) hb9.1 (by omega) dJ1_charAt_3b067_13 ?_
  refine p_breturn (by decide) (by decide) rfl (nf_r hc9) ?_ dJ1_charAt_3b067_14 ⟨_, rfl, hc9, rfl, rfl, rfl⟩
  rw [zi_nI hb9.1]
  exact (pk_charN (by omega)).1
theorem c_charAt (G : zOK g) {a : Nat} {bs : List Int} {i : Int} (hz : zStrAt g a bs) (hb : bs.length < 2147483648) (hi : zc i) (h0 : 0 ≤ i) (h1 : i < bs.length) (ha : ∀ b ∈ bs, 0 ≤ b ∧ b < 128) : zCI g yJ0_charAt_5068e M_J0_charAt [.ref a, .int (zi i)] S im (fun r im' => r = bs.getD i.toNat 0 ∧ im' = im) := by
  have hz0 := hz
  obtain ⟨t, hO, hco, hva, hT⟩ := hz
  have hb9 : 0 ≤ bs.getD i.toNat 0 ∧ bs.getD i.toNat 0 < 128 := by
    have hl : i.toNat < bs.length := by omega
    have e : bs.getD i.toNat 0 = bs[i.toNat] := by simp [List.getD, hl]
    rw [e]
    exact ha _ (List.getElem_mem hl)
  refine zC_of (by decide) rfl rfl rfl rfl (Nat.le_of_ble_eq_true rfl) ?_
  refine p_aload_n dJ0_charAt_5068e_0 rfl (q := 0) rfl ?_
  refine p_VT G hz0 k_isLatin1 rfl rfl (Nat.le_of_ble_eq_true rfl) ⟨by decide, by decide⟩ ⟨by decide, by decide⟩ dJ0_charAt_5068e_1 (c_isLatin1 G hz0) (fun r im' c h => ?_)
  obtain ⟨rfl, rfl⟩ := h
  refine p_if_eq (tgt := 16) dJ0_charAt_5068e_4 (by decide) (nf_k (by decide)) (fun h9 => absurd h9 (by decide)) (fun _ => ?_)
  refine p_aload_n dJ0_charAt_5068e_7 rfl (q := 0) rfl ?_
  refine p_getS G hva q_7_201 dJ0_charAt_5068e_8 ?_
  refine p_iload_n dJ0_charAt_5068e_11 rfl (q := 1) rfl ?_
  refine p_SI G k_lat rfl rfl (Nat.le_of_ble_eq_true rfl) ⟨by decide, by decide⟩ ⟨by decide, by decide⟩ dJ0_charAt_5068e_12 (c_lat G hT hb hi h0 h1 ha) (fun r im' c h => ?_)
  obtain ⟨rfl, rfl⟩ := h
  have hc9 : zc (bs.getD i.toNat 0) := zc_of (by omega) (by omega)
  refine p_breturn (by decide) (by decide) rfl (nf_r hc9) ?_ dJ0_charAt_5068e_15 ⟨_, rfl, hc9, rfl, rfl, rfl⟩
  rw [zi_nI hb9.1]
  exact (pk_charN (by omega)).1
/-- as rows -/
theorem p_slen (G : zOK g) {idx a : Nat} {bs : List Int} (hz : zStrAt g a bs) (hb : bs.length < 2147483648) (hK : zKT (zown M) idx yJ0_length_8abf5 M_J0_length 0) (hrs : (st.map fun v => v.category).sum ≤ 8) (hR : 2 ≤ (zrm M).frames ∧ 40 ≤ (zrm M).locals) (hc : k ≤ (zrm M).cells ∧ n ≤ (zrm M).slots) (hd : decode (zcc M) pc = .ok (.invokevirtual idx, 3)) (kk : zPz g M k n (pc + 3) lv (.int (zi bs.length) :: st) S im Z) : zPz g M k n pc lv (.ref a :: st) S im Z :=
  p_VT G hz hK (As := []) rfl rfl hrs hR hc hd (c_length G hz hb) (fun r im' _ h => by obtain ⟨rfl, rfl⟩ := h; exact kk)
theorem p_schar (G : zOK g) {idx a : Nat} {bs : List Int} {i i' : Int} (hz : zStrAt g a bs) (hb : bs.length < 2147483648) (ha : ∀ b ∈ bs, 0 ≤ b ∧ b < 128) (hK : zKT (zown M) idx yJ0_charAt_5068e M_J0_charAt 1) (hi : nf i i') (h0 : 0 ≤ i') (h1 : i' < bs.length) (hrs : (st.map fun v => v.category).sum ≤ 8) (hR : 4 ≤ (zrm M).frames ∧ 85 ≤ (zrm M).locals) (hc : k ≤ (zrm M).cells ∧ n ≤ (zrm M).slots) (hd : decode (zcc M) pc = .ok (.invokevirtual idx, 3)) (kk : zc (bs.getD i'.toNat 0) → zPz g M k n (pc + 3) lv (.int (zi (bs.getD i'.toNat 0)) :: st) S im Z) : zPz g M k n pc lv (.int (zi i) :: .ref a :: st) S im Z :=
  p_VT G hz hK (As := [.int (zi i')]) rfl (by rw [hi.1]; rfl) hrs hR hc hd (c_charAt G hz hb hi.2 h0 h1 ha) (fun r im' c h => by obtain ⟨rfl, rfl⟩ := h; exact kk c)
theorem p_ldcS (G : zOK g) {idx : Nat} {tx : String} {bs : List Int} (hq : (zown M, idx, tx, bs) ∈ zStrs) (hd : decode (zcc M) pc = .ok (.ldc idx, 2)) (kk : ∀ a, zStrAt g a bs → zPz g M k n (pc + 2) lv (.ref a :: st) S im Z) : zPz g M k n pc lv st S im Z := by
  intro p e s m args below meth c H locs ls B R L V
  obtain ⟨a, h1, h2⟩ := G.2.2.2.2.2.2.2.2.2.2 _ hq
  exact va_ldcS B.1 B.2.1 B.2.2.2.1 (vk_R.warm B.2.2.2.2.1 h1) hd (kk a h2 p e s m args below meth c H locs ls B R L V)
theorem p_ldcSW (G : zOK g) {idx : Nat} {tx : String} {bs : List Int} (hq : (zown M, idx, tx, bs) ∈ zStrs) (hd : decode (zcc M) pc = .ok (.ldc_w idx, 3)) (kk : ∀ a, zStrAt g a bs → zPz g M k n (pc + 3) lv (.ref a :: st) S im Z) : zPz g M k n pc lv st S im Z := by
  intro p e s m args below meth c H locs ls B R L V
  obtain ⟨a, h1, h2⟩ := G.2.2.2.2.2.2.2.2.2.2 _ hq
  have h9 := vk_R.warm B.2.2.2.2.1 h1
  intro T hT X9
  obtain ⟨t, a1, b1⟩ := kk a h2 p e s m args below meth c H locs ls B R L V T hT X9
  exact ⟨t, X9.ldcStringW B.1 B.2.2.2.1 (text := tx) (a := a) h9.1 h9.2 (g := F0 m pc ls st) rfl (by rw [B.2.1]; exact hd) t a1, b1⟩
end ZS
