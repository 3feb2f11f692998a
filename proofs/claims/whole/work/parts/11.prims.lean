/-! constants, Math.min, System.arraycopy -/
theorem zc_zcmp (a b : Int) : zc (zcmp a b) := by
  unfold zcmp
  split
  · exact zc_of (by omega) (by omega)
  · split <;> exact zc_of (by omega) (by omega)
theorem bm_lo (a : Int) : -128 ≤ a.bmod 256 := by have := @Int.le_bmod a 256 (by omega); omega
theorem bm_hi (a : Int) : a.bmod 256 < 128 := by have := @Int.bmod_lt a 256 (by omega); omega
theorem zc_bm (a : Int) : zc (a.bmod 256) := by have := bm_lo a; have := bm_hi a; exact zc_of (by omega) (by omega)
theorem zc_01 {x : Int} (h : x = 0 ∨ x = 1) : zc x := zc_of (by omega) (by omega)
theorem zc_min {a b : Int} (ha : zc a) (hb : zc b) : zc (min a b) := by
  have h1 := zc_bd ha
  have h2 := zc_bd hb
  exact zc_of (by omega) (by omega)
def zPIx (g : zG) (M : zM) (k n pc : Nat) (lv : List (Nat × Value)) (S : zSh) (im : zIm) (Q : Int → zIm → Prop) (X : String → zSh → zIm → Prop) : Prop := zPz g M k n pc lv [] S im (zZ g M (zQI S Q) X)
def zPVx (g : zG) (M : zM) (k n pc : Nat) (lv : List (Nat × Value)) (S : zSh) (im : zIm) (Q : zIm → Prop) (X : String → zSh → zIm → Prop) : Prop := zPz g M k n pc lv [] S im (zZ g M (zQV S Q) X)
def zcp (im : zIm) (a b : Nat) (n : Int) : zIm := zsr im b (fun j => if 0 ≤ j ∧ j < n then im a j else im b j)
section ZP
variable {g : zG} {M : zM} {k n pc : Nat} {lv lv' : List (Nat × Value)} {st : List Value} {S : zSh} {im : zIm} {Z : zEnd}
theorem p_ldc (G : zOK g) {idx : Nat} {w : Int32} (hw : Cond.constant (zown M) idx w ∈ lw_tbl) {v : Int} (hv : w = zi v) (hd : decode (zcc M) pc = .ok (.ldc idx, 2)) (kk : zPz g M k n (pc + 2) lv (.int (zi v) :: st) S im Z) : zPz g M k n pc lv st S im Z := by
  intro p e s m args below meth c H locs ls B R L V
  subst hv
  exact W.ldc B.1 B.2.1 B.2.2.2.1 (B.ts G hw rfl args) rfl hd (kk p e s m args below meth c H locs ls B R L V)
theorem p_ldc2 (G : zOK g) {idx : Nat} {w : Int64} (hw : Cond.constantLong (zown M) idx w ∈ lw_tbl) {v : Int} (hv : w = zl v) (hd : decode (zcc M) pc = .ok (.ldc2_w idx, 3)) (kk : zPz g M k n (pc + 3) lv (.long (zl v) :: st) S im Z) : zPz g M k n pc lv st S im Z := by
  intro p e s m args below meth c H locs ls B R L V
  subst hv
  exact W.ldc2 B.1 B.2.1 B.2.2.2.1 (B.ts G hw rfl args) rfl hd (kk p e s m args below meth c H locs ls B R L V)
theorem p_min (G : zOK g) {idx : Nat} {a b a' b' : Int} (h1 : Cond.methodLink (zown M) idx Lib.Math.min.name ∈ lw_tbl) (h2 : Cond.static Lib.Math.min.name ∈ lw_tbl) (h3 : Cond.initialized "java/lang/Math" ∈ lw_tbl) (h4 : Cond.code Lib.Math.min.name Lib.Math.min.code 2 (some .int) ∈ lw_tbl) (hd : decode (zcc M) pc = .ok (.invokestatic idx, 3)) (hf : 1 ≤ (zrm M).frames) (hl : (st.map fun v => v.category).sum + 13 ≤ (zrm M).locals) (hc : k ≤ (zrm M).cells) (hs : n ≤ (zrm M).slots) (ha : nf a a') (hb : nf b b')
    (kk : zPz g M k n (pc + 3) lv (.int (zi (min a' b')) :: st) S im Z) : zPz g M k n pc lv (.int (zi b) :: .int (zi a) :: st) S im Z := by
  intro p e s m args below meth c H locs ls B R L V
  refine va_mmin B.1 B.2.1 (by rw [B.2.2.1, V.1]) B.2.2.2.1 (B.ts G h1 rfl args) (B.ts G h2 rfl args) (B.ts G h3 rfl args) (B.ts G h4 rfl args) hf hl hc hs hd ?_
  have e9 : (if zi b < zi a then zi b else zi a) = zi (min a' b') := by
    rw [ha.1, hb.1]
    by_cases h : b' < a'
    · rw [if_pos ((zi_lt hb.2 ha.2).mpr h), Int.min_eq_right (by omega)]
    · rw [if_neg (fun q => h ((zi_lt hb.2 ha.2).mp q)), Int.min_eq_left (by omega)]
  rw [e9]
  exact kk p e s m args below meth c H locs ls B R L V
theorem p_copy (G : zOK g) {idx a b : Nat} {x x' : Int} (h1 : Cond.methodLink (zown M) idx arraycopyName ∈ lw_tbl) (h2 : Cond.native arraycopyName ∈ lw_tbl) (h3 : Cond.static arraycopyName ∈ lw_tbl) (h4 : Cond.initialized "java/lang/System" ∈ lw_tbl) (hka : zkd S a = 9) (hkb : zkd S b = 9) (hx : nf x x') (h0 : 0 ≤ x') (hxa : x' ≤ zln S a) (hxb : x' ≤ zln S b)
    (hf : 1 ≤ (zrm M).frames) (hl : (st.map fun v => v.category).sum + (nativeFrameWords "java/lang/System" "arraycopy" 5 + 11) ≤ (zrm M).locals) (hd : decode (zcc M) pc = .ok (.invokestatic idx, 3))
    (kk : zPz g M k n (pc + 3) lv st S (zcp im a b x') Z) : zPz g M k n pc lv (.int (zi x) :: .int (zi 0) :: .ref b :: .int (zi 0) :: .ref a :: st) S im Z := by
  intro p e s m args below meth c H locs ls B R L V T hT X
  obtain ⟨hba, hca, hlta, hcana⟩ := zrow R hka (by omega) (by omega)
  obtain ⟨hbb, hcb, hltb, hcanb⟩ := zrow R hkb (by omega) (by omega)
  obtain ⟨-, k0, hk0, cm0, hkk0⟩ := ((B.kn G).2 0 _ rfl).1 (zln S a) (fun j => .int (zi (im a j)))
  obtain ⟨-, k1, hk1, cm1, hkk1⟩ := ((B.kn G).2 0 _ rfl).1 (zln S b) (fun j => .int (zi (im b j)))
  have e0 : (zi 0).toNatClampNeg = 0 := by rw [zi_nat (by omega) (by omega)]; rfl
  have ex : (zi x').toNatClampNeg = x'.toNat := zi_nat h0 (by omega)
  have ex2 : (zi x').toInt = x' := by rw [zi_toInt, hx.2]
  have e02 : (zi 0).toInt = 0 := by rw [zi_toInt, zc_0]
  rw [hx.1]
  obtain ⟨vm', X', step⟩ := X.arraycopy B.1 B.2.2.2.1 (B.ts G h1 rfl args) (B.ts G h2 rfl args) (B.ts G h3 rfl args) (B.ts G h4 rfl args) (src := a) (dst := b) (cs := arrV (g.2.2.2 9) (zln S a) (fun j => .int (zi (im a j)))) (cd := arrV (g.2.2.2 9) (zln S b) (fun j => .int (zi (im b j)))) (srcPos := zi 0) (destPos := zi 0) (n := zi x') (by rw [hT]; exact hca) (by rw [hT]; exact hcb)
    (fun _ h => by cases h) (fun _ h => by cases h) (fun h => by cases h) (fun h => by cases h) hk0 hk1 hkk0 hkk1 (by simp [refKind]) (by rw [← zi_0, zi_lt zc_0 zc_0]; omega) (by rw [← zi_0, zi_lt zc_0 zc_0]; omega) (by rw [← zi_0, zi_lt hx.2 zc_0]; omega)
    (by rw [ex2, e02, arrV_size]; omega)
    (by rw [ex2, e02, arrV_size]; omega)
    (fun vm₁ _ i hi => by
      have e : (arrV (g.2.2.2 9) (zln S a) (fun j => .int (zi (im a j)))).slots.getD ((zi 0).toNatClampNeg + i) .null = .int (zi (im a ((zi 0).toNatClampNeg + i : Nat))) := by
        rw [Array.getD_eq_getD_getElem?, arrV_read _ _ (by rw [e0]; rw [ex] at hi; omega)]
        rfl
      refine ⟨?_, ?_⟩
      · rw [e]; rfl
      · rw [e]; exact trivial)
    (g := F0 m pc ls (.int (zi x') :: .int (zi 0) :: .ref b :: .int (zi 0) :: .ref a :: st)) rfl (by rw [B.2.2.1]; exact V.1) (rest := st) rfl (by rw [B.2.1]; exact hd) hf (by show 2 * 0 + _ + _ ≤ _; omega)
  have e1 : copied (arrV (g.2.2.2 9) (zln S a) (fun j => .int (zi (im a j)))) (arrV (g.2.2.2 9) (zln S b) (fun j => .int (zi (im b j)))) (zi 0) (zi 0) (zi x') = arrV (g.2.2.2 9) (zln S b) (fun j => .int (va_cpy (fun j => zi (im a j)) (fun j => zi (im b j)) (zi 0).toNatClampNeg (zi 0).toNatClampNeg (zi x').toNatClampNeg j)) := va_copied (fun z => .int z) _ _ (fun j => zi (im a j)) (fun j => zi (im b j)) (by rw [e0, ex]; omega)
  rw [e1] at X' step
  have hl9 : b < H.size := (Array.getElem?_eq_some_iff.mp hcb).1
  have hheap : ((T.setVm vm').setCell b (arrV (g.2.2.2 9) (zln S b) (fun j => .int (va_cpy (fun j => zi (im a j)) (fun j => zi (im b j)) (zi 0).toNatClampNeg (zi 0).toNatClampNeg (zi x').toNatClampNeg j)))).heap = H.setIfInBounds b (arrV (g.2.2.2 9) (zln S b) (fun j => .int (va_cpy (fun j => zi (im a j)) (fun j => zi (im b j)) (zi 0).toNatClampNeg (zi 0).toNatClampNeg (zi x').toNatClampNeg j))) := by rw [← hT]; rfl
  have hcell : zcell g (zkd S b) (zln S b) (zrf S b) (zcp im a b x' b) (H.setIfInBounds b (arrV (g.2.2.2 9) (zln S b) (fun j => .int (va_cpy (fun j => zi (im a j)) (fun j => zi (im b j)) (zi 0).toNatClampNeg (zi 0).toNatClampNeg (zi x').toNatClampNeg j)))) b := by
    have er : zcp im a b x' b = fun j => if 0 ≤ j ∧ j < x' then im a j else im b j := zsr_s
    rw [hkb, er]
    refine ⟨fun h => absurd h (by omega), fun _ => ⟨?_, hltb, fun j hj => ?_⟩⟩
    · have : (H.setIfInBounds b (arrV (g.2.2.2 9) (zln S b) (fun j => .int (va_cpy (fun j => zi (im a j)) (fun j => zi (im b j)) (zi 0).toNatClampNeg (zi 0).toNatClampNeg (zi x').toNatClampNeg j))))[b]? = some (arrV (g.2.2.2 9) (zln S b) (fun j => .int (va_cpy (fun j => zi (im a j)) (fun j => zi (im b j)) (zi 0).toNatClampNeg (zi 0).toNatClampNeg (zi x').toNatClampNeg j))) := by
        simp [Array.getElem?_setIfInBounds, hl9]
      rw [this]
      congr 2
      funext j
      show Value.int _ = Value.int (zi (if 0 ≤ (j : Int) ∧ (j : Int) < x' then im a j else im b j))
      congr 1
      rw [e0, ex]
      unfold va_cpy
      by_cases hj : (j : Int) < x'
      · rw [if_pos ⟨by omega, by omega⟩, if_pos ⟨by omega, hj⟩]
        show zi (im a ((0 + (j - 0) : Nat) : Int)) = _
        congr 2
        omega
      · rw [if_neg (by omega), if_neg (by omega)]
    · show zcan 0 (if 0 ≤ (j : Int) ∧ (j : Int) < x' then im a j else im b j)
      split
      · exact hcana j (by omega)
      · exact hcanb j hj
  have hR' : zRel g S (zcp im a b x') (H.setIfInBounds b (arrV (g.2.2.2 9) (zln S b) (fun j => .int (va_cpy (fun j => zi (im a j)) (fun j => zi (im b j)) (zi 0).toNatClampNeg (zi 0).toNatClampNeg (zi x').toNatClampNeg j)))) :=
    R.at (a := b) (by simp) (fun q hq => by simp [Array.getElem?_setIfInBounds, Ne.symm hq]) (by rw [hkb]; omega) rfl rfl rfl (fun _ _ => rfl) (fun q hq => zsr_n hq) hcell
  obtain ⟨t, a1, b1⟩ := kk p e s m args below meth c _ _ ls B hR' (by
    intro z hz
    rcases List.mem_append.mp hz with h | h
    · exact L z h
    · obtain ⟨w, -, hw⟩ := List.mem_map.mp h
      rw [← hw]
      exact hbb) V _ hheap X'
  exact ⟨t, step t a1, b1⟩
end ZP
