/-! bytes -/
theorem bm_cg {a b : Int} (h : a % 256 = b % 256) : Int.bmod a 256 = Int.bmod b 256 := by
  unfold Int.bmod
  rw [show a % ((256 : Nat) : Int) = b % ((256 : Nat) : Int) from h]
theorem zi_tn (y : Int) : (zi y).toBitVec.toNat = (y % 4294967296).toNat := by
  show (BitVec.ofInt 32 y).toNat = _
  rw [BitVec.toNat_ofInt]
  rfl
theorem zandB (y : Int) : zand y 255 = y % 256 := by
  unfold zand
  rw [pk_and (zi y) (m := zi 255) 8 (by decide), zi_tn]
  show (Int32.ofNat _).toInt = _
  rw [Int32.toInt_ofNat_of_lt (by omega)]
  omega
theorem zshr_k {x : Int} (cx : zc x) {k : Nat} (hs : ((zi (k : Int) &&& 31).toBitVec.smod 32).toNat = k) : zshr x k = x / ((2 ^ k : Nat) : Int) := by
  unfold zshr
  show ((zi x).toBitVec.sshiftRight' ((zi (k : Int) &&& 31).toBitVec.smod 32)).toInt = _
  rw [BitVec.toInt_sshiftRight', hs, Int.shiftRight_eq_div_pow]
  congr 1
theorem zushr_k {x : Int} {k : Nat} (hs : (((zi (k : Int)).toUInt32 &&& Int32.toUInt32 31).toBitVec % 32).toNat = k) : ∃ N : Nat, N = (x % 4294967296).toNat / 2 ^ k ∧ zushr x k % 256 = (N : Int) % 256 := by
  refine ⟨_, rfl, ?_⟩
  have h := pk_ushr (zi x) (zi (k : Int)) k hs
  rw [zi_tn] at h
  rw [← h]
  unfold zushr
  generalize ((zi x).toUInt32 >>> ((zi (k : Int)).toUInt32 &&& Int32.toUInt32 31)).toInt32 = r
  show r.toBitVec.toInt % 256 = _
  rw [BitVec.toInt_eq_toNat_cond]
  split
  · rfl
  · show ((r.toBitVec.toNat : Int) - ((4294967296 : Nat) : Int)) % 256 = _
    omega
def bX (k : Nat) (p : Int) : Int := (p / ((2 ^ k : Nat) : Int)) % 256
theorem byt {p : Int} (cp : zc p) {k : Nat} (hk : k = 24 ∨ k = 16 ∨ k = 8 ∨ k = 0) : zand (zshr p k) 255 = bX k p ∧ Int.bmod (zushr p k) 256 = Int.bmod (bX k p) 256 ∧ 0 ≤ bX k p ∧ bX k p ≤ 255 := by
  have bp := zc_bd cp
  have b0 : 0 ≤ bX k p ∧ bX k p ≤ 255 := by unfold bX; omega
  refine ⟨?_, bm_cg ?_, b0⟩
  · rw [zandB]
    rcases hk with rfl | rfl | rfl | rfl
    · rw [zshr_k cp (by decide)]; rfl
    · rw [zshr_k cp (by decide)]; rfl
    · rw [zshr_k cp (by decide)]; rfl
    · rw [zshr_k cp (by decide)]; rfl
  · rcases hk with rfl | rfl | rfl | rfl
    · obtain ⟨N, e1, e2⟩ := zushr_k (x := p) (k := 24) (by decide)
      rw [e2, e1]; unfold bX; simp only [Nat.reducePow]; omega
    · obtain ⟨N, e1, e2⟩ := zushr_k (x := p) (k := 16) (by decide)
      rw [e2, e1]; unfold bX; simp only [Nat.reducePow]; omega
    · obtain ⟨N, e1, e2⟩ := zushr_k (x := p) (k := 8) (by decide)
      rw [e2, e1]; unfold bX; simp only [Nat.reducePow]; omega
    · obtain ⟨N, e1, e2⟩ := zushr_k (x := p) (k := 0) (by decide)
      rw [e2, e1]; unfold bX; simp only [Nat.reducePow]; omega
/-! texts grow -/
def snX (y : aX) (b : Int) : aX := (zup y.1 y.2 b, y.2 + 1)
def apX (x : aX) (p : Int) : aX := snX (snX (snX (snX x (bX 24 p)) (bX 16 p)) (bX 8 p)) (bX 0 p)
theorem snX_B {y : aX} {b : Int} (h : xB y) (hl : y.2 < 500) (b0 : 0 ≤ b) (b1 : b ≤ 255) : xB (snX y b) := by
  refine ⟨by show y.2 + 1 ≤ 500; omega, fun j j0 j1 => ?_⟩
  have j1 : j < y.2 + 1 := j1
  show 0 ≤ zup y.1 y.2 b j ∧ zup y.1 y.2 b j ≤ 255
  by_cases e : (j : Int) = y.2
  · rw [e, zup_s]; exact ⟨b0, b1⟩
  · rw [zup_n e]; exact h.2 j j0 (by omega)
theorem apX_B {x : aX} {p : Int} (cp : zc p) (h : xB x) (hl : x.2 + 4 ≤ 500) : xB (apX x p) := by
  have a := (byt cp (k := 24) (by omega)).2.2
  have b := (byt cp (k := 16) (by omega)).2.2
  have c := (byt cp (k := 8) (by omega)).2.2
  have d := (byt cp (k := 0) (by omega)).2.2
  exact snX_B (snX_B (snX_B (snX_B h (by omega) a.1 a.2) (by show x.2 + 1 < 500; omega) b.1 b.2) (by show x.2 + 1 + 1 < 500; omega) c.1 c.2) (by show x.2 + 1 + 1 + 1 < 500; omega) d.1 d.2
section TX
variable {g : zG} {S : zSh} {im : zIm} {t a an as av : Nat} {x : aX}
theorem k_ap_step (G : zOK g) (hS : zS_T S t) {y : aX} (hB : tB t y im) (hl : y.2 < 500) {p : Int} (cp : zc p) {k : Nat} (hk : k = 24 ∨ k = 16 ∨ k = 8 ∨ k = 0) {Q : zIm → Prop} (kk : ∀ im', tB t (snX y (bX k p)) im' → (∀ b, b ≠ t → b ≠ t + 1 → im' b = im b) → (∀ f, f ≠ 0 → im' t f = im t f) → zPV g M_X5_append 11 [(0, .ref t), (1, .int (zi p)), (2, .int (zi ((k : Int) - 8)))] S im' Q) : zPV g M_X5_append 11 [(0, .ref t), (1, .int (zi p)), (2, .int (zi (k : Int)))] S im Q := by
  have bb := byt cp hk
  have e0 := hB.1
  refine v_X5_append_11 G hS cp (zc_of (by omega) (by omega)) ⟨fun h => absurd h (by omega), fun _ => ⟨⟨by omega, by omega⟩, fun im2 e2 im6 e6 => ?_⟩⟩
  rw [e0, bb.2.1] at e2
  have z0 : im2 t 0 = y.2 := by rw [e2, zst_n (by omega)]; exact e0
  rw [z0, zwS (by omega)] at e6
  rw [zw_of (n := (k : Int) + (-8)) (by omega) (by omega)]
  refine kk im6 ⟨by rw [e6, zst_s]; rfl, fun j j0 j1 => ?_⟩ (fun b b0 b1 => by rw [e6, zst_n b0, e2, zst_n b1]) (fun f hf => by rw [e6, zst_o hf, e2, zst_n (by omega)])
  have j1 : j < y.2 + 1 := j1
  rw [e6, zst_n (by omega), e2, zst_at]
  show _ = Int.bmod (zup y.1 y.2 (bX k p) j) 256
  by_cases e : (j : Int) = y.2
  · rw [if_pos ⟨rfl, e⟩, e, zup_s]
  · rw [if_neg (fun hh => e hh.2), zup_n e]; exact hB.2 j j0 (by omega)
theorem k_appendText (G : zOK g) (hS : zDep S a an as av t) (hB : tB t x im) {p : Int} (cp : zc p) (hx : xB x) {Q : Int → zIm → Prop} {X : String → zSh → zIm → Prop} (h0 : x.2 + 4 ≤ 500 → ∀ im', (∀ b, b ≠ t → b ≠ t + 1 → im' b = im b) → (∀ f, f ≠ 0 → im' t f = im t f) → tB t (apX x p) im' → Q ((x.2 + 4 : Nat) : Int) im') (h1 : ¬ x.2 + 4 ≤ 500 → X "java/lang/IllegalStateException" (zpush S 14 0) im) : zCIx g yX7_appendText M_X7_appendText [.ref a, .int (zi p)] S im Q X := by
  have hT := hS.2.2.2.2.2.2.2.1
  have e0 := hB.1
  have hx0 := hx.1
  refine v_X7_appendText G hS cp ?_
  refine v_X5_isFull G hT ?_
  rw [e0, zw_of (by omega) (by omega)]
  refine ⟨fun hl => ⟨fun _ => ?_, fun h => absurd rfl h⟩, fun hl => ⟨fun h => absurd h (by decide), fun _ => h1 (by omega)⟩⟩
  refine v_X5_append G hT cp (v_X5_isFull G hT ?_)
  rw [e0, zw_of (by omega) (by omega)]
  refine ⟨fun hl => ⟨fun _ => ?_, fun h => absurd rfl h⟩, fun hl2 => absurd hl2 (by omega)⟩
  refine k_ap_step G hT hB (by omega) cp (k := 24) (by omega) (fun i1 b1 f1 g1 => ?_)
  refine k_ap_step G hT b1 (by show x.2 + 1 < 500; omega) cp (k := 16) (by omega) (fun i2 b2 f2 g2 => ?_)
  refine k_ap_step G hT b2 (by show x.2 + 1 + 1 < 500; omega) cp (k := 8) (by omega) (fun i3 b3 f3 g3 => ?_)
  refine k_ap_step G hT b3 (by show x.2 + 1 + 1 + 1 < 500; omega) cp (k := 0) (by omega) (fun i4 b4 f4 g4 => ?_)
  refine v_X5_append_11 G hT cp (zc_of (by omega) (by omega)) ⟨fun _ => ?_, fun h => absurd h (by omega)⟩
  rw [b4.1]
  exact h0 (by omega) i4 (fun b h1 h2 => by rw [f4 b h1 h2, f3 b h1 h2, f2 b h1 h2, f1 b h1 h2]) (fun f hf => by rw [g4 f hf, g3 f hf, g2 f hf, g1 f hf]) b4
theorem c_ap_step (G : zOK g) (hS : zS_M S a) {y : aX} (hB : rB a y im) (hl : y.2 < 500) {p : Int} (cp : zc p) {k : Nat} (hk : k = 24 ∨ k = 16 ∨ k = 8 ∨ k = 0) {Q : Int → zIm → Prop} (kk : ∀ im', rB a (snX y (bX k p)) im' → (∀ b, b ≠ a → b ≠ a + 5 → im' b = im b) → (∀ f, f ≠ 7 → im' a f = im a f) → zPI g M_X8_appendText 26 [(0, .ref a), (1, .int (zi p)), (2, .int (zi ((k : Int) - 8)))] S im' Q) : zPI g M_X8_appendText 26 [(0, .ref a), (1, .int (zi p)), (2, .int (zi (k : Int)))] S im Q := by
  have bb := byt cp hk
  have e0 := hB.1
  refine v_X8_appendText_26 G hS cp (zc_of (by omega) (by omega)) ⟨fun h => absurd h (by omega), fun _ => ⟨⟨by omega, by omega⟩, fun im2 e2 im6 e6 => ?_⟩⟩
  rw [e0, bb.1] at e2
  have z0 : im2 a 7 = y.2 := by rw [e2, zst_n (by omega)]; exact e0
  rw [z0, zwS (by omega)] at e6
  rw [zw_of (n := (k : Int) + (-8)) (by omega) (by omega)]
  refine kk im6 ⟨by rw [e6, zst_s]; rfl, fun j j0 j1 => ?_⟩ (fun b b0 b1 => by rw [e6, zst_n b0, e2, zst_n b1]) (fun f hf => by rw [e6, zst_o hf, e2, zst_n (by omega)])
  have j1 : j < y.2 + 1 := j1
  rw [e6, zst_n (by omega), e2, zst_at]
  show _ = zup y.1 y.2 (bX k p) j
  by_cases e : (j : Int) = y.2
  · rw [if_pos ⟨rfl, e⟩, e, zup_s]
  · rw [if_neg (fun hh => e hh.2), zup_n e]; exact hB.2 j j0 (by omega)
theorem r_appendText (G : zOK g) (hS : zS_M S a) (hB : rB a x im) {p : Int} (cp : zc p) (hx : xB x) {Q : Int → zIm → Prop} (h0 : x.2 + 4 ≤ 500 → ∀ im', (∀ b, b ≠ a → b ≠ a + 5 → im' b = im b) → (∀ f, f ≠ 4 → f ≠ 7 → im' a f = im a f) → im' a 4 = 0 → rB a (apX x p) im' → Q ((x.2 + 4 : Nat) : Int) im') (h1 : ¬ x.2 + 4 ≤ 500 → ∀ im', (∀ b, b ≠ a → im' b = im b) → (∀ f, f ≠ 4 → im' a f = im a f) → im' a 4 = 1 → Q 0 im') : zCI g yX8_appendText M_X8_appendText [.ref a, .int (zi p)] S im Q := by
  have hx0 := hx.1
  refine v_X8_appendText G hS cp (fun im1 e1 => ?_)
  have B1 : rB a x im1 := ⟨by rw [e1, zst_o (by omega)]; exact hB.1, fun j j0 j1 => by rw [e1, zst_n (by omega)]; exact hB.2 j j0 j1⟩
  rw [B1.1, zw_of (by omega) (by omega)]
  refine ⟨fun hl => ?_, fun hl => c_fail G hS (zc_of (by omega) (by omega)) (h1 (by omega) _ (fun b hb => by rw [zst_n hb, e1, zst_n hb]) (fun f hf => by rw [zst_o hf, e1, zst_o hf]) zst_s)⟩
  refine c_ap_step G hS B1 (by omega) cp (k := 24) (by omega) (fun i1 b1 f1 g1 => ?_)
  refine c_ap_step G hS b1 (by show x.2 + 1 < 500; omega) cp (k := 16) (by omega) (fun i2 b2 f2 g2 => ?_)
  refine c_ap_step G hS b2 (by show x.2 + 1 + 1 < 500; omega) cp (k := 8) (by omega) (fun i3 b3 f3 g3 => ?_)
  refine c_ap_step G hS b3 (by show x.2 + 1 + 1 + 1 < 500; omega) cp (k := 0) (by omega) (fun i4 b4 f4 g4 => ?_)
  refine v_X8_appendText_26 G hS cp (zc_of (by omega) (by omega)) ⟨fun _ => ?_, fun h => absurd h (by omega)⟩
  rw [b4.1]
  exact h0 (by omega) i4 (fun b h1 h2 => by rw [f4 b h1 h2, f3 b h1 h2, f2 b h1 h2, f1 b h1 h2, e1, zst_n h1]) (fun f hf h7 => by rw [g4 f h7, g3 f h7, g2 f h7, g1 f h7, e1, zst_o hf]) (by rw [g4 4 (by omega), g3 4 (by omega), g2 4 (by omega), g1 4 (by omega), e1, zst_s]) b4
theorem k_truncateText (G : zOK g) (hS : zDep S a an as av t) (hB : tB t x im) {p : Int} (cp : zc p) (hx : xB x) {Q : Int → zIm → Prop} {X : String → zSh → zIm → Prop} (h0 : 0 ≤ p → p ≤ x.2 → ∀ im', (∀ b, b ≠ t → im' b = im b) → (∀ f, f ≠ 0 → im' t f = im t f) → tB t (x.1, p.toNat) im' → Q p im') (h1 : ¬ (0 ≤ p ∧ p ≤ x.2) → X "java/lang/IllegalArgumentException" (zpush S 14 0) im) : zCIx g yX7_truncateText M_X7_truncateText [.ref a, .int (zi p)] S im Q X := by
  have hx0 := hx.1
  refine v_X7_truncateText G hS cp ?_
  rw [hB.1]
  refine k_range G cp zc_0 (zc_of (by omega) (by omega)) (fun p0 p1 im4 e4 => ?_) h1
  refine h0 p0 p1 im4 (fun b hb => by rw [e4, zst_n hb]) (fun f hf => by rw [e4, zst_o hf]) ⟨by rw [e4, zst_s]; show p = ((p.toNat : Nat) : Int); omega, fun j j0 j1 => ?_⟩
  have j1 : j < p.toNat := j1
  rw [e4, zst_n (by omega)]; exact hB.2 j j0 (by omega)
theorem r_truncateText (G : zOK g) (hS : zS_M S a) (hB : rB a x im) {p : Int} (cp : zc p) (hx : xB x) {Q : Int → zIm → Prop} (h0 : 0 ≤ p → p ≤ x.2 → ∀ im', (∀ b, b ≠ a → im' b = im b) → (∀ f, f ≠ 4 → f ≠ 7 → im' a f = im a f) → im' a 4 = 0 → rB a (x.1, p.toNat) im' → Q p im') (h1 : ¬ (0 ≤ p ∧ p ≤ x.2) → ∀ im', (∀ b, b ≠ a → im' b = im b) → (∀ f, f ≠ 4 → im' a f = im a f) → im' a 4 = 1 → Q 0 im') : zCI g yX8_truncateText M_X8_truncateText [.ref a, .int (zi p)] S im Q := by
  have hx0 := hx.1
  refine v_X8_truncateText G hS cp (fun im1 e1 => ?_)
  have B1 : rB a x im1 := ⟨by rw [e1, zst_o (by omega)]; exact hB.1, fun j j0 j1 => by rw [e1, zst_n (by omega)]; exact hB.2 j j0 j1⟩
  rw [B1.1]
  refine c_between G cp zc_0 (zc_of (by omega) (by omega)) (fun p0 p1 => ⟨fun _ im7 e7 => ?_, fun h => absurd h (by decide)⟩) (fun hp => ⟨fun h => absurd rfl h, fun _ => c_fail G hS (zc_of (by omega) (by omega)) (h1 (by omega) _ (fun b hb => by rw [zst_n hb, e1, zst_n hb]) (fun f hf => by rw [zst_o hf, e1, zst_o hf]) zst_s)⟩)
  have e : im7 a 7 = p := by rw [e7, zst_s]
  rw [e]
  refine h0 p0 p1 im7 (fun b hb => by rw [e7, zst_n hb, e1, zst_n hb]) (fun f f4 f7 => by rw [e7, zst_o f7, e1, zst_o f4]) (by rw [e7, zst_o (by omega), e1, zst_s]) ⟨by rw [e]; show p = ((p.toNat : Nat) : Int); omega, fun j j0 j1 => ?_⟩
  have j1 : j < p.toNat := j1
  rw [e7, zst_n (by omega)]; exact B1.2 j j0 (by omega)
end TX
