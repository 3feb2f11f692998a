/-! the reference's tokens -/
def wVF (tx : aR) (s : Nat) : Nat → Int
  | 0 => 0
  | k + 1 => if k < 8 then 27 * wVF tx s k + tx ((s + k : Nat) : Int) - 96 else wVF tx s k
def p27 : Nat → Int
  | 0 => 1
  | k + 1 => 27 * p27 k
theorem p27_le : ∀ k, k ≤ 8 → p27 k ≤ 282429536481 := by decide
theorem wVF_bd {tx : aR} {s : Nat} : ∀ k, (∀ j, j < k → isLt (tx ((s + j : Nat) : Int)) = true) → 0 ≤ wVF tx s k ∧ wVF tx s k < 282429536481 ∧ (k ≤ 8 → wVF tx s k < p27 k) := by
  intro k
  induction k with
  | zero => intro _; simp [wVF, p27]
  | succ k ih =>
    intro h
    obtain ⟨i1, i2, i3⟩ := ih (fun j hj => h j (by omega))
    have d := isLt_t.1 (h k (by omega))
    rw [wVF]
    by_cases e : k < 8
    · rw [if_pos e]
      have h1 := i3 (by omega)
      have h2 := p27_le (k + 1) (by omega)
      have h3 : p27 (k + 1) = 27 * p27 k := rfl
      refine ⟨by omega, by omega, fun _ => by omega⟩
    · rw [if_neg e]
      exact ⟨i1, i2, fun h => absurd h (by omega)⟩
def rK (k : Int) : Int := if k = 0 then 0 else if k = 1 then 2 else if k = 2 then 3 else if k = 3 then 4 else 1
theorem tK_rg {x : aX} {q : Nat} : tK x q = 0 ∨ tK x q = 1 ∨ tK x q = 2 ∨ tK x q = 3 ∨ tK x q = 4 := by
  unfold tK
  split
  · split
    · omega
    · split
      · omega
      · split <;> omega
  · omega
theorem rK_s (k : Int) : (rK k = 0 ↔ k = 0) ∧ (rK k = 2 ↔ k = 1) ∧ (rK k = 3 ↔ k = 2) ∧ (rK k = 4 ↔ k = 3) := by
  unfold rK
  by_cases h0 : k = 0
  · rw [if_pos h0]; omega
  · rw [if_neg h0]
    by_cases h1 : k = 1
    · rw [if_pos h1]; omega
    · rw [if_neg h1]
      by_cases h2 : k = 2
      · rw [if_pos h2]; omega
      · rw [if_neg h2]
        by_cases h3 : k = 3
        · rw [if_pos h3]; omega
        · rw [if_neg h3]; omega
def rB (a : Nat) (x : aX) (im : zIm) : Prop := im a 7 = x.2 ∧ ∀ j, 0 ≤ j → j < x.2 → im (a + 5) j = x.1 j
def mT (a : Nat) (x : aX) (im : zIm) (q : Nat) : Prop := im a 8 = tE x q ∧ im a 9 = tS x q ∧ im a 10 = rK (tK x q) ∧ im a 12 = tV x q ∧ (tK x q = 1 → im a 11 = ((tE x q - tS x q : Nat) : Int) ∧ im a 15 = wVF x.1 (tS x q) (tE x q - tS x q))
def frM (a : Nat) (im im' : zIm) : Prop := (∀ b, b ≠ a → im' b = im b) ∧ ∀ f, (f < 8 ∨ f = 13 ∨ f = 14 ∨ 15 < f) → im' a f = im a f
theorem frM.i {a : Nat} {im : zIm} : frM a im im := ⟨fun _ _ => rfl, fun _ _ => rfl⟩
theorem frM.z {a : Nat} {im im' im'' : zIm} {k v : Int} (h : frM a im im') (e : im'' = zst im' a k v) (k0 : 8 ≤ k) (k1 : k ≤ 15) (k2 : k ≠ 13) (k3 : k ≠ 14) : frM a im im'' :=
  ⟨fun b hb => by rw [e, zst_n hb]; exact h.1 b hb, fun f hf => by rw [e, zst_at, if_neg (by omega)]; exact h.2 f hf⟩
theorem frM.t {a : Nat} {im im' im'' : zIm} (h : frM a im im') (h' : frM a im' im'') : frM a im im'' :=
  ⟨fun b hb => by rw [h'.1 b hb]; exact h.1 b hb, fun f hf => by rw [h'.2 f hf]; exact h.2 f hf⟩
theorem rB.f {a : Nat} {x : aX} {im im' : zIm} (h : rB a x im) (f : frM a im im') : rB a x im' :=
  ⟨by rw [f.2 7 (by omega)]; exact h.1, fun j j0 j1 => by rw [f.1 (a + 5) (by omega)]; exact h.2 j j0 j1⟩
def bA (x : aX) (p : Nat) : Int := if p < x.2 then x.1 p else -1
theorem bA_y {x : aX} {p : Nat} (h : p < x.2) : bA x p = x.1 p := if_pos h
theorem bA_n {x : aX} {p : Nat} (h : ¬ p < x.2) : bA x p = -1 := if_neg h
theorem bA_bd {x : aX} (hx : xB x) (p : Nat) : -1 ≤ bA x p ∧ bA x p ≤ 255 ∧ (bA x p = -1 ↔ ¬ p < x.2) := by
  by_cases h : p < x.2
  · have := hx.2 p (by omega) (by omega)
    rw [bA_y h]; omega
  · rw [bA_n h]; omega
section TR
variable {g : zG} {S : zSh} {a : Nat} {x : aX}
theorem c_byteAt (G : zOK g) (hS : zS_M S a) (hx : xB x) {im : zIm} (hB : rB a x im) {p : Nat} (hp : p ≤ x.2) {Q : Int → zIm → Prop} (hq : Q (bA x p) im) : zCI g yX8_byteAt M_X8_byteAt [.ref a, .int (zi (p : Int))] S im Q := by
  have e7 := hB.1
  have hx0 := hx.1
  refine v_X8_byteAt G hS (zc_of (by omega) (by omega)) ⟨fun h => ?_, fun h => ⟨⟨by omega, by omega⟩, ?_⟩⟩
  · rw [bA_n (by omega)] at hq; exact hq
  · rw [bA_y (by omega)] at hq; rw [hB.2 p (by omega) (by omega)]; exact hq
theorem c_isLt (G : zOK g) {im : zIm} {c : Int} (cc : zc c) {Q : Int → zIm → Prop} (ht : isLt c = true → Q 1 im) (hf : ¬ isLt c = true → Q 0 im) : zCI g yX8_isLetter M_X8_isLetter [.int (zi c)] S im Q := by
  rw [isLt_t] at ht hf
  exact v_X8_isLetter G cc (c_between G cc (zc_of (by omega) (by omega)) (zc_of (by omega) (by omega)) (fun h1 h2 => ⟨Or.inr rfl, ht ⟨h1, h2⟩⟩) (fun h => ⟨Or.inl rfl, hf (by omega)⟩))
theorem c_isDg (G : zOK g) {im : zIm} {c : Int} (cc : zc c) {Q : Int → zIm → Prop} (ht : isDg c = true → Q 1 im) (hf : ¬ isDg c = true → Q 0 im) : zCI g yX8_isDigit M_X8_isDigit [.int (zi c)] S im Q := by
  rw [isDg_t] at ht hf
  exact v_X8_isDigit G cc (c_between G cc (zc_of (by omega) (by omega)) (zc_of (by omega) (by omega)) (fun h1 h2 => ⟨Or.inr rfl, ht ⟨h1, h2⟩⟩) (fun h => ⟨Or.inl rfl, hf (by omega)⟩))
theorem c_rw_loop (G : zOK g) (hS : zS_M S a) (hx : xB x) {s : Nat} {Q : zIm → Prop} : ∀ (f p : Nat) (im : zIm), x.2 - p < f → s ≤ p → p ≤ x.2 → (∀ j, s ≤ j → j < p → isLt (x.1 j) = true) → rB a x im → im a 8 = p → im a 11 = ((p - s : Nat) : Int) → im a 15 = wVF x.1 s (p - s) → (∀ im', frM a im im' → (∀ f, f ≠ 8 → f ≠ 11 → f ≠ 15 → im' a f = im a f) → im' a 8 = rnP isLt x.1 x.2 p → im' a 11 = ((rnP isLt x.1 x.2 p - s : Nat) : Int) → im' a 15 = wVF x.1 s (rnP isLt x.1 x.2 p - s) → Q im') → zPV g M_X8_nextToken 96 [(0, .ref a)] S im Q := by
  have hx0 := hx.1
  intro f
  induction f with
  | zero => intro p im hf; exact absurd hf (by omega)
  | succ f ih =>
    intro p im hf hs hp hd hB h8 h11 h15 hQ
    have bd := bA_bd hx p
    refine v_X8_nextToken_96 G hS ?_
    rw [h8]
    refine c_byteAt G hS hx hB hp ?_
    refine c_isLt G (zc_of (by omega) (by omega)) (fun h1 => ⟨fun h => absurd h (by decide), fun _ => ?_⟩) (fun h1 => ⟨fun _ => ?_, fun h => absurd rfl h⟩)
    · have hl := isLt_t.1 h1
      have hlt : p < x.2 := by omega
      rw [bA_y hlt] at h1 hl
      have hv := wVF_bd (tx := x.1) (s := s) (p - s) (fun j hj => hd (s + j) (by omega) (by omega))
      have e1 : p + 1 - s = (p - s) + 1 := by omega
      have e2 : s + (p - s) = p := by omega
      have go (im20 : zIm) (f1 : frM a im im20) (q1 : ∀ f, f ≠ 8 → f ≠ 11 → f ≠ 15 → im20 a f = im a f) (k8 : im20 a 8 = ((p + 1 : Nat) : Int)) (k11 : im20 a 11 = ((p - s + 1 : Nat) : Int)) (k15 : im20 a 15 = wVF x.1 s (p - s + 1)) : zPV g M_X8_nextToken 96 [(0, .ref a)] S im20 Q := by
        refine ih (p + 1) im20 (by omega) (by omega) (by omega) (fun j j0 j1 => ?_) (hB.f f1) k8 (by rw [e1]; exact k11) (by rw [e1]; exact k15) (fun im' r1 r2 r3 r4 r5 => hQ im' (f1.t r1) (fun f f8 f11 f15 => by rw [r2 f f8 f11 f15, q1 f f8 f11 f15]) ?_ ?_ ?_)
        · by_cases e : j = p
          · rw [e]; exact h1
          · exact hd j j0 (by omega)
        · rw [rnP_y hlt h1]; exact r3
        · rw [rnP_y hlt h1]; exact r4
        · rw [rnP_y hlt h1]; exact r5
      refine ⟨fun h88 im10 d10 im13 d13 im16 d16 => ?_, fun h88 => ?_⟩
      · have k11 : im10 a 11 = ((p - s : Nat) : Int) := by rw [d10, zst_o (by omega)]; exact h11
        rw [k11, zwS (by omega)] at d13
        have k8 : im13 a 8 = p := by rw [d13, zst_o (by omega), d10, zst_o (by omega)]; exact h8
        rw [k8, zwS (by omega)] at d16
        refine go im16 (((frM.i.z d10 (by omega) (by omega) (by omega) (by omega)).z d13 (by omega) (by omega) (by omega) (by omega)).z d16 (by omega) (by omega) (by omega) (by omega)) (fun f f8 f11 f15 => by rw [d16, zst_o f8, d13, zst_o f11, d10, zst_o f15]) (by rw [d16, zst_s]) (by rw [d16, zst_o (by omega), d13, zst_s]) ?_
        rw [d16, zst_o (by omega), d13, zst_o (by omega), d10, zst_s, h15, wVF, if_neg (by omega)]
      · rw [h8]
        refine c_byteAt G hS hx hB hp (fun im14 d14 im17 d17 im20 d20 => ?_)
        rw [bA_y hlt, h15, zwl_of (by omega) (by omega)] at d14
        have k11 : im14 a 11 = ((p - s : Nat) : Int) := by rw [d14, zst_o (by omega)]; exact h11
        rw [k11, zwS (by omega)] at d17
        have k8 : im17 a 8 = p := by rw [d17, zst_o (by omega), d14, zst_o (by omega)]; exact h8
        rw [k8, zwS (by omega)] at d20
        refine go im20 (((frM.i.z d14 (by omega) (by omega) (by omega) (by omega)).z d17 (by omega) (by omega) (by omega) (by omega)).z d20 (by omega) (by omega) (by omega) (by omega)) (fun f f8 f11 f15 => by rw [d20, zst_o f8, d17, zst_o f11, d14, zst_o f15]) (by rw [d20, zst_s]) (by rw [d20, zst_o (by omega), d17, zst_s]) ?_
        rw [d20, zst_o (by omega), d17, zst_o (by omega), d14, zst_s, wVF, if_pos (by omega), e2]
    · have hn : ¬ (p < x.2 ∧ isLt (x.1 p) = true) := fun hh => h1 (by rw [bA_y hh.1]; exact hh.2)
      exact hQ im .i (fun _ _ _ _ => rfl) (by rw [rnP_n hn]; exact h8) (by rw [rnP_n hn]; exact h11) (by rw [rnP_n hn]; exact h15)
theorem c_rn_loop (G : zOK g) (hS : zS_M S a) (hx : xB x) {s : Nat} {Q : zIm → Prop} : ∀ (f p : Nat) (im : zIm), x.2 - p < f → s ≤ p → p ≤ x.2 → (∀ j, s ≤ j → j < p → isDg (x.1 j) = true) → rB a x im → im a 8 = p → im a 12 = nvF x.1 s (p - s) → (∀ im', frM a im im' → (∀ f, f ≠ 8 → f ≠ 12 → im' a f = im a f) → im' a 8 = rnP isDg x.1 x.2 p → im' a 12 = nvF x.1 s (rnP isDg x.1 x.2 p - s) → Q im') → zPV g M_X8_nextToken 187 [(0, .ref a)] S im Q := by
  have hx0 := hx.1
  intro f
  induction f with
  | zero => intro p im hf; exact absurd hf (by omega)
  | succ f ih =>
    intro p im hf hs hp hd hB h8 h12 hQ
    have bd := bA_bd hx p
    refine v_X8_nextToken_187 G hS ?_
    rw [h8]
    refine c_byteAt G hS hx hB hp ?_
    refine c_isDg G (zc_of (by omega) (by omega)) (fun h1 => ⟨fun h => absurd h (by decide), fun _ => ?_⟩) (fun h1 => ⟨fun _ => ?_, fun h => absurd rfl h⟩)
    · have hl := isDg_t.1 h1
      have hlt : p < x.2 := by omega
      rw [bA_y hlt] at h1 hl
      have hv := nvF_bd (tx := x.1) (s := s) (p - s) (fun j hj => isDg_t.1 (hd (s + j) (by omega) (by omega)))
      have e1 : p + 1 - s = (p - s) + 1 := by omega
      have e2 : s + (p - s) = p := by omega
      have go (im20 : zIm) (f1 : frM a im im20) (q1 : ∀ f, f ≠ 8 → f ≠ 12 → im20 a f = im a f) (k8 : im20 a 8 = ((p + 1 : Nat) : Int)) (k12 : im20 a 12 = nvF x.1 s (p - s + 1)) : zPV g M_X8_nextToken 187 [(0, .ref a)] S im20 Q := by
        refine ih (p + 1) im20 (by omega) (by omega) (by omega) (fun j j0 j1 => ?_) (hB.f f1) k8 (by rw [e1]; exact k12) (fun im' r1 r2 r3 r4 => hQ im' (f1.t r1) (fun f f8 f12 => by rw [r2 f f8 f12, q1 f f8 f12]) ?_ ?_)
        · by_cases e : j = p
          · rw [e]; exact h1
          · exact hd j j0 (by omega)
        · rw [rnP_y hlt h1]; exact r3
        · rw [rnP_y hlt h1]; exact r4
      refine ⟨fun h88 => ?_, fun h88 im10 d10 im13 d13 => ?_⟩
      · rw [h8]
        refine c_byteAt G hS hx hB hp (fun im14 d14 im17 d17 => ?_)
        rw [bA_y hlt, h12, zw_of (by omega) (by omega)] at d14
        have k8 : im14 a 8 = p := by rw [d14, zst_o (by omega)]; exact h8
        rw [k8, zwS (by omega)] at d17
        refine go im17 ((frM.i.z d14 (by omega) (by omega) (by omega) (by omega)).z d17 (by omega) (by omega) (by omega) (by omega)) (fun f f8 f12 => by rw [d17, zst_o f8, d14, zst_o f12]) (by rw [d17, zst_s]) ?_
        rw [d17, zst_o (by omega), d14, zst_s, nvF, if_neg (by omega), e2]
      · have k8 : im10 a 8 = p := by rw [d10, zst_o (by omega)]; exact h8
        rw [k8, zwS (by omega)] at d13
        refine go im13 ((frM.i.z d10 (by omega) (by omega) (by omega) (by omega)).z d13 (by omega) (by omega) (by omega) (by omega)) (fun f f8 f12 => by rw [d13, zst_o f8, d10, zst_o f12]) (by rw [d13, zst_s]) ?_
        rw [d13, zst_o (by omega), d10, zst_s, h12, nvF, if_pos (by omega)]
    · have hn : ¬ (p < x.2 ∧ isDg (x.1 p) = true) := fun hh => h1 (by rw [bA_y hh.1]; exact hh.2)
      exact hQ im .i (fun _ _ _ => rfl) (by rw [rnP_n hn]; exact h8) (by rw [rnP_n hn]; exact h12)
theorem c_nt_loop (G : zOK g) (hS : zS_M S a) (hx : xB x) {q : Nat} {Q : zIm → Prop} : ∀ (f p : Nat) (im : zIm), x.2 - p < f → p ≤ x.2 → rB a x im → im a 8 = p → tS x q = rnP isBl x.1 x.2 p → (∀ im', frM a im im' → mT a x im' q → Q im') → zPV g M_X8_nextToken 0 [(0, .ref a)] S im Q := by
  intro f
  induction f with
  | zero => intro p im hf; exact absurd hf (by omega)
  | succ f ih =>
    intro p im hf hp hB h8 hq hQ
    refine v_X8_nextToken_0 G hS ?_
    have hx0 := hx.1
    have bd := bA_bd hx p
    rw [h8]
    refine c_byteAt G hS hx hB hp ?_
    have bl (c : Int) (hc : c = 32 ∨ c = 10) (h1 : bA x p = c) (im6 : zIm) (e6 : im6 = zst im a 8 (zw ((im a 8) + 1))) : zPV g M_X8_nextToken 0 [(0, .ref a)] S im6 Q := by
      have hlt : p < x.2 := by omega
      have hb : isBl (x.1 p) = true := by rw [isBl_t, ← bA_y hlt]; omega
      rw [h8, zwS (by omega)] at e6
      have f1 : frM a im im6 := frM.i.z e6 (by omega) (by omega) (by omega) (by omega)
      exact ih (p + 1) im6 (by omega) (by omega) (hB.f f1) (by rw [e6, zst_s]) (by rw [hq, rnP_y hlt hb]) (fun im' q1 q2 => hQ im' (f1.t q1) q2)
    refine ⟨fun h32 im6 e6 => bl 32 (Or.inl rfl) h32 im6 e6, fun h32 => ?_⟩
    rw [h8]
    refine c_byteAt G hS hx hB hp ⟨fun h10 im10 e10 im12 e12 im14 e14 im16 e16 => ?_, fun h10 im10 e10 => bl 10 (Or.inr rfl) h10 im10 e10⟩
    have es : tS x q = p := by
      rw [hq]
      exact rnP_n (fun hh => by have := isBl_t.1 hh.2; rw [← bA_y hh.1] at this; omega)
    rw [h8] at e10
    have f1 := (((frM.i.z e10 (by omega) (by omega) (by omega) (by omega)).z e12 (by omega) (by omega) (by omega) (by omega)).z e14 (by omega) (by omega) (by omega) (by omega)).z e16 (by omega) (by omega) (by omega) (by omega)
    have k8 : im16 a 8 = p := by rw [e16, zst_o (by omega), e14, zst_o (by omega), e12, zst_o (by omega), e10, zst_o (by omega)]; exact h8
    have k9 : im16 a 9 = p := by rw [e16, zst_o (by omega), e14, zst_o (by omega), e12, zst_o (by omega), e10, zst_s]
    have k11 : im16 a 11 = 0 := by rw [e16, zst_o (by omega), e14, zst_o (by omega), e12, zst_s]
    have k15 : im16 a 15 = 0 := by rw [e16, zst_o (by omega), e14, zst_s]
    have k12 : im16 a 12 = 0 := by rw [e16, zst_s]
    have B1 := hB.f f1
    rw [k8]
    refine c_byteAt G hS hx B1 hp ⟨fun hn => ?_, fun hn im22 e22 => ?_⟩
    · have hlt : p < x.2 := by omega
      have hpn : tS x q < x.2 := by rw [es]; exact hlt
      rw [bA_y hlt]
      rw [bA_y hlt] at bd
      refine c_isLt G (zc_of (by omega) (by omega)) (fun h1 => ⟨fun h => absurd h (by decide), fun _ im25 e25 => ?_⟩) (fun h1 => ⟨fun _ => ?_, fun h => absurd rfl h⟩)
      · have f2 := f1.z e25 (by omega) (by omega) (by omega) (by omega)
        have ek : tK x q = 1 := by unfold tK; rw [if_pos hpn, es, if_pos h1]
        have ee : tE x q = rnP isLt x.1 x.2 p := by unfold tE; rw [if_pos hpn, es, if_pos h1]
        refine c_rw_loop G hS hx (s := p) _ p im25 (Nat.lt_succ_self _) (Nat.le_refl _) hp (fun j j0 j1 => absurd j0 (by omega)) (hB.f f2) (by rw [e25, zst_o (by omega)]; exact k8) (by rw [e25, zst_o (by omega), k11, Nat.sub_self]; rfl) (by rw [e25, zst_o (by omega), k15, Nat.sub_self]; rfl) (fun im' q1 q2 q3 q4 q5 => hQ im' (f2.t q1) ⟨?_, ?_, ?_, ?_, fun _ => ⟨?_, ?_⟩⟩)
        · rw [q3, ee]
        · rw [q2 9 (by omega) (by omega) (by omega), e25, zst_o (by omega), k9, es]
        · rw [q2 10 (by omega) (by omega) (by omega), e25, zst_s, ek]; rfl
        · rw [q2 12 (by omega) (by omega) (by omega), e25, zst_o (by omega), k12]; unfold tV; rw [ek, if_neg (by decide)]
        · rw [q4, ee, es]
        · rw [q5, ee, es]
      · refine c_isDg G (zc_of (by omega) (by omega)) (fun h2 => ⟨fun h => absurd h (by decide), fun _ im28 e28 => ?_⟩) (fun h2 => ⟨fun _ => ?_, fun h => absurd rfl h⟩)
        · have f2 := f1.z e28 (by omega) (by omega) (by omega) (by omega)
          have ek : tK x q = 2 := by unfold tK; rw [if_pos hpn, es, if_neg h1, if_pos h2]
          have ee : tE x q = rnP isDg x.1 x.2 p := by unfold tE; rw [if_pos hpn, es, if_neg h1, if_pos h2]
          refine c_rn_loop G hS hx (s := p) _ p im28 (Nat.lt_succ_self _) (Nat.le_refl _) hp (fun j j0 j1 => absurd j0 (by omega)) (hB.f f2) (by rw [e28, zst_o (by omega)]; exact k8) (by rw [e28, zst_o (by omega), k12, Nat.sub_self]; rfl) (fun im' q1 q2 q3 q4 => hQ im' (f2.t q1) ⟨?_, ?_, ?_, ?_, fun h => absurd (ek ▸ h) (by decide)⟩)
          · rw [q3, ee]
          · rw [q2 9 (by omega) (by omega), e28, zst_o (by omega), k9, es]
          · rw [q2 10 (by omega) (by omega), e28, zst_s, ek]; rfl
          · rw [q4]; unfold tV; rw [if_pos ek, ee, es]
        · have ee : tE x q = p + 1 := by unfold tE; rw [if_pos hpn, es, if_neg h1, if_neg h2]
          have fin (im28 im31 : zIm) (v : Int) (hv : rK (tK x q) = v) (h1' : tK x q ≠ 1) (h2' : tK x q ≠ 2) (d28 : im28 = zst im16 a 10 v) (d31 : im31 = zst im28 a 8 (zw ((im28 a 8) + 1))) : Q im31 := by
            have k8' : im28 a 8 = p := by rw [d28, zst_o (by omega)]; exact k8
            rw [k8', zwS (by omega)] at d31
            refine hQ im31 ((f1.z d28 (by omega) (by omega) (by omega) (by omega)).z d31 (by omega) (by omega) (by omega) (by omega)) ⟨?_, ?_, ?_, ?_, fun h => absurd h h1'⟩
            · rw [d31, zst_s, ee]
            · rw [d31, zst_o (by omega), d28, zst_o (by omega), k9, es]
            · rw [d31, zst_o (by omega), d28, zst_s, hv]
            · rw [d31, zst_o (by omega), d28, zst_o (by omega), k12]; unfold tV; rw [if_neg h2']
          refine ⟨fun h3 im28 d28 im31 d31 => ?_, fun h3 im28 d28 im31 d31 => ?_⟩
          · have ek : tK x q = 4 := by unfold tK; rw [if_pos hpn, es, if_neg h1, if_neg h2, if_neg h3]
            exact fin im28 im31 1 (by rw [ek]; rfl) (by rw [ek]; decide) (by rw [ek]; decide) d28 d31
          · have ek : tK x q = 3 := by unfold tK; rw [if_pos hpn, es, if_neg h1, if_neg h2, if_pos h3]
            exact fin im28 im31 4 (by rw [ek]; rfl) (by rw [ek]; decide) (by rw [ek]; decide) d28 d31
    · have hpn : ¬ tS x q < x.2 := by rw [es]; exact bd.2.2.1 hn
      have ek : tK x q = 0 := by unfold tK; rw [if_neg hpn]
      refine hQ im22 (f1.z e22 (by omega) (by omega) (by omega) (by omega)) ⟨?_, ?_, ?_, ?_, fun h => absurd (ek ▸ h) (by decide)⟩
      · rw [e22, zst_o (by omega), k8]; unfold tE; rw [if_neg hpn, es]
      · rw [e22, zst_o (by omega), k9, es]
      · rw [e22, zst_s, ek]; rfl
      · rw [e22, zst_o (by omega), k12]; unfold tV; rw [ek, if_neg (by decide)]
theorem c_nextToken (G : zOK g) (hS : zS_M S a) (hx : xB x) {p : Nat} {im : zIm} (hp : p ≤ x.2) (hB : rB a x im) (h8 : im a 8 = p) {Q : zIm → Prop} (hQ : ∀ im', frM a im im' → mT a x im' p → Q im') : zCV g yX8_nextToken M_X8_nextToken [.ref a] S im Q := by
  refine v_X8_nextToken G hS ?_
  obtain ⟨q, eq⟩ : ∃ q, q = p := ⟨p, rfl⟩
  have hq : tS x q = rnP isBl x.1 x.2 p := by rw [eq]; rfl
  rw [← eq] at hQ
  have hx0 := hx.1
  have bd := bA_bd hx p
  rw [h8]
  refine c_byteAt G hS hx hB hp ?_
  have bl (c : Int) (hc : c = 32 ∨ c = 10) (h1 : bA x p = c) (im6 : zIm) (e6 : im6 = zst im a 8 (zw ((im a 8) + 1))) : zPV g M_X8_nextToken 0 [(0, .ref a)] S im6 Q := by
    have hlt : p < x.2 := by omega
    have hb : isBl (x.1 p) = true := by rw [isBl_t, ← bA_y hlt]; omega
    rw [h8, zwS (by omega)] at e6
    have f1 : frM a im im6 := frM.i.z e6 (by omega) (by omega) (by omega) (by omega)
    exact c_nt_loop G hS hx (q := q) _ (p + 1) im6 (Nat.lt_succ_self _) (by omega) (hB.f f1) (by rw [e6, zst_s]) (by rw [hq, rnP_y hlt hb]) (fun im' q1 q2 => hQ im' (f1.t q1) q2)
  refine ⟨fun h32 im6 e6 => bl 32 (Or.inl rfl) h32 im6 e6, fun h32 => ?_⟩
  rw [h8]
  refine c_byteAt G hS hx hB hp ⟨fun h10 im10 e10 im12 e12 im14 e14 im16 e16 => ?_, fun h10 im10 e10 => bl 10 (Or.inr rfl) h10 im10 e10⟩
  have es : tS x q = p := by
    rw [hq]
    exact rnP_n (fun hh => by have := isBl_t.1 hh.2; rw [← bA_y hh.1] at this; omega)
  rw [h8] at e10
  have f1 := (((frM.i.z e10 (by omega) (by omega) (by omega) (by omega)).z e12 (by omega) (by omega) (by omega) (by omega)).z e14 (by omega) (by omega) (by omega) (by omega)).z e16 (by omega) (by omega) (by omega) (by omega)
  have k8 : im16 a 8 = p := by rw [e16, zst_o (by omega), e14, zst_o (by omega), e12, zst_o (by omega), e10, zst_o (by omega)]; exact h8
  have k9 : im16 a 9 = p := by rw [e16, zst_o (by omega), e14, zst_o (by omega), e12, zst_o (by omega), e10, zst_s]
  have k11 : im16 a 11 = 0 := by rw [e16, zst_o (by omega), e14, zst_o (by omega), e12, zst_s]
  have k15 : im16 a 15 = 0 := by rw [e16, zst_o (by omega), e14, zst_s]
  have k12 : im16 a 12 = 0 := by rw [e16, zst_s]
  have B1 := hB.f f1
  rw [k8]
  refine c_byteAt G hS hx B1 hp ⟨fun hn => ?_, fun hn im22 e22 => ?_⟩
  · have hlt : p < x.2 := by omega
    have hpn : tS x q < x.2 := by rw [es]; exact hlt
    rw [bA_y hlt]
    rw [bA_y hlt] at bd
    refine c_isLt G (zc_of (by omega) (by omega)) (fun h1 => ⟨fun h => absurd h (by decide), fun _ im25 e25 => ?_⟩) (fun h1 => ⟨fun _ => ?_, fun h => absurd rfl h⟩)
    · have f2 := f1.z e25 (by omega) (by omega) (by omega) (by omega)
      have ek : tK x q = 1 := by unfold tK; rw [if_pos hpn, es, if_pos h1]
      have ee : tE x q = rnP isLt x.1 x.2 p := by unfold tE; rw [if_pos hpn, es, if_pos h1]
      refine c_rw_loop G hS hx (s := p) _ p im25 (Nat.lt_succ_self _) (Nat.le_refl _) hp (fun j j0 j1 => absurd j0 (by omega)) (hB.f f2) (by rw [e25, zst_o (by omega)]; exact k8) (by rw [e25, zst_o (by omega), k11, Nat.sub_self]; rfl) (by rw [e25, zst_o (by omega), k15, Nat.sub_self]; rfl) (fun im' q1 q2 q3 q4 q5 => hQ im' (f2.t q1) ⟨?_, ?_, ?_, ?_, fun _ => ⟨?_, ?_⟩⟩)
      · rw [q3, ee]
      · rw [q2 9 (by omega) (by omega) (by omega), e25, zst_o (by omega), k9, es]
      · rw [q2 10 (by omega) (by omega) (by omega), e25, zst_s, ek]; rfl
      · rw [q2 12 (by omega) (by omega) (by omega), e25, zst_o (by omega), k12]; unfold tV; rw [ek, if_neg (by decide)]
      · rw [q4, ee, es]
      · rw [q5, ee, es]
    · refine c_isDg G (zc_of (by omega) (by omega)) (fun h2 => ⟨fun h => absurd h (by decide), fun _ im28 e28 => ?_⟩) (fun h2 => ⟨fun _ => ?_, fun h => absurd rfl h⟩)
      · have f2 := f1.z e28 (by omega) (by omega) (by omega) (by omega)
        have ek : tK x q = 2 := by unfold tK; rw [if_pos hpn, es, if_neg h1, if_pos h2]
        have ee : tE x q = rnP isDg x.1 x.2 p := by unfold tE; rw [if_pos hpn, es, if_neg h1, if_pos h2]
        refine c_rn_loop G hS hx (s := p) _ p im28 (Nat.lt_succ_self _) (Nat.le_refl _) hp (fun j j0 j1 => absurd j0 (by omega)) (hB.f f2) (by rw [e28, zst_o (by omega)]; exact k8) (by rw [e28, zst_o (by omega), k12, Nat.sub_self]; rfl) (fun im' q1 q2 q3 q4 => hQ im' (f2.t q1) ⟨?_, ?_, ?_, ?_, fun h => absurd (ek ▸ h) (by decide)⟩)
        · rw [q3, ee]
        · rw [q2 9 (by omega) (by omega), e28, zst_o (by omega), k9, es]
        · rw [q2 10 (by omega) (by omega), e28, zst_s, ek]; rfl
        · rw [q4]; unfold tV; rw [if_pos ek, ee, es]
      · have ee : tE x q = p + 1 := by unfold tE; rw [if_pos hpn, es, if_neg h1, if_neg h2]
        have fin (im28 im31 : zIm) (v : Int) (hv : rK (tK x q) = v) (h1' : tK x q ≠ 1) (h2' : tK x q ≠ 2) (d28 : im28 = zst im16 a 10 v) (d31 : im31 = zst im28 a 8 (zw ((im28 a 8) + 1))) : Q im31 := by
          have k8' : im28 a 8 = p := by rw [d28, zst_o (by omega)]; exact k8
          rw [k8', zwS (by omega)] at d31
          refine hQ im31 ((f1.z d28 (by omega) (by omega) (by omega) (by omega)).z d31 (by omega) (by omega) (by omega) (by omega)) ⟨?_, ?_, ?_, ?_, fun h => absurd h h1'⟩
          · rw [d31, zst_s, ee]
          · rw [d31, zst_o (by omega), d28, zst_o (by omega), k9, es]
          · rw [d31, zst_o (by omega), d28, zst_s, hv]
          · rw [d31, zst_o (by omega), d28, zst_o (by omega), k12]; unfold tV; rw [if_neg h2']
        refine ⟨fun h3 im28 d28 im31 d31 => ?_, fun h3 im28 d28 im31 d31 => ?_⟩
        · have ek : tK x q = 4 := by unfold tK; rw [if_pos hpn, es, if_neg h1, if_neg h2, if_neg h3]
          exact fin im28 im31 1 (by rw [ek]; rfl) (by rw [ek]; decide) (by rw [ek]; decide) d28 d31
        · have ek : tK x q = 3 := by unfold tK; rw [if_pos hpn, es, if_neg h1, if_neg h2, if_pos h3]
          exact fin im28 im31 4 (by rw [ek]; rfl) (by rw [ek]; decide) (by rw [ek]; decide) d28 d31
  · have hpn : ¬ tS x q < x.2 := by rw [es]; exact bd.2.2.1 hn
    have ek : tK x q = 0 := by unfold tK; rw [if_neg hpn]
    refine hQ im22 (f1.z e22 (by omega) (by omega) (by omega) (by omega)) ⟨?_, ?_, ?_, ?_, fun h => absurd (ek ▸ h) (by decide)⟩
    · rw [e22, zst_o (by omega), k8]; unfold tE; rw [if_neg hpn, es]
    · rw [e22, zst_o (by omega), k9, es]
    · rw [e22, zst_s, ek]; rfl
    · rw [e22, zst_o (by omega), k12]; unfold tV; rw [ek, if_neg (by decide)]
end TR
