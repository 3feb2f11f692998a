/-! texts: bytes, tokens -/
def isBl (c : Int) : Bool := decide (c = 32) || decide (c = 10)
def isLt (c : Int) : Bool := decide (97 ≤ c) && decide (c ≤ 122)
def isDg (c : Int) : Bool := decide (48 ≤ c) && decide (c ≤ 57)
theorem isBl_t {c : Int} : isBl c = true ↔ (c = 32 ∨ c = 10) := by simp [isBl]
theorem isLt_t {c : Int} : isLt c = true ↔ (97 ≤ c ∧ c ≤ 122) := by simp [isLt]
theorem isDg_t {c : Int} : isDg c = true ↔ (48 ≤ c ∧ c ≤ 57) := by simp [isDg]
def skp (P : Int → Bool) (tx : aR) (n : Nat) : Nat → Nat → Nat
  | 0, p => p
  | f + 1, p => if p < n ∧ P (tx p) = true then skp P tx n f (p + 1) else p
def rnP (P : Int → Bool) (tx : aR) (n p : Nat) : Nat := skp P tx n (n - p) p
theorem rnP_y {P : Int → Bool} {tx : aR} {n p : Nat} (h : p < n) (h' : P (tx p) = true) : rnP P tx n p = rnP P tx n (p + 1) := by
  unfold rnP
  obtain ⟨f, e⟩ : ∃ f, n - p = f + 1 := ⟨n - p - 1, by omega⟩
  rw [e, skp, if_pos ⟨h, h'⟩, show n - (p + 1) = f from by omega]
theorem rnP_n {P : Int → Bool} {tx : aR} {n p : Nat} (h : ¬ (p < n ∧ P (tx p) = true)) : rnP P tx n p = p := by
  unfold rnP
  cases n - p with
  | zero => rfl
  | succ f => rw [skp, if_neg h]
theorem rnP_bd {P : Int → Bool} {tx : aR} {n : Nat} : ∀ (f p : Nat), n - p = f → p ≤ n → p ≤ rnP P tx n p ∧ rnP P tx n p ≤ n ∧ (∀ j, p ≤ j → j < rnP P tx n p → P (tx j) = true) ∧ (rnP P tx n p < n → ¬ P (tx (rnP P tx n p)) = true) := by
  intro f
  induction f with
  | zero =>
    intro p hf hp
    rw [rnP_n (by omega)]
    exact ⟨by omega, by omega, fun j j0 j1 => absurd j0 (by omega), fun h => absurd h (by omega)⟩
  | succ f ih =>
    intro p hf hp
    by_cases h : P (tx p) = true
    · rw [rnP_y (by omega) h]
      obtain ⟨a1, a2, a3, a4⟩ := ih (p + 1) (by omega) (by omega)
      refine ⟨by omega, a2, fun j j0 j1 => ?_, a4⟩
      by_cases e : j = p
      · rw [e]; exact h
      · exact a3 j (by omega) j1
    · rw [rnP_n (fun hh => h hh.2)]
      exact ⟨by omega, by omega, fun j j0 j1 => absurd j0 (by omega), fun _ => h⟩
abbrev aX : Type := aR × Nat
def xB (x : aX) : Prop := x.2 ≤ 500 ∧ ∀ j, 0 ≤ j → j < x.2 → 0 ≤ x.1 j ∧ x.1 j ≤ 255
def tS (x : aX) (q : Nat) : Nat := rnP isBl x.1 x.2 q
def tK (x : aX) (q : Nat) : Int := if tS x q < x.2 then (if isLt (x.1 (tS x q)) = true then 1 else if isDg (x.1 (tS x q)) = true then 2 else if x.1 (tS x q) = 59 then 3 else 4) else 0
def tE (x : aX) (q : Nat) : Nat := if tS x q < x.2 then (if isLt (x.1 (tS x q)) = true then rnP isLt x.1 x.2 (tS x q) else if isDg (x.1 (tS x q)) = true then rnP isDg x.1 x.2 (tS x q) else tS x q + 1) else tS x q
def nvF (tx : aR) (s : Nat) : Nat → Int
  | 0 => 0
  | k + 1 => if 9999 < nvF tx s k then nvF tx s k else 10 * nvF tx s k + tx ((s + k : Nat) : Int) - 48
def tV (x : aX) (q : Nat) : Int := if tK x q = 2 then nvF x.1 (tS x q) (tE x q - tS x q) else 0
theorem nvF_bd {tx : aR} {s : Nat} : ∀ k, (∀ j, j < k → 48 ≤ tx ((s + j : Nat) : Int) ∧ tx ((s + j : Nat) : Int) ≤ 57) → 0 ≤ nvF tx s k ∧ nvF tx s k ≤ 100000 := by
  intro k
  induction k with
  | zero => intro _; simp [nvF]
  | succ k ih =>
    intro h
    have i := ih (fun j hj => h j (by omega))
    have d := h k (by omega)
    rw [nvF]
    split <;> omega
section TP
variable {x : aX} {q : Nat}
theorem tS_bd (h : q ≤ x.2) : q ≤ tS x q ∧ tS x q ≤ x.2 := by
  have := rnP_bd (P := isBl) (tx := x.1) (n := x.2) _ q rfl h
  exact ⟨this.1, this.2.1⟩
theorem tE_bd (h : q ≤ x.2) : tS x q ≤ tE x q ∧ tE x q ≤ x.2 ∧ (tK x q ≠ 0 → tS x q < tE x q) ∧ (tK x q = 0 → tE x q = tS x q) := by
  have s := tS_bd h
  unfold tE tK
  by_cases h1 : tS x q < x.2
  · rw [if_pos h1, if_pos h1]
    by_cases h2 : isLt (x.1 (tS x q)) = true
    · rw [if_pos h2, if_pos h2, rnP_y h1 h2]
      have := rnP_bd (P := isLt) (tx := x.1) (n := x.2) _ (tS x q + 1) rfl (by omega)
      exact ⟨by omega, this.2.1, fun _ => by omega, fun h => absurd h (by decide)⟩
    · rw [if_neg h2, if_neg h2]
      by_cases h3 : isDg (x.1 (tS x q)) = true
      · rw [if_pos h3, if_pos h3, rnP_y h1 h3]
        have := rnP_bd (P := isDg) (tx := x.1) (n := x.2) _ (tS x q + 1) rfl (by omega)
        exact ⟨by omega, this.2.1, fun _ => by omega, fun h => absurd h (by decide)⟩
      · rw [if_neg h3, if_neg h3]
        refine ⟨by omega, by omega, fun _ => by omega, fun h => ?_⟩
        split at h <;> exact absurd h (by decide)
  · rw [if_neg h1, if_neg h1]
    exact ⟨by omega, s.2, fun h => absurd rfl h, fun _ => rfl⟩
theorem tK_w (h : q ≤ x.2) (hk : tK x q = 1) : ∀ j, tS x q ≤ j → j < tE x q → isLt (x.1 j) = true := by
  unfold tK at hk
  unfold tE
  by_cases h1 : tS x q < x.2
  · rw [if_pos h1] at hk ⊢
    by_cases h2 : isLt (x.1 (tS x q)) = true
    · rw [if_pos h2]
      exact (rnP_bd (P := isLt) (tx := x.1) (n := x.2) _ (tS x q) rfl (by omega)).2.2.1
    · rw [if_neg h2] at hk
      split at hk
      · exact absurd hk (by decide)
      · split at hk <;> exact absurd hk (by decide)
  · rw [if_neg h1] at hk; exact absurd hk (by decide)
theorem tK_n (h : q ≤ x.2) (hk : tK x q = 2) : ∀ j, tS x q ≤ j → j < tE x q → isDg (x.1 j) = true := by
  unfold tK at hk
  unfold tE
  by_cases h1 : tS x q < x.2
  · rw [if_pos h1] at hk ⊢
    by_cases h2 : isLt (x.1 (tS x q)) = true
    · rw [if_pos h2] at hk; exact absurd hk (by decide)
    · rw [if_neg h2] at hk ⊢
      by_cases h3 : isDg (x.1 (tS x q)) = true
      · rw [if_pos h3]
        exact (rnP_bd (P := isDg) (tx := x.1) (n := x.2) _ (tS x q) rfl (by omega)).2.2.1
      · rw [if_neg h3] at hk
        split at hk <;> exact absurd hk (by decide)
  · rw [if_neg h1] at hk; exact absurd hk (by decide)
theorem tV_bd (h : q ≤ x.2) : 0 ≤ tV x q ∧ tV x q ≤ 100000 := by
  unfold tV
  split
  · rename_i hk
    refine nvF_bd _ (fun j hj => ?_)
    have := isDg_t.1 (tK_n h hk (tS x q + j) (by omega) (by omega))
    exact this
  · omega
end TP
/-! the class's tokens -/
def tB (t : Nat) (x : aX) (im : zIm) : Prop := im t 0 = x.2 ∧ ∀ j, 0 ≤ j → j < x.2 → im (t + 1) j = Int.bmod (x.1 j) 256
def cT (t : Nat) (x : aX) (im : zIm) (q : Nat) : Prop := im t 5 = tE x q ∧ im t 6 = tK x q ∧ im t 7 = tS x q ∧ (tK x q = 2 → im t 8 = min 1000 (tV x q))
def frT (t : Nat) (im im' : zIm) : Prop := (∀ b, b ≠ t → im' b = im b) ∧ ∀ f, (f < 5 ∨ 8 < f) → im' t f = im t f
theorem frT.i {t : Nat} {im : zIm} : frT t im im := ⟨fun _ _ => rfl, fun _ _ => rfl⟩
theorem frT.z {t : Nat} {im im' im'' : zIm} {k v : Int} (h : frT t im im') (e : im'' = zst im' t k v) (k0 : 5 ≤ k) (k1 : k ≤ 8) : frT t im im'' :=
  ⟨fun b hb => by rw [e, zst_n hb]; exact h.1 b hb, fun f hf => by rw [e, zst_at, if_neg (by omega)]; exact h.2 f hf⟩
theorem frT.t {t : Nat} {im im' im'' : zIm} (h : frT t im im') (h' : frT t im' im'') : frT t im im'' :=
  ⟨fun b hb => by rw [h'.1 b hb]; exact h.1 b hb, fun f hf => by rw [h'.2 f hf]; exact h.2 f hf⟩
theorem tB.f {t : Nat} {x : aX} {im im' : zIm} (h : tB t x im) (f : frT t im im') : tB t x im' :=
  ⟨by rw [f.2 0 (by omega)]; exact h.1, fun j j0 j1 => by rw [f.1 (t + 1) (by omega)]; exact h.2 j j0 j1⟩
theorem zst_s {im : zIm} {a : Nat} {i v : Int} : zst im a i v a i = v := by rw [zst_at, if_pos ⟨rfl, rfl⟩]
theorem zst_o {im : zIm} {a : Nat} {i j v : Int} (h : j ≠ i) : zst im a i v a j = im a j := by rw [zst_at, if_neg (fun hh => h hh.2)]
theorem bmLo {c : Int} (h0 : 0 ≤ c) (h1 : c ≤ 255) : (c < 128 → Int.bmod c 256 = c) ∧ (128 ≤ c → Int.bmod c 256 = c - 256) := by
  unfold Int.bmod
  have e : c % ((256 : Nat) : Int) = c := by omega
  rw [e]
  refine ⟨fun h => by rw [if_pos (by omega)], fun h => by rw [if_neg (by omega)]; rfl⟩
theorem bmEq {c k : Int} (h0 : 0 ≤ c) (h1 : c ≤ 255) (k0 : 0 ≤ k) (k1 : k < 128) : Int.bmod c 256 = k ↔ c = k := by
  have := bmLo h0 h1
  omega
theorem bmRg {c : Int} (h0 : 0 ≤ c) (h1 : c ≤ 255) : -128 ≤ Int.bmod c 256 ∧ Int.bmod c 256 < 128 := by
  have := bmLo h0 h1
  omega
section TC
variable {g : zG} {S : zSh} {t : Nat} {x : aX}
theorem k_isLt (G : zOK g) {im : zIm} {c : Int} (h0 : 0 ≤ c) (h1 : c ≤ 255) {Q : Int → zIm → Prop} (ht : isLt c = true → Q 1 im) (hf : ¬ isLt c = true → Q 0 im) : zCI g yX5_isLetter M_X5_isLetter [.int (zi (Int.bmod c 256))] S im Q := by
  have b := bmLo h0 h1
  have r := bmRg h0 h1
  rw [isLt_t] at ht hf
  exact v_X5_isLetter G (zc_of (by omega) (by omega)) ⟨fun h => hf (by omega), fun h => ⟨fun h' => hf (by omega), fun h' => ht (by omega)⟩⟩
theorem k_isDg (G : zOK g) {im : zIm} {c : Int} (h0 : 0 ≤ c) (h1 : c ≤ 255) {Q : Int → zIm → Prop} (ht : isDg c = true → Q 1 im) (hf : ¬ isDg c = true → Q 0 im) : zCI g yX5_isDigit M_X5_isDigit [.int (zi (Int.bmod c 256))] S im Q := by
  have b := bmLo h0 h1
  have r := bmRg h0 h1
  rw [isDg_t] at ht hf
  exact v_X5_isDigit G (zc_of (by omega) (by omega)) ⟨fun h => hf (by omega), fun h => ⟨fun h' => hf (by omega), fun h' => ht (by omega)⟩⟩
theorem k_isBl (G : zOK g) {im : zIm} {c : Int} (h0 : 0 ≤ c) (h1 : c ≤ 255) {Q : Int → zIm → Prop} (ht : isBl c = true → Q 1 im) (hf : ¬ isBl c = true → Q 0 im) : zCI g yX5_isBlank M_X5_isBlank [.int (zi (Int.bmod c 256))] S im Q := by
  have b := bmLo h0 h1
  have r := bmRg h0 h1
  rw [isBl_t] at ht hf
  exact v_X5_isBlank G (zc_of (by omega) (by omega)) ⟨fun h => ht (by omega), fun h => ⟨fun h' => hf (by omega), fun h' => ht (by omega)⟩⟩
theorem k_rw_loop (G : zOK g) (hS : zS_T S t) (hx : xB x) {Q : zIm → Prop} : ∀ (f p : Nat) (im : zIm), x.2 - p = f → p ≤ x.2 → tB t x im → im t 5 = p → (∀ im', frT t im im' → (∀ f, f ≠ 5 → im' t f = im t f) → im' t 5 = rnP isLt x.1 x.2 p → Q im') → zPV g M_X5_readWord 5 [(0, .ref t)] S im Q := by
  have hx0 := hx.1
  intro f
  induction f with
  | zero =>
    intro p im hf hp hB h5 hQ
    have e0 := hB.1
    refine v_X5_readWord_5 G hS ⟨fun _ => hQ im .i (fun _ _ => rfl) (by rw [rnP_n (by omega)]; exact h5), fun h => absurd h (by omega)⟩
  | succ f ih =>
    intro p im hf hp hB h5 hQ
    have e0 := hB.1
    have hc := hx.2 p (by omega) (by omega)
    refine v_X5_readWord_5 G hS ⟨fun h => absurd h (by omega), fun _ => ⟨⟨by omega, by omega⟩, ?_⟩⟩
    rw [h5, hB.2 p (by omega) (by omega)]
    refine k_isLt G hc.1 hc.2 (fun h1 => ⟨fun h => absurd h (by decide), fun _ im10 e10 => ?_⟩) (fun h1 => ⟨fun _ => hQ im .i (fun _ _ => rfl) (by rw [rnP_n (fun hh => h1 hh.2)]; exact h5), fun h => absurd rfl h⟩)
    rw [h5, zwS (by omega)] at e10
    have f1 : frT t im im10 := frT.i.z e10 (by omega) (by omega)
    refine ih (p + 1) im10 (by omega) (by omega) (hB.f f1) (by rw [e10, zst_s]) (fun im' q1 q2 q3 => hQ im' (f1.t q1) (fun f hf => by rw [q2 f hf, e10, zst_o hf]) ?_)
    rw [rnP_y (by omega) h1]
    exact q3
theorem k_rn_loop (G : zOK g) (hS : zS_T S t) (hx : xB x) {s : Nat} {Q : zIm → Prop} : ∀ (f p : Nat) (im : zIm), x.2 - p = f → s ≤ p → p ≤ x.2 → (∀ j, s ≤ j → j < p → isDg (x.1 j) = true) → tB t x im → im t 5 = p → im t 8 = min 1000 (nvF x.1 s (p - s)) → (∀ im', frT t im im' → (∀ f, f ≠ 5 → f ≠ 8 → im' t f = im t f) → im' t 5 = rnP isDg x.1 x.2 p → im' t 8 = min 1000 (nvF x.1 s (rnP isDg x.1 x.2 p - s)) → Q im') → zPV g M_X5_readNumber 10 [(0, .ref t)] S im Q := by
  have hx0 := hx.1
  intro f
  induction f with
  | zero =>
    intro p im hf hs hp hd hB h5 h8 hQ
    have e0 := hB.1
    refine v_X5_readNumber_10 G hS ⟨fun _ => hQ im .i (fun _ _ _ => rfl) (by rw [rnP_n (by omega)]; exact h5) (by rw [rnP_n (by omega)]; exact h8), fun h => absurd h (by omega)⟩
  | succ f ih =>
    intro p im hf hs hp hd hB h5 h8 hQ
    have e0 := hB.1
    have hc := hx.2 p (by omega) (by omega)
    have hv := nvF_bd (tx := x.1) (s := s) (p - s) (fun j hj => isDg_t.1 (hd (s + j) (by omega) (by omega)))
    refine v_X5_readNumber_10 G hS ⟨fun h => absurd h (by omega), fun _ => ⟨⟨by omega, by omega⟩, ?_⟩⟩
    rw [h5, hB.2 p (by omega) (by omega)]
    refine k_isDg G hc.1 hc.2 (fun h1 => ⟨fun h => absurd h (by decide), fun _ => ⟨⟨by omega, by omega⟩, fun im13 e13 im16 e16 => ?_⟩⟩) (fun h1 => ⟨fun _ => hQ im .i (fun _ _ _ => rfl) (by rw [rnP_n (fun hh => h1 hh.2)]; exact h5) (by rw [rnP_n (fun hh => h1 hh.2)]; exact h8), fun h => absurd rfl h⟩)
    have h1' := isDg_t.1 h1
    rw [h5, h8, hB.2 p (by omega) (by omega), (bmLo hc.1 hc.2).1 (by omega)] at e13
    have f1 : frT t im im13 := frT.i.z e13 (by omega) (by omega)
    have h5' : im13 t 5 = p := by rw [e13, zst_o (by omega)]; exact h5
    rw [h5', zwS (by omega)] at e16
    have f2 := f1.z e16 (by omega) (by omega)
    refine ih (p + 1) im16 (by omega) (by omega) (by omega) (fun j j0 j1 => ?_) (hB.f f2) (by rw [e16, zst_s]) ?_ (fun im' q1 q2 q3 q4 => hQ im' (f2.t q1) (fun f hf hf8 => by rw [q2 f hf hf8, e16, zst_o hf, e13, zst_o hf8]) ?_ ?_)
    · by_cases e : j = p
      · rw [e]; exact h1
      · exact hd j j0 (by omega)
    · rw [e16, zst_o (by omega), e13, zst_s, show p + 1 - s = (p - s) + 1 from by omega, nvF, show s + (p - s) = p from by omega, zw_of (by omega) (by omega)]
      split <;> omega
    · rw [rnP_y (by omega) h1]; exact q3
    · rw [rnP_y (by omega) h1]; exact q4
theorem k_nt_loop (G : zOK g) (hS : zS_T S t) (hx : xB x) {q : Nat} {Q : zIm → Prop} : ∀ (f p : Nat) (im : zIm), x.2 - p < f → p ≤ x.2 → tB t x im → im t 5 = p → tS x q = rnP isBl x.1 x.2 p → (∀ im', frT t im im' → cT t x im' q → Q im') → zPV g M_X5_nextToken 0 [(0, .ref t)] S im Q := by
  intro f
  induction f with
  | zero => intro p im hf; exact absurd hf (by omega)
  | succ f ih =>
    intro p im hf hp hB h5 hq hQ
    refine v_X5_nextToken_0 G hS ?_
    have hx0 := hx.1
    have e0 := hB.1
    have tl (im1 : zIm) (f1 : frT t im im1) (k5 : im1 t 5 = p) (k7 : im1 t 7 = p) (es : tS x q = p) : ((im1 t 5) < (im1 t 0) → ((0 ≤ (im1 t 5) ∧ (im1 t 5) < 500) ∧ zCI g yX5_isLetter M_X5_isLetter [.int (zi (im1 (t + 1) (im1 t 5)))] S im1 (fun r11 im12 => ((r11 = 0 → ((0 ≤ (im12 t 5) ∧ (im12 t 5) < 500) ∧ zCI g yX5_isDigit M_X5_isDigit [.int (zi (im12 (t + 1) (im12 t 5)))] S im12 (fun r17 im18 => ((r17 = 0 → ((0 ≤ (im18 t 5) ∧ (im18 t 5) < 500) ∧ ((¬ (im18 (t + 1) (im18 t 5)) = 59 → ∀ im23, im23 = zst im18 t 6 4 → ∀ im26, im26 = zst im23 t 5 (zw ((im23 t 5) + 1)) → Q im26) ∧ ((im18 (t + 1) (im18 t 5)) = 59 → ∀ im23, im23 = zst im18 t 6 3 → ∀ im26, im26 = zst im23 t 5 (zw ((im23 t 5) + 1)) → Q im26)))) ∧ (¬ r17 = 0 → zCV g yX5_readNumber M_X5_readNumber [.ref t] S im18 (fun im20 => Q im20)))))) ∧ (¬ r11 = 0 → zCV g yX5_readWord M_X5_readWord [.ref t] S im12 (fun im14 => Q im14)))))) ∧ ((im1 t 0) ≤ (im1 t 5) → ∀ im8, im8 = zst im1 t 6 0 → Q im8) := by
      have B1 := hB.f f1
      have e1 := B1.1
      refine ⟨fun hlt => ⟨⟨by omega, by omega⟩, ?_⟩, fun hge im8 e8 => ?_⟩
      · have hc := hx.2 p (by omega) (by omega)
        have hB2 := B1.2 p (by omega) (by omega)
        have hpn : tS x q < x.2 := by rw [es]; omega
        rw [k5, hB2]
        refine k_isLt G hc.1 hc.2 (fun h1 => ⟨fun h => absurd h (by decide), fun _ => ?_⟩) (fun h1 => ⟨fun _ => ⟨⟨by omega, by omega⟩, ?_⟩, fun h => absurd rfl h⟩)
        · refine v_X5_readWord G hS (fun i1 d1 => ?_)
          have f2 := f1.z d1 (by omega) (by omega)
          refine k_rw_loop G hS hx _ p i1 rfl (by omega) (hB.f f2) (by rw [d1, zst_o (by omega)]; exact k5) (fun im' q1 q2 q3 => hQ im' (f2.t q1) ⟨?_, ?_, ?_, fun h2 => ?_⟩)
          · rw [q3]; unfold tE; rw [if_pos hpn, es, if_pos h1]
          · rw [q2 6 (by omega), d1, zst_s]; unfold tK; rw [if_pos hpn, es, if_pos h1]
          · rw [q2 7 (by omega), d1, zst_o (by omega), k7, es]
          · unfold tK at h2; rw [if_pos hpn, es, if_pos h1] at h2; exact absurd h2 (by decide)
        · rw [k5, hB2]
          refine k_isDg G hc.1 hc.2 (fun h2 => ⟨fun h => absurd h (by decide), fun _ => ?_⟩) (fun h2 => ⟨fun _ => ⟨⟨by omega, by omega⟩, ?_⟩, fun h => absurd rfl h⟩)
          · have ek : tK x q = 2 := by unfold tK; rw [if_pos hpn, es, if_neg h1, if_pos h2]
            have ee : tE x q = rnP isDg x.1 x.2 p := by unfold tE; rw [if_pos hpn, es, if_neg h1, if_pos h2]
            refine v_X5_readNumber G hS (fun i1 d1 i3 d3 => ?_)
            have f2 := (f1.z d1 (by omega) (by omega)).z d3 (by omega) (by omega)
            refine k_rn_loop G hS hx (s := p) _ p i3 rfl (by omega) (by omega) (fun j j0 j1 => absurd j0 (by omega)) (hB.f f2) (by rw [d3, zst_o (by omega), d1, zst_o (by omega)]; exact k5) (by rw [d3, zst_s, Nat.sub_self, nvF]; decide) (fun im' q1 q2 q3 q4 => hQ im' (f2.t q1) ⟨?_, ?_, ?_, fun _ => ?_⟩)
            · rw [q3, ee]
            · rw [q2 6 (by omega) (by omega), d3, zst_o (by omega), d1, zst_s, ek]
            · rw [q2 7 (by omega) (by omega), d3, zst_o (by omega), d1, zst_o (by omega), k7, es]
            · rw [q4]; unfold tV; rw [if_pos ek, ee, es]
          · rw [k5, hB2]
            have ee : tE x q = p + 1 := by unfold tE; rw [if_pos hpn, es, if_neg h1, if_neg h2]
            have fin (im23 im26 : zIm) (v : Int) (hv : tK x q = v) (h2' : v ≠ 2) (d23 : im23 = zst im1 t 6 v) (d26 : im26 = zst im23 t 5 (zw ((im23 t 5) + 1))) : Q im26 := by
              have k5' : im23 t 5 = p := by rw [d23, zst_o (by omega)]; exact k5
              rw [k5', zwS (by omega)] at d26
              refine hQ im26 ((f1.z d23 (by omega) (by omega)).z d26 (by omega) (by omega)) ⟨?_, ?_, ?_, fun h => absurd (hv ▸ h) h2'⟩
              · rw [d26, zst_s, ee]
              · rw [d26, zst_o (by omega), d23, zst_s, hv]
              · rw [d26, zst_o (by omega), d23, zst_o (by omega), k7, es]
            refine ⟨fun h3 im23 d23 im26 d26 => fin im23 im26 4 ?_ (by decide) d23 d26, fun h3 im23 d23 im26 d26 => fin im23 im26 3 ?_ (by decide) d23 d26⟩
            · rw [bmEq hc.1 hc.2 (by omega) (by omega)] at h3
              unfold tK; rw [if_pos hpn, es, if_neg h1, if_neg h2, if_neg h3]
            · rw [bmEq hc.1 hc.2 (by omega) (by omega)] at h3
              unfold tK; rw [if_pos hpn, es, if_neg h1, if_neg h2, if_pos h3]
      · have hpn : ¬ tS x q < x.2 := by rw [es]; omega
        have ek : tK x q = 0 := by unfold tK; rw [if_neg hpn]
        refine hQ im8 (f1.z e8 (by omega) (by omega)) ⟨?_, ?_, ?_, fun h => absurd (ek ▸ h) (by decide)⟩
        · rw [e8, zst_o (by omega), k5]; unfold tE; rw [if_neg hpn, es]
        · rw [e8, zst_s, ek]
        · rw [e8, zst_o (by omega), k7, es]
    refine ⟨fun hge im4 e4 => ?_, fun hlt => ⟨⟨by omega, by omega⟩, ?_⟩⟩
    · rw [h5] at e4
      exact tl im4 (frT.i.z e4 (by omega) (by omega)) (by rw [e4, zst_o (by omega)]; exact h5) (by rw [e4, zst_s]) (by rw [hq, rnP_n (by omega)])
    · have hc := hx.2 p (by omega) (by omega)
      rw [h5, hB.2 p (by omega) (by omega)]
      refine k_isBl G hc.1 hc.2 (fun h1 => ⟨fun h => absurd h (by decide), fun _ im10 e10 => ?_⟩) (fun h1 => ⟨fun _ im10 e10 => ?_, fun h => absurd rfl h⟩)
      · rw [h5, zwS (by omega)] at e10
        have f1 : frT t im im10 := frT.i.z e10 (by omega) (by omega)
        exact ih (p + 1) im10 (by omega) (by omega) (hB.f f1) (by rw [e10, zst_s]) (by rw [hq, rnP_y (by omega) h1]) (fun im' q1 q2 => hQ im' (f1.t q1) q2)
      · rw [h5] at e10
        exact tl im10 (frT.i.z e10 (by omega) (by omega)) (by rw [e10, zst_o (by omega)]; exact h5) (by rw [e10, zst_s]) (by rw [hq, rnP_n (fun hh => h1 hh.2)])
theorem k_nextToken (G : zOK g) (hS : zS_T S t) (hx : xB x) {p : Nat} {im : zIm} (hp : p ≤ x.2) (hB : tB t x im) (h5 : im t 5 = p) {Q : zIm → Prop} (hQ : ∀ im', frT t im im' → cT t x im' p → Q im') : zCV g yX5_nextToken M_X5_nextToken [.ref t] S im Q := by
  refine v_X5_nextToken G hS ?_
  obtain ⟨q, eq⟩ : ∃ q, q = p := ⟨p, rfl⟩
  have hq : tS x q = rnP isBl x.1 x.2 p := by rw [eq]; rfl
  rw [← eq] at hQ
  have hx0 := hx.1
  have e0 := hB.1
  have tl (im1 : zIm) (f1 : frT t im im1) (k5 : im1 t 5 = p) (k7 : im1 t 7 = p) (es : tS x q = p) : ((im1 t 5) < (im1 t 0) → ((0 ≤ (im1 t 5) ∧ (im1 t 5) < 500) ∧ zCI g yX5_isLetter M_X5_isLetter [.int (zi (im1 (t + 1) (im1 t 5)))] S im1 (fun r11 im12 => ((r11 = 0 → ((0 ≤ (im12 t 5) ∧ (im12 t 5) < 500) ∧ zCI g yX5_isDigit M_X5_isDigit [.int (zi (im12 (t + 1) (im12 t 5)))] S im12 (fun r17 im18 => ((r17 = 0 → ((0 ≤ (im18 t 5) ∧ (im18 t 5) < 500) ∧ ((¬ (im18 (t + 1) (im18 t 5)) = 59 → ∀ im23, im23 = zst im18 t 6 4 → ∀ im26, im26 = zst im23 t 5 (zw ((im23 t 5) + 1)) → Q im26) ∧ ((im18 (t + 1) (im18 t 5)) = 59 → ∀ im23, im23 = zst im18 t 6 3 → ∀ im26, im26 = zst im23 t 5 (zw ((im23 t 5) + 1)) → Q im26)))) ∧ (¬ r17 = 0 → zCV g yX5_readNumber M_X5_readNumber [.ref t] S im18 (fun im20 => Q im20)))))) ∧ (¬ r11 = 0 → zCV g yX5_readWord M_X5_readWord [.ref t] S im12 (fun im14 => Q im14)))))) ∧ ((im1 t 0) ≤ (im1 t 5) → ∀ im8, im8 = zst im1 t 6 0 → Q im8) := by
    have B1 := hB.f f1
    have e1 := B1.1
    refine ⟨fun hlt => ⟨⟨by omega, by omega⟩, ?_⟩, fun hge im8 e8 => ?_⟩
    · have hc := hx.2 p (by omega) (by omega)
      have hB2 := B1.2 p (by omega) (by omega)
      have hpn : tS x q < x.2 := by rw [es]; omega
      rw [k5, hB2]
      refine k_isLt G hc.1 hc.2 (fun h1 => ⟨fun h => absurd h (by decide), fun _ => ?_⟩) (fun h1 => ⟨fun _ => ⟨⟨by omega, by omega⟩, ?_⟩, fun h => absurd rfl h⟩)
      · refine v_X5_readWord G hS (fun i1 d1 => ?_)
        have f2 := f1.z d1 (by omega) (by omega)
        refine k_rw_loop G hS hx _ p i1 rfl (by omega) (hB.f f2) (by rw [d1, zst_o (by omega)]; exact k5) (fun im' q1 q2 q3 => hQ im' (f2.t q1) ⟨?_, ?_, ?_, fun h2 => ?_⟩)
        · rw [q3]; unfold tE; rw [if_pos hpn, es, if_pos h1]
        · rw [q2 6 (by omega), d1, zst_s]; unfold tK; rw [if_pos hpn, es, if_pos h1]
        · rw [q2 7 (by omega), d1, zst_o (by omega), k7, es]
        · unfold tK at h2; rw [if_pos hpn, es, if_pos h1] at h2; exact absurd h2 (by decide)
      · rw [k5, hB2]
        refine k_isDg G hc.1 hc.2 (fun h2 => ⟨fun h => absurd h (by decide), fun _ => ?_⟩) (fun h2 => ⟨fun _ => ⟨⟨by omega, by omega⟩, ?_⟩, fun h => absurd rfl h⟩)
        · have ek : tK x q = 2 := by unfold tK; rw [if_pos hpn, es, if_neg h1, if_pos h2]
          have ee : tE x q = rnP isDg x.1 x.2 p := by unfold tE; rw [if_pos hpn, es, if_neg h1, if_pos h2]
          refine v_X5_readNumber G hS (fun i1 d1 i3 d3 => ?_)
          have f2 := (f1.z d1 (by omega) (by omega)).z d3 (by omega) (by omega)
          refine k_rn_loop G hS hx (s := p) _ p i3 rfl (by omega) (by omega) (fun j j0 j1 => absurd j0 (by omega)) (hB.f f2) (by rw [d3, zst_o (by omega), d1, zst_o (by omega)]; exact k5) (by rw [d3, zst_s, Nat.sub_self, nvF]; decide) (fun im' q1 q2 q3 q4 => hQ im' (f2.t q1) ⟨?_, ?_, ?_, fun _ => ?_⟩)
          · rw [q3, ee]
          · rw [q2 6 (by omega) (by omega), d3, zst_o (by omega), d1, zst_s, ek]
          · rw [q2 7 (by omega) (by omega), d3, zst_o (by omega), d1, zst_o (by omega), k7, es]
          · rw [q4]; unfold tV; rw [if_pos ek, ee, es]
        · rw [k5, hB2]
          have ee : tE x q = p + 1 := by unfold tE; rw [if_pos hpn, es, if_neg h1, if_neg h2]
          have fin (im23 im26 : zIm) (v : Int) (hv : tK x q = v) (h2' : v ≠ 2) (d23 : im23 = zst im1 t 6 v) (d26 : im26 = zst im23 t 5 (zw ((im23 t 5) + 1))) : Q im26 := by
            have k5' : im23 t 5 = p := by rw [d23, zst_o (by omega)]; exact k5
            rw [k5', zwS (by omega)] at d26
            refine hQ im26 ((f1.z d23 (by omega) (by omega)).z d26 (by omega) (by omega)) ⟨?_, ?_, ?_, fun h => absurd (hv ▸ h) h2'⟩
            · rw [d26, zst_s, ee]
            · rw [d26, zst_o (by omega), d23, zst_s, hv]
            · rw [d26, zst_o (by omega), d23, zst_o (by omega), k7, es]
          refine ⟨fun h3 im23 d23 im26 d26 => fin im23 im26 4 ?_ (by decide) d23 d26, fun h3 im23 d23 im26 d26 => fin im23 im26 3 ?_ (by decide) d23 d26⟩
          · rw [bmEq hc.1 hc.2 (by omega) (by omega)] at h3
            unfold tK; rw [if_pos hpn, es, if_neg h1, if_neg h2, if_neg h3]
          · rw [bmEq hc.1 hc.2 (by omega) (by omega)] at h3
            unfold tK; rw [if_pos hpn, es, if_neg h1, if_neg h2, if_pos h3]
    · have hpn : ¬ tS x q < x.2 := by rw [es]; omega
      have ek : tK x q = 0 := by unfold tK; rw [if_neg hpn]
      refine hQ im8 (f1.z e8 (by omega) (by omega)) ⟨?_, ?_, ?_, fun h => absurd (ek ▸ h) (by decide)⟩
      · rw [e8, zst_o (by omega), k5]; unfold tE; rw [if_neg hpn, es]
      · rw [e8, zst_s, ek]
      · rw [e8, zst_o (by omega), k7, es]
  refine ⟨fun hge im4 e4 => ?_, fun hlt => ⟨⟨by omega, by omega⟩, ?_⟩⟩
  · rw [h5] at e4
    exact tl im4 (frT.i.z e4 (by omega) (by omega)) (by rw [e4, zst_o (by omega)]; exact h5) (by rw [e4, zst_s]) (by rw [hq, rnP_n (by omega)])
  · have hc := hx.2 p (by omega) (by omega)
    rw [h5, hB.2 p (by omega) (by omega)]
    refine k_isBl G hc.1 hc.2 (fun h1 => ⟨fun h => absurd h (by decide), fun _ im10 e10 => ?_⟩) (fun h1 => ⟨fun _ im10 e10 => ?_, fun h => absurd rfl h⟩)
    · rw [h5, zwS (by omega)] at e10
      have f1 : frT t im im10 := frT.i.z e10 (by omega) (by omega)
      exact k_nt_loop G hS hx (q := q) _ (p + 1) im10 (Nat.lt_succ_self _) (by omega) (hB.f f1) (by rw [e10, zst_s]) (by rw [hq, rnP_y (by omega) h1]) (fun im' q1 q2 => hQ im' (f1.t q1) q2)
    · rw [h5] at e10
      exact tl im10 (frT.i.z e10 (by omega) (by omega)) (by rw [e10, zst_o (by omega)]; exact h5) (by rw [e10, zst_s]) (by rw [hq, rnP_n (fun hh => h1 hh.2)])
end TC
