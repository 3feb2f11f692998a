/-! what the steps keep -/
theorem cnt_er {l : List aR} {f : aR → Bool} {k : Nat} (h : k < l.length) : (l.eraseIdx k).countP f + (if f (rg l k) = true then 1 else 0) = l.countP f := by
  induction l generalizing k with
  | nil => exact absurd h (by simp)
  | cons x l ih =>
    cases k with
    | zero => rw [List.eraseIdx_cons_zero, List.countP_cons]; rfl
    | succ k =>
      have := ih (k := k) (by simp at h; omega)
      rw [List.eraseIdx_cons_succ, List.countP_cons, List.countP_cons]
      have e : rg (x :: l) (k + 1) = rg l k := rfl
      rw [e]; omega
def isDp (i : Int) (u : aR) : Bool := decide (u 3 = 0) && decide (u 1 = i)
def isOd (i : Int) (u : aR) : Bool := decide (u 0 = i)
def isDu (k d : Int) (u : aR) : Bool := decide (u 0 = k) && decide (u 4 = d)
def s4 (f : aR) : Int := f 0 + f 1 + f 2 + f 3
def aD (n i c : Int) (A : aA) : Prop := (∀ j, 0 ≤ j → j < 4 → 0 ≤ A.1 (124 + j) ∧ A.1 (124 + j) + A.2.1.countP (isDp j) + (if j = i then c else 0) = A.1 (92 + j) + A.2.2.2.countP (isOd j) ∧ (A.1 (124 + j) = 0 ∨ A.2.2.2.countP (isOd j) = 0)) ∧
  A.2.1.length + c + (A.1 124 + A.1 125 + A.1 126 + A.1 127) ≤ n + (A.1 92 + A.1 93 + A.1 94 + A.1 95)
theorem aD.app_o {n i c : Int} {A : aA} {u : aR} (h : aD n i c A) (hu : u 3 ≠ 0) : aD (n + 1) i c (aApp A u) := by
  refine ⟨fun j j0 j1 => ?_, ?_⟩
  · have := h.1 j j0 j1
    have e : (aApp A u).2.1.countP (isDp j) = A.2.1.countP (isDp j) := by simp [aApp, List.countP_append, isDp, hu]
    rw [e]; exact this
  · rw [ln_app]; have := h.2; show ((A.2.1.length + 1 : Nat) : Int) + c + (A.1 124 + A.1 125 + A.1 126 + A.1 127) ≤ n + 1 + (A.1 92 + A.1 93 + A.1 94 + A.1 95); omega
theorem aD.app_d {n i c : Int} {A : aA} {u : aR} (h : aD n i c A) (hu : u 3 = 0) (hi : u 1 = i) : aD n i (c - 1) (aApp A u) := by
  refine ⟨fun j j0 j1 => ?_, ?_⟩
  · have := h.1 j j0 j1
    by_cases e : j = i
    · have e' : (aApp A u).2.1.countP (isDp j) = A.2.1.countP (isDp j) + 1 := by simp [aApp, List.countP_append, isDp, hu, hi, e]
      rw [if_pos e] at this ⊢
      rw [e']
      exact ⟨this.1, by have := this.2.1; show A.1 (124 + j) + ((A.2.1.countP (isDp j) + 1 : Nat) : Int) + (c - 1) = A.1 (92 + j) + (A.2.2.2.countP (isOd j) : Nat); omega, this.2.2⟩
    · have e' : (aApp A u).2.1.countP (isDp j) = A.2.1.countP (isDp j) := by simp [aApp, List.countP_append, isDp, hu, hi, Ne.symm e]
      rw [if_neg e] at this ⊢
      rw [e']; exact this
  · rw [ln_app]; have := h.2; show ((A.2.1.length + 1 : Nat) : Int) + (c - 1) + (A.1 124 + A.1 125 + A.1 126 + A.1 127) ≤ n + (A.1 92 + A.1 93 + A.1 94 + A.1 95); omega
theorem aD.cut_o {n i c : Int} {A : aA} {k : Nat} (h : aD n i c A) (hk : k < A.2.1.length) (hu : rg A.2.1 k 3 ≠ 0) : aD (n - 1) i c (aCut A k) := by
  refine ⟨fun j j0 j1 => ?_, ?_⟩
  · have := h.1 j j0 j1
    have e : (aCut A k).2.1.countP (isDp j) = A.2.1.countP (isDp j) := by
      have := cnt_er (f := isDp j) hk
      rw [if_neg (by simp [isDp, hu])] at this
      exact this
    rw [e]; exact this
  · have e : (aCut A k).2.1.length = A.2.1.length - 1 := ln_er hk
    rw [e]; have := h.2; show ((A.2.1.length - 1 : Nat) : Int) + c + (A.1 124 + A.1 125 + A.1 126 + A.1 127) ≤ n - 1 + (A.1 92 + A.1 93 + A.1 94 + A.1 95); omega
theorem aD.cut_d {n i c : Int} {A : aA} {k : Nat} (h : aD n i c A) (hk : k < A.2.1.length) (hu : rg A.2.1 k 3 = 0) (hi : rg A.2.1 k 1 = i) : aD n i (c + 1) (aCut A k) := by
  refine ⟨fun j j0 j1 => ?_, ?_⟩
  · have := h.1 j j0 j1
    have e' := cnt_er (f := isDp j) hk
    by_cases e : j = i
    · rw [if_pos (by simp [isDp, hu, hi, e])] at e'
      rw [if_pos e] at this ⊢
      exact ⟨this.1, by have := this.2.1; show A.1 (124 + j) + (((A.2.1.eraseIdx k).countP (isDp j) : Nat) : Int) + (c + 1) = A.1 (92 + j) + (A.2.2.2.countP (isOd j) : Nat); omega, this.2.2⟩
    · rw [if_neg (by simp [isDp, hu, hi, Ne.symm e])] at e'
      rw [if_neg e] at this ⊢
      have e9 : (aCut A k).2.1.countP (isDp j) = A.2.1.countP (isDp j) := e'
      rw [e9]; exact this
  · have e : (aCut A k).2.1.length = A.2.1.length - 1 := ln_er hk
    rw [e]; have := h.2; show ((A.2.1.length - 1 : Nat) : Int) + (c + 1) + (A.1 124 + A.1 125 + A.1 126 + A.1 127) ≤ n + (A.1 92 + A.1 93 + A.1 94 + A.1 95); omega
theorem aD.ocut {n i c : Int} {A : aA} {k : Nat} (h : aD n i c A) (hk : k < A.2.2.2.length) (hi : rg A.2.2.2 k 0 = i) : aD (n - 1) i (c - 1) (A.1, A.2.1, A.2.2.1, A.2.2.2.eraseIdx k) := by
  refine ⟨fun j j0 j1 => ?_, ?_⟩
  · have := h.1 j j0 j1
    have e' := cnt_er (f := isOd j) hk
    by_cases e : j = i
    · rw [if_pos (by simp [isOd, hi, e])] at e'
      rw [if_pos e] at this ⊢
      refine ⟨this.1, ?_, ?_⟩
      · have := this.2.1; show A.1 (124 + j) + (A.2.1.countP (isDp j) : Nat) + (c - 1) = A.1 (92 + j) + ((A.2.2.2.eraseIdx k).countP (isOd j) : Nat); omega
      · have := this.2.2; show A.1 (124 + j) = 0 ∨ (A.2.2.2.eraseIdx k).countP (isOd j) = 0; omega
    · rw [if_neg (by simp [isOd, hi, Ne.symm e])] at e'
      rw [if_neg e] at this ⊢
      show 0 ≤ A.1 (124 + j) ∧ A.1 (124 + j) + (A.2.1.countP (isDp j) : Nat) + 0 = A.1 (92 + j) + ((A.2.2.2.eraseIdx k).countP (isOd j) : Nat) ∧ (A.1 (124 + j) = 0 ∨ (A.2.2.2.eraseIdx k).countP (isOd j) = 0)
      rw [show (A.2.2.2.eraseIdx k).countP (isOd j) = A.2.2.2.countP (isOd j) from e']; exact this
  · have := h.2; show (A.2.1.length : Int) + (c - 1) + (A.1 124 + A.1 125 + A.1 126 + A.1 127) ≤ n - 1 + (A.1 92 + A.1 93 + A.1 94 + A.1 95); omega
theorem aD.oapp {n i c : Int} {A : aA} {u : aR} (h : aD n i c A) (hi : u 0 = i) (hz : A.1 (124 + i) = 0) : aD (n + 1) i (c + 1) (A.1, A.2.1, A.2.2.1, A.2.2.2 ++ [u]) := by
  refine ⟨fun j j0 j1 => ?_, ?_⟩
  · have := h.1 j j0 j1
    show 0 ≤ A.1 (124 + j) ∧ A.1 (124 + j) + (A.2.1.countP (isDp j) : Nat) + _ = A.1 (92 + j) + ((A.2.2.2 ++ [u]).countP (isOd j) : Nat) ∧ (A.1 (124 + j) = 0 ∨ (A.2.2.2 ++ [u]).countP (isOd j) = 0)
    by_cases e : j = i
    · have e' : (A.2.2.2 ++ [u]).countP (isOd j) = A.2.2.2.countP (isOd j) + 1 := by simp [List.countP_append, isOd, hi, e]
      rw [if_pos e] at this ⊢
      rw [e']
      exact ⟨this.1, by omega, Or.inl (by rw [e]; exact hz)⟩
    · have e' : (A.2.2.2 ++ [u]).countP (isOd j) = A.2.2.2.countP (isOd j) := by simp [List.countP_append, isOd, hi, Ne.symm e]
      rw [if_neg e] at this ⊢
      rw [e']; exact this
  · have := h.2; show (A.2.1.length : Int) + (c + 1) + (A.1 124 + A.1 125 + A.1 126 + A.1 127) ≤ n + 1 + (A.1 92 + A.1 93 + A.1 94 + A.1 95); omega
theorem aD.g {n i c : Int} {A : aA} {j v : Int} (h : aD n i c A) (h0 : j < 92 ∨ 96 ≤ j) (h1 : j < 124 ∨ 128 ≤ j) : aD n i c (aG A j v) := by
  refine ⟨fun k k0 k1 => ?_, ?_⟩
  · rw [aG_n (by omega), aG_n (by omega)]; exact h.1 k k0 k1
  · rw [aG_n (by omega), aG_n (by omega), aG_n (by omega), aG_n (by omega), aG_n (by omega), aG_n (by omega), aG_n (by omega), aG_n (by omega)]; exact h.2
theorem aD.oh {n i c d : Int} {A : aA} {v : Int} (h : aD n i c A) (i0 : 0 ≤ i) (i1 : i < 4) (hv : v = A.1 (124 + i) + d) (v0 : 0 ≤ v) (hz : v = 0 ∨ A.2.2.2.countP (isOd i) = 0) : aD n i (c - d) (aG A (124 + 4 * 0 + i) v) := by
  have e9 : (124 : Int) + 4 * 0 + i = 124 + i := by omega
  rw [e9]
  refine ⟨fun k k0 k1 => ?_, ?_⟩
  · have := h.1 k k0 k1
    rw [aG_n (j := 92 + k) (by omega)]
    by_cases e : k = i
    · subst e
      rw [aG_s, if_pos rfl]
      rw [if_pos rfl] at this
      refine ⟨v0, ?_, hz⟩
      show v + (A.2.1.countP (isDp k) : Nat) + (c - d) = A.1 (92 + k) + (A.2.2.2.countP (isOd k) : Nat)
      omega
    · rw [aG_n (by omega), if_neg e]
      rw [if_neg e] at this
      exact this
  · have := h.2
    rw [aG_n (j := 92) (by omega), aG_n (j := 93) (by omega), aG_n (j := 94) (by omega), aG_n (j := 95) (by omega)]
    have : i = 0 ∨ i = 1 ∨ i = 2 ∨ i = 3 := by omega
    show (A.2.1.length : Int) + (c - d) + ((aG A (124 + i) v).1 124 + (aG A (124 + i) v).1 125 + (aG A (124 + i) v).1 126 + (aG A (124 + i) v).1 127) ≤ n + (A.1 92 + A.1 93 + A.1 94 + A.1 95)
    rcases this with e | e | e | e <;> subst e
    · rw [show (124 : Int) + 0 = 124 from rfl] at hv ⊢; rw [aG_s, aG_n (by omega), aG_n (by omega), aG_n (by omega)]; omega
    · rw [show (124 : Int) + 1 = 125 from rfl] at hv ⊢; rw [aG_s, aG_n (by omega), aG_n (by omega), aG_n (by omega)]; omega
    · rw [show (124 : Int) + 2 = 126 from rfl] at hv ⊢; rw [aG_s, aG_n (by omega), aG_n (by omega), aG_n (by omega)]; omega
    · rw [show (124 : Int) + 3 = 127 from rfl] at hv ⊢; rw [aG_s, aG_n (by omega), aG_n (by omega), aG_n (by omega)]; omega
theorem aD.lv {n i c : Int} {A : aA} {v : Int} (h : aD n i c A) (i0 : 0 ≤ i) (i1 : i < 4) : aD n i (c + (v - A.1 (92 + 4 * 0 + i))) (aG A (92 + 4 * 0 + i) v) := by
  have e9 : (92 : Int) + 4 * 0 + i = 92 + i := by omega
  rw [e9]
  refine ⟨fun k k0 k1 => ?_, ?_⟩
  · have := h.1 k k0 k1
    rw [aG_n (j := 124 + k) (by omega)]
    by_cases e : k = i
    · subst e
      rw [aG_s, if_pos rfl]
      rw [if_pos rfl] at this
      refine ⟨this.1, ?_, this.2.2⟩
      show A.1 (124 + k) + (A.2.1.countP (isDp k) : Nat) + (c + (v - A.1 (92 + k))) = v + (A.2.2.2.countP (isOd k) : Nat)
      omega
    · rw [aG_n (by omega), if_neg e]
      rw [if_neg e] at this
      exact this
  · have := h.2
    rw [aG_n (j := 124) (by omega), aG_n (j := 125) (by omega), aG_n (j := 126) (by omega), aG_n (j := 127) (by omega)]
    have : i = 0 ∨ i = 1 ∨ i = 2 ∨ i = 3 := by omega
    show (A.2.1.length : Int) + (c + (v - A.1 (92 + i))) + (A.1 124 + A.1 125 + A.1 126 + A.1 127) ≤ n + ((aG A (92 + i) v).1 92 + (aG A (92 + i) v).1 93 + (aG A (92 + i) v).1 94 + (aG A (92 + i) v).1 95)
    rcases this with e | e | e | e <;> subst e
    · rw [show (92 : Int) + 0 = 92 from rfl]; rw [aG_s, aG_n (by omega), aG_n (by omega), aG_n (by omega)]; omega
    · rw [show (92 : Int) + 1 = 93 from rfl]; rw [aG_s, aG_n (by omega), aG_n (by omega), aG_n (by omega)]; omega
    · rw [show (92 : Int) + 2 = 94 from rfl]; rw [aG_s, aG_n (by omega), aG_n (by omega), aG_n (by omega)]; omega
    · rw [show (92 : Int) + 3 = 95 from rfl]; rw [aG_s, aG_n (by omega), aG_n (by omega), aG_n (by omega)]; omega
theorem aD.zero {n i j : Int} {A : aA} (h : aD n i 0 A) : aD n j 0 A := ⟨fun k k0 k1 => by have := h.1 k k0 k1; simp only [ite_self] at this ⊢; exact this, h.2⟩
theorem aD.mono {n m i c : Int} {A : aA} (h : aD n i c A) (hm : n ≤ m) : aD m i c A := ⟨h.1, by have := h.2; omega⟩
theorem bO_no {A : aA} {i : Int} (h : bO A i = -1) : A.2.2.2.countP (isOd i) = 0 := by
  have key : ∀ n, n ≤ A.2.2.2.length → bstO A.2.2.2 i n = -1 → (A.2.2.2.take n).countP (isOd i) = 0 := by
    intro n
    induction n with
    | zero => intro _ _; simp
    | succ n ih =>
      intro hn hb
      unfold bstO at hb
      split at hb
      · omega
      · rename_i hc
        rw [cnt_take (by omega), ih (by omega) hb, if_neg (by simp only [isOd, decide_eq_true_eq]; exact fun he => hc ⟨he, Or.inl hb⟩)]
  have := key A.2.2.2.length (Nat.le_refl _) h
  rwa [List.take_length] at this
theorem bstO_it (l : List aR) (i : Int) (n : Nat) (h : bstO l i n ≠ -1) : rg l (bstO l i n).toNat 0 = i := by
  induction n with
  | zero => exact absurd rfl h
  | succ n ih =>
    unfold bstO at h ⊢
    split
    · rename_i hc; rw [Int.toNat_natCast]; exact hc.1
    · rename_i hc; rw [if_neg hc] at h; exact ih h
