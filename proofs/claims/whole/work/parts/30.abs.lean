/-! the abstract network: plain numbers G (places as in the reference's row), units in the order in which they came, customers, orders; a record is a function of its field -/
abbrev aR : Type := Int → Int
abbrev aA : Type := aR × List aR × List aR × List aR
def z0 : aR := fun _ => 0
def rg (l : List aR) (k : Nat) : aR := l.getD k z0
def mkU (k i s o d l : Int) : aR := fun f => if f = 0 then k else if f = 1 then i else if f = 2 then s else if f = 3 then o else if f = 4 then d else l
def mkC (b i p s : Int) : aR := fun f => if f = 0 then b else if f = 1 then i else if f = 2 then p else s
def mkO (i b p : Int) : aR := fun f => if f = 0 then i else if f = 1 then b else p
theorem rg_app_l {l : List aR} {u : aR} {k : Nat} (h : k < l.length) : rg (l ++ [u]) k = rg l k := by
  unfold rg; simp [List.getD, List.getElem?_append, h]
theorem rg_app_r {l : List aR} {u : aR} : rg (l ++ [u]) l.length = u := by
  unfold rg; simp [List.getD]
theorem rg_er_l {l : List aR} {i k : Nat} (h : k < i) : rg (l.eraseIdx i) k = rg l k := by
  unfold rg; simp [List.getD, List.getElem?_eraseIdx, h]
theorem rg_er_r {l : List aR} {i k : Nat} (h : i ≤ k) : rg (l.eraseIdx i) k = rg l (k + 1) := by
  unfold rg; simp [List.getD, List.getElem?_eraseIdx, Nat.not_lt.mpr h]
theorem ln_er {l : List aR} {i : Nat} (h : i < l.length) : (l.eraseIdx i).length = l.length - 1 := List.length_eraseIdx_of_lt h
/-- the reference's row holds the abstract network -/
def mRep (r : aR) (A : aA) : Prop :=
  (∀ i, 0 ≤ i → i < 412 → i ≠ 4 → i ≠ 5 → i ≠ 6 → r i = A.1 i) ∧ r 4 = A.2.1.length ∧ r 5 = A.2.2.1.length ∧ r 6 = A.2.2.2.length ∧
  (∀ k : Nat, k < A.2.1.length → ∀ f : Int, 0 ≤ f → f < 6 → r (412 + 6 * k + f) = rg A.2.1 k f) ∧
  (∀ k : Nat, k < A.2.2.1.length → ∀ f : Int, 0 ≤ f → f < 4 → r (4972 + 4 * k + f) = rg A.2.2.1 k f) ∧
  (∀ k : Nat, k < A.2.2.2.length → ∀ f : Int, 0 ≤ f → f < 3 → r (5412 + 3 * k + f) = rg A.2.2.2 k f)
/-- what the row has room for -/
def aFit (A : aA) : Prop := A.2.1.length ≤ 759 ∧ A.2.2.1.length ≤ 109 ∧ A.2.2.2.length ≤ 759
theorem mRep.g {r : aR} {A : aA} (h : mRep r A) {i : Int} (h0 : 0 ≤ i) (h1 : i < 412) (h4 : i ≠ 4) (h5 : i ≠ 5) (h6 : i ≠ 6) : r i = A.1 i := h.1 i h0 h1 h4 h5 h6
theorem mRep.up {r : aR} {A : aA} (h : mRep r A) {i v : Int} (h0 : 0 ≤ i) (h1 : i < 412) (h4 : i ≠ 4) (h5 : i ≠ 5) (h6 : i ≠ 6) : mRep (zup r i v) (zup A.1 i v, A.2) := by
  obtain ⟨a1, a2, a3, a4, a5, a6, a7⟩ := h
  refine ⟨fun j j0 j1 j4 j5 j6 => ?_, ?_, ?_, ?_, fun k hk f f0 f1 => ?_, fun k hk f f0 f1 => ?_, fun k hk f f0 f1 => ?_⟩
  · show zup r i v j = zup A.1 i v j
    unfold zup
    split
    · rfl
    · exact a1 j j0 j1 j4 j5 j6
  · rw [zup_n (Ne.symm h4)]; exact a2
  · rw [zup_n (Ne.symm h5)]; exact a3
  · rw [zup_n (Ne.symm h6)]; exact a4
  · rw [zup_n (by omega)]; exact a5 k hk f f0 f1
  · rw [zup_n (by omega)]; exact a6 k hk f f0 f1
  · rw [zup_n (by omega)]; exact a7 k hk f f0 f1
/-- a row that parts only in what nobody reads -/
def rApp (r : aR) (c t s : Int) : aR := zup r c (r c + 1)
theorem mRep.appU {r r' : aR} {A : aA} (h : mRep r A) {u : aR} (hf : A.2.1.length ≤ 758) (h4 : r' 4 = r 4 + 1) (hu : ∀ f, 0 ≤ f → f < 6 → r' (412 + 6 * A.2.1.length + f) = u f) (ho : ∀ j : Int, j ≠ 4 → ¬ (412 + 6 * A.2.1.length ≤ j ∧ j < 412 + 6 * A.2.1.length + 6) → r' j = r j) : mRep r' (A.1, A.2.1 ++ [u], A.2.2) := by
  obtain ⟨a1, a2, a3, a4, a5, a6, a7⟩ := h
  refine ⟨fun j j0 j1 j4 j5 j6 => ?_, ?_, ?_, ?_, fun k hk f f0 f1 => ?_, fun k hk f f0 f1 => ?_, fun k hk f f0 f1 => ?_⟩
  · rw [ho j j4 (by omega)]; exact a1 j j0 j1 j4 j5 j6
  · rw [h4, a2]; simp
  · rw [ho 5 (by omega) (by omega)]; exact a3
  · rw [ho 6 (by omega) (by omega)]; exact a4
  · simp only [List.length_append, List.length_singleton] at hk
    show _ = rg (A.2.1 ++ [u]) k f
    by_cases e : k = A.2.1.length
    · subst e; rw [rg_app_r]; exact hu f f0 f1
    · rw [rg_app_l (by omega), ho _ (by omega) (by omega)]; exact a5 k (by omega) f f0 f1
  · rw [ho _ (by omega) (by omega)]; exact a6 k hk f f0 f1
  · rw [ho _ (by omega) (by omega)]; exact a7 k hk f f0 f1
theorem mRep.appC {r r' : aR} {A : aA} (h : mRep r A) {u : aR} (hf : A.2.2.1.length ≤ 108) (hfu : A.2.1.length ≤ 759) (h4 : r' 5 = r 5 + 1) (hu : ∀ f, 0 ≤ f → f < 4 → r' (4972 + 4 * A.2.2.1.length + f) = u f) (ho : ∀ j : Int, j ≠ 5 → ¬ (4972 + 4 * A.2.2.1.length ≤ j ∧ j < 4972 + 4 * A.2.2.1.length + 4) → r' j = r j) : mRep r' (A.1, A.2.1, A.2.2.1 ++ [u], A.2.2.2) := by
  obtain ⟨a1, a2, a3, a4, a5, a6, a7⟩ := h
  refine ⟨fun j j0 j1 j4 j5 j6 => ?_, ?_, ?_, ?_, fun k hk f f0 f1 => ?_, fun k hk f f0 f1 => ?_, fun k hk f f0 f1 => ?_⟩
  · rw [ho j j5 (by omega)]; exact a1 j j0 j1 j4 j5 j6
  · rw [ho 4 (by omega) (by omega)]; exact a2
  · rw [h4, a3]; simp
  · rw [ho 6 (by omega) (by omega)]; exact a4
  · have hk' : k < A.2.1.length := hk
    rw [ho _ (by omega) (by omega)]; exact a5 k hk f f0 f1
  · simp only [List.length_append, List.length_singleton] at hk
    show _ = rg (A.2.2.1 ++ [u]) k f
    by_cases e : k = A.2.2.1.length
    · subst e; rw [rg_app_r]; exact hu f f0 f1
    · rw [rg_app_l (by omega), ho _ (by omega) (by omega)]; exact a6 k (by omega) f f0 f1
  · rw [ho _ (by omega) (by omega)]; exact a7 k hk f f0 f1
theorem mRep.appO {r r' : aR} {A : aA} (h : mRep r A) {u : aR} (hf : A.2.2.2.length ≤ 758) (hfu : A.2.1.length ≤ 759) (hfc : A.2.2.1.length ≤ 109) (h4 : r' 6 = r 6 + 1) (hu : ∀ f, 0 ≤ f → f < 3 → r' (5412 + 3 * A.2.2.2.length + f) = u f) (ho : ∀ j : Int, j ≠ 6 → ¬ (5412 + 3 * A.2.2.2.length ≤ j ∧ j < 5412 + 3 * A.2.2.2.length + 3) → r' j = r j) : mRep r' (A.1, A.2.1, A.2.2.1, A.2.2.2 ++ [u]) := by
  obtain ⟨a1, a2, a3, a4, a5, a6, a7⟩ := h
  refine ⟨fun j j0 j1 j4 j5 j6 => ?_, ?_, ?_, ?_, fun k hk f f0 f1 => ?_, fun k hk f f0 f1 => ?_, fun k hk f f0 f1 => ?_⟩
  · rw [ho j j6 (by omega)]; exact a1 j j0 j1 j4 j5 j6
  · rw [ho 4 (by omega) (by omega)]; exact a2
  · rw [ho 5 (by omega) (by omega)]; exact a3
  · rw [h4, a4]; simp
  · have hk' : k < A.2.1.length := hk
    rw [ho _ (by omega) (by omega)]; exact a5 k hk f f0 f1
  · have hk' : k < A.2.2.1.length := hk
    rw [ho _ (by omega) (by omega)]; exact a6 k hk f f0 f1
  · simp only [List.length_append, List.length_singleton] at hk
    show _ = rg (A.2.2.2 ++ [u]) k f
    by_cases e : k = A.2.2.2.length
    · subst e; rw [rg_app_r]; exact hu f f0 f1
    · rw [rg_app_l (by omega), ho _ (by omega) (by omega)]; exact a7 k (by omega) f f0 f1
/-- a record taken out: what lies behind it moves up -/
def rRem (r : aR) (c t s i : Int) : aR := fun j => if j = c then r c - 1 else if t + s * i ≤ j ∧ j < t + s * (r c - 1) then r (j + s) else r j
theorem mRep.remU {r : aR} {A : aA} (h : mRep r A) (hfu : A.2.1.length ≤ 759) {i : Nat} (hi : i < A.2.1.length) : mRep (rRem r 4 412 6 i) (A.1, A.2.1.eraseIdx i, A.2.2) := by
  obtain ⟨a1, a2, a3, a4, a5, a6, a7⟩ := h
  unfold rRem
  refine ⟨fun j j0 j1 j4 j5 j6 => ?_, ?_, ?_, ?_, fun k hk f f0 f1 => ?_, fun k hk f f0 f1 => ?_, fun k hk f f0 f1 => ?_⟩ <;> dsimp only
  · rw [if_neg j4, if_neg (by omega)]; exact a1 j j0 j1 j4 j5 j6
  · rw [if_pos rfl, a2, ln_er hi]; omega
  · rw [if_neg (by omega), if_neg (by omega)]; exact a3
  · rw [if_neg (by omega), if_neg (by omega)]; exact a4
  · dsimp only at hk
    rw [ln_er hi] at hk
    rw [if_neg (by omega), a2]
    by_cases e : k < i
    · rw [if_neg (by omega), rg_er_l e]; exact a5 k (by omega) f f0 f1
    · rw [if_pos (by omega), rg_er_r (by omega), ← a5 (k + 1) (by omega) f f0 f1]; congr 1; omega
  · rw [if_neg (by omega), a2, if_neg (by omega)]; exact a6 k hk f f0 f1
  · rw [if_neg (by omega), a2, if_neg (by omega)]; exact a7 k hk f f0 f1
theorem mRep.remC {r : aR} {A : aA} (h : mRep r A) (hfu : A.2.1.length ≤ 759) (hfc : A.2.2.1.length ≤ 109) {i : Nat} (hi : i < A.2.2.1.length) : mRep (rRem r 5 4972 4 i) (A.1, A.2.1, A.2.2.1.eraseIdx i, A.2.2.2) := by
  obtain ⟨a1, a2, a3, a4, a5, a6, a7⟩ := h
  unfold rRem
  refine ⟨fun j j0 j1 j4 j5 j6 => ?_, ?_, ?_, ?_, fun k hk f f0 f1 => ?_, fun k hk f f0 f1 => ?_, fun k hk f f0 f1 => ?_⟩ <;> dsimp only
  · rw [if_neg j5, if_neg (by omega)]; exact a1 j j0 j1 j4 j5 j6
  · rw [if_neg (by omega), if_neg (by omega)]; exact a2
  · rw [if_pos rfl, a3, ln_er hi]; omega
  · rw [if_neg (by omega), if_neg (by omega)]; exact a4
  · have hk' : k < A.2.1.length := hk
    rw [if_neg (by omega), if_neg (by omega)]; exact a5 k hk f f0 f1
  · dsimp only at hk
    rw [ln_er hi] at hk
    rw [if_neg (by omega), a3]
    by_cases e : k < i
    · rw [if_neg (by omega), rg_er_l e]; exact a6 k (by omega) f f0 f1
    · rw [if_pos (by omega), rg_er_r (by omega), ← a6 (k + 1) (by omega) f f0 f1]; congr 1; omega
  · rw [if_neg (by omega), a3, if_neg (by omega)]; exact a7 k hk f f0 f1
theorem mRep.remO {r : aR} {A : aA} (h : mRep r A) (hfu : A.2.1.length ≤ 759) (hfc : A.2.2.1.length ≤ 109) (hfo : A.2.2.2.length ≤ 759) {i : Nat} (hi : i < A.2.2.2.length) : mRep (rRem r 6 5412 3 i) (A.1, A.2.1, A.2.2.1, A.2.2.2.eraseIdx i) := by
  obtain ⟨a1, a2, a3, a4, a5, a6, a7⟩ := h
  unfold rRem
  refine ⟨fun j j0 j1 j4 j5 j6 => ?_, ?_, ?_, ?_, fun k hk f f0 f1 => ?_, fun k hk f f0 f1 => ?_, fun k hk f f0 f1 => ?_⟩ <;> dsimp only
  · rw [if_neg j6, if_neg (by omega)]; exact a1 j j0 j1 j4 j5 j6
  · rw [if_neg (by omega), if_neg (by omega)]; exact a2
  · rw [if_neg (by omega), if_neg (by omega)]; exact a3
  · rw [if_pos rfl, a4, ln_er hi]; omega
  · have hk' : k < A.2.1.length := hk
    rw [if_neg (by omega), if_neg (by omega)]; exact a5 k hk f f0 f1
  · have hk' : k < A.2.2.1.length := hk
    rw [if_neg (by omega), if_neg (by omega)]; exact a6 k hk f f0 f1
  · dsimp only at hk
    rw [ln_er hi] at hk
    rw [if_neg (by omega), a4]
    by_cases e : k < i
    · rw [if_neg (by omega), rg_er_l e]; exact a7 k (by omega) f f0 f1
    · rw [if_pos (by omega), rg_er_r (by omega), ← a7 (k + 1) (by omega) f f0 f1]; congr 1; omega
