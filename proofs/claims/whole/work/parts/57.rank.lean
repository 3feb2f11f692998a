/-! the class's row is sorted -/
theorem pos_ge {u : aR} {l : List aR} : ∀ k j, pos u l k ≤ j → j < k → uLt u (rg l j) := by
  intro k
  induction k with
  | zero => intro j _ h; exact absurd h (by omega)
  | succ k ih =>
    intro j h1 h2
    by_cases e : uLt u (rg l k)
    · rw [pos_y e] at h1
      by_cases ej : j = k
      · rw [ej]; exact e
      · exact ih j h1 (by omega)
    · rw [pos_n e] at h1; omega
theorem pos_pred {u : aR} {l : List aR} : ∀ k p, pos u l k = p + 1 → ¬ uLt u (rg l p) := by
  intro k
  induction k with
  | zero => intro p h; rw [pos] at h; omega
  | succ k ih =>
    intro p h
    by_cases e : uLt u (rg l k)
    · rw [pos_y e] at h; exact ih p h
    · rw [pos_n e] at h
      have : p = k := by omega
      rw [this]; exact e
def srt (l : List aR) : Prop := ∀ p q, p < q → q < l.length → ¬ uLt (rg l q) (rg l p)
theorem pos_lt {u : aR} {l : List aR} (hs : srt l) {j : Nat} (h : j < pos u l l.length) : ¬ uLt u (rg l j) := by
  have hp := pos_le u l l.length
  obtain ⟨p, e⟩ : ∃ p, pos u l l.length = p + 1 := ⟨pos u l l.length - 1, by omega⟩
  have h1 := pos_pred l.length p e
  by_cases ej : j = p
  · rw [ej]; exact h1
  · have h2 := hs j p (by omega) (by omega)
    unfold uLt at h1 h2 ⊢
    omega
theorem srt_ins {u : aR} {l : List aR} (hs : srt l) : srt (insU u l) := by
  intro p q hpq hq
  rw [ins_len] at hq
  rw [ins_rg u l q (by omega), ins_rg u l p (by omega)]
  by_cases q1 : q < pos u l l.length
  · rw [if_pos q1, if_pos (by omega)]; exact hs p q hpq (by have := pos_le u l l.length; omega)
  · rw [if_neg q1]
    by_cases q2 : q = pos u l l.length
    · rw [if_pos q2, if_pos (by omega)]; exact pos_lt hs (by omega)
    · rw [if_neg q2]
      have h1 := pos_ge (u := u) (l := l) l.length (q - 1) (by omega) (by omega)
      by_cases p1 : p < pos u l l.length
      · rw [if_pos p1]
        exact hs p (q - 1) (by omega) (by omega)
      · rw [if_neg p1]
        by_cases p2 : p = pos u l l.length
        · rw [if_pos p2]; unfold uLt at h1 ⊢; omega
        · rw [if_neg p2]; exact hs (p - 1) (q - 1) (by omega) (by omega)
theorem sr_srt (l : List aR) : srt (sr l) := by
  induction l using rev_ind with
  | h0 => intro p q _ hq; simp [sr] at hq
  | h1 l u ih =>
    by_cases e : u 0 = 4
    · rw [sr_app_w e]; exact ih
    · rw [sr_app_u e]; exact srt_ins ih
/-- how many below n -/
noncomputable def nBl (p : Nat → Prop) : Nat → Nat
  | 0 => 0
  | n + 1 => nBl p n + @ite _ (p n) (Classical.propDecidable _) 1 0
theorem nBl_y {p : Nat → Prop} {n : Nat} (h : p n) : nBl p (n + 1) = nBl p n + 1 := by rw [nBl]; congr 1; exact if_pos h
theorem nBl_n {p : Nat → Prop} {n : Nat} (h : ¬ p n) : nBl p (n + 1) = nBl p n := by
  rw [nBl]
  have : @ite _ (p n) (Classical.propDecidable _) 1 0 = 0 := if_neg h
  rw [this]; omega
theorem nBl_cong {p q : Nat → Prop} {n : Nat} (h : ∀ j, j < n → (p j ↔ q j)) : nBl p n = nBl q n := by
  induction n with
  | zero => rw [nBl, nBl]
  | succ n ih =>
    have i := ih (fun j hj => h j (by omega))
    have e := h n (by omega)
    by_cases hq : q n
    · rw [nBl_y hq, nBl_y (e.2 hq), i]
    · rw [nBl_n hq, nBl_n (fun hh => hq (e.1 hh)), i]
