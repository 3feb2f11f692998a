theorem nBl_lt {p : Nat → Prop} {m : Nat} : ∀ n, m ≤ n → (∀ j, j < n → (p j ↔ j < m)) → nBl p n = m := by
  intro n
  induction n with
  | zero => intro h _; rw [nBl]; omega
  | succ n ih =>
    intro h hp
    by_cases e : m = n + 1
    · have h1 : nBl p n = n := by
        have : ∀ k, k ≤ n → nBl p k = k := by
          intro k
          induction k with
          | zero => intro _; rw [nBl]
          | succ k ik => intro hk; rw [nBl_y ((hp k (by omega)).2 (by omega)), ik (by omega)]
        exact this n (Nat.le_refl _)
      rw [nBl_y ((hp n (by omega)).2 (by omega)), h1, e]
    · rw [nBl_n (fun hh => by have := (hp n (by omega)).1 hh; omega)]
      exact ih (by omega) (fun j hj => hp j (by omega))
theorem nBl_cnt (f : aR → Bool) (l : List aR) : nBl (fun j => f (rg l j) = true) l.length = l.countP f := by
  have : ∀ k, k ≤ l.length → nBl (fun j => f (rg l j) = true) k = (l.take k).countP f := by
    intro k
    induction k with
    | zero => intro _; rw [nBl]; simp
    | succ k ih =>
      intro hk
      rw [cnt_take (by omega), ← ih (by omega)]
      by_cases e : f (rg l k) = true
      · rw [nBl_y e, if_pos e]
      · rw [nBl_n e, if_neg e, Nat.add_zero]
  have := this l.length (Nat.le_refl _)
  rwa [List.take_length] at this
def ahd (l : List aR) (j k : Nat) : Prop := rg l j 0 ≠ 4 ∧ (uLt (rg l j) (rg l k) ∨ (¬ uLt (rg l k) (rg l j) ∧ j < k))
noncomputable def rk (l : List aR) (k : Nat) : Nat := nBl (fun j => ahd l j k) l.length
theorem rk_old_w {l : List aR} {u : aR} {k : Nat} (hu : u 0 = 4) (hk : k < l.length) : rk (l ++ [u]) k = rk l k := by
  unfold rk
  rw [List.length_append, List.length_singleton, nBl_n (by unfold ahd; rw [rg_app_r]; exact fun hh => hh.1 hu)]
  exact nBl_cong (fun j hj => by unfold ahd; rw [rg_app_l hj, rg_app_l hk])
theorem rk_old_y {l : List aR} {u : aR} {k : Nat} (hu : u 0 ≠ 4) (hk : k < l.length) (h : uLt u (rg l k)) : rk (l ++ [u]) k = rk l k + 1 := by
  unfold rk
  rw [List.length_append, List.length_singleton, nBl_y (by unfold ahd; rw [rg_app_r, rg_app_l hk]; exact ⟨hu, Or.inl h⟩)]
  congr 1
  exact nBl_cong (fun j hj => by unfold ahd; rw [rg_app_l hj, rg_app_l hk])
theorem rk_old_n {l : List aR} {u : aR} {k : Nat} (hk : k < l.length) (h : ¬ uLt u (rg l k)) : rk (l ++ [u]) k = rk l k := by
  unfold rk
  rw [List.length_append, List.length_singleton, nBl_n (by unfold ahd; rw [rg_app_r, rg_app_l hk]; exact fun hh => hh.2.elim h (fun h2 => by omega))]
  exact nBl_cong (fun j hj => by unfold ahd; rw [rg_app_l hj, rg_app_l hk])
theorem rk_new {l : List aR} {u : aR} : rk (l ++ [u]) l.length = pos u (sr l) (sr l).length := by
  let f : aR → Bool := fun v => @decide (¬ uLt u v) (Classical.propDecidable _)
  have hf (v : aR) : f v = true ↔ ¬ uLt u v := @decide_eq_true_iff _ (Classical.propDecidable _)
  unfold rk
  have irr : ¬ uLt u u := by unfold uLt; omega
  rw [List.length_append, List.length_singleton, nBl_n (by unfold ahd; rw [rg_app_r]; exact fun hh => hh.2.elim irr (fun h2 => by omega))]
  have e1 : nBl (fun j => ahd (l ++ [u]) j l.length) l.length = nBl (fun j => (f (rg l j) && !isWt (rg l j)) = true) l.length := by
    refine nBl_cong (fun j hj => ?_)
    unfold ahd
    rw [rg_app_l hj, rg_app_r, Bool.and_eq_true, hf]
    unfold isWt
    simp only [Bool.not_eq_true', decide_eq_false_iff_not]
    constructor
    · rintro ⟨h1, h2⟩
      refine ⟨?_, h1⟩
      rcases h2 with h2 | h2
      · unfold uLt at h2 ⊢; omega
      · exact h2.1
    · rintro ⟨h1, h2⟩
      exact ⟨h2, Or.inr ⟨h1, hj⟩⟩
  rw [e1, nBl_cnt (fun v => f v && !isWt v) l, ← sr_cnt, ← nBl_cnt]
  refine nBl_lt _ (pos_le _ _ _) (fun j hj => ?_)
  rw [hf]
  constructor
  · intro h
    by_cases e : j < pos u (sr l) (sr l).length
    · exact e
    · exact absurd (pos_ge _ j (by omega) hj) h
  · exact fun h => pos_lt (sr_srt l) h
/-- the unit with p units ahead stands at p -/
theorem sr_rank (l : List aR) : (∀ k, k < l.length → rg l k 0 ≠ 4 → rk l k < (sr l).length ∧ rg (sr l) (rk l k) = rg l k) ∧ (∀ p, p < (sr l).length → ∃ k, k < l.length ∧ rg l k 0 ≠ 4 ∧ rk l k = p) := by
  induction l using rev_ind with
  | h0 => exact ⟨fun k hk => absurd hk (by simp), fun p hp => by simp [sr] at hp⟩
  | h1 l u ih =>
    obtain ⟨i1, i2⟩ := ih
    by_cases w : u 0 = 4
    · rw [sr_app_w w, List.length_append, List.length_singleton]
      refine ⟨fun k hk h4 => ?_, fun p hp => ?_⟩
      · by_cases e : k = l.length
        · rw [e, rg_app_r] at h4; exact absurd w h4
        · rw [rg_app_l (by omega)] at h4 ⊢
          rw [rk_old_w w (by omega)]
          exact i1 k (by omega) h4
      · obtain ⟨k, h1, h2, h3⟩ := i2 p hp
        exact ⟨k, by omega, by rw [rg_app_l h1]; exact h2, by rw [rk_old_w w h1]; exact h3⟩
    · rw [sr_app_u w, List.length_append, List.length_singleton, ins_len]
      have hp := pos_le u (sr l) (sr l).length
      have step (k : Nat) (hk : k < l.length) (h4 : rg l k 0 ≠ 4) : (uLt u (rg l k) ↔ pos u (sr l) (sr l).length ≤ rk l k) := by
        obtain ⟨a, b⟩ := i1 k hk h4
        rw [← b]
        constructor
        · intro h
          by_cases e : rk l k < pos u (sr l) (sr l).length
          · exact absurd h (pos_lt (sr_srt l) e)
          · omega
        · exact fun h => pos_ge _ _ h a
      refine ⟨fun k hk h4 => ?_, fun p hp2 => ?_⟩
      · by_cases e : k = l.length
        · rw [e, rk_new, rg_app_r, ins_rg _ _ _ hp, if_neg (by omega), if_pos rfl]
          exact ⟨by omega, rfl⟩
        · rw [rg_app_l (by omega)] at h4 ⊢
          obtain ⟨a, b⟩ := i1 k (by omega) h4
          have s := step k (by omega) h4
          by_cases hl : uLt u (rg l k)
          · rw [rk_old_y w (by omega) hl, ins_rg _ _ _ (by omega), if_neg (by have := s.1 hl; omega), if_neg (by have := s.1 hl; omega), Nat.add_sub_cancel]
            exact ⟨by omega, b⟩
          · rw [rk_old_n (by omega) hl, ins_rg _ _ _ (by omega), if_pos (by by_cases e2 : rk l k < pos u (sr l) (sr l).length; (exact e2); exact absurd (s.2 (by omega)) hl)]
            exact ⟨by omega, b⟩
      · by_cases e : p = pos u (sr l) (sr l).length
        · exact ⟨l.length, by omega, by rw [rg_app_r]; exact w, by rw [rk_new, e]⟩
        · by_cases e2 : p < pos u (sr l) (sr l).length
          · obtain ⟨k, h1, h2, h3⟩ := i2 p (by omega)
            refine ⟨k, by omega, by rw [rg_app_l h1]; exact h2, ?_⟩
            rw [rk_old_n h1 (fun hh => by have := (step k h1 h2).1 hh; omega)]; exact h3
          · obtain ⟨k, h1, h2, h3⟩ := i2 (p - 1) (by omega)
            refine ⟨k, by omega, by rw [rg_app_l h1]; exact h2, ?_⟩
            rw [rk_old_y w h1 ((step k h1 h2).2 (by omega))]; omega
