/-! the class's order of units: by day, then by kind, then as they came -/
def uLt (u x : aR) : Prop := u 4 < x 4 ∨ (u 4 = x 4 ∧ u 0 < x 0)
noncomputable def pos (u : aR) (l : List aR) : Nat → Nat
  | 0 => 0
  | k + 1 => @ite _ (uLt u (rg l k)) (Classical.propDecidable _) (pos u l k) (k + 1)
theorem pos_y {u : aR} {l : List aR} {k : Nat} (h : uLt u (rg l k)) : pos u l (k + 1) = pos u l k := by rw [pos]; exact if_pos h
theorem pos_n {u : aR} {l : List aR} {k : Nat} (h : ¬ uLt u (rg l k)) : pos u l (k + 1) = k + 1 := by rw [pos]; exact if_neg h
theorem pos_le (u : aR) (l : List aR) (k : Nat) : pos u l k ≤ k := by
  induction k with
  | zero => rw [pos]; omega
  | succ k ih =>
    by_cases h : uLt u (rg l k)
    · rw [pos_y h]; omega
    · rw [pos_n h]; omega
noncomputable def insU (u : aR) (l : List aR) : List aR := l.take (pos u l l.length) ++ u :: l.drop (pos u l l.length)
theorem ins_len (u : aR) (l : List aR) : (insU u l).length = l.length + 1 := by
  unfold insU
  have := pos_le u l l.length
  simp
  omega
theorem ins_rg (u : aR) (l : List aR) (j : Nat) (hj : j ≤ l.length) : rg (insU u l) j = if j < pos u l l.length then rg l j else if j = pos u l l.length then u else rg l (j - 1) := by
  have hp := pos_le u l l.length
  unfold insU rg
  rw [List.getD_eq_getElem?_getD, List.getElem?_append]
  have e : (l.take (pos u l l.length)).length = pos u l l.length := by simp; omega
  rw [e]
  split
  · rename_i h
    rw [List.getElem?_take_of_lt h, List.getD_eq_getElem?_getD]
  · rename_i h
    split
    · rename_i h2; subst h2; simp
    · rename_i h2
      rw [List.getElem?_cons]
      rw [if_neg (by omega), List.getElem?_drop, List.getD_eq_getElem?_getD]
      congr 2
      omega
theorem ins_cons_le {u h : aR} {t : List aR} (hn : ¬ uLt u h) : insU u (h :: t) = h :: insU u t := by
  have key : ∀ k, pos u (h :: t) (k + 1) = pos u t k + 1 := by
    intro k
    induction k with
    | zero => rw [pos_n (show ¬ uLt u (rg (h :: t) 0) from hn)]; rfl
    | succ k ih =>
      by_cases e : uLt u (rg t k)
      · rw [pos_y (show uLt u (rg (h :: t) (k + 1)) from e), pos_y e, ih]
      · rw [pos_n (show ¬ uLt u (rg (h :: t) (k + 1)) from e), pos_n e]
  unfold insU
  rw [show (h :: t).length = t.length + 1 from rfl, key]
  rfl
theorem ins_front {u : aR} {l : List aR} (h : ∀ x ∈ l, uLt u x) : insU u l = u :: l := by
  have key : ∀ k, k ≤ l.length → pos u l k = 0 := by
    intro k
    induction k with
    | zero => intro _; rw [pos]
    | succ k ih => intro hk; rw [pos_y (h _ (rg_mem (by omega)))]; exact ih (by omega)
  unfold insU
  rw [key _ (Nat.le_refl _)]
  rfl
theorem ins_mem {u x : aR} {l : List aR} : x ∈ insU u l ↔ x = u ∨ x ∈ l := by
  unfold insU
  rw [List.mem_append, List.mem_cons]
  constructor
  · rintro (h | h | h)
    · exact Or.inr (List.mem_of_mem_take h)
    · exact Or.inl h
    · exact Or.inr (List.mem_of_mem_drop h)
  · rintro (h | h)
    · exact Or.inr (Or.inl h)
    · rw [← List.take_append_drop (pos u l l.length) l, List.mem_append] at h
      rcases h with h | h
      · exact Or.inl h
      · exact Or.inr (Or.inr h)
theorem ins_cnt (u : aR) (l : List aR) (f : aR → Bool) : (insU u l).countP f = l.countP f + (if f u = true then 1 else 0) := by
  unfold insU
  rw [List.countP_append, List.countP_cons]
  have := congrArg (List.countP f) (List.take_append_drop (pos u l l.length) l)
  rw [List.countP_append] at this
  omega
noncomputable def sr (l : List aR) : List aR := l.foldl (fun acc u => if u 0 = 4 then acc else insU u acc) []
theorem sr_app_w {l : List aR} {u : aR} (h : u 0 = 4) : sr (l ++ [u]) = sr l := by
  unfold sr
  rw [List.foldl_append]
  simp [h]
theorem sr_app_u {l : List aR} {u : aR} (h : u 0 ≠ 4) : sr (l ++ [u]) = insU u (sr l) := by
  unfold sr
  rw [List.foldl_append]
  simp [h]
/-- induction from the right -/
theorem rev_ind {P : List aR → Prop} (h0 : P []) (h1 : ∀ l u, P l → P (l ++ [u])) (l : List aR) : P l := by
  have : ∀ m : List aR, P m.reverse := by
    intro m
    induction m with
    | nil => exact h0
    | cons x m ih => rw [List.reverse_cons]; exact h1 _ _ ih
  have := this l.reverse
  rwa [List.reverse_reverse] at this
theorem sr_mem {l : List aR} {x : aR} : x ∈ sr l ↔ x ∈ l ∧ x 0 ≠ 4 := by
  induction l using rev_ind with
  | h0 => simp [sr]
  | h1 l u ih =>
    by_cases e : u 0 = 4
    · rw [sr_app_w e, ih, List.mem_append]
      constructor
      · rintro ⟨a, b⟩; exact ⟨Or.inl a, b⟩
      · rintro ⟨a | a, b⟩
        · exact ⟨a, b⟩
        · rw [List.mem_singleton.1 a] at b; exact absurd e b
    · rw [sr_app_u e, ins_mem, ih, List.mem_append]
      constructor
      · rintro (a | a)
        · rw [a]; exact ⟨Or.inr (List.mem_singleton.2 rfl), e⟩
        · exact ⟨Or.inl a.1, a.2⟩
      · rintro ⟨a | a, b⟩
        · exact Or.inr ⟨a, b⟩
        · exact Or.inl (List.mem_singleton.1 a)
def isWt (u : aR) : Bool := decide (u 0 = 4)
theorem sr_cnt (l : List aR) (f : aR → Bool) : (sr l).countP f = l.countP (fun u => f u && !isWt u) := by
  induction l using rev_ind with
  | h0 => simp [sr]
  | h1 l u ih =>
    rw [List.countP_append, List.countP_singleton]
    by_cases e : u 0 = 4
    · rw [sr_app_w e, ih]; simp [isWt, e]
    · rw [sr_app_u e, ins_cnt, ih]; simp [isWt, e]
theorem sr_len (l : List aR) : (sr l).length + l.countP isWt = l.length := by
  induction l using rev_ind with
  | h0 => simp [sr]
  | h1 l u ih =>
    rw [List.countP_append, List.countP_singleton, List.length_append, List.length_singleton]
    by_cases e : u 0 = 4
    · rw [sr_app_w e]; simp [isWt, e]; omega
    · rw [sr_app_u e, ins_len]; simp [isWt, e]; omega
theorem er_app_l {l : List aR} {u : aR} {i : Nat} (h : i < l.length) : (l ++ [u]).eraseIdx i = l.eraseIdx i ++ [u] := List.eraseIdx_append_of_lt_length h _
theorem er_app_r {l : List aR} {u : aR} : (l ++ [u]).eraseIdx l.length = l := by
  rw [List.eraseIdx_append_of_length_le (Nat.le_refl _)]
  simp
/-- the first of the least ones heads the class's row -/
theorem sr_head (l : List aR) : ∀ i, i < l.length → rg l i 0 ≠ 4 → (∀ j, j < i → rg l j 0 ≠ 4 → uLt (rg l i) (rg l j)) → (∀ j, j < l.length → rg l j 0 ≠ 4 → ¬ uLt (rg l j) (rg l i)) → sr l = rg l i :: sr (l.eraseIdx i) := by
  induction l using rev_ind with
  | h0 => intro i hi; exact absurd hi (by simp)
  | h1 l u ih =>
    intro i hi h4 hb ha
    rw [List.length_append, List.length_singleton] at hi
    by_cases e : i = l.length
    · subst e
      rw [rg_app_r] at h4 hb ha ⊢
      rw [er_app_r, sr_app_u h4]
      refine ins_front (fun x hx => ?_)
      have := sr_mem.1 hx
      obtain ⟨j, hj, ej⟩ := List.getElem_of_mem this.1
      have e' : rg l j = x := by unfold rg; rw [List.getD_eq_getElem?_getD, List.getElem?_eq_getElem hj, ej]; rfl
      have := hb j hj (by rw [rg_app_l hj, e']; exact this.2)
      rw [rg_app_l hj, e'] at this
      exact this
    · have hi' : i < l.length := by omega
      rw [rg_app_l hi'] at h4 hb ha ⊢
      rw [er_app_l hi']
      have := ih i hi' h4 (fun j hj hn => by have := hb j hj (by rw [rg_app_l (by omega)]; exact hn); rw [rg_app_l (by omega)] at this; exact this) (fun j hj hn => by have := ha j (by rw [List.length_append]; omega) (by rw [rg_app_l hj]; exact hn); rw [rg_app_l hj] at this; exact this)
      by_cases w : u 0 = 4
      · rw [sr_app_w w, sr_app_w w, this]
      · rw [sr_app_u w, sr_app_u w, this]
        refine ins_cons_le ?_
        have := ha l.length (by simp) (by rw [rg_app_r]; exact w)
        rw [rg_app_r] at this
        exact this
theorem sr_erW (l : List aR) : ∀ i, i < l.length → rg l i 0 = 4 → sr (l.eraseIdx i) = sr l := by
  induction l using rev_ind with
  | h0 => intro i hi; exact absurd hi (by simp)
  | h1 l u ih =>
    intro i hi h4
    rw [List.length_append, List.length_singleton] at hi
    by_cases e : i = l.length
    · subst e
      rw [rg_app_r] at h4
      rw [er_app_r, sr_app_w h4]
    · have hi' : i < l.length := by omega
      rw [rg_app_l hi'] at h4
      rw [er_app_l hi']
      by_cases w : u 0 = 4
      · rw [sr_app_w w, sr_app_w w, ih i hi' h4]
      · rw [sr_app_u w, sr_app_u w, ih i hi' h4]
/-- the units that wait, as the class keeps them -/
def wl (l : List aR) : List aR := (l.filter isWt).map (fun u => mkC 0 (u 1) 0 0)
theorem wl_app_w {l : List aR} {u : aR} (h : u 0 = 4) : wl (l ++ [u]) = wl l ++ [mkC 0 (u 1) 0 0] := by
  unfold wl
  rw [List.filter_append]
  simp [isWt, h]
theorem wl_app_u {l : List aR} {u : aR} (h : u 0 ≠ 4) : wl (l ++ [u]) = wl l := by
  unfold wl
  rw [List.filter_append]
  simp [isWt, h]
theorem wl_len (l : List aR) : (wl l).length = l.countP isWt := by
  unfold wl
  rw [List.length_map, List.countP_eq_length_filter]
theorem sr_wl_len (l : List aR) : (sr l).length + (wl l).length = l.length := by rw [wl_len]; exact sr_len l
theorem wl_erU (l : List aR) : ∀ i, i < l.length → rg l i 0 ≠ 4 → wl (l.eraseIdx i) = wl l := by
  induction l using rev_ind with
  | h0 => intro i hi; exact absurd hi (by simp)
  | h1 l u ih =>
    intro i hi h4
    rw [List.length_append, List.length_singleton] at hi
    by_cases e : i = l.length
    · subst e
      rw [rg_app_r] at h4
      rw [er_app_r, wl_app_u h4]
    · have hi' : i < l.length := by omega
      rw [rg_app_l hi'] at h4
      rw [er_app_l hi']
      by_cases w : u 0 = 4
      · rw [wl_app_w w, wl_app_w w, ih i hi' h4]
      · rw [wl_app_u w, wl_app_u w, ih i hi' h4]
