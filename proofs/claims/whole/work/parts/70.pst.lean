/-! the parser's states: a place, the network, the first error's code and place -/
abbrev aQ : Type := Nat × aA × Int × Int
noncomputable def rqS (x : aX) (P : Prop) (c : Int) (s : aQ) : aQ := @ite _ (s.2.2.1 = 0 ∧ ¬ P) (Classical.propDecidable _) (s.1, s.2.1, c, (tS x s.1 : Int)) s
def advS (x : aX) (s : aQ) : aQ := if s.2.2.1 = 0 then (tE x s.1, s.2) else s
noncomputable def argS (x : aX) (R : Int → Prop) (s : aQ) : aQ := advS x (rqS x (R (tV x s.1)) 2 (rqS x (tK x s.1 = 2) 1 s))
def upS (s : aQ) (A : aA) : aQ := if s.2.2.1 = 0 then (s.1, A, s.2.2) else s
noncomputable def finS (x : aX) (s : aQ) : aQ := advS x (rqS x (tK x s.1 = 3) 1 s)
theorem rqS_y {x : aX} {P : Prop} {c : Int} {s : aQ} (h : P) : rqS x P c s = s := by unfold rqS; exact if_neg (fun hh => hh.2 h)
theorem rqS_e {x : aX} {P : Prop} {c : Int} {s : aQ} (h : s.2.2.1 ≠ 0) : rqS x P c s = s := by unfold rqS; exact if_neg (fun hh => h hh.1)
theorem rqS_n {x : aX} {P : Prop} {c : Int} {s : aQ} (h : s.2.2.1 = 0) (h' : ¬ P) : rqS x P c s = (s.1, s.2.1, c, (tS x s.1 : Int)) := by unfold rqS; exact if_pos ⟨h, h'⟩
theorem rqS_1 {x : aX} {P : Prop} {c : Int} {s : aQ} : (rqS x P c s).1 = s.1 ∧ (rqS x P c s).2.1 = s.2.1 := by
  unfold rqS
  by_cases h : s.2.2.1 = 0 ∧ ¬ P
  · rw [if_pos h]; exact ⟨rfl, rfl⟩
  · rw [if_neg h]; exact ⟨rfl, rfl⟩
theorem argS_0 {x : aX} {R : Int → Prop} {q : Nat} {A : aA} {p : Int} (h : tK x q = 2) (h' : R (tV x q)) : argS x R (q, A, 0, p) = (tE x q, A, 0, p) := by
  unfold argS
  rw [rqS_y (P := tK x q = 2) h, rqS_y (P := R (tV x q)) h']
  rfl
theorem argS_1 {x : aX} {R : Int → Prop} {q : Nat} {A : aA} {p : Int} (h : tK x q ≠ 2) : argS x R (q, A, 0, p) = (q, A, 1, (tS x q : Int)) := by
  unfold argS
  rw [rqS_n (P := tK x q = 2) rfl h, rqS_e (show (1 : Int) ≠ 0 by decide)]
  rfl
theorem argS_2 {x : aX} {R : Int → Prop} {q : Nat} {A : aA} {p : Int} (h : tK x q = 2) (h' : ¬ R (tV x q)) : argS x R (q, A, 0, p) = (q, A, 2, (tS x q : Int)) := by
  unfold argS
  rw [rqS_y (P := tK x q = 2) h, rqS_n (P := R (tV x q)) rfl h']
  rfl
theorem argS_e {x : aX} {R : Int → Prop} {s : aQ} (h : s.2.2.1 ≠ 0) : argS x R s = s := by
  unfold argS
  rw [rqS_e h, rqS_e h]
  unfold advS
  rw [if_neg h]
theorem finS_0 {x : aX} {q : Nat} {A : aA} {p : Int} (h : tK x q = 3) : finS x (q, A, 0, p) = (tE x q, A, 0, p) := by
  unfold finS
  rw [rqS_y (P := tK x q = 3) h]
  rfl
theorem finS_1 {x : aX} {q : Nat} {A : aA} {p : Int} (h : tK x q ≠ 3) : finS x (q, A, 0, p) = (q, A, 1, (tS x q : Int)) := by
  unfold finS
  rw [rqS_n (P := tK x q = 3) rfl h]
  rfl
theorem finS_e {x : aX} {s : aQ} (h : s.2.2.1 ≠ 0) : finS x s = s := by
  unfold finS
  rw [rqS_e h]
  unfold advS
  rw [if_neg h]
theorem upS_e {s : aQ} {A : aA} (h : s.2.2.1 ≠ 0) : upS s A = s := by unfold upS; rw [if_neg h]
theorem argS_A {x : aX} {R : Int → Prop} {s : aQ} : (argS x R s).2.1 = s.2.1 := by
  unfold argS advS
  split
  · exact rqS_1.2.trans rqS_1.2
  · exact rqS_1.2.trans rqS_1.2
theorem argS_ok {x : aX} {R : Int → Prop} {s : aQ} (h : (argS x R s).2.2.1 = 0) : s.2.2.1 = 0 ∧ tK x s.1 = 2 ∧ R (tV x s.1) := by
  obtain ⟨q, A, c, p⟩ := s
  by_cases hc : c = 0
  · subst hc
    refine ⟨rfl, ?_⟩
    by_cases h1 : tK x q = 2
    · by_cases h2 : R (tV x q)
      · exact ⟨h1, h2⟩
      · rw [argS_2 h1 h2] at h; exact absurd h (show ¬ (2 : Int) = 0 by decide)
    · rw [argS_1 h1] at h; exact absurd h (show ¬ (1 : Int) = 0 by decide)
  · rw [argS_e (s := (q, A, c, p)) hc] at h; exact absurd h hc
