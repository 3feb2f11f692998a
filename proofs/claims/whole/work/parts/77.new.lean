/-! new objects: a block of cells at the top -/
def gS (S0 : zSh) (im0 : zIm) (a k : Nat) (K N : Nat → Nat) (R : Nat → Nat → Option Nat) (V : Nat → Int → Int) (S : zSh) (im : zIm) : Prop :=
  ztop S = a + k ∧ (∀ b, b < a → zkd S b = zkd S0 b ∧ zln S b = zln S0 b ∧ zrf S b = zrf S0 b) ∧ (∀ b, b < a → im b = im0 b) ∧
  ∀ d, d < k → zkd S (a + d) = K d ∧ zln S (a + d) = N d ∧ (∀ j, zrf S (a + d) j = (R d j).map (fun o => a + o)) ∧ ∀ j, im (a + d) j = V d j
section GN
variable {S0 S S' : zSh} {im0 im im' : zIm} {a k : Nat} {K N : Nat → Nat} {R : Nat → Nat → Option Nat} {V : Nat → Int → Int}
theorem zpush_o {S : zSh} {kd n b : Nat} (h : b ≠ ztop S) : zkd (zpush S kd n) b = zkd S b ∧ zln (zpush S kd n) b = zln S b ∧ zrf (zpush S kd n) b = zrf S b := ⟨if_neg h, if_neg h, if_neg h⟩
theorem zpush_s {S : zSh} {kd n : Nat} : zkd (zpush S kd n) (ztop S) = kd ∧ zln (zpush S kd n) (ztop S) = n ∧ zrf (zpush S kd n) (ztop S) = fun _ => none := ⟨if_pos rfl, if_pos rfl, if_pos rfl⟩
theorem gS.start {kd n : Nat} (ha : a = ztop S0) : gS S0 im0 a 1 (fun _ => kd) (fun _ => n) (fun _ _ => none) (fun _ _ => 0) (zpush S0 kd n) (zsr im0 a (fun _ => 0)) := by
  subst ha
  refine ⟨rfl, fun b hb => zpush_o (by omega), fun b hb => zsr_n (by omega), fun d hd => ?_⟩
  have : d = 0 := by omega
  subst this
  exact ⟨zpush_s.1, zpush_s.2.1, fun j => by show zrf _ (ztop S0) j = _; rw [zpush_s.2.2]; rfl, fun j => by show zsr im0 (ztop S0) (fun _ => 0) (ztop S0) j = 0; rw [zsr_s]⟩
theorem gS.push (h : gS S0 im0 a k K N R V S im) {o kd n : Nat} (eo : o = ztop S) (eS : S' = zpush S kd n) (eI : im' = zsr im o (fun _ => 0)) : o = a + k ∧ gS S0 im0 a (k + 1) (fun d => if d = k then kd else K d) (fun d => if d = k then n else N d) (fun d j => if d = k then none else R d j) (fun d j => if d = k then 0 else V d j) S' im' := by
  obtain ⟨h1, h2, h3, h4⟩ := h
  have ho : o = a + k := by rw [eo, h1]
  refine ⟨ho, by rw [eS]; show ztop S + 1 = _; omega, fun b hb => ?_, fun b hb => ?_, fun d hd => ?_⟩
  · have := zpush_o (S := S) (kd := kd) (n := n) (b := b) (by omega)
    rw [eS, this.1, this.2.1, this.2.2]; exact h2 b hb
  · rw [eI, zsr_n (by omega)]; exact h3 b hb
  · dsimp only
    by_cases e : d = k
    · subst e
      have z := zpush_s (S := S) (kd := kd) (n := n)
      rw [h1] at z
      rw [eS, eI, ho]
      refine ⟨by rw [z.1]; exact (if_pos rfl).symm, by rw [z.2.1]; exact (if_pos rfl).symm, fun j => ?_, fun j => ?_⟩
      · rw [z.2.2, if_pos rfl]; rfl
      · rw [zsr_s, if_pos rfl]
    · obtain ⟨k1, k2, k3, k4⟩ := h4 d (by omega)
      have z := zpush_o (S := S) (kd := kd) (n := n) (b := a + d) (by omega)
      rw [eS, eI, zsr_n (by omega)]
      refine ⟨by rw [z.1, if_neg e]; exact k1, by rw [z.2.1, if_neg e]; exact k2, fun j => by rw [z.2.2, if_neg e]; exact k3 j, fun j => by rw [if_neg e]; exact k4 j⟩
theorem zsf_k {S : zSh} {c j : Nat} {v : Option Nat} : zkd (zsf S c j v) = zkd S ∧ zln (zsf S c j v) = zln S ∧ ztop (zsf S c j v) = ztop S := ⟨rfl, rfl, rfl⟩
theorem gS.ref (h : gS S0 im0 a k K N R V S im) (d j o : Nat) (hd : d < k) (eS : S' = zsf S (a + d) j (some (a + o))) : gS S0 im0 a k K N (fun e i => if e = d ∧ i = j then some o else R e i) V S' im := by
  obtain ⟨h1, h2, h3, h4⟩ := h
  refine ⟨by rw [eS]; exact h1, fun b hb => ?_, h3, fun e he => ?_⟩
  · rw [eS, zsf_k.1, zsf_k.2.1, zsf_o (by omega)]; exact h2 b hb
  · dsimp only
    obtain ⟨k1, k2, k3, k4⟩ := h4 e he
    refine ⟨by rw [eS]; exact k1, by rw [eS]; exact k2, fun i => ?_, k4⟩
    rw [eS]
    by_cases ee : e = d
    · subst ee
      by_cases ei : i = j
      · rw [ei, zsf_s, if_pos ⟨rfl, rfl⟩]; rfl
      · rw [zsf_p ei, if_neg (fun hh => ei hh.2)]; exact k3 i
    · rw [zsf_o (by omega), if_neg (fun hh => ee hh.1)]; exact k3 i
theorem gS.int (h : gS S0 im0 a k K N R V S im) (d : Nat) {i v : Int} (hd : d < k) (eI : im' = zst im (a + d) i v) : gS S0 im0 a k K N R (fun e j => if e = d ∧ j = i then v else V e j) S im' := by
  obtain ⟨h1, h2, h3, h4⟩ := h
  refine ⟨h1, h2, fun b hb => by rw [eI, zst_n (by omega)]; exact h3 b hb, fun e he => ?_⟩
  dsimp only
  obtain ⟨k1, k2, k3, k4⟩ := h4 e he
  refine ⟨k1, k2, k3, fun j => ?_⟩
  rw [eI, zst_at]
  by_cases c : e = d ∧ j = i
  · rw [if_pos c, if_pos ⟨by omega, c.2⟩]
  · rw [if_neg c, if_neg (fun hh => c ⟨by omega, hh.2⟩)]; exact k4 j
theorem gS.kd (h : gS S0 im0 a k K N R V S im) (d : Nat) (hd : d < k) : zkd S (a + d) = K d := (h.2.2.2 d hd).1
theorem gS.shp (h : gS S0 im0 a k K N R V S im) {T : Nat → Nat × Nat × (Nat → Option Nat)} (h1 : ∀ d, d < k → K d = (T d).1 ∧ N d = (T d).2.1) (h2 : ∀ d, d < k → ∀ j, j < 16 → R d j = (T d).2.2 j) : zShp S a k T := by
  intro d hd
  obtain ⟨k1, k2, k3, _⟩ := h.2.2.2 d hd
  exact ⟨k1.trans (h1 d hd).1, k2.trans (h1 d hd).2, fun j hj => by rw [k3 j, h2 d hd j hj]⟩
end GN
def sB (S S' : zSh) (c : Nat) : Prop := ∀ b, b < c → zkd S' b = zkd S b ∧ zln S' b = zln S b ∧ zrf S' b = zrf S b
section NW
variable {g : zG} {S : zSh} {im : zIm} {a : Nat}
set_option maxRecDepth 20000 in
theorem i_N (G : zOK g) (ha : a = ztop S) {Q : Option Value → zSh → zIm → Prop} (hQ : ∀ S' im', zS_N S' a → ztop S' = a + 41 → sB S S' a → (∀ b, b < a → im' b = im b) → nRep im' a A0S → Q none S' im') : zC g yX2_init M_X2_init [.ref a] (zpush S 2 0) (zsr im a (fun _ => 0)) Q zX0 := by
  have h := gS.start (S0 := S) (im0 := im) (kd := 2) (n := 0) ha
  refine v_X2_init G ?_
  intro o eo S1 eS im1 eI
  have p := h.push eo eS eI
  obtain ⟨ho, h⟩ := p
  subst ho
  refine ⟨h.kd 0 (by decide), fun S2 eS2 => ?_⟩
  have h := h.ref 0 1 1 (by decide) eS2
  intro o eo S1 eS im1 eI
  have p := h.push eo eS eI
  obtain ⟨ho, h⟩ := p
  subst ho
  refine ⟨h.kd 0 (by decide), fun S2 eS2 => ?_⟩
  have h := h.ref 0 2 2 (by decide) eS2
  intro o eo S1 eS im1 eI
  have p := h.push eo eS eI
  obtain ⟨ho, h⟩ := p
  subst ho
  refine v_X4_init G ⟨h.kd 3 (by decide), ?_⟩
  intro im2 eI2
  have h := h.int 3 (by decide) eI2
  intro o eo S1 eS im1 eI
  have p := h.push eo eS eI
  obtain ⟨ho, h⟩ := p
  subst ho
  refine ⟨h.kd 3 (by decide), fun S2 eS2 => ?_⟩
  have h := h.ref 3 3 4 (by decide) eS2
  intro o eo S1 eS im1 eI
  have p := h.push eo eS eI
  obtain ⟨ho, h⟩ := p
  subst ho
  refine ⟨h.kd 3 (by decide), fun S2 eS2 => ?_⟩
  have h := h.ref 3 4 5 (by decide) eS2
  intro o eo S1 eS im1 eI
  have p := h.push eo eS eI
  obtain ⟨ho, h⟩ := p
  subst ho
  refine ⟨h.kd 3 (by decide), fun S2 eS2 => ?_⟩
  have h := h.ref 3 5 6 (by decide) eS2
  intro o eo S1 eS im1 eI
  have p := h.push eo eS eI
  obtain ⟨ho, h⟩ := p
  subst ho
  refine ⟨h.kd 3 (by decide), fun S2 eS2 => ?_⟩
  have h := h.ref 3 6 7 (by decide) eS2
  intro o eo S1 eS im1 eI
  have p := h.push eo eS eI
  obtain ⟨ho, h⟩ := p
  subst ho
  refine ⟨h.kd 3 (by decide), fun S2 eS2 => ?_⟩
  have h := h.ref 3 7 8 (by decide) eS2
  intro o eo S1 eS im1 eI
  have p := h.push eo eS eI
  obtain ⟨ho, h⟩ := p
  subst ho
  refine ⟨h.kd 3 (by decide), fun S2 eS2 => ?_⟩
  have h := h.ref 3 8 9 (by decide) eS2
  intro o eo S1 eS im1 eI
  have p := h.push eo eS eI
  obtain ⟨ho, h⟩ := p
  subst ho
  refine ⟨h.kd 3 (by decide), fun S2 eS2 => ?_⟩
  have h := h.ref 3 9 10 (by decide) eS2
  intro o eo S1 eS im1 eI
  have p := h.push eo eS eI
  obtain ⟨ho, h⟩ := p
  subst ho
  refine ⟨h.kd 3 (by decide), fun S2 eS2 => ?_⟩
  have h := h.ref 3 10 11 (by decide) eS2
  refine ⟨rfl, h.kd 0 (by decide), fun S2 eS2 => ?_⟩
  have h := h.ref 0 3 3 (by decide) eS2
  intro o eo S1 eS im1 eI
  have p := h.push eo eS eI
  obtain ⟨ho, h⟩ := p
  subst ho
  refine v_X0_init G ?_
  intro o eo S1 eS im1 eI
  have p := h.push eo eS eI
  obtain ⟨ho, h⟩ := p
  subst ho
  refine ⟨h.kd 12 (by decide), fun S2 eS2 => ?_⟩
  have h := h.ref 12 1 13 (by decide) eS2
  intro o eo S1 eS im1 eI
  have p := h.push eo eS eI
  obtain ⟨ho, h⟩ := p
  subst ho
  refine ⟨h.kd 12 (by decide), fun S2 eS2 => ?_⟩
  have h := h.ref 12 2 14 (by decide) eS2
  intro o eo S1 eS im1 eI
  have p := h.push eo eS eI
  obtain ⟨ho, h⟩ := p
  subst ho
  refine ⟨h.kd 12 (by decide), fun S2 eS2 => ?_⟩
  have h := h.ref 12 3 15 (by decide) eS2
  intro o eo S1 eS im1 eI
  have p := h.push eo eS eI
  obtain ⟨ho, h⟩ := p
  subst ho
  refine ⟨h.kd 12 (by decide), fun S2 eS2 => ?_⟩
  have h := h.ref 12 4 16 (by decide) eS2
  intro o eo S1 eS im1 eI
  have p := h.push eo eS eI
  obtain ⟨ho, h⟩ := p
  subst ho
  refine ⟨h.kd 12 (by decide), fun S2 eS2 => ?_⟩
  have h := h.ref 12 5 17 (by decide) eS2
  refine ⟨rfl, h.kd 0 (by decide), fun S2 eS2 => ?_⟩
  have h := h.ref 0 4 12 (by decide) eS2
  intro o eo S1 eS im1 eI
  have p := h.push eo eS eI
  obtain ⟨ho, h⟩ := p
  subst ho
  refine v_X6_init G ?_
  intro o eo S1 eS im1 eI
  have p := h.push eo eS eI
  obtain ⟨ho, h⟩ := p
  subst ho
  refine ⟨h.kd 18 (by decide), fun S2 eS2 => ?_⟩
  have h := h.ref 18 1 19 (by decide) eS2
  intro o eo S1 eS im1 eI
  have p := h.push eo eS eI
  obtain ⟨ho, h⟩ := p
  subst ho
  refine ⟨h.kd 18 (by decide), fun S2 eS2 => ?_⟩
  have h := h.ref 18 2 20 (by decide) eS2
  intro o eo S1 eS im1 eI
  have p := h.push eo eS eI
  obtain ⟨ho, h⟩ := p
  subst ho
  refine ⟨h.kd 18 (by decide), fun S2 eS2 => ?_⟩
  have h := h.ref 18 3 21 (by decide) eS2
  intro o eo S1 eS im1 eI
  have p := h.push eo eS eI
  obtain ⟨ho, h⟩ := p
  subst ho
  refine ⟨h.kd 18 (by decide), fun S2 eS2 => ?_⟩
  have h := h.ref 18 4 22 (by decide) eS2
  intro o eo S1 eS im1 eI
  have p := h.push eo eS eI
  obtain ⟨ho, h⟩ := p
  subst ho
  refine ⟨h.kd 18 (by decide), fun S2 eS2 => ?_⟩
  have h := h.ref 18 5 23 (by decide) eS2
  intro o eo S1 eS im1 eI
  have p := h.push eo eS eI
  obtain ⟨ho, h⟩ := p
  subst ho
  refine ⟨h.kd 18 (by decide), fun S2 eS2 => ?_⟩
  have h := h.ref 18 6 24 (by decide) eS2
  refine ⟨rfl, h.kd 0 (by decide), fun S2 eS2 => ?_⟩
  have h := h.ref 0 5 18 (by decide) eS2
  intro o eo S1 eS im1 eI
  have p := h.push eo eS eI
  obtain ⟨ho, h⟩ := p
  subst ho
  refine v_X3_init G ?_
  intro o eo S1 eS im1 eI
  have p := h.push eo eS eI
  obtain ⟨ho, h⟩ := p
  subst ho
  refine ⟨h.kd 25 (by decide), fun S2 eS2 => ?_⟩
  have h := h.ref 25 1 26 (by decide) eS2
  intro o eo S1 eS im1 eI
  have p := h.push eo eS eI
  obtain ⟨ho, h⟩ := p
  subst ho
  refine ⟨h.kd 25 (by decide), fun S2 eS2 => ?_⟩
  have h := h.ref 25 2 27 (by decide) eS2
  intro o eo S1 eS im1 eI
  have p := h.push eo eS eI
  obtain ⟨ho, h⟩ := p
  subst ho
  refine ⟨h.kd 25 (by decide), fun S2 eS2 => ?_⟩
  have h := h.ref 25 3 28 (by decide) eS2
  intro o eo S1 eS im1 eI
  have p := h.push eo eS eI
  obtain ⟨ho, h⟩ := p
  subst ho
  refine ⟨h.kd 25 (by decide), fun S2 eS2 => ?_⟩
  have h := h.ref 25 4 29 (by decide) eS2
  refine ⟨rfl, h.kd 0 (by decide), fun S2 eS2 => ?_⟩
  have h := h.ref 0 6 25 (by decide) eS2
  intro o eo S1 eS im1 eI
  have p := h.push eo eS eI
  obtain ⟨ho, h⟩ := p
  subst ho
  refine v_X3_init G ?_
  intro o eo S1 eS im1 eI
  have p := h.push eo eS eI
  obtain ⟨ho, h⟩ := p
  subst ho
  refine ⟨h.kd 30 (by decide), fun S2 eS2 => ?_⟩
  have h := h.ref 30 1 31 (by decide) eS2
  intro o eo S1 eS im1 eI
  have p := h.push eo eS eI
  obtain ⟨ho, h⟩ := p
  subst ho
  refine ⟨h.kd 30 (by decide), fun S2 eS2 => ?_⟩
  have h := h.ref 30 2 32 (by decide) eS2
  intro o eo S1 eS im1 eI
  have p := h.push eo eS eI
  obtain ⟨ho, h⟩ := p
  subst ho
  refine ⟨h.kd 30 (by decide), fun S2 eS2 => ?_⟩
  have h := h.ref 30 3 33 (by decide) eS2
  intro o eo S1 eS im1 eI
  have p := h.push eo eS eI
  obtain ⟨ho, h⟩ := p
  subst ho
  refine ⟨h.kd 30 (by decide), fun S2 eS2 => ?_⟩
  have h := h.ref 30 4 34 (by decide) eS2
  refine ⟨rfl, h.kd 0 (by decide), fun S2 eS2 => ?_⟩
  have h := h.ref 0 7 30 (by decide) eS2
  intro o eo S1 eS im1 eI
  have p := h.push eo eS eI
  obtain ⟨ho, h⟩ := p
  subst ho
  refine v_X3_init G ?_
  intro o eo S1 eS im1 eI
  have p := h.push eo eS eI
  obtain ⟨ho, h⟩ := p
  subst ho
  refine ⟨h.kd 35 (by decide), fun S2 eS2 => ?_⟩
  have h := h.ref 35 1 36 (by decide) eS2
  intro o eo S1 eS im1 eI
  have p := h.push eo eS eI
  obtain ⟨ho, h⟩ := p
  subst ho
  refine ⟨h.kd 35 (by decide), fun S2 eS2 => ?_⟩
  have h := h.ref 35 2 37 (by decide) eS2
  intro o eo S1 eS im1 eI
  have p := h.push eo eS eI
  obtain ⟨ho, h⟩ := p
  subst ho
  refine ⟨h.kd 35 (by decide), fun S2 eS2 => ?_⟩
  have h := h.ref 35 3 38 (by decide) eS2
  intro o eo S1 eS im1 eI
  have p := h.push eo eS eI
  obtain ⟨ho, h⟩ := p
  subst ho
  refine ⟨h.kd 35 (by decide), fun S2 eS2 => ?_⟩
  have h := h.ref 35 4 39 (by decide) eS2
  refine ⟨rfl, h.kd 0 (by decide), fun S2 eS2 => ?_⟩
  have h := h.ref 0 8 35 (by decide) eS2
  intro o eo S1 eS im1 eI
  have p := h.push eo eS eI
  obtain ⟨ho, h⟩ := p
  subst ho
  refine v_X1_init G ?_
  refine ⟨rfl, h.kd 0 (by decide), fun S2 eS2 => ?_⟩
  have h := h.ref 0 9 40 (by decide) eS2
  have v (d : Nat) (hd : d < 41) (j : Int) := (h.2.2.2 d hd).2.2.2 j
  refine hQ _ _ (h.shp (by decide +kernel) (by decide +kernel)) h.1 h.2.1 h.2.2.1 ?_
  have z (j : Int) (h : j ≠ 3) : A0S.1 j = 0 := g0_o h
  refine ⟨⟨?_, ?_, ?_, ?_, ?_, fun i i0 i1 => ?_, fun s s0 s1 => ?_, fun j j0 j1 => ?_, fun c t ht j j0 j1 => ?_⟩, ⟨?_, fun k hk => ?_⟩, ⟨?_, fun k hk => ?_⟩, ⟨?_, fun k hk => ?_⟩, ⟨?_, fun k hk => ?_⟩⟩
  · rw [z 0 (by omega)]; exact v 0 (by decide) 0
  · rw [z 2 (by omega)]; exact v 3 (by decide) 0
  · exact v 3 (by decide) 1
  · rw [z 1 (by omega)]; exact v 3 (by decide) 2
  · rw [z 7 (by omega)]; exact v 12 (by decide) 0
  · rw [z 2 (by omega)] at i1; omega
  · have : s < g0S 3 := s1
    rw [g0_3] at this; omega
  · rw [z _ (by omega)]; exact v 8 (by decide) j
  · unfold tP at ht
    rcases ht with ⟨rfl, rfl⟩ | ⟨rfl, rfl⟩ | ⟨rfl, rfl⟩ | ⟨rfl, rfl⟩ | ⟨rfl, rfl⟩ | ⟨rfl, rfl⟩ | ⟨rfl, rfl⟩ | ⟨rfl, rfl⟩ | ⟨rfl, rfl⟩ | ⟨rfl, rfl⟩ <;> (rw [z _ (by omega)]; exact v _ (by decide) j)
  · exact v 18 (by decide) 0
  · exact absurd hk (Nat.not_lt_zero _)
  · exact v 25 (by decide) 0
  · exact absurd hk (Nat.not_lt_zero _)
  · exact v 30 (by decide) 0
  · exact absurd hk (Nat.not_lt_zero _)
  · exact v 35 (by decide) 0
  · exact absurd hk (Nat.not_lt_zero _)
theorem i_T (G : zOK g) (ha : a = ztop S) {Q : Option Value → zSh → zIm → Prop} (hQ : ∀ S' im', zS_T S' a → ztop S' = a + 3 → sB S S' a → (∀ b, b < a → im' b = im b) → im' a 0 = 0 → im' a 1 = 0 → im' a 2 = -1 → Q none S' im') : zC g yX5_init M_X5_init [.ref a] (zpush S 5 0) (zsr im a (fun _ => 0)) Q zX0 := by
  have h := gS.start (S0 := S) (im0 := im) (kd := 5) (n := 0) ha
  refine v_X5_init G ?_
  intro o eo S1 eS im1 eI
  have p := h.push eo eS eI
  obtain ⟨ho, h⟩ := p
  subst ho
  refine ⟨h.kd 0 (by decide), fun S2 eS2 => ?_⟩
  have h := h.ref 0 3 1 (by decide) eS2
  intro o eo S1 eS im1 eI
  have p := h.push eo eS eI
  obtain ⟨ho, h⟩ := p
  subst ho
  refine ⟨h.kd 0 (by decide), fun S2 eS2 => ?_⟩
  have h := h.ref 0 4 2 (by decide) eS2
  refine ⟨h.kd 0 (by decide), fun im2 eI2 => ?_⟩
  have h := h.int 0 (by decide) eI2
  exact hQ _ _ (h.shp (by decide +kernel) (by decide +kernel)) h.1 h.2.1 h.2.2.1 ((h.2.2.2 0 (by decide)).2.2.2 0) ((h.2.2.2 0 (by decide)).2.2.2 1) ((h.2.2.2 0 (by decide)).2.2.2 2)
theorem i_M (G : zOK g) (ha : a = ztop S) {Q : Option Value → zSh → zIm → Prop} (hQ : ∀ S' im', zS_M S' a → ztop S' = a + 6 → sB S S' a → (∀ b, b < a → im' b = im b) → im' a 7 = 0 → im' a 13 = 0 → im' a 14 = -1 → mRep (im' (a + 1)) A0S → (∀ j, im' (a + 4) j = 0) → Q none S' im') : zC g yX8_init M_X8_init [.ref a] (zpush S 8 0) (zsr im a (fun _ => 0)) Q zX0 := by
  have h := gS.start (S0 := S) (im0 := im) (kd := 8) (n := 0) ha
  refine v_X8_init G ?_
  intro o eo S1 eS im1 eI
  have p := h.push eo eS eI
  obtain ⟨ho, h⟩ := p
  subst ho
  refine ⟨h.kd 0 (by decide), fun S2 eS2 => ?_⟩
  have h := h.ref 0 0 1 (by decide) eS2
  intro o eo S1 eS im1 eI
  have p := h.push eo eS eI
  obtain ⟨ho, h⟩ := p
  subst ho
  refine ⟨h.kd 0 (by decide), fun S2 eS2 => ?_⟩
  have h := h.ref 0 1 2 (by decide) eS2
  intro o eo S1 eS im1 eI
  have p := h.push eo eS eI
  obtain ⟨ho, h⟩ := p
  subst ho
  refine ⟨h.kd 0 (by decide), fun S2 eS2 => ?_⟩
  have h := h.ref 0 2 3 (by decide) eS2
  intro o eo S1 eS im1 eI
  have p := h.push eo eS eI
  obtain ⟨ho, h⟩ := p
  subst ho
  refine ⟨h.kd 0 (by decide), fun S2 eS2 => ?_⟩
  have h := h.ref 0 3 4 (by decide) eS2
  intro o eo S1 eS im1 eI
  have p := h.push eo eS eI
  obtain ⟨ho, h⟩ := p
  subst ho
  refine ⟨h.kd 0 (by decide), fun S2 eS2 => ?_⟩
  have h := h.ref 0 6 5 (by decide) eS2
  refine ⟨h.kd 0 (by decide), fun im2 eI2 => ?_⟩
  have h := h.int 0 (by decide) eI2
  refine ⟨a + 1, (h.2.2.2 0 (by decide)).2.2.1 0, h.kd 1 (by decide), ⟨by omega, by rw [show zln _ (a + 1) = 7692 from (h.2.2.2 1 (by decide)).2.1]; omega⟩, fun im3 eI3 => ?_⟩
  have h := h.int 1 (by decide) eI3
  refine hQ _ _ (h.shp (by decide +kernel) (by decide +kernel)) h.1 h.2.1 h.2.2.1 ((h.2.2.2 0 (by decide)).2.2.2 7) ((h.2.2.2 0 (by decide)).2.2.2 13) ((h.2.2.2 0 (by decide)).2.2.2 14) (mRep_0 (fun j j0 j1 => ?_)) (fun j => (h.2.2.2 4 (by decide)).2.2.2 j)
  rw [(h.2.2.2 1 (by decide)).2.2.2 j]
  by_cases e : j = 3
  · rw [e]; rfl
  · rw [g0_o e]
    simp [e]
end NW
