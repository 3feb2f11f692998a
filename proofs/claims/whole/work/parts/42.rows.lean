/-! the class's rows of units and of waiting ones -/
theorem zShp_sub {S : zSh} {n N N' : Nat} {T T' : Nat → Nat × Nat × (Nat → Option Nat)} (k : Nat) (h : zShp S n N T) (hk : k + N' ≤ N) (hT : ∀ d, d < N' → (T (k + d)).1 = (T' d).1 ∧ (T (k + d)).2.1 = (T' d).2.1 ∧ ∀ j, j < 16 → (T (k + d)).2.2 j = ((T' d).2.2 j).map (fun o => k + o)) : zShp S (n + k) N' T' := by
  intro d hd
  have h1 := h (k + d) (by omega)
  have h2 := hT d hd
  rw [Nat.add_assoc]
  refine ⟨by rw [h1.1, h2.1], by rw [h1.2.1, h2.2.1], fun j hj => ?_⟩
  rw [h1.2.2 j hj, h2.2.2 j hj, Option.map_map]
  congr 1
  funext o
  show n + (k + o) = n + k + o
  omega
theorem zN_U {S : zSh} {n : Nat} (h : zS_N S n) : zS_U S (n + 18) := zShp_sub 18 h (by decide) (by decide)
theorem zN_W {S : zSh} {n : Nat} (h : zS_N S n) : zS_Q S (n + 25) := zShp_sub 25 h (by decide) (by decide)
theorem zN_O {S : zSh} {n : Nat} (h : zS_N S n) : zS_Q S (n + 30) := zShp_sub 30 h (by decide) (by decide)
theorem zN_C {S : zSh} {n : Nat} (h : zS_N S n) : zS_Q S (n + 35) := zShp_sub 35 h (by decide) (by decide)
theorem zN_S {S : zSh} {n : Nat} (h : zS_N S n) : zS_S S (n + 3) := zShp_sub 3 h (by decide) (by decide)
theorem zN_F {S : zSh} {n : Nat} (h : zS_N S n) : zS_F S (n + 12) := zShp_sub 12 h (by decide) (by decide)
theorem zN_G {S : zSh} {n : Nat} (h : zS_N S n) : zS_G S (n + 40) := zShp_sub 40 h (by decide) (by decide)
theorem zst_at {im : zIm} {a b : Nat} {i j v : Int} : zst im a i v b j = if b = a ∧ j = i then v else im b j := by
  unfold zst zsr zup
  by_cases e : b = a
  · subst e
    by_cases e2 : j = i <;> simp [e2]
  · simp [e]
theorem zst_n {im : zIm} {a b : Nat} {i v : Int} (h : b ≠ a) : zst im a i v b = im b := zsr_n h
def uF (im : zIm) (u : Nat) (j : Int) (w : aR) : Prop := im (u + 1) j = w 4 ∧ im (u + 2) j = w 0 ∧ im (u + 3) j = w 1 ∧ im (u + 4) j = w 2 ∧ im (u + 5) j = w 3 ∧ im (u + 6) j = w 5
def uRp (im : zIm) (u : Nat) (R : List aR) : Prop := im u 0 = R.length ∧ ∀ k : Nat, k < R.length → uF im u k (rg R k)
def frU (u : Nat) (im im' : zIm) : Prop := ∀ b, (b < u ∨ u + 7 ≤ b) → im' b = im b
def qF (sn : Prop) (im : zIm) (u : Nat) (j : Int) (w : aR) : Prop := im (u + 1) j = w 0 ∧ im (u + 2) j = w 1 ∧ im (u + 3) j = w 2 ∧ (sn → im (u + 4) j = w 3)
def qRp (sn : Prop) (im : zIm) (u : Nat) (R : List aR) : Prop := im u 0 = R.length ∧ ∀ k : Nat, k < R.length → qF sn im u k (rg R k)
def frQ (u : Nat) (im im' : zIm) : Prop := ∀ b, (b < u ∨ u + 5 ≤ b) → im' b = im b
section RW
variable {g : zG} {S : zSh} {im : zIm} {u : Nat}
theorem c_move (G : zOK g) (hS : zS_U S u) {p q : Int} {Q : zIm → Prop} (p0 : 0 ≤ p) (p1 : p < 300) (q0 : 0 ≤ q) (q1 : q < 300) (hQ : ∀ im', frU u im im' → im' u = im u → (∀ w, uF im u p w → uF im' u q w) → (∀ j w, j ≠ q → uF im u j w → uF im' u j w) → Q im') : zCV g yX6_move M_X6_move [.ref u, .int (zi p), .int (zi q)] S im Q := by
  refine v_X6_move G hS (zc_of (by omega) (by omega)) (zc_of (by omega) (by omega)) ⟨⟨p0, p1⟩, ⟨q0, q1⟩, fun i1 e1 => ⟨⟨p0, p1⟩, ⟨q0, q1⟩, fun i2 e2 => ⟨⟨p0, p1⟩, ⟨q0, q1⟩, fun i3 e3 => ⟨⟨p0, p1⟩, ⟨q0, q1⟩, fun i4 e4 => ⟨⟨p0, p1⟩, ⟨q0, q1⟩, fun i5 e5 => ⟨⟨p0, p1⟩, ⟨q0, q1⟩, fun i6 e6 => ?_⟩⟩⟩⟩⟩⟩
  subst e1; subst e2; subst e3; subst e4; subst e5; subst e6
  refine hQ _ ?_ ?_ ?_ ?_
  · intro b hb
    rw [zst_n (by omega), zst_n (by omega), zst_n (by omega), zst_n (by omega), zst_n (by omega), zst_n (by omega)]
  · rw [zst_n (by omega), zst_n (by omega), zst_n (by omega), zst_n (by omega), zst_n (by omega), zst_n (by omega)]
  · intro w hw
    unfold uF at hw ⊢
    simp only [zst_at]
    simp [hw]
  · intro j w hj hw
    unfold uF at hw ⊢
    simp only [zst_at]
    simp [hj, hw]
/-- the place is found: the unit is written there -/
theorem c_add_out {R : List aR} {k : Nat} {d kd it st ow ol : Int} {Q : zIm → Prop} (hk : k ≤ R.length) (hl : R.length < 300) (h0 : im u 0 = R.length) (h1 : ∀ j : Nat, j < R.length → (j < k → uF im u j (rg R j)) ∧ (k ≤ j → uF im u (j + 1) (rg R j))) (hp : pos (mkU kd it st ow d ol) R R.length = k) (hQ : ∀ im', frU u im im' → uRp im' u (insU (mkU kd it st ow d ol) R) → Q im') :
    ((0 ≤ (k : Int) ∧ (k : Int) < 300) ∧ ∀ im1, im1 = zst im (u + 1) k d → ((0 ≤ (k : Int) ∧ (k : Int) < 300) ∧ ∀ im4, im4 = zst im1 (u + 2) k kd → ((0 ≤ (k : Int) ∧ (k : Int) < 300) ∧ ∀ im7, im7 = zst im4 (u + 3) k it → ((0 ≤ (k : Int) ∧ (k : Int) < 300) ∧ ∀ im10, im10 = zst im7 (u + 4) k st → ((0 ≤ (k : Int) ∧ (k : Int) < 300) ∧ ∀ im13, im13 = zst im10 (u + 5) k ow → ((0 ≤ (k : Int) ∧ (k : Int) < 300) ∧ ∀ im16, im16 = zst im13 (u + 6) k ol → ∀ im20, im20 = zst im16 u 0 (zw ((im16 u 0) + 1)) → Q im20)))))) := by
  have b : 0 ≤ (k : Int) ∧ (k : Int) < 300 := by omega
  refine ⟨b, fun i1 e1 => ⟨b, fun i2 e2 => ⟨b, fun i3 e3 => ⟨b, fun i4 e4 => ⟨b, fun i5 e5 => ⟨b, fun i6 e6 i7 e7 => ?_⟩⟩⟩⟩⟩⟩
  have c : i6 u 0 = R.length := by
    rw [e6, e5, e4, e3, e2, e1, zst_n (by omega), zst_n (by omega), zst_n (by omega), zst_n (by omega), zst_n (by omega), zst_n (by omega), h0]
  rw [c, zwS (by omega)] at e7
  have rd (f : Nat) (hf : f ≠ 0) (j : Int) : i7 (u + f) j = i6 (u + f) j := by rw [e7, zst_n (by omega)]
  have old (f : Nat) (j : Int) (hj : j ≠ k) (hf : f ≠ 0) : i7 (u + f) j = im (u + f) j := by
    rw [rd f hf, e6, e5, e4, e3, e2, e1]
    simp only [zst_at]
    simp [hj]
  have new : uF i7 u k (mkU kd it st ow d ol) := by
    unfold uF
    rw [rd 1 (by omega), rd 2 (by omega), rd 3 (by omega), rd 4 (by omega), rd 5 (by omega), rd 6 (by omega), e6, e5, e4, e3, e2, e1]
    unfold mkU
    simp only [zst_at]
    simp
  have oldF (j : Int) (w : aR) (hj : j ≠ k) (h : uF im u j w) : uF i7 u j w := by
    unfold uF at h ⊢
    rw [old 1 j hj (by omega), old 2 j hj (by omega), old 3 j hj (by omega), old 4 j hj (by omega), old 5 j hj (by omega), old 6 j hj (by omega)]
    exact h
  refine hQ i7 (fun b hb => ?_) ⟨?_, fun j hj => ?_⟩
  · rw [e7, e6, e5, e4, e3, e2, e1, zst_n (by omega), zst_n (by omega), zst_n (by omega), zst_n (by omega), zst_n (by omega), zst_n (by omega), zst_n (by omega)]
  · rw [ins_len, e7, zst_at, if_pos ⟨rfl, rfl⟩]
  · rw [ins_len] at hj
    rw [ins_rg _ _ _ (by omega), hp]
    by_cases e : j < k
    · rw [if_pos e]
      exact oldF _ _ (by omega) ((h1 j (by omega)).1 e)
    · rw [if_neg e]
      by_cases e2 : j = k
      · rw [if_pos e2, e2]; exact new
      · rw [if_neg e2]
        have := (h1 (j - 1) (by omega)).2 (by omega)
        rw [show ((j - 1 : Nat) : Int) + 1 = (j : Int) from by omega] at this
        exact oldF _ _ (by omega) this
theorem c_add_loop (G : zOK g) (hS : zS_U S u) {R : List aR} {d kd it st ow ol : Int} {Q : zIm → Prop} (cd : zc d) (ck : zc kd) (ci : zc it) (cs : zc st) (co : zc ow) (cl : zc ol) (hl : R.length < 300) (im0 : zIm) (hQ : ∀ im', frU u im0 im' → uRp im' u (insU (mkU kd it st ow d ol) R) → Q im') :
    ∀ (k : Nat) (im : zIm), k ≤ R.length → frU u im0 im → im u 0 = R.length → (∀ j : Nat, j < R.length → (j < k → uF im u j (rg R j)) ∧ (k ≤ j → uF im u (j + 1) (rg R j))) → pos (mkU kd it st ow d ol) R R.length = pos (mkU kd it st ow d ol) R k → zPV g M_X6_add 17 [(0, .ref u), (1, .int (zi d)), (2, .int (zi kd)), (3, .int (zi it)), (4, .int (zi st)), (5, .int (zi ow)), (6, .int (zi ol)), (7, .int (zi k))] S im Q := by
  intro k
  induction k with
  | zero =>
    intro im hk hf h0 h1 hp
    refine v_X6_add_17 G hS cd ck ci cs co cl (zc_of (by omega) (by omega)) ⟨fun _ => ?_, fun h => absurd h (by omega)⟩
    refine c_add_out hk hl h0 h1 (by rw [hp]; rfl) (fun im' f' r' => hQ im' (fun b hb => ?_) r')
    rw [f' b hb, hf b hb]
  | succ k ih =>
    intro im hk hf h0 h1 hp
    have hw := (h1 k (by omega)).1 (by omega)
    have e9 : zw (((k + 1 : Nat) : Int) - 1) = k := by rw [zw_of (by omega) (by omega)]; omega
    have e8 : zw (((k + 1 : Nat) : Int) + -1) = k := by rw [zw_of (by omega) (by omega)]; omega
    have ex (hn : ¬ uLt (mkU kd it st ow d ol) (rg R k)) := c_add_out (im := im) (u := u) (Q := Q) hk hl h0 h1 (by rw [hp, pos_n hn]) (fun im' f' r' => hQ im' (fun b hb => by rw [f' b hb, hf b hb]) r')
    have go (hn : uLt (mkU kd it st ow d ol) (rg R k)) : zCV g yX6_move M_X6_move [.ref u, .int (zi k), .int (zi ((k + 1 : Nat) : Int))] S im (fun im3 => zPV g M_X6_add 17 [(0, .ref u), (1, .int (zi d)), (2, .int (zi kd)), (3, .int (zi it)), (4, .int (zi st)), (5, .int (zi ow)), (6, .int (zi ol)), (7, .int (zi k))] S im3 Q) := by
      refine c_move G hS (by omega) (by omega) (by omega) (by omega) (fun im' f' z' m1 m2 => ?_)
      refine ih im' (by omega) (fun b hb => by rw [f' b hb, hf b hb]) (by rw [z']; exact h0) (fun j hj => ⟨fun hjk => ?_, fun hjk => ?_⟩) (by rw [hp, pos_y hn])
      · exact m2 _ _ (by omega) ((h1 j hj).1 (by omega))
      · by_cases e : j = k
        · subst e
          exact m1 _ hw
        · exact m2 _ _ (by omega) ((h1 j hj).2 (by omega))
    refine v_X6_add_17 G hS cd ck ci cs co cl (zc_of (by omega) (by omega)) ⟨fun h => absurd h (by omega), fun _ => ?_⟩
    rw [e9, e8, hw.1, hw.2.1]
    refine ⟨⟨by omega, by omega⟩, fun hlt => go (Or.inl (by unfold mkU; simpa using hlt)), fun hle => ⟨fun hne => ex (fun hh => ?_), fun heq => ⟨⟨by omega, by omega⟩, fun hkl => ex (fun hh => ?_), fun hkl => go (Or.inr ⟨by unfold mkU; simp; omega, by unfold mkU; simpa using hkl⟩)⟩⟩⟩
    · unfold uLt mkU at hh; simp at hh; omega
    · unfold uLt mkU at hh; simp at hh; omega
theorem c_addU (G : zOK g) (hS : zS_U S u) {R : List aR} {d kd it st ow ol : Int} {Q : zIm → Prop} (cd : zc d) (ck : zc kd) (ci : zc it) (cs : zc st) (co : zc ow) (cl : zc ol) (hl : R.length < 300) (hR : uRp im u R) (hQ : ∀ im', frU u im im' → uRp im' u (insU (mkU kd it st ow d ol) R) → Q im') : zCV g yX6_add M_X6_add [.ref u, .int (zi d), .int (zi kd), .int (zi it), .int (zi st), .int (zi ow), .int (zi ol)] S im Q := by
  refine v_X6_add G hS cd ck ci cs co cl ?_
  rw [hR.1]
  refine ⟨fun _ => ?_, fun h => absurd h (by omega)⟩
  exact c_add_loop G hS cd ck ci cs co cl hl im hQ R.length im (Nat.le_refl _) (fun _ _ => rfl) hR.1 (fun j hj => ⟨fun _ => hR.2 j hj, fun h => absurd h (by omega)⟩) rfl
theorem c_rf_loop (G : zOK g) (hS : zS_U S u) {w : aR} {R : List aR} {Q : zIm → Prop} (hl : R.length < 300) (im0 : zIm) (hQ : ∀ im', frU u im0 im' → uRp im' u R → Q im') :
    ∀ (f k : Nat) (im : zIm), k + f = R.length → frU u im0 im → im u 0 = R.length → (∀ j : Nat, j < R.length → (j < k → uF im u j (rg R j)) ∧ (k ≤ j → uF im u (j + 1) (rg R j))) → zPV g M_X6_removeFirst 20 [(0, .ref u), (1, .int (zi k))] S im Q := by
  intro f
  induction f with
  | zero =>
    intro k im hk hf h0 h1
    refine v_X6_removeFirst_20 G hS (zc_of (by omega) (by omega)) ⟨fun _ => hQ im hf ⟨h0, fun j hj => (h1 j hj).1 (by omega)⟩, fun h => absurd h (by omega)⟩
  | succ f ih =>
    intro k im hk hf h0 h1
    refine v_X6_removeFirst_20 G hS (zc_of (by omega) (by omega)) ⟨fun h => absurd h (by omega), fun _ => ?_⟩
    rw [zwS (k := k) (by omega)]
    refine c_move G hS (by omega) (by omega) (by omega) (by omega) (fun im' f' z' m1 m2 => ?_)
    refine ih (k + 1) im' (by omega) (fun b hb => by rw [f' b hb, hf b hb]) (by rw [z']; exact h0) (fun j hj => ⟨fun hjk => ?_, fun hjk => ?_⟩)
    · by_cases e : j = k
      · subst e
        refine m1 _ ?_
        have := (h1 j hj).2 (Nat.le_refl _)
        rw [show ((j + 1 : Nat) : Int) = (j : Int) + 1 from by omega]
        exact this
      · exact m2 _ _ (by omega) ((h1 j hj).1 (by omega))
    · exact m2 _ _ (by omega) ((h1 j hj).2 (by omega))
theorem c_removeFirst (G : zOK g) (hS : zS_U S u) {w : aR} {R : List aR} {Q : zIm → Prop} (hl : R.length < 299) (hR : uRp im u (w :: R)) (hQ : ∀ im', frU u im im' → uRp im' u R → Q im') : zCV g yX6_removeFirst M_X6_removeFirst [.ref u] S im Q := by
  have h0 := hR.1
  rw [List.length_cons] at h0
  refine v_X6_removeFirst G hS ⟨fun _ im1 e1 => ?_, fun h => absurd h (by omega)⟩
  rw [zw_of (by omega) (by omega)] at e1
  have rd (f : Nat) (hf : f ≠ 0) : im1 (u + f) = im (u + f) := by rw [e1, zst_n (by omega)]
  refine c_rf_loop (w := w) G hS (by omega) im hQ R.length 0 im1 (by omega) (fun b hb => by rw [e1, zst_n (by omega)]) (by rw [e1, zst_at, if_pos ⟨rfl, rfl⟩]; omega) (fun j hj => ⟨fun h => absurd h (by omega), fun _ => ?_⟩)
  have := hR.2 (j + 1) (by simp; omega)
  unfold uF at this ⊢
  rw [rd 1 (by omega), rd 2 (by omega), rd 3 (by omega), rd 4 (by omega), rd 5 (by omega), rd 6 (by omega)]
  exact this
theorem qRp.eqv {im : zIm} {l l' : List aR} (h : qRp False im u l) (hl : l'.length = l.length) (he : ∀ k, k < l.length → rg l' k 0 = rg l k 0 ∧ rg l' k 1 = rg l k 1 ∧ rg l' k 2 = rg l k 2) : qRp False im u l' := by
  refine ⟨by rw [hl]; exact h.1, fun k hk => ?_⟩
  rw [hl] at hk
  have h1 := h.2 k hk
  have h2 := he k hk
  exact ⟨by rw [h2.1]; exact h1.1, by rw [h2.2.1]; exact h1.2.1, by rw [h2.2.2]; exact h1.2.2.1, fun hf => hf.elim⟩
theorem c_addQ (G : zOK g) (hS : zS_Q S u) {sn : Prop} {R : List aR} {s i p d : Int} {Q : zIm → Prop} (cs : zc s) (ci : zc i) (cp : zc p) (cd : zc d) (hl : R.length < 300) (hR : qRp sn im u R) (hQ : ∀ im', frQ u im im' → qRp sn im' u (R ++ [mkC s i p d]) → Q im') : zCV g yX3_add M_X3_add [.ref u, .int (zi s), .int (zi i), .int (zi p), .int (zi d)] S im Q := by
  have h0 := hR.1
  refine v_X3_add G hS cs ci cp cd ⟨fun _ => ?_, fun h => absurd h (by omega)⟩
  rw [h0]
  have b : 0 ≤ (R.length : Int) ∧ (R.length : Int) < 300 := by omega
  refine ⟨b, fun i1 e1 => ?_⟩
  have c1 : i1 u 0 = R.length := by rw [e1, zst_n (by omega)]; exact h0
  rw [c1]
  refine ⟨b, fun i2 e2 => ?_⟩
  have c2 : i2 u 0 = R.length := by rw [e2, zst_n (by omega)]; exact c1
  rw [c2]
  refine ⟨b, fun i3 e3 => ?_⟩
  have c3 : i3 u 0 = R.length := by rw [e3, zst_n (by omega)]; exact c2
  rw [c3]
  refine ⟨b, fun i4 e4 i5 e5 => ?_⟩
  have c4 : i4 u 0 = R.length := by rw [e4, zst_n (by omega)]; exact c3
  rw [c4, zwS (by omega)] at e5
  have rd (f : Nat) (hf : f ≠ 0) (j : Int) : i5 (u + f) j = i4 (u + f) j := by rw [e5, zst_n (by omega)]
  have old (f : Nat) (j : Int) (hj : j ≠ R.length) (hf : f ≠ 0) : i5 (u + f) j = im (u + f) j := by
    rw [rd f hf, e4, e3, e2, e1]
    simp only [zst_at]
    simp [hj]
  refine hQ i5 (fun b hb => ?_) ⟨?_, fun j hj => ?_⟩
  · rw [e5, e4, e3, e2, e1, zst_n (by omega), zst_n (by omega), zst_n (by omega), zst_n (by omega), zst_n (by omega)]
  · rw [e5, zst_at, if_pos ⟨rfl, rfl⟩]; simp
  · rw [List.length_append, List.length_singleton] at hj
    by_cases e : j = R.length
    · subst e
      rw [rg_app_r]
      unfold qF mkC
      rw [rd 1 (by omega), rd 2 (by omega), rd 3 (by omega), rd 4 (by omega), e4, e3, e2, e1]
      simp only [zst_at]
      simp
    · rw [rg_app_l (by omega)]
      have := hR.2 j (by omega)
      unfold qF at this ⊢
      rw [old 1 j (by omega) (by omega), old 2 j (by omega) (by omega), old 3 j (by omega) (by omega), old 4 j (by omega) (by omega)]
      exact this
theorem c_rq_loop (G : zOK g) (hS : zS_Q S u) {sn : Prop} {R : List aR} {Q : zIm → Prop} (hl : R.length < 300) (im0 : zIm) (hQ : ∀ im', frQ u im0 im' → qRp sn im' u R → Q im') :
    ∀ (f k : Nat) (im : zIm), k + f = R.length → frQ u im0 im → im u 0 = R.length → (∀ j : Nat, j < R.length → (j < k → qF sn im u j (rg R j)) ∧ (k ≤ j → qF sn im u (j + 1) (rg R j))) → zPV g M_X3_remove 25 [(0, .ref u), (2, .int (zi k))] S im Q := by
  intro f
  induction f with
  | zero =>
    intro k im hk hf h0 h1
    refine v_X3_remove_25 G hS (zc_of (by omega) (by omega)) ⟨fun _ => hQ im hf ⟨h0, fun j hj => (h1 j hj).1 (by omega)⟩, fun h => absurd h (by omega)⟩
  | succ f ih =>
    intro k im hk hf h0 h1
    refine v_X3_remove_25 G hS (zc_of (by omega) (by omega)) ⟨fun h => absurd h (by omega), fun _ => ?_⟩
    rw [zwS (k := k) (by omega)]
    have b1 : 0 ≤ ((k + 1 : Nat) : Int) ∧ ((k + 1 : Nat) : Int) < 300 := by omega
    have b2 : 0 ≤ (k : Int) ∧ (k : Int) < 300 := by omega
    refine ⟨b1, b2, fun i1 e1 => ⟨b1, b2, fun i2 e2 => ⟨b1, b2, fun i3 e3 => ⟨b1, b2, fun i4 e4 => ?_⟩⟩⟩⟩
    have old (f : Nat) (j : Int) (hj : j ≠ k) : i4 (u + f) j = im (u + f) j := by
      rw [e4, e3, e2, e1]
      simp only [zst_at]
      simp [hj]
    refine ih (k + 1) i4 (by omega) (fun b hb => ?_) ?_ (fun j hj => ⟨fun hjk => ?_, fun hjk => ?_⟩)
    · rw [e4, e3, e2, e1, zst_n (by omega), zst_n (by omega), zst_n (by omega), zst_n (by omega), hf b hb]
    · rw [e4, e3, e2, e1, zst_n (by omega), zst_n (by omega), zst_n (by omega), zst_n (by omega), h0]
    · by_cases e : j = k
      · subst e
        have := (h1 j hj).2 (Nat.le_refl _)
        unfold qF at this ⊢
        rw [e4, e3, e2, e1]
        simp only [zst_at]
        simp
        exact this
      · have := (h1 j hj).1 (by omega)
        unfold qF at this ⊢
        rw [old 1 j (by omega), old 2 j (by omega), old 3 j (by omega), old 4 j (by omega)]
        exact this
    · have := (h1 j hj).2 (by omega)
      unfold qF at this ⊢
      rw [old 1 _ (by omega), old 2 _ (by omega), old 3 _ (by omega), old 4 _ (by omega)]
      exact this
theorem c_removeQ (G : zOK g) (hS : zS_Q S u) {sn : Prop} {R : List aR} {k : Nat} {Q : zIm → Prop} (hl : R.length < 300) (hk : k < R.length) (hR : qRp sn im u R) (hQ : ∀ im', frQ u im im' → qRp sn im' u (R.eraseIdx k) → Q im') : zCV g yX3_remove M_X3_remove [.ref u, .int (zi k)] S im Q := by
  have h0 := hR.1
  have hl' : (R.eraseIdx k).length = R.length - 1 := ln_er hk
  refine v_X3_remove G hS (zc_of (by omega) (by omega)) ⟨fun h => absurd h (by omega), fun _ => ⟨fun _ im1 e1 => ?_, fun h => absurd h (by omega)⟩⟩
  rw [zw_of (by omega) (by omega)] at e1
  have rd (f : Nat) (hf : f ≠ 0) : im1 (u + f) = im (u + f) := by rw [e1, zst_n (by omega)]
  refine c_rq_loop G hS (by omega) im hQ (R.length - 1 - k) k im1 (by omega) (fun b hb => by rw [e1, zst_n (by omega)]) (by rw [e1, zst_at, if_pos ⟨rfl, rfl⟩]; omega) (fun j hj => ⟨fun hjk => ?_, fun hjk => ?_⟩)
  · have := hR.2 j (by omega)
    rw [rg_er_l hjk]
    unfold qF at this ⊢
    rw [rd 1 (by omega), rd 2 (by omega), rd 3 (by omega), rd 4 (by omega)]
    exact this
  · have := hR.2 (j + 1) (by omega)
    rw [rg_er_r hjk]
    unfold qF at this ⊢
    rw [rd 1 (by omega), rd 2 (by omega), rd 3 (by omega), rd 4 (by omega)]
    rw [show ((j + 1 : Nat) : Int) = (j : Int) + 1 from by omega] at this
    exact this
end RW
