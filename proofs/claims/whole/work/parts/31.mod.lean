theorem zst_sr {im : zIm} {a : Nat} {r : aR} {i v : Int} : zst (zsr im a r) a i v = zsr im a (zup r i v) := by
  funext b
  unfold zst zsr
  by_cases e : b = a <;> simp [e]
theorem zst_df {im : zIm} {a : Nat} {i v : Int} : zst im a i v = zsr im a (zup (im a) i v) := rfl
theorem zsr_sr {im : zIm} {a : Nat} {r r' : aR} : zsr (zsr im a r) a r' = zsr im a r' := by
  funext b
  unfold zsr
  by_cases e : b = a <;> simp [e]
theorem zsr_id {im : zIm} {a : Nat} : zsr im a (im a) = im := by
  funext b
  unfold zsr
  by_cases e : b = a <;> simp [e]
/-- the best of a list's first n: the highest priority, the first of equal ones -/
def bstC (l : List aR) (b i : Int) : Nat → Int
  | 0 => -1
  | n + 1 => if rg l n 0 = b ∧ rg l n 1 = i ∧ (bstC l b i n = -1 ∨ rg l (bstC l b i n).toNat 2 < rg l n 2) then n else bstC l b i n
def bstO (l : List aR) (i : Int) : Nat → Int
  | 0 => -1
  | n + 1 => if rg l n 0 = i ∧ (bstO l i n = -1 ∨ rg l (bstO l i n).toNat 2 < rg l n 2) then n else bstO l i n
theorem bstC_bd (l : List aR) (b i : Int) (n : Nat) : -1 ≤ bstC l b i n ∧ bstC l b i n < n := by
  induction n with
  | zero => simp [bstC]
  | succ n ih => unfold bstC; split <;> omega
theorem bstO_bd (l : List aR) (i : Int) (n : Nat) : -1 ≤ bstO l i n ∧ bstO l i n < n := by
  induction n with
  | zero => simp [bstO]
  | succ n ih => unfold bstO; split <;> omega
section MD
variable {g : zG} {S : zSh} {im : zIm} {a : Nat} {A : aA}
theorem c_between (G : zOK g) {p1 p2 p3 : Int} {Q : Int → zIm → Prop} (c1 : zc p1) (c2 : zc p2) (c3 : zc p3) (ht : p2 ≤ p1 → p1 ≤ p3 → Q 1 im) (hf : (p1 < p2 ∨ p3 < p1) → Q 0 im) : zCI g yX8_isBetween M_X8_isBetween [.int (zi p1), .int (zi p2), .int (zi p3)] S im Q :=
  v_X8_isBetween G c1 c2 c3 ⟨fun h => hf (Or.inl h), fun h => ⟨fun h' => hf (Or.inr h'), fun h' => ht h h'⟩⟩
theorem c_isItem (G : zOK g) (hS : zS_M S a) {p : Int} {Q : Int → zIm → Prop} (c1 : zc p) (hb : 0 ≤ im (a + 1) 2 ∧ im (a + 1) 2 ≤ 4) (ht : 0 ≤ p → p < im (a + 1) 2 → Q 1 im) (hf : (p < 0 ∨ im (a + 1) 2 ≤ p) → Q 0 im) : zCI g yX8_isItem M_X8_isItem [.ref a, .int (zi p)] S im Q := by
  refine v_X8_isItem G hS c1 ?_
  rw [zw_of (by omega) (by omega)]
  exact c_between G c1 zc_0 (zc_of (by omega) (by omega)) (fun h1 h2 => ⟨Or.inr rfl, ht h1 (by omega)⟩) (fun h => ⟨Or.inl rfl, hf (by omega)⟩)
theorem c_isSite (G : zOK g) (hS : zS_M S a) {p : Int} {Q : Int → zIm → Prop} (c1 : zc p) (hb : 0 ≤ im (a + 1) 3 ∧ im (a + 1) 3 ≤ 8) (ht : 0 ≤ p → p < im (a + 1) 3 → Q 1 im) (hf : (p < 0 ∨ im (a + 1) 3 ≤ p) → Q 0 im) : zCI g yX8_isSite M_X8_isSite [.ref a, .int (zi p)] S im Q := by
  refine v_X8_isSite G hS c1 ?_
  rw [zw_of (by omega) (by omega)]
  exact c_between G c1 zc_0 (zc_of (by omega) (by omega)) (fun h1 h2 => ⟨Or.inr rfl, ht h1 (by omega)⟩) (fun h => ⟨Or.inl rfl, hf (by omega)⟩)
theorem c_isBase (G : zOK g) (hS : zS_M S a) {p : Int} {Q : Int → zIm → Prop} (c1 : zc p) (hb : 0 ≤ im (a + 1) 3 ∧ im (a + 1) 3 ≤ 8) (ht : 1 ≤ p → p < im (a + 1) 3 → Q 1 im) (hf : (p < 1 ∨ im (a + 1) 3 ≤ p) → Q 0 im) : zCI g yX8_isBase M_X8_isBase [.ref a, .int (zi p)] S im Q := by
  refine v_X8_isBase G hS c1 ?_
  rw [zw_of (by omega) (by omega)]
  exact c_between G c1 (zc_of (by omega) (by omega)) (zc_of (by omega) (by omega)) (fun h1 h2 => ⟨Or.inr rfl, ht h1 (by omega)⟩) (fun h => ⟨Or.inl rfl, hf (by omega)⟩)
theorem c_fail (G : zOK g) (hS : zS_M S a) {p : Int} {Q : Int → zIm → Prop} (c1 : zc p) (hq : Q 0 (zst im a 4 p)) : zCI g yX8_fail M_X8_fail [.ref a, .int (zi p)] S im Q :=
  v_X8_fail G hS c1 (fun im1 e => by rw [e]; exact hq)
theorem c_thrown (G : zOK g) (hS : zS_M S a) {Q : Int → zIm → Prop} (hq : Q (im a 4) im) : zCI g yX8_thrown M_X8_thrown [.ref a] S im Q := v_X8_thrown G hS hq
theorem c_item (G : zOK g) (hS : zS_M S a) {p f : Int} {Q : Int → zIm → Prop} (h0 : 0 ≤ p) (h1 : p < 4) (f0 : 0 ≤ f) (f1 : f < 3) (hq : Q (im (a + 1) (8 + 3 * p + f)) im) : zCI g yX8_item M_X8_item [.ref a, .int (zi p), .int (zi f)] S im Q := by
  refine v_X8_item G hS (zc_of (by omega) (by omega)) (zc_of (by omega) (by omega)) ?_
  rw [zw_of (by omega) (by omega)]
  exact ⟨⟨by omega, by omega⟩, hq⟩
theorem c_at (G : zOK g) {t s i : Int} {Q : Int → zIm → Prop} (t0 : 0 ≤ t) (t1 : t ≤ 380) (s0 : 0 ≤ s) (s1 : s < 8) (i0 : 0 ≤ i) (i1 : i < 4) (hq : Q (t + 4 * s + i) im) : zCI g yX8_at M_X8_at [.int (zi t), .int (zi s), .int (zi i)] S im Q := by
  refine v_X8_at G (zc_of (by omega) (by omega)) (zc_of (by omega) (by omega)) (zc_of (by omega) (by omega)) ?_
  rw [zw_of (by omega) (by omega)]
  exact hq
theorem c_link (G : zOK g) (hS : zS_M S a) {p f : Int} {Q : Int → zIm → Prop} (h0 : 0 ≤ p) (h1 : p < 8) (f0 : 0 ≤ f) (f1 : f < 8) (hq : Q (im (a + 1) (28 + 8 * p + f)) im) : zCI g yX8_link M_X8_link [.ref a, .int (zi p), .int (zi f)] S im Q := by
  refine v_X8_link G hS (zc_of (by omega) (by omega)) (zc_of (by omega) (by omega)) ?_
  rw [zw_of (by omega) (by omega)]
  exact ⟨⟨by omega, by omega⟩, hq⟩
theorem c_unit (G : zOK g) (hS : zS_M S a) (hM : mRep (im (a + 1)) A) (hF : aFit A) {p : Nat} {f : Int} {Q : Int → zIm → Prop} (h1 : p < A.2.1.length) (f0 : 0 ≤ f) (f1 : f < 6) (hq : Q (rg A.2.1 p f) im) : zCI g yX8_unit M_X8_unit [.ref a, .int (zi p), .int (zi f)] S im Q := by
  have h9 := hF.1
  refine v_X8_unit G hS (zc_of (by omega) (by omega)) (zc_of (by omega) (by omega)) ?_
  rw [zw_of (by omega) (by omega), hM.2.2.2.2.1 p h1 f f0 f1]
  exact ⟨⟨by omega, by omega⟩, hq⟩
theorem c_customer (G : zOK g) (hS : zS_M S a) (hM : mRep (im (a + 1)) A) (hF : aFit A) {p : Nat} {f : Int} {Q : Int → zIm → Prop} (h1 : p < A.2.2.1.length) (f0 : 0 ≤ f) (f1 : f < 4) (hq : Q (rg A.2.2.1 p f) im) : zCI g yX8_customer M_X8_customer [.ref a, .int (zi p), .int (zi f)] S im Q := by
  have h9 := hF.2.1
  refine v_X8_customer G hS (zc_of (by omega) (by omega)) (zc_of (by omega) (by omega)) ?_
  rw [zw_of (by omega) (by omega), hM.2.2.2.2.2.1 p h1 f f0 f1]
  exact ⟨⟨by omega, by omega⟩, hq⟩
theorem c_order (G : zOK g) (hS : zS_M S a) (hM : mRep (im (a + 1)) A) (hF : aFit A) {p : Nat} {f : Int} {Q : Int → zIm → Prop} (h1 : p < A.2.2.2.length) (f0 : 0 ≤ f) (f1 : f < 3) (hq : Q (rg A.2.2.2 p f) im) : zCI g yX8_order M_X8_order [.ref a, .int (zi p), .int (zi f)] S im Q := by
  have h9 := hF.2.2
  refine v_X8_order G hS (zc_of (by omega) (by omega)) (zc_of (by omega) (by omega)) ?_
  rw [zw_of (by omega) (by omega), hM.2.2.2.2.2.2 p h1 f f0 f1]
  exact ⟨⟨by omega, by omega⟩, hq⟩
theorem c_append (G : zOK g) (hS : zS_M S a) {p t s : Int} {Q : Int → zIm → Prop} (p0 : 0 ≤ p) (p1 : p < 7692) (t0 : zc t) (s0 : zc s) (hx : 0 ≤ im (a + 1) p ∧ im (a + 1) p < 1000) (hb : 0 ≤ t + s * im (a + 1) p ∧ t + s * im (a + 1) p < 7692) (hq : Q (t + s * im (a + 1) p) (zsr im (a + 1) (zup (im (a + 1)) p (im (a + 1) p + 1)))) : zCI g yX8_append M_X8_append [.ref a, .int (zi p), .int (zi t), .int (zi s)] S im Q := by
  refine v_X8_append G hS (zc_of (by omega) (by omega)) t0 s0 ⟨⟨p0, p1⟩, fun im3 e => ?_⟩
  subst e
  rw [zw_of (n := im (a + 1) p + 1) (by omega) (by omega), zst_df, zsr_s, zup_s]
  have e1 : im (a + 1) p + 1 - 1 = im (a + 1) p := by omega
  rw [e1, zw_of (by omega) (by omega)]
  exact hq
/-- removal, by its loop -/
theorem c_remove_loop (G : zOK g) (hS : zS_M S a) {c t s e N : Int} {Q : zIm → Prop} (c0 : 0 ≤ c) (c1 : c < 7) (s0 : 0 < s) (s1 : s ≤ 6) (ht : 412 ≤ t) (he : e = t + s * N) (he0 : 0 ≤ e) (hb : e + s ≤ 7692) :
    ∀ (n : Nat) (x : Int) (r : aR), (e - x).toNat = n → t ≤ x → x < 7692 → r c = N → Q (zsr im (a + 1) (fun j => if x ≤ j ∧ j < e then r (j + s) else r j)) → zPV g M_X8_remove 18 [(0, .ref a), (1, .int (zi c)), (2, .int (zi t)), (3, .int (zi s)), (5, .int (zi x))] S (zsr im (a + 1) r) Q := by
  intro n
  induction n with
  | zero =>
    intro x r hn hx hx2 hr hQ
    refine v_X8_remove_18 G hS (zc_of (by omega) (by omega)) (zc_of (by omega) (by omega)) (zc_of (by omega) (by omega)) (zc_of (by omega) (by omega)) ⟨⟨by omega, by omega⟩, ?_⟩
    rw [zsr_s, hr, ← he, zw_of (n := e) (by omega) (by omega)]
    refine ⟨fun _ => ?_, fun h => absurd h (by omega)⟩
    have e9 : (fun j => if x ≤ j ∧ j < e then r (j + s) else r j) = r := by
      funext j
      rw [if_neg (by omega)]
    rw [e9] at hQ
    exact hQ
  | succ n ih =>
    intro x r hn hx hx2 hr hQ
    refine v_X8_remove_18 G hS (zc_of (by omega) (by omega)) (zc_of (by omega) (by omega)) (zc_of (by omega) (by omega)) (zc_of (by omega) (by omega)) ⟨⟨by omega, by omega⟩, ?_⟩
    rw [zsr_s, hr, ← he, zw_of (n := e) (by omega) (by omega)]
    refine ⟨fun h => absurd h (by omega), fun _ => ?_⟩
    rw [zw_of (n := x + s) (by omega) (by omega), zw_of (n := x + 1) (by omega) (by omega)]
    refine ⟨⟨by omega, by omega⟩, ⟨by omega, by omega⟩, fun im3 e3 => ?_⟩
    rw [e3, zst_sr]
    refine ih (x + 1) _ (by omega) (by omega) (by omega) (by rw [zup_n (by omega)]; exact hr) ?_
    have e9 : (fun j => if x + 1 ≤ j ∧ j < e then zup r x (r (x + s)) (j + s) else zup r x (r (x + s)) j) = (fun j => if x ≤ j ∧ j < e then r (j + s) else r j) := by
      funext j
      by_cases h1 : j = x
      · subst h1
        rw [if_neg (by omega), zup_s, if_pos (by omega)]
      · by_cases h2 : x + 1 ≤ j ∧ j < e
        · rw [if_pos h2, zup_n (by omega), if_pos (by omega)]
        · rw [if_neg h2, zup_n h1, if_neg (by omega)]
    rw [e9]
    exact hQ
theorem c_remove (G : zOK g) (hS : zS_M S a) {c t s i : Int} {Q : zIm → Prop} (c0 : 0 ≤ c) (c1 : c < 7) (s0 : 0 < s) (s1 : s ≤ 6) (ht : 412 ≤ t) (hN : 1 ≤ im (a + 1) c ∧ im (a + 1) c < 1000) (hi : zc i) (hb : 0 ≤ s * i ∧ t + s * i < 7692 ∧ s * im (a + 1) c + t ≤ 7692) (hQ : Q (zsr im (a + 1) (rRem (im (a + 1)) c t s i))) : zCV g yX8_remove M_X8_remove [.ref a, .int (zi c), .int (zi t), .int (zi s), .int (zi i)] S im Q := by
  have hd : s * (im (a + 1) c - 1) = s * im (a + 1) c - s := by rw [Int.mul_sub, Int.mul_one]
  have hd0 : 0 ≤ s * (im (a + 1) c - 1) := Int.mul_nonneg (by omega) (by omega)
  refine v_X8_remove G hS (zc_of (by omega) (by omega)) (zc_of (by omega) (by omega)) (zc_of (by omega) (by omega)) hi ⟨⟨c0, by omega⟩, fun im2 e2 => ?_⟩
  rw [e2, zst_df, zw_of (n := im (a + 1) c - 1) (by omega) (by omega), zw_of (n := t + s * i) (by omega) (by omega)]
  refine c_remove_loop G hS (e := t + s * (im (a + 1) c - 1)) (N := im (a + 1) c - 1) c0 c1 s0 s1 ht rfl (by omega) (by omega) _ (t + s * i) _ rfl (by omega) (by omega) zup_s ?_
  have e9 : (fun j => if t + s * i ≤ j ∧ j < t + s * (im (a + 1) c - 1) then zup (im (a + 1)) c (im (a + 1) c - 1) (j + s) else zup (im (a + 1)) c (im (a + 1) c - 1) j) = rRem (im (a + 1)) c t s i := by
    funext j
    unfold rRem
    by_cases h1 : j = c
    · subst h1
      rw [if_neg (by omega), if_pos rfl, zup_s]
    · rw [if_neg h1]
      by_cases h2 : t + s * i ≤ j ∧ j < t + s * (im (a + 1) c - 1)
      · rw [if_pos h2, if_pos h2, zup_n (by omega)]
      · rw [if_neg h2, if_neg h2, zup_n h1]
  rw [e9]
  exact hQ
theorem c_removeU (G : zOK g) (hS : zS_M S a) (hM : mRep (im (a + 1)) A) (hF : aFit A) {i : Nat} {Q : zIm → Prop} (hi : i < A.2.1.length) (hQ : ∀ r, mRep r (A.1, A.2.1.eraseIdx i, A.2.2) → Q (zsr im (a + 1) r)) : zCV g yX8_remove M_X8_remove [.ref a, .int (zi 4), .int (zi 412), .int (zi 6), .int (zi i)] S im Q := by
  have h9 := hF.1
  have h8 := hM.2.1
  exact c_remove G hS (by omega) (by omega) (by omega) (by omega) (by omega) (by omega) (zc_of (by omega) (by omega)) ⟨by omega, by omega, by omega⟩ (hQ _ (hM.remU h9 hi))
theorem c_removeC (G : zOK g) (hS : zS_M S a) (hM : mRep (im (a + 1)) A) (hF : aFit A) {i : Nat} {Q : zIm → Prop} (hi : i < A.2.2.1.length) (hQ : ∀ r, mRep r (A.1, A.2.1, A.2.2.1.eraseIdx i, A.2.2.2) → Q (zsr im (a + 1) r)) : zCV g yX8_remove M_X8_remove [.ref a, .int (zi 5), .int (zi 4972), .int (zi 4), .int (zi i)] S im Q := by
  have h9 := hF.1
  have h7 := hF.2.1
  have h8 := hM.2.2.1
  exact c_remove G hS (by omega) (by omega) (by omega) (by omega) (by omega) (by omega) (zc_of (by omega) (by omega)) ⟨by omega, by omega, by omega⟩ (hQ _ (hM.remC h9 h7 hi))
theorem c_removeO (G : zOK g) (hS : zS_M S a) (hM : mRep (im (a + 1)) A) (hF : aFit A) {i : Nat} {Q : zIm → Prop} (hi : i < A.2.2.2.length) (hQ : ∀ r, mRep r (A.1, A.2.1, A.2.2.1, A.2.2.2.eraseIdx i) → Q (zsr im (a + 1) r)) : zCV g yX8_remove M_X8_remove [.ref a, .int (zi 6), .int (zi 5412), .int (zi 3), .int (zi i)] S im Q := by
  have h9 := hF.1
  have h7 := hF.2.1
  have h6 := hF.2.2
  have h8 := hM.2.2.2.1
  exact c_remove G hS (by omega) (by omega) (by omega) (by omega) (by omega) (by omega) (zc_of (by omega) (by omega)) ⟨by omega, by omega, by omega⟩ (hQ _ (hM.remO h9 h7 h6 hi))
theorem c_appendUnit (G : zOK g) (hS : zS_M S a) (hM : mRep (im (a + 1)) A) (hF : A.2.1.length ≤ 758) {k i s o d l : Int} {Q : zIm → Prop} (ck : zc k) (ci : zc i) (cs : zc s) (co : zc o) (cd : zc d) (cl : zc l) (hQ : ∀ r, mRep r (A.1, A.2.1 ++ [mkU k i s o d l], A.2.2) → Q (zsr im (a + 1) r)) : zCV g yX8_appendUnit M_X8_appendUnit [.ref a, .int (zi k), .int (zi i), .int (zi s), .int (zi o), .int (zi d), .int (zi l)] S im Q := by
  have h4 := hM.2.1
  refine v_X8_appendUnit G hS ck ci cs co cd cl ?_
  refine c_append G hS (by omega) (by omega) (zc_of (by omega) (by omega)) (zc_of (by omega) (by omega)) (by omega) (by omega) ?_
  rw [h4]
  have z (j : Int) (j0 : 0 ≤ j) (j1 : j < 6) : zw (412 + 6 * (A.2.1.length : Int) + j) = 412 + 6 * (A.2.1.length : Int) + j := zw_of (by omega) (by omega)
  rw [z 0 (by omega) (by omega), z 1 (by omega) (by omega), z 2 (by omega) (by omega), z 3 (by omega) (by omega), z 4 (by omega) (by omega), z 5 (by omega) (by omega)]
  refine ⟨⟨by omega, by omega⟩, fun i1 e1 => ⟨⟨by omega, by omega⟩, fun i2 e2 => ⟨⟨by omega, by omega⟩, fun i3 e3 => ⟨⟨by omega, by omega⟩, fun i4 e4 => ⟨⟨by omega, by omega⟩, fun i5 e5 => ⟨⟨by omega, by omega⟩, fun i6 e6 => ?_⟩⟩⟩⟩⟩⟩
  subst e1; subst e2; subst e3; subst e4; subst e5; subst e6
  simp only [zst_sr]
  refine hQ _ (hM.appU hF ?_ ?_ ?_)
  · unfold zup
    simp only [show ∀ j : Int, 0 ≤ j → ¬ ((4 : Int) = 412 + 6 * (A.2.1.length : Int) + j) from fun j hj => by omega, if_true, if_false, h4]
    rw [if_neg (by omega), if_neg (by omega), if_neg (by omega), if_neg (by omega), if_neg (by omega), if_neg (by omega)]
  · intro f f0 f1
    unfold zup mkU
    have : f = 0 ∨ f = 1 ∨ f = 2 ∨ f = 3 ∨ f = 4 ∨ f = 5 := by omega
    rcases this with rfl | rfl | rfl | rfl | rfl | rfl <;> simp <;> omega
  · intro j j4 hj
    unfold zup
    rw [if_neg (by omega), if_neg (by omega), if_neg (by omega), if_neg (by omega), if_neg (by omega), if_neg (by omega), if_neg j4]
end MD
