/-! what holds between two calls -/
theorem zShp.sB {S S' : zSh} {a N c : Nat} {T : Nat → Nat × Nat × (Nat → Option Nat)} (h : zShp S a N T) (hs : sB S S' c) (hc : a + N ≤ c) : zShp S' a N T := by
  intro d hd
  have e := hs (a + d) (by omega)
  rw [e.1, e.2.1, e.2.2]
  exact h d hd
def svK (j x m : Nat) (S : zSh) (im : zIm) (k : Nat) : Prop := (zrf S (x + 83) k = none ∧ im (m + 4) k = 0) ∨ ∃ b B, zrf S (x + 83) k = some b ∧ im (m + 4) k = 1 ∧ x + 94 ≤ b ∧ b + 41 ≤ ztop S ∧ zS_N S b ∧ nRep im b B ∧ mRep (fun i => im (m + 3) (7692 * (k : Int) + i)) B ∧ aW (B.1 0 + 1) (840 * (j : Int)) B
def svD (x : Nat) (S : zSh) : Prop := ∀ b c, zrf S (x + 83) 0 = some b → zrf S (x + 83) 1 = some c → b + 41 ≤ c ∨ c + 41 ≤ b
def IJ (j x m o an as : Nat) (A : aA) (X : aX) (S : zSh) (im : zIm) : Prop :=
  (m = x + 87 ∧ o = x + 93 ∧ x + 94 ≤ ztop S) ∧ (zkd S o = 12 ∧ zln S o = 1) ∧ zS_M S m ∧ ((an = x + 1 ∧ as = x + 42) ∨ (an = x + 42 ∧ as = x + 1)) ∧ zDep S x an as (x + 83) (x + 84) ∧ nRep im an A ∧ mRep (im (m + 1)) A ∧ aW (A.1 0 + 1) (840 * (j : Int)) A ∧ (xB X ∧ tB (x + 84) X im ∧ rB m X im) ∧ (im m 13 = im (x + 84) 1 ∧ im m 14 = im (x + 84) 2) ∧ (∀ k, k < 2 → svK j x m S im k) ∧ svD x S
def Inv (j x m o : Nat) (S : zSh) (im : zIm) : Prop := ∃ an as A X, IJ j x m o an as A X S im
theorem svK.cong {j j' x m : Nat} {S : zSh} {im im' : zIm} {k : Nat} (h : svK j x m S im k) (hj : j ≤ j') (h1 : ∀ b, x + 94 ≤ b → im' b = im b) (h3 : im' (m + 3) = im (m + 3)) (h4 : im' (m + 4) = im (m + 4)) : svK j' x m S im' k := by
  rcases h with ⟨a, b⟩ | ⟨b, B, e1, e2, e3, e4, e5, e6, e7, e8⟩
  · exact Or.inl ⟨a, by rw [h4]; exact b⟩
  · exact Or.inr ⟨b, B, e1, by rw [h4]; exact e2, e3, e4, e5, e6.cong (fun c c0 c1 => h1 c (by omega)), by rw [h3]; exact e7, e8.mono (by omega)⟩
theorem zDep.sB {S S' : zSh} {x an as c : Nat} (h : zDep S x an as (x + 83) (x + 84)) (hs : sB S S' c) (hc : x + 94 ≤ c) (ha : (an = x + 1 ∧ as = x + 42) ∨ (an = x + 42 ∧ as = x + 1)) : zDep S' x an as (x + 83) (x + 84) := by
  obtain ⟨d1, d2, d3, d4, d5, d6, d7, d8, d9, d10⟩ := h
  have ex := hs x (by omega)
  have ev := hs (x + 83) (by omega)
  exact ⟨by rw [ex.1]; exact d1, by rw [ex.2.2]; exact d2, by rw [ex.2.2]; exact d3, by rw [ex.2.2]; exact d4, by rw [ex.2.2]; exact d5, zShp.sB d6 hs (by omega), zShp.sB d7 hs (by omega), zShp.sB d8 hs (by omega), by rw [ev.1]; exact d9, by rw [ev.2.1]; exact d10⟩
theorem IJ.shape {j x m o an as : Nat} {A : aA} {X : aX} {S S' : zSh} {im : zIm} (h : IJ j x m o an as A X S im) (hs : sB S S' (ztop S)) (ht : ztop S ≤ ztop S') : IJ j x m o an as A X S' im := by
  obtain ⟨⟨l1, l2, l3⟩, ⟨o1, o2⟩, hm, ha, hd, hn, hr, hw, ht2, he, hs1, hs2⟩ := h
  have eo := hs o (by omega)
  have ev := hs (x + 83) (by omega)
  refine ⟨⟨l1, l2, by omega⟩, ⟨by rw [eo.1]; exact o1, by rw [eo.2.1]; exact o2⟩, zShp.sB hm hs (by omega), ha, zDep.sB hd hs l3 ha, hn, hr, hw, ht2, he, fun k hk => ?_, ?_⟩
  · rcases hs1 k hk with ⟨a, b⟩ | ⟨b, B, e1, e2, e3, e4, e5, e6, e7, e8⟩
    · exact Or.inl ⟨by rw [ev.2.2]; exact a, b⟩
    · exact Or.inr ⟨b, B, by rw [ev.2.2]; exact e1, e2, e3, by omega, zShp.sB e5 hs (by omega), e6, e7, e8⟩
  · unfold svD at hs2 ⊢
    rw [ev.2.2]
    exact hs2
theorem sB_push {S : zSh} {kd n : Nat} : sB S (zpush S kd n) (ztop S) := fun b hb => zpush_o (by omega)
theorem IJ.push {j x m o an as : Nat} {A : aA} {X : aX} {S : zSh} {im : zIm} (h : IJ j x m o an as A X S im) : IJ j x m o an as A X (zpush S 14 0) im := h.shape sB_push (Nat.le_succ _)
theorem IJ.net {j x m o an as : Nat} {A A' : aA} {X : aX} {S : zSh} {im im' : zIm} (h : IJ j x m o an as A X S im) (fr : ∀ b, (b < x + 1 ∨ x + 83 ≤ b) → b ≠ o → b ≠ m → b ≠ m + 1 → b ≠ m + 2 → im' b = im b) (fm : ∀ f, f ≠ 4 → f ≠ 5 → im' m f = im m f) (hn : nRep im' an A') (hr : mRep (im' (m + 1)) A') (hw : aW (A'.1 0 + 1) (840 * ((j + 1 : Nat) : Int)) A') : IJ (j + 1) x m o an as A' X S im' := by
  obtain ⟨⟨l1, l2, l3⟩, ho, hm, ha, hd, _, _, _, ⟨x1, x2, x3⟩, ⟨e1, e2⟩, hs1, hs2⟩ := h
  have et : im' (x + 84) = im (x + 84) := fr _ (by omega) (by omega) (by omega) (by omega) (by omega)
  have et1 : im' (x + 84 + 1) = im (x + 84 + 1) := fr _ (by omega) (by omega) (by omega) (by omega) (by omega)
  have e5 : im' (m + 5) = im (m + 5) := fr _ (by omega) (by omega) (by omega) (by omega) (by omega)
  refine ⟨⟨l1, l2, l3⟩, ho, hm, ha, hd, hn, hr, hw, ⟨x1, ⟨by rw [et]; exact x2.1, fun i i0 i1 => by rw [et1]; exact x2.2 i i0 i1⟩, ⟨by rw [fm 7 (by omega) (by omega)]; exact x3.1, fun i i0 i1 => by rw [e5]; exact x3.2 i i0 i1⟩⟩, ⟨by rw [fm 13 (by omega) (by omega), et]; exact e1, by rw [fm 14 (by omega) (by omega), et]; exact e2⟩, fun k hk => (hs1 k hk).cong (by omega) (fun b hb => fr b (by omega) (by omega) (by omega) (by omega) (by omega)) (fr _ (by omega) (by omega) (by omega) (by omega) (by omega)) (fr _ (by omega) (by omega) (by omega) (by omega) (by omega)), hs2⟩
section LT
variable {g : zG} {S : zSh} {im : zIm} {j x m o an as : Nat} {A : aA} {X : aX}
/-- the end of a case that compares a number -/
theorem lT_of (G : zOK g) {S3 : zSh} {im4 : zIm} (hS : zS_M S3 m) (ho : zkd S3 o = 12 ∧ zln S3 o = 1) {R : (Int → zIm → Prop) → Prop} {P : zIm → Prop} {C : zSh → zIm → Prop} {c v : Int} (hR : ∀ Q' : Int → zIm → Prop, (∀ im', P im' → Q' v im') → R Q') (hP : ∀ im', P im' → im' m 4 = c ∧ im' o = im4 o ∧ C S3 im') (hv : c = 0 → im4 o 0 = v) :
    (zkd S3 m = 8 ∧ R (fun r8 im7 => zCI g yX8_thrown M_X8_thrown [.ref m] S3 im7 (fun r11 im10 => ((r11 = c → ((¬ c = 0 → C S3 im10) ∧ (c = 0 → (zkd S3 o = 12 ∧ (zln S3 o = 1 ∧ (((zcmp (im10 o 0) r8) = 0 → C S3 im10) ∧ (¬ (zcmp (im10 o 0) r8) = 0 → False))))))) ∧ (¬ r11 = c → False))))) := by
  refine ⟨(hS 0 (by decide)).1, hR _ (fun im' h' => ?_)⟩
  obtain ⟨p1, p2, p3⟩ := hP im' h'
  refine c_thrown G hS ⟨fun _ => ⟨fun _ => p3, fun h0 => ⟨ho.1, ho.2, fun _ => p3, fun hz => hz (zcmp_0.2 ?_)⟩⟩, fun hn => hn p1⟩
  rw [p2]
  exact hv h0
theorem IJ.bd (h : IJ j x m o an as A X S im) : nS an (im (an + 40) 0) im im A := ⟨fun _ _ => rfl, rfl, h.2.2.2.2.2.1⟩
theorem IJ.dep (h : IJ j x m o an as A X S im) : zDep S x an as (x + 83) (x + 84) := h.2.2.2.2.1
theorem IJ.w (h : IJ j x m o an as A X S im) : aW (A.1 0 + 1) (840 * (j : Int)) A := h.2.2.2.2.2.2.2.1
theorem IJ.mm (h : IJ j x m o an as A X S im) : mRep (im (m + 1)) A := h.2.2.2.2.2.2.1
theorem IJ.sm (h : IJ j x m o an as A X S im) : zS_M S m := h.2.2.1
theorem IJ.oo (h : IJ j x m o an as A X S im) : zkd S o = 12 ∧ zln S o = 1 := h.2.1
theorem IJ.loc (h : IJ j x m o an as A X S im) : m = x + 87 ∧ o = x + 93 := ⟨h.1.1, h.1.2.1⟩
theorem IJ.two (h : IJ j x m o an as A X S im) : (an = x + 1 ∧ as = x + 42) ∨ (an = x + 42 ∧ as = x + 1) := h.2.2.2.1
/-- a case that answers -/
theorem I_ok (G : zOK g) (h : IJ j x m o an as A X S im) {R : zIm → (Int → zIm → Prop) → Prop} {oc : aO} {im1 : zIm} (h0 : oc.1 = 0) (f1 : ∀ b, (b < x + 1 ∨ x + 83 ≤ b) → im1 b = im b) (n1 : nRep im1 an oc.2.2) (hw : aW (oc.2.2.1 0 + 1) (840 * ((j + 1 : Nat) : Int)) oc.2.2) (hR : ∀ im4 : zIm, mRep (im4 (m + 1)) A → ∀ Q' : Int → zIm → Prop, (∀ im', mP m im4 im' oc.2.2 oc.1 → Q' oc.2.1 im') → R im4 Q') :
    (zkd S m = 8 ∧ R (zst im1 o 0 oc.2.1) (fun r8 im7 => zCI g yX8_thrown M_X8_thrown [.ref m] S im7 (fun r11 im10 => ((r11 = 0 → ((¬ (0 : Int) = 0 → Inv (j + 1) x m o S im10) ∧ ((0 : Int) = 0 → (zkd S o = 12 ∧ (zln S o = 1 ∧ (((zcmp (im10 o 0) r8) = 0 → Inv (j + 1) x m o S im10) ∧ (¬ (zcmp (im10 o 0) r8) = 0 → False))))))) ∧ (¬ r11 = 0 → False))))) := by
  obtain ⟨l1, l2⟩ := h.loc
  have l3 := h.two
  refine lT_of G h.sm h.oo (P := fun im' => mP m (zst im1 o 0 oc.2.1) im' oc.2.2 oc.1) (hR _ (by rw [zst_n (by omega), f1 _ (by omega)]; exact h.mm)) (fun im' p => ⟨by rw [p.2.2.1, h0], p.1 o (by omega) (by omega) (by omega), an, as, oc.2.2, X, h.net (fun b hb b0 b1 b2 b3 => by rw [p.1 b b1 b2 b3, zst_n b0]; exact f1 b hb) (fun f f4 f5 => by rw [p.2.1 f f4 f5, zst_n (by omega), f1 _ (by omega)]) (n1.cong (fun b b0 b1 => by rw [p.1 b (by omega) (by omega) (by omega), zst_n (by omega)])) p.2.2.2 hw⟩) (fun _ => zst_s)
/-- a case that throws -/
theorem I_ex (G : zOK g) (h : IJ j x m o an as A X S im) {R : zIm → (Int → zIm → Prop) → Prop} {oc : aO} {c : Int} (h0 : oc.1 = c) (hc : c ≠ 0) (hA : oc.2.2 = A) (hR : ∀ im4 : zIm, mRep (im4 (m + 1)) A → ∀ Q' : Int → zIm → Prop, (∀ im', mP m im4 im' oc.2.2 oc.1 → Q' oc.2.1 im') → R im4 Q') :
    (zkd (zpush S 14 0) m = 8 ∧ R im (fun r8 im7 => zCI g yX8_thrown M_X8_thrown [.ref m] (zpush S 14 0) im7 (fun r11 im10 => ((r11 = c → ((¬ c = 0 → Inv (j + 1) x m o (zpush S 14 0) im10) ∧ (c = 0 → (zkd (zpush S 14 0) o = 12 ∧ (zln (zpush S 14 0) o = 1 ∧ (((zcmp (im10 o 0) r8) = 0 → Inv (j + 1) x m o (zpush S 14 0) im10) ∧ (¬ (zcmp (im10 o 0) r8) = 0 → False))))))) ∧ (¬ r11 = c → False))))) := by
  have h := h.push
  obtain ⟨l1, l2⟩ := h.loc
  have l3 := h.two
  refine lT_of G h.sm h.oo (P := fun im' => mP m im im' oc.2.2 oc.1) (hR _ h.mm) (fun im' p => ⟨by rw [p.2.2.1, h0], p.1 o (by omega) (by omega) (by omega), an, as, A, X, h.net (fun b hb b0 b1 b2 b3 => p.1 b b1 b2 b3) p.2.1 (h.bd.2.2.cong (fun b b0 b1 => p.1 b (by omega) (by omega) (by omega))) (hA ▸ p.2.2.2) (h.w.mono (by omega))⟩) (fun h => absurd h hc)
theorem nP.fr {n : Nat} {im im1 : zIm} {A : aA} (h : nP n im im1 A) : (∀ b, (b < n ∨ n + 41 ≤ b) → im1 b = im b) ∧ nRep im1 n A := by
  obtain ⟨y, h⟩ := h
  exact ⟨h.1, h.2.2⟩
/-- a case without an exception -/
theorem I_pl (h : IJ j x m o an as A X S im) {im' : zIm} (p : mP m im im' A 0) : Inv (j + 1) x m o S im' := by
  obtain ⟨l1, l2⟩ := h.loc
  have l3 := h.two
  exact ⟨an, as, A, X, h.net (fun b hb b0 b1 b2 b3 => p.1 b b1 b2 b3) p.2.1 (h.bd.2.2.cong (fun b b0 b1 => p.1 b (by omega) (by omega) (by omega))) p.2.2.2 (h.w.mono (by omega))⟩
theorem mP_z (h : mRep (im (m + 1)) A) : mP m im (zst im m 4 0) A 0 := (mS.i (t := 0) h rfl).p
end LT
