/-! copies: the reference's row, the class's blocks -/
theorem mRep.cong {r r' : aR} {A : aA} (h : mRep r A) (hF : aFit A) (e : ∀ j, 0 ≤ j → j < 7692 → r' j = r j) : mRep r' A := by
  obtain ⟨a1, a2, a3, a4, a5, a6, a7⟩ := h
  obtain ⟨f1, f2, f3⟩ := hF
  refine ⟨fun i i0 i1 i4 i5 i6 => by rw [e i i0 (by omega)]; exact a1 i i0 i1 i4 i5 i6, by rw [e _ (by omega) (by omega)]; exact a2, by rw [e _ (by omega) (by omega)]; exact a3, by rw [e _ (by omega) (by omega)]; exact a4, fun k hk f f0 f1 => ?_, fun k hk f f0 f1 => ?_, fun k hk f f0 f1 => ?_⟩
  · rw [e _ (by omega) (by omega)]; exact a5 k hk f f0 f1
  · rw [e _ (by omega) (by omega)]; exact a6 k hk f f0 f1
  · rw [e _ (by omega) (by omega)]; exact a7 k hk f f0 f1
section CP
variable {g : zG} {S : zSh} {im : zIm}
theorem c_cp_loop (G : zOK g) {p q : Nat} {x z : Int} (hp : zkd S p = 9) (hq : zkd S q = 9) (hne : p ≠ q) (x0 : 0 ≤ x) (x1 : x + 7692 ≤ zln S p) (x2 : x ≤ 7692) (z0 : 0 ≤ z) (z1 : z + 7692 ≤ zln S q) (z2 : z ≤ 7692) {Q : zIm → Prop} (hQ : Q (zsr im q (fun j => if z ≤ j ∧ j < z + 7692 then im p (x + (j - z)) else im q j))) :
    ∀ (f k : Nat), k + f = 7692 → zPV g M_X8_copy 3 [(0, .ref p), (1, .int (zi x)), (2, .ref q), (3, .int (zi z)), (4, .int (zi k))] S (zsr im q (fun j => if z ≤ j ∧ j < z + k then im p (x + (j - z)) else im q j)) Q := by
  intro f
  induction f with
  | zero =>
    intro k hk
    have hk' : (k : Int) = 7692 := by omega
    refine v_X8_copy_3 G hp hq (zc_of (by omega) (by omega)) (zc_of (by omega) (by omega)) (zc_of (by omega) (by omega)) ⟨fun _ => ?_, fun h => absurd h (by omega)⟩
    rw [hk']
    exact hQ
  | succ f ih =>
    intro k hk
    refine v_X8_copy_3 G hp hq (zc_of (by omega) (by omega)) (zc_of (by omega) (by omega)) (zc_of (by omega) (by omega)) ⟨fun h => absurd h (by omega), fun _ => ?_⟩
    rw [zw_of (n := x + (k : Int)) (by omega) (by omega), zw_of (n := z + (k : Int)) (by omega) (by omega), zwS (k := k) (by omega)]
    refine ⟨⟨by omega, by omega⟩, ⟨by omega, by omega⟩, fun im3 e3 => ?_⟩
    rw [zsr_n hne, zst_sr] at e3
    have := ih (k + 1) (by omega)
    rw [e3]
    have er : zup (fun j => if z ≤ j ∧ j < z + k then im p (x + (j - z)) else im q j) (z + k) (im p (x + k)) = (fun j => if z ≤ j ∧ j < z + ((k + 1 : Nat) : Int) then im p (x + (j - z)) else im q j) := by
      funext j
      unfold zup
      dsimp only
      by_cases ej : j = z + k
      · rw [if_pos ej, if_pos (by omega), ej]
        congr 1
        omega
      · rw [if_neg ej]
        by_cases e2 : z ≤ j ∧ j < z + k
        · rw [if_pos e2, if_pos (by omega)]
        · rw [if_neg e2, if_neg (by omega)]
    rw [er]
    exact this
theorem c_copy (G : zOK g) {p q : Nat} {x z : Int} (hp : zkd S p = 9) (hq : zkd S q = 9) (hne : p ≠ q) (x0 : 0 ≤ x) (x1 : x + 7692 ≤ zln S p) (x2 : x ≤ 7692) (z0 : 0 ≤ z) (z1 : z + 7692 ≤ zln S q) (z2 : z ≤ 7692) {Q : zIm → Prop} (hQ : Q (zsr im q (fun j => if z ≤ j ∧ j < z + 7692 then im p (x + (j - z)) else im q j))) : zCV g yX8_copy M_X8_copy [.ref p, .int (zi x), .ref q, .int (zi z)] S im Q := by
  have := c_cp_loop G hp hq hne x0 x1 x2 z0 z1 z2 hQ 7692 0 (Nat.zero_add _)
  have e : zsr im q (fun j => if z ≤ j ∧ j < z + ((0 : Nat) : Int) then im p (x + (j - z)) else im q j) = im := by
    have : (fun j => if z ≤ j ∧ j < z + ((0 : Nat) : Int) then im p (x + (j - z)) else im q j) = im q := by
      funext j
      rw [if_neg (by omega)]
    rw [this]
    exact zsr_id
  rw [e] at this
  exact v_X8_copy G hp (zc_of (by omega) (by omega)) hq (zc_of (by omega) (by omega)) this
end CP
/-- im' has block u as im has block v, as far as L says; nothing else has changed -/
def cpy (im im' : zIm) (u v w : Nat) (L : Nat → Int) : Prop := (∀ b, (b < u ∨ u + w ≤ b) → im' b = im b) ∧ ∀ c, c < w → ∀ j, 0 ≤ j → j < L c → im' (u + c) j = im (v + c) j
theorem cpy.i {im : zIm} {u v w : Nat} : cpy im im u v w (fun _ => 0) := ⟨fun _ _ => rfl, fun _ _ _ j0 j1 => absurd (show _ < (0 : Int) from j1) (by omega)⟩
theorem cpy.row {im im' im'' : zIm} {u v w : Nat} {L : Nat → Int} {n : Int} (h : cpy im im' u v w L) (hd : u + w ≤ v ∨ v + w ≤ u) (c : Nat) (hc : c < w) (e : im'' = zcp im' (v + c) (u + c) n) : cpy im im'' u v w (fun d => if d = c then n else L d) := by
  refine ⟨fun b hb => ?_, fun d hd' j j0 j1 => ?_⟩ <;> try dsimp only at j1
  · rw [e]; unfold zcp; rw [zsr_n (by omega)]; exact h.1 b hb
  · rw [e]; unfold zcp
    by_cases ed : d = c
    · subst ed
      rw [if_pos rfl] at j1
      rw [zsr_s]
      show (if 0 ≤ j ∧ j < n then im' (v + d) j else im' (u + d) j) = _
      rw [if_pos ⟨j0, j1⟩, h.1 (v + d) (by omega)]
    · rw [if_neg ed] at j1
      rw [zsr_n (by omega)]
      exact h.2 d hd' j j0 j1
theorem cpy.fld {im im' im'' : zIm} {u v w : Nat} {L : Nat → Int} {k : Int} (h : cpy im im' u v w L) (hd : u + w ≤ v ∨ v + w ≤ u) (hw : 0 < w) (hk : L 0 = k) (e : im'' = zst im' u k (im' v k)) : cpy im im'' u v w (fun d => if d = 0 then k + 1 else L d) := by
  refine ⟨fun b hb => ?_, fun d hd' j j0 j1 => ?_⟩ <;> try dsimp only at j1
  · rw [e, zst_n (by omega)]; exact h.1 b hb
  · rw [e, zst_at]
    by_cases ed : d = 0
    · subst ed
      rw [if_pos rfl] at j1
      by_cases ej : j = k
      · rw [if_pos ⟨rfl, ej⟩, h.1 v (by omega), ej]; rfl
      · rw [if_neg (fun hh => ej hh.2)]
        exact h.2 0 hd' j j0 (by omega)
    · rw [if_neg ed] at j1
      rw [if_neg (by omega)]
      exact h.2 d hd' j j0 j1
theorem cpy.le {im im' : zIm} {u v w : Nat} {L L' : Nat → Int} (h : cpy im im' u v w L) (hl : ∀ c, c < w → L' c ≤ L c) : cpy im im' u v w L' := ⟨h.1, fun c hc j j0 j1 => h.2 c hc j j0 (by have := hl c hc; omega)⟩
theorem cpy.sub {im im' im'' : zIm} {u v w o w' : Nat} {L L' : Nat → Int} (h : cpy im im' u v w L) (hd : u + w ≤ v ∨ v + w ≤ u) (how : o + w' ≤ w) (h' : cpy im' im'' (u + o) (v + o) w' L') : cpy im im'' u v w (fun d => if o ≤ d ∧ d < o + w' then L' (d - o) else L d) := by
  refine ⟨fun b hb => by rw [h'.1 b (by omega)]; exact h.1 b hb, fun d hd' j j0 j1 => ?_⟩ <;> try dsimp only at j1
  by_cases e : o ≤ d ∧ d < o + w'
  · rw [if_pos e] at j1
    have := h'.2 (d - o) (by omega) j j0 j1
    rw [show u + o + (d - o) = u + d from by omega, show v + o + (d - o) = v + d from by omega, h.1 (v + d) (by omega)] at this
    exact this
  · rw [if_neg e] at j1
    rw [h'.1 (u + d) (by omega)]
    exact h.2 d hd' j j0 j1
def lSt (c : Nat) : Int := if c = 0 then 3 else if c ≤ 3 then 4 else if c = 4 then 8 else if c = 5 then 64 else 32
def lFg (c : Nat) : Int := if c = 0 then 1 else 32
def lQu (n : Int) (c : Nat) : Int := if c = 0 then 1 else n
section CQ
variable {g : zG} {S : zSh} {im im0 : zIm} {u v w : Nat} {L : Nat → Int}
theorem k_row (G : zOK g) (h : cpy im0 im u v w L) (hd : u + w ≤ v ∨ v + w ≤ u) (c : Nat) {N : Nat} {n : Int} (hc : c < w) (k1 : zkd S (v + c) = 9 ∧ zln S (v + c) = N) (k2 : zkd S (u + c) = 9 ∧ zln S (u + c) = N) (n0 : 0 ≤ n) (n1 : n ≤ N) (hN : N ≤ 1000) {Q : zIm → Prop} (hQ : ∀ im', cpy im0 im' u v w (fun d => if d = c then n else L d) → Q im') : zCV g yX7_copyRow M_X7_copyRow [.ref (v + c), .ref (u + c), .int (zi n)] S im Q :=
  v_X7_copyRow G k1.1 k2.1 (zc_of (by omega) (by omega)) ⟨⟨n0, by rw [k1.2]; exact n1, by rw [k2.2]; exact n1⟩, fun im1 e => hQ im1 (h.row hd c hc e)⟩
theorem k_cfS (G : zOK g) (hS : zS_S S u) (hS' : zS_S S v) (hd : u + 9 ≤ v ∨ v + 9 ≤ u) {Q : zIm → Prop} (hQ : ∀ im', cpy im im' u v 9 lSt → Q im') : zCV g yX4_copyFrom M_X4_copyFrom [.ref u, .ref v] S im Q := by
  refine v_X4_copyFrom G hS hS' (fun i2 e2 i5 e5 i8 e8 => ?_)
  have h := ((cpy.i.fld hd (by decide) rfl e2).fld hd (by decide) rfl e5).fld hd (by decide) rfl e8
  refine k_row G h hd 1 (N := 4) (by decide) ⟨(hS' 1 (by decide)).1, (hS' 1 (by decide)).2.1⟩ ⟨(hS 1 (by decide)).1, (hS 1 (by decide)).2.1⟩ (by omega) (by omega) (by omega) (fun i h => ?_)
  refine k_row G h hd 2 (N := 4) (by decide) ⟨(hS' 2 (by decide)).1, (hS' 2 (by decide)).2.1⟩ ⟨(hS 2 (by decide)).1, (hS 2 (by decide)).2.1⟩ (by omega) (by omega) (by omega) (fun i h => ?_)
  refine k_row G h hd 3 (N := 4) (by decide) ⟨(hS' 3 (by decide)).1, (hS' 3 (by decide)).2.1⟩ ⟨(hS 3 (by decide)).1, (hS 3 (by decide)).2.1⟩ (by omega) (by omega) (by omega) (fun i h => ?_)
  refine k_row G h hd 4 (N := 8) (by decide) ⟨(hS' 4 (by decide)).1, (hS' 4 (by decide)).2.1⟩ ⟨(hS 4 (by decide)).1, (hS 4 (by decide)).2.1⟩ (by omega) (by omega) (by omega) (fun i h => ?_)
  refine k_row G h hd 5 (N := 64) (by decide) ⟨(hS' 5 (by decide)).1, (hS' 5 (by decide)).2.1⟩ ⟨(hS 5 (by decide)).1, (hS 5 (by decide)).2.1⟩ (by omega) (by omega) (by omega) (fun i h => ?_)
  refine k_row G h hd 6 (N := 32) (by decide) ⟨(hS' 6 (by decide)).1, (hS' 6 (by decide)).2.1⟩ ⟨(hS 6 (by decide)).1, (hS 6 (by decide)).2.1⟩ (by omega) (by omega) (by omega) (fun i h => ?_)
  refine k_row G h hd 7 (N := 32) (by decide) ⟨(hS' 7 (by decide)).1, (hS' 7 (by decide)).2.1⟩ ⟨(hS 7 (by decide)).1, (hS 7 (by decide)).2.1⟩ (by omega) (by omega) (by omega) (fun i h => ?_)
  refine k_row G h hd 8 (N := 32) (by decide) ⟨(hS' 8 (by decide)).1, (hS' 8 (by decide)).2.1⟩ ⟨(hS 8 (by decide)).1, (hS 8 (by decide)).2.1⟩ (by omega) (by omega) (by omega) (fun i h => ?_)
  exact hQ i (h.le (by decide))
theorem k_cfF (G : zOK g) (hS : zS_F S u) (hS' : zS_F S v) (hd : u + 6 ≤ v ∨ v + 6 ≤ u) {Q : zIm → Prop} (hQ : ∀ im', cpy im im' u v 6 lFg → Q im') : zCV g yX0_copyFrom M_X0_copyFrom [.ref u, .ref v] S im Q := by
  refine v_X0_copyFrom G hS hS' (fun i2 e2 => ?_)
  have h := cpy.i.fld hd (by decide) rfl e2
  refine k_row G h hd 1 (N := 32) (by decide) ⟨(hS' 1 (by decide)).1, (hS' 1 (by decide)).2.1⟩ ⟨(hS 1 (by decide)).1, (hS 1 (by decide)).2.1⟩ (by omega) (by omega) (by omega) (fun i h => ?_)
  refine k_row G h hd 2 (N := 32) (by decide) ⟨(hS' 2 (by decide)).1, (hS' 2 (by decide)).2.1⟩ ⟨(hS 2 (by decide)).1, (hS 2 (by decide)).2.1⟩ (by omega) (by omega) (by omega) (fun i h => ?_)
  refine k_row G h hd 3 (N := 32) (by decide) ⟨(hS' 3 (by decide)).1, (hS' 3 (by decide)).2.1⟩ ⟨(hS 3 (by decide)).1, (hS 3 (by decide)).2.1⟩ (by omega) (by omega) (by omega) (fun i h => ?_)
  refine k_row G h hd 4 (N := 32) (by decide) ⟨(hS' 4 (by decide)).1, (hS' 4 (by decide)).2.1⟩ ⟨(hS 4 (by decide)).1, (hS 4 (by decide)).2.1⟩ (by omega) (by omega) (by omega) (fun i h => ?_)
  refine k_row G h hd 5 (N := 32) (by decide) ⟨(hS' 5 (by decide)).1, (hS' 5 (by decide)).2.1⟩ ⟨(hS 5 (by decide)).1, (hS 5 (by decide)).2.1⟩ (by omega) (by omega) (by omega) (fun i h => ?_)
  exact hQ i (h.le (by decide))
theorem k_cfU (G : zOK g) (hS : zS_U S u) (hS' : zS_U S v) (hd : u + 7 ≤ v ∨ v + 7 ≤ u) (n0 : 0 ≤ im v 0) (n1 : im v 0 ≤ 300) {Q : zIm → Prop} (hQ : ∀ im', cpy im im' u v 7 (lQu (im v 0)) → Q im') : zCV g yX6_copyFrom M_X6_copyFrom [.ref u, .ref v] S im Q := by
  refine v_X6_copyFrom G hS hS' (fun i2 e2 => ?_)
  have h := cpy.i.fld hd (by decide) rfl e2
  have z {i : zIm} {L : Nat → Int} (h : cpy im i u v 7 L) (hL : L 0 = 1) : i u 0 = im v 0 := h.2 0 (by decide) 0 (by omega) (by omega)
  rw [z h rfl]
  refine k_row G h hd 1 (N := 300) (by decide) ⟨(hS' 1 (by decide)).1, (hS' 1 (by decide)).2.1⟩ ⟨(hS 1 (by decide)).1, (hS 1 (by decide)).2.1⟩ n0 n1 (by omega) (fun i h => ?_)
  rw [z h rfl]
  refine k_row G h hd 2 (N := 300) (by decide) ⟨(hS' 2 (by decide)).1, (hS' 2 (by decide)).2.1⟩ ⟨(hS 2 (by decide)).1, (hS 2 (by decide)).2.1⟩ n0 n1 (by omega) (fun i h => ?_)
  rw [z h rfl]
  refine k_row G h hd 3 (N := 300) (by decide) ⟨(hS' 3 (by decide)).1, (hS' 3 (by decide)).2.1⟩ ⟨(hS 3 (by decide)).1, (hS 3 (by decide)).2.1⟩ n0 n1 (by omega) (fun i h => ?_)
  rw [z h rfl]
  refine k_row G h hd 4 (N := 300) (by decide) ⟨(hS' 4 (by decide)).1, (hS' 4 (by decide)).2.1⟩ ⟨(hS 4 (by decide)).1, (hS 4 (by decide)).2.1⟩ n0 n1 (by omega) (fun i h => ?_)
  rw [z h rfl]
  refine k_row G h hd 5 (N := 300) (by decide) ⟨(hS' 5 (by decide)).1, (hS' 5 (by decide)).2.1⟩ ⟨(hS 5 (by decide)).1, (hS 5 (by decide)).2.1⟩ n0 n1 (by omega) (fun i h => ?_)
  rw [z h rfl]
  refine k_row G h hd 6 (N := 300) (by decide) ⟨(hS' 6 (by decide)).1, (hS' 6 (by decide)).2.1⟩ ⟨(hS 6 (by decide)).1, (hS 6 (by decide)).2.1⟩ n0 n1 (by omega) (fun i h => ?_)
  refine hQ i (h.le (fun c hc => ?_))
  have : c = 0 ∨ c = 1 ∨ c = 2 ∨ c = 3 ∨ c = 4 ∨ c = 5 ∨ c = 6 := by omega
  rcases this with rfl | rfl | rfl | rfl | rfl | rfl | rfl <;> exact Int.le_refl _
theorem k_cfQ (G : zOK g) (hS : zS_Q S u) (hS' : zS_Q S v) (hd : u + 5 ≤ v ∨ v + 5 ≤ u) (n0 : 0 ≤ im v 0) (n1 : im v 0 ≤ 300) {Q : zIm → Prop} (hQ : ∀ im', cpy im im' u v 5 (lQu (im v 0)) → Q im') : zCV g yX3_copyFrom M_X3_copyFrom [.ref u, .ref v] S im Q := by
  refine v_X3_copyFrom G hS hS' (fun i2 e2 => ?_)
  have h := cpy.i.fld hd (by decide) rfl e2
  have z {i : zIm} {L : Nat → Int} (h : cpy im i u v 5 L) (hL : L 0 = 1) : i u 0 = im v 0 := h.2 0 (by decide) 0 (by omega) (by omega)
  rw [z h rfl]
  refine k_row G h hd 1 (N := 300) (by decide) ⟨(hS' 1 (by decide)).1, (hS' 1 (by decide)).2.1⟩ ⟨(hS 1 (by decide)).1, (hS 1 (by decide)).2.1⟩ n0 n1 (by omega) (fun i h => ?_)
  rw [z h rfl]
  refine k_row G h hd 2 (N := 300) (by decide) ⟨(hS' 2 (by decide)).1, (hS' 2 (by decide)).2.1⟩ ⟨(hS 2 (by decide)).1, (hS 2 (by decide)).2.1⟩ n0 n1 (by omega) (fun i h => ?_)
  rw [z h rfl]
  refine k_row G h hd 3 (N := 300) (by decide) ⟨(hS' 3 (by decide)).1, (hS' 3 (by decide)).2.1⟩ ⟨(hS 3 (by decide)).1, (hS 3 (by decide)).2.1⟩ n0 n1 (by omega) (fun i h => ?_)
  rw [z h rfl]
  refine k_row G h hd 4 (N := 300) (by decide) ⟨(hS' 4 (by decide)).1, (hS' 4 (by decide)).2.1⟩ ⟨(hS 4 (by decide)).1, (hS 4 (by decide)).2.1⟩ n0 n1 (by omega) (fun i h => ?_)
  refine hQ i (h.le (fun c hc => ?_))
  have : c = 0 ∨ c = 1 ∨ c = 2 ∨ c = 3 ∨ c = 4 := by omega
  rcases this with rfl | rfl | rfl | rfl | rfl <;> exact Int.le_refl _
end CQ
def lNw (nu nw no nc : Int) (d : Nat) : Int := if 35 ≤ d ∧ d < 35 + 5 then lQu nc (d - 35) else if 30 ≤ d ∧ d < 30 + 5 then lQu no (d - 30) else if 25 ≤ d ∧ d < 25 + 5 then lQu nw (d - 25) else if 18 ≤ d ∧ d < 18 + 7 then lQu nu (d - 18) else if 12 ≤ d ∧ d < 12 + 6 then lFg (d - 12) else if 3 ≤ d ∧ d < 3 + 9 then lSt (d - 3) else if d = 2 then 32 else if d = 1 then 32 else if d = 0 then 0 + 1 else 0
theorem nRep.cpy {im im' : zIm} {n p : Nat} {A : aA} (h : nRep im p A) (hG : gB A.1) (hc : cpy im im' n p 40 (lNw (im (p + 18) 0) (im (p + 25) 0) (im (p + 30) 0) (im (p + 35) 0))) : nRep im' n A := by
  have g2 := hG.2.2.1
  have g3 := hG.2.2.2.1
  obtain ⟨⟨a0, a1, a2, a3, a4, a5, a6, a7, a8⟩, hu, hw, ho, hcu⟩ := h
  refine ⟨⟨?_, ?_, ?_, ?_, ?_, fun i i0 i1 => ⟨?_, ?_, ?_⟩, fun s s0 s1 => ?_, fun j j0 j1 => ?_, fun c t ht j j0 j1 => ?_⟩, ⟨?_, fun k hk => ?_⟩, ⟨?_, fun k hk => ?_⟩, ⟨?_, fun k hk => ?_⟩, ⟨?_, fun k hk => ?_⟩⟩
  · rw [← a0]; exact hc.2 0 (by decide) 0 (by decide) (show (0 : Int) < 1 by decide)
  · rw [← a1]; exact hc.2 3 (by decide) 0 (by decide) (show (0 : Int) < 3 by decide)
  · rw [← a2]; exact hc.2 3 (by decide) 1 (by decide) (show (1 : Int) < 3 by decide)
  · rw [← a3]; exact hc.2 3 (by decide) 2 (by decide) (show (2 : Int) < 3 by decide)
  · rw [← a4]; exact hc.2 12 (by decide) 0 (by decide) (show (0 : Int) < 1 by decide)
  · rw [← (a5 i i0 i1).1]; exact hc.2 4 (by decide) i i0 (show i < 4 by omega)
  · rw [← (a5 i i0 i1).2.1]; exact hc.2 5 (by decide) i i0 (show i < 4 by omega)
  · rw [← (a5 i i0 i1).2.2]; exact hc.2 6 (by decide) i i0 (show i < 4 by omega)
  · rw [← a6 s s0 s1]; exact hc.2 7 (by decide) s (by omega) (show s < 8 by omega)
  · rw [← a7 j j0 j1]; exact hc.2 8 (by decide) j j0 (show j < 64 by omega)
  · rw [← a8 c t ht j j0 j1]
    unfold tP at ht
    rcases ht with ⟨rfl, _⟩ | ⟨rfl, _⟩ | ⟨rfl, _⟩ | ⟨rfl, _⟩ | ⟨rfl, _⟩ | ⟨rfl, _⟩ | ⟨rfl, _⟩ | ⟨rfl, _⟩ | ⟨rfl, _⟩ | ⟨rfl, _⟩ <;> exact hc.2 _ (by decide) j j0 j1
  · rw [← hu.1]; exact hc.2 18 (by decide) 0 (by decide) (show (0 : Int) < 1 by decide)
  · have e := hu.2 k hk
    have l : (k : Int) < im (p + 18) 0 := by rw [hu.1]; omega
    exact ⟨by rw [← e.1]; exact hc.2 19 (by decide) k (by omega) l, by rw [← e.2.1]; exact hc.2 20 (by decide) k (by omega) l, by rw [← e.2.2.1]; exact hc.2 21 (by decide) k (by omega) l, by rw [← e.2.2.2.1]; exact hc.2 22 (by decide) k (by omega) l, by rw [← e.2.2.2.2.1]; exact hc.2 23 (by decide) k (by omega) l, by rw [← e.2.2.2.2.2]; exact hc.2 24 (by decide) k (by omega) l⟩
  · rw [← hw.1]; exact hc.2 25 (by decide) 0 (by decide) (show (0 : Int) < 1 by decide)
  · have e := hw.2 k hk
    have l : (k : Int) < im (p + 25) 0 := by rw [hw.1]; omega
    exact ⟨by rw [← e.1]; exact hc.2 26 (by decide) k (by omega) l, by rw [← e.2.1]; exact hc.2 27 (by decide) k (by omega) l, by rw [← e.2.2.1]; exact hc.2 28 (by decide) k (by omega) l, fun h => absurd h id⟩
  · rw [← ho.1]; exact hc.2 30 (by decide) 0 (by decide) (show (0 : Int) < 1 by decide)
  · have e := ho.2 k hk
    have l : (k : Int) < im (p + 30) 0 := by rw [ho.1]; omega
    exact ⟨by rw [← e.1]; exact hc.2 31 (by decide) k (by omega) l, by rw [← e.2.1]; exact hc.2 32 (by decide) k (by omega) l, by rw [← e.2.2.1]; exact hc.2 33 (by decide) k (by omega) l, fun h => absurd h id⟩
  · rw [← hcu.1]; exact hc.2 35 (by decide) 0 (by decide) (show (0 : Int) < 1 by decide)
  · have e := hcu.2 k hk
    have l : (k : Int) < im (p + 35) 0 := by rw [hcu.1]; omega
    exact ⟨by rw [← e.1]; exact hc.2 36 (by decide) k (by omega) l, by rw [← e.2.1]; exact hc.2 37 (by decide) k (by omega) l, by rw [← e.2.2.1]; exact hc.2 38 (by decide) k (by omega) l, fun h => by rw [← e.2.2.2 h]; exact hc.2 39 (by decide) k (by omega) l⟩
section CR2
variable {g : zG} {S : zSh} {im : zIm} {A : aA}
theorem k_copyFrom (G : zOK g) {n p : Nat} (hS : zS_N S n) (hS' : zS_N S p) (hd : n + 41 ≤ p ∨ p + 41 ≤ n) (hR : nRep im p A) (hG : gB A.1) (hU : A.2.1.length ≤ 300) (hC : A.2.2.1.length ≤ 300) (hO : A.2.2.2.length ≤ 300) {Q : zIm → Prop} (hQ : ∀ im', nS n (im (n + 40) 0) im im' A → Q im') : zCV g yX2_copyFrom M_X2_copyFrom [.ref n, .ref p] S im Q := by
  have hl := sr_wl_len A.2.1
  have hol : (ol A.2.2.2).length = A.2.2.2.length := by unfold ol; simp
  have hd4 : n + 40 ≤ p ∨ p + 40 ≤ n := by omega
  have l18 := hR.2.1.1
  have l25 := hR.2.2.1.1
  have l30 := hR.2.2.2.1.1
  have l35 := hR.2.2.2.2.1
  refine v_X2_copyFrom G hS hS' (fun i2 e2 => ?_)
  have h := cpy.i.fld hd4 (by decide) rfl e2
  refine k_row G h hd4 1 (N := 32) (by decide) ⟨(hS' 1 (by decide)).1, (hS' 1 (by decide)).2.1⟩ ⟨(hS 1 (by decide)).1, (hS 1 (by decide)).2.1⟩ (by omega) (by omega) (by omega) (fun i h => ?_)
  refine k_row G h hd4 2 (N := 32) (by decide) ⟨(hS' 2 (by decide)).1, (hS' 2 (by decide)).2.1⟩ ⟨(hS 2 (by decide)).1, (hS 2 (by decide)).2.1⟩ (by omega) (by omega) (by omega) (fun i h => ?_)
  refine k_cfS G (zN_S hS) (zN_S hS') (by omega) (fun i' h' => ?_)
  have h := h.sub hd4 (by decide) h'
  refine k_cfF G (zN_F hS) (zN_F hS') (by omega) (fun i' h' => ?_)
  have h := h.sub hd4 (by decide) h'
  have e18 : i' (p + 18) = im (p + 18) := h.1 _ (by omega)
  refine k_cfU G (zN_U hS) (zN_U hS') (by omega) (by rw [e18, l18]; omega) (by rw [e18, l18]; omega) (fun i' h' => ?_)
  rw [e18] at h'
  have h := h.sub hd4 (by decide) h'
  have e25 : i' (p + 25) = im (p + 25) := h.1 _ (by omega)
  refine k_cfQ G (zN_W hS) (zN_W hS') (by omega) (by rw [e25, l25]; omega) (by rw [e25, l25]; omega) (fun i' h' => ?_)
  rw [e25] at h'
  have h := h.sub hd4 (by decide) h'
  have e30 : i' (p + 30) = im (p + 30) := h.1 _ (by omega)
  refine k_cfQ G (zN_O hS) (zN_O hS') (by omega) (by rw [e30, l30]; omega) (by rw [e30, l30]; omega) (fun i' h' => ?_)
  rw [e30] at h'
  have h := h.sub hd4 (by decide) h'
  have e35 : i' (p + 35) = im (p + 35) := h.1 _ (by omega)
  refine k_cfQ G (zN_C hS) (zN_C hS') (by omega) (by rw [e35, l35]; omega) (by rw [e35, l35]; omega) (fun i' h' => ?_)
  rw [e35] at h'
  have h := h.sub hd4 (by decide) h'
  exact hQ i' ⟨fun b hb => h.1 b (by omega), by rw [h.1 (n + 40) (by omega)], hR.cpy hG h⟩
end CR2
