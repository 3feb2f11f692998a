/-! words -/
def wdb (x : aX) (q : Nat) (bs : List Int) : Bool := decide (tE x q - tS x q = bs.length) && (List.range bs.length).all (fun j => decide (x.1 ((tS x q + j : Nat) : Int) = bs.getD j 0))
theorem wdb_t {x : aX} {q : Nat} {bs : List Int} : wdb x q bs = true ↔ (tE x q - tS x q = bs.length ∧ ∀ j, j < bs.length → x.1 ((tS x q + j : Nat) : Int) = bs.getD j 0) := by
  unfold wdb
  rw [Bool.and_eq_true, decide_eq_true_eq, List.all_eq_true]
  constructor
  · rintro ⟨h1, h2⟩
    exact ⟨h1, fun j hj => of_decide_eq_true (h2 j (List.mem_range.2 hj))⟩
  · rintro ⟨h1, h2⟩
    exact ⟨h1, fun j hj => decide_eq_true (h2 j (List.mem_range.1 hj))⟩
def pkB (bs : List Int) : Nat → Int
  | 0 => 0
  | k + 1 => 27 * pkB bs k + bs.getD k 0 - 96
def wOK (bs : List Int) : Prop := bs.length ≤ 7 ∧ ∀ j, j < bs.length → 97 ≤ bs.getD j 0 ∧ bs.getD j 0 ≤ 122
theorem pkB_bd {bs : List Int} (h : wOK bs) : ∀ k, k ≤ bs.length → 0 ≤ pkB bs k ∧ pkB bs k < p27 k := by
  intro k
  induction k with
  | zero => intro _; simp [pkB, p27]
  | succ k ih =>
    intro hk
    have i := ih (by omega)
    have d := h.2 k (by omega)
    have h3 : p27 (k + 1) = 27 * p27 k := rfl
    rw [pkB]
    omega
theorem pkEq {tx : aR} {s : Nat} {bs : List Int} (h : wOK bs) : ∀ k, k ≤ bs.length → (∀ j, j < k → isLt (tx ((s + j : Nat) : Int)) = true) → (wVF tx s k = pkB bs k ↔ ∀ j, j < k → tx ((s + j : Nat) : Int) = bs.getD j 0) := by
  have h7 := h.1
  intro k
  induction k with
  | zero => intro _ _; simp [wVF, pkB]
  | succ k ih =>
    intro hk hl
    have i := ih (by omega) (fun j hj => hl j (by omega))
    have d := h.2 k (by omega)
    have d2 := isLt_t.1 (hl k (by omega))
    rw [wVF, if_pos (by omega), pkB]
    constructor
    · intro e j hj
      have e1 : wVF tx s k = pkB bs k := by omega
      by_cases ej : j = k
      · rw [ej]; omega
      · exact i.1 e1 j (by omega)
    · intro e
      have e1 := i.2 (fun j hj => e j (by omega))
      have e2 := e k (by omega)
      rw [e1, e2]
theorem wOK_a {bs : List Int} (h : wOK bs) : ∀ b ∈ bs, 0 ≤ b ∧ b < 128 := by
  intro b hb
  obtain ⟨j, hj, ej⟩ := List.getElem_of_mem hb
  have := h.2 j hj
  rw [List.getD_eq_getElem?_getD, List.getElem?_eq_getElem hj, Option.getD_some, ej] at this
  omega
theorem zcmp_0 {a b : Int} : zcmp a b = 0 ↔ a = b := by
  unfold zcmp
  split
  · omega
  · split <;> omega
abbrev w_item : List Int := [105, 116, 101, 109]
abbrev w_base : List Int := [98, 97, 115, 101]
abbrev w_level : List Int := [108, 101, 118, 101, 108]
abbrev w_link : List Int := [108, 105, 110, 107]
abbrev w_share : List Int := [115, 104, 97, 114, 101]
abbrev w_reserve : List Int := [114, 101, 115, 101, 114, 118, 101]
abbrev w_rate : List Int := [114, 97, 116, 101]
abbrev w_limit : List Int := [108, 105, 109, 105, 116]
theorem ok_item : wOK w_item := ⟨by decide, by decide⟩
theorem ok_base : wOK w_base := ⟨by decide, by decide⟩
theorem ok_level : wOK w_level := ⟨by decide, by decide⟩
theorem ok_link : wOK w_link := ⟨by decide, by decide⟩
theorem ok_share : wOK w_share := ⟨by decide, by decide⟩
theorem ok_reserve : wOK w_reserve := ⟨by decide, by decide⟩
theorem ok_rate : wOK w_rate := ⟨by decide, by decide⟩
theorem ok_limit : wOK w_limit := ⟨by decide, by decide⟩
def wk (x : aX) (q : Nat) : Int := if tK x q = 1 then (if wdb x q w_item = true then 0 else if wdb x q w_base = true then 1 else if wdb x q w_level = true then 2 else if wdb x q w_link = true then 3 else if wdb x q w_share = true then 4 else if wdb x q w_reserve = true then 5 else if wdb x q w_rate = true then 6 else if wdb x q w_limit = true then 7 else -1) else -1
section WD
variable {g : zG} {S : zSh} {im : zIm} {t a : Nat} {x : aX} {q : Nat}
theorem k_wi_loop (G : zOK g) (hS : zS_T S t) (hx : xB x) (hB : tB t x im) (hT : cT t x im q) (hq : q ≤ x.2) (hk : tK x q = 1) {w : Nat} {bs : List Int} (hw : zStrAt g w bs) (ok : wOK bs) (hl : tE x q - tS x q = bs.length) {Q : Int → zIm → Prop} (ht : wdb x q bs = true → Q 1 im) (hf : ¬ wdb x q bs = true → Q 0 im) :
    ∀ (f k : Nat), k + f = bs.length → (∀ j, j < k → x.1 ((tS x q + j : Nat) : Int) = bs.getD j 0) → zPI g M_X5_wordIs 20 [(0, .ref t), (1, .ref w), (2, .int (zi k))] S im Q := by
  have h7 := ok.1
  have hx0 := hx.1
  have bd := tS_bd hq
  have be := tE_bd hq
  have e7 := hT.2.2.1
  intro f
  induction f with
  | zero =>
    intro k hk2 hm
    refine v_X5_wordIs_20 G hS hw (by omega) (wOK_a ok) (zc_of (by omega) (by omega)) ⟨fun _ => ht (wdb_t.2 ⟨hl, fun j hj => hm j (by omega)⟩), fun h => absurd h (by omega)⟩
  | succ f ih =>
    intro k hk2 hm
    have hlt := isLt_t.1 (tK_w hq hk (tS x q + k) (by omega) (by omega))
    have hc := hx.2 (tS x q + k) (by omega) (by omega)
    refine v_X5_wordIs_20 G hS hw (by omega) (wOK_a ok) (zc_of (by omega) (by omega)) ⟨fun h => absurd h (by omega), fun _ => ?_⟩
    rw [e7, ← Int.natCast_add, zw_of (n := ((tS x q + k : Nat) : Int)) (by omega) (by omega), hB.2 (tS x q + k) (by omega) (by omega), (bmLo hc.1 hc.2).1 (by omega), Int.toNat_natCast, zwS (k := k) (by omega)]
    refine ⟨⟨by omega, by omega⟩, ⟨by omega, by omega⟩, fun he => ih (k + 1) (by omega) (fun j hj => ?_), fun he => hf (fun hh => he ((wdb_t.1 hh).2 k (by omega)))⟩
    by_cases e : j = k
    · rw [e]; exact he
    · exact hm j (by omega)
theorem k_wordIs (G : zOK g) (hS : zS_T S t) (hx : xB x) (hB : tB t x im) (hT : cT t x im q) (hq : q ≤ x.2) (hk : tK x q = 1) {w : Nat} {bs : List Int} (hw : zStrAt g w bs) (ok : wOK bs) {Q : Int → zIm → Prop} (ht : wdb x q bs = true → Q 1 im) (hf : ¬ wdb x q bs = true → Q 0 im) : zCI g yX5_wordIs M_X5_wordIs [.ref t, .ref w] S im Q := by
  have h7 := ok.1
  have hx0 := hx.1
  have bd := tS_bd hq
  have be := tE_bd hq
  refine v_X5_wordIs G hS hw (by omega) (wOK_a ok) ?_
  rw [hT.1, hT.2.2.1, zw_of (by omega) (by omega)]
  refine ⟨fun h => k_wi_loop G hS hx hB hT hq hk hw ok (by omega) ht hf bs.length 0 (by omega) (fun j hj => absurd hj (by omega)), fun h => hf (fun hh => h ?_)⟩
  have := (wdb_t.1 hh).1
  omega
theorem k_find (G : zOK g) (hS : zS_T S t) (hx : xB x) (hB : tB t x im) (hT : cT t x im q) (hq : q ≤ x.2) {Q : Int → zIm → Prop} (hQ : Q (wk x q) im) : zCI g yX5_findStatement M_X5_findStatement [.ref t] S im Q := by
  unfold wk at hQ
  refine v_X5_findStatement G hS ?_
  rw [hT.2.1]
  refine ⟨fun hk w hw => ?_, fun hk => by rw [if_neg hk] at hQ; exact hQ⟩
  rw [if_pos hk] at hQ
  refine k_wordIs G hS hx hB hT hq hk hw ok_item (fun h => ⟨fun h' => absurd h' (by decide), fun _ => by rw [if_pos h] at hQ; exact hQ⟩) (fun h => ⟨fun _ w hw => ?_, fun h' => absurd rfl h'⟩)
  rw [if_neg h] at hQ
  refine k_wordIs G hS hx hB hT hq hk hw ok_base (fun h => ⟨fun h' => absurd h' (by decide), fun _ => by rw [if_pos h] at hQ; exact hQ⟩) (fun h => ⟨fun _ w hw => ?_, fun h' => absurd rfl h'⟩)
  rw [if_neg h] at hQ
  refine k_wordIs G hS hx hB hT hq hk hw ok_level (fun h => ⟨fun h' => absurd h' (by decide), fun _ => by rw [if_pos h] at hQ; exact hQ⟩) (fun h => ⟨fun _ w hw => ?_, fun h' => absurd rfl h'⟩)
  rw [if_neg h] at hQ
  refine k_wordIs G hS hx hB hT hq hk hw ok_link (fun h => ⟨fun h' => absurd h' (by decide), fun _ => by rw [if_pos h] at hQ; exact hQ⟩) (fun h => ⟨fun _ w hw => ?_, fun h' => absurd rfl h'⟩)
  rw [if_neg h] at hQ
  refine k_wordIs G hS hx hB hT hq hk hw ok_share (fun h => ⟨fun h' => absurd h' (by decide), fun _ => by rw [if_pos h] at hQ; exact hQ⟩) (fun h => ⟨fun _ w hw => ?_, fun h' => absurd rfl h'⟩)
  rw [if_neg h] at hQ
  refine k_wordIs G hS hx hB hT hq hk hw ok_reserve (fun h => ⟨fun h' => absurd h' (by decide), fun _ => by rw [if_pos h] at hQ; exact hQ⟩) (fun h => ⟨fun _ w hw => ?_, fun h' => absurd rfl h'⟩)
  rw [if_neg h] at hQ
  refine k_wordIs G hS hx hB hT hq hk hw ok_rate (fun h => ⟨fun h' => absurd h' (by decide), fun _ => by rw [if_pos h] at hQ; exact hQ⟩) (fun h => ⟨fun _ w hw => ?_, fun h' => absurd rfl h'⟩)
  rw [if_neg h] at hQ
  exact k_wordIs G hS hx hB hT hq hk hw ok_limit (fun h => ⟨fun h' => absurd h' (by decide), fun _ => by rw [if_pos h] at hQ; exact hQ⟩) (fun h => ⟨fun _ => by rw [if_neg h] at hQ; exact hQ, fun h' => absurd rfl h'⟩)
/-! the reference's words -/
theorem c_iw_loop (G : zOK g) (hS : zS_M S a) (hx : xB x) (hT : mT a x im q) (hq : q ≤ x.2) (hk : tK x q = 1) {w : Nat} {bs : List Int} (hw : zStrAt g w bs) (ok : wOK bs) (hl : tE x q - tS x q = bs.length) {Q : Int → zIm → Prop} (ht : wdb x q bs = true → Q 1 im) (hf : ¬ wdb x q bs = true → Q 0 im) :
    ∀ (f k : Nat), k + f = bs.length → zPI g M_X8_isWord 26 [(0, .ref a), (1, .ref w), (2, .long (zl (pkB bs k))), (4, .int (zi k))] S im Q := by
  have h7 := ok.1
  have be := tE_bd hq
  intro f
  induction f with
  | zero =>
    intro k hk2
    have hp := pkB_bd ok k (by omega)
    have hp2 := p27_le k (by omega)
    have e := pkEq (tx := x.1) (s := tS x q) ok bs.length (Nat.le_refl _) (fun j hj => tK_w hq hk (tS x q + j) (by omega) (by omega))
    have ek : k = bs.length := by omega
    subst ek
    refine v_X8_isWord_26 G hS hw (by omega) (wOK_a ok) (zcl_of (by omega) (by omega)) (zc_of (by omega) (by omega)) ⟨fun _ => ?_, fun h => absurd h (by omega)⟩
    rw [(hT.2.2.2.2 hk).2, hl, zcmp_0]
    exact ⟨fun h => hf (fun hh => h (e.2 (wdb_t.1 hh).2)), fun h => ht (wdb_t.2 ⟨hl, e.1 h⟩)⟩
  | succ f ih =>
    intro k hk2
    have hp := pkB_bd ok k (by omega)
    have hp2 := p27_le k (by omega)
    have hq1 := pkB_bd ok (k + 1) (by omega)
    have hq2 := p27_le (k + 1) (by omega)
    have st := ih (k + 1) (by omega)
    refine v_X8_isWord_26 G hS hw (by omega) (wOK_a ok) (zcl_of (by omega) (by omega)) (zc_of (by omega) (by omega)) ⟨fun h => absurd h (by omega), fun _ => ⟨⟨by omega, by omega⟩, ?_⟩⟩
    rw [Int.toNat_natCast, zwS (k := k) (by omega), show 27 * pkB bs k + bs.getD k 0 - 96 = pkB bs (k + 1) from rfl, zwl_of (by omega) (by omega)]
    exact st
theorem c_isWord (G : zOK g) (hS : zS_M S a) (hx : xB x) (hT : mT a x im q) (hq : q ≤ x.2) {w : Nat} {bs : List Int} (hw : zStrAt g w bs) (ok : wOK bs) {Q : Int → zIm → Prop} (ht : tK x q = 1 → wdb x q bs = true → Q 1 im) (hf : ¬ (tK x q = 1 ∧ wdb x q bs = true) → Q 0 im) : zCI g yX8_isWord M_X8_isWord [.ref a, .ref w] S im Q := by
  have h7 := ok.1
  have rk := rK_s (tK x q)
  refine v_X8_isWord G hS hw (by omega) (wOK_a ok) ?_
  rw [hT.2.2.1]
  refine ⟨fun h => hf (fun hh => h (rk.2.1.2 hh.1)), fun h => ?_⟩
  have hk := rk.2.1.1 h
  rw [(hT.2.2.2.2 hk).1]
  refine ⟨fun h => c_iw_loop G hS hx hT hq hk hw ok (by omega) (ht hk) (fun hn => hf (fun hh => hn hh.2)) bs.length 0 (by omega), fun h => hf (fun hh => h ?_)⟩
  have := (wdb_t.1 hh.2).1
  omega
end WD
