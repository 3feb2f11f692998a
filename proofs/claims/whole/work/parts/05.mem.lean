/-! numbers: an int on the stack is 'zi e' for a whole number e; 'zw' wraps, 'zc' says that nothing is to be wrapped -/
def zi (n : Int) : Int32 := Int32.ofInt n
def zw (n : Int) : Int := (Int32.ofInt n).toInt
def zc (n : Int) : Prop := zw n = n
def zl (n : Int) : Int64 := Int64.ofInt n
def zwl (n : Int) : Int := (Int64.ofInt n).toInt
def zcl (n : Int) : Prop := zwl n = n
theorem zi_toInt (n : Int) : (zi n).toInt = zw n := rfl
theorem zi_zw (n : Int) : zi (zw n) = zi n := Int32.ofInt_toInt _
theorem zc_zw (n : Int) : zc (zw n) := by unfold zc zw; rw [Int32.ofInt_toInt]
theorem zl_zwl (n : Int) : zl (zwl n) = zl n := Int64.ofInt_toInt _
theorem zcl_zwl (n : Int) : zcl (zwl n) := by unfold zcl zwl; rw [Int64.ofInt_toInt]
theorem zw_of {n : Int} (h1 : -2147483648 ≤ n) (h2 : n < 2147483648) : zw n = n := Int32.toInt_ofInt_of_le (by omega) (by omega)
theorem zwl_of {n : Int} (h1 : -9223372036854775808 ≤ n) (h2 : n < 9223372036854775808) : zwl n = n := Int64.toInt_ofInt_of_le (by omega) (by omega)
theorem zc_of {n : Int} (h1 : -2147483648 ≤ n) (h2 : n < 2147483648) : zc n := zw_of h1 h2
theorem zc_bd {n : Int} (h : zc n) : -2147483648 ≤ n ∧ n < 2147483648 := by
  have h1 := Int32.le_toInt (Int32.ofInt n)
  have h2 := Int32.toInt_lt (Int32.ofInt n)
  have h3 : (Int32.ofInt n).toInt = n := h
  rw [h3] at h1 h2
  omega
theorem zcl_bd {n : Int} (h : zcl n) : -9223372036854775808 ≤ n ∧ n < 9223372036854775808 := by
  have h1 := Int64.le_toInt (Int64.ofInt n)
  have h2 := Int64.toInt_lt (Int64.ofInt n)
  have h3 : (Int64.ofInt n).toInt = n := h
  rw [h3] at h1 h2
  omega
theorem zcl_of {n : Int} (h1 : -9223372036854775808 ≤ n) (h2 : n < 9223372036854775808) : zcl n := zwl_of h1 h2
theorem zcl_zc {n : Int} (h : zc n) : zcl n := by
  have := zc_bd h
  exact zcl_of (by omega) (by omega)
theorem zi_lt {a b : Int} (ha : zc a) (hb : zc b) : zi a < zi b ↔ a < b := by
  rw [Int32.lt_iff_toInt_lt, zi_toInt, zi_toInt, ha, hb]
theorem zi_le {a b : Int} (ha : zc a) (hb : zc b) : zi a ≤ zi b ↔ a ≤ b := by
  rw [Int32.le_iff_toInt_le, zi_toInt, zi_toInt, ha, hb]
theorem zi_eq {a b : Int} (ha : zc a) (hb : zc b) : zi a = zi b ↔ a = b := by
  constructor
  · intro h
    have h1 : (zi a).toInt = (zi b).toInt := by rw [h]
    rw [zi_toInt, zi_toInt, ha, hb] at h1
    exact h1
  · intro h
    rw [h]
theorem zi_0 : zi 0 = 0 := rfl
theorem zi_add (a b : Int) : zi a + zi b = zi (a + b) := (Int32.ofInt_add a b).symm
theorem zi_sub (a b : Int) : zi a - zi b = zi (a - b) := (Int32.ofInt_sub a b).symm
theorem zi_mul (a b : Int) : zi a * zi b = zi (a * b) := (Int32.ofInt_mul a b).symm
theorem zi_div {a b : Int} (ha : zc a) (hb : zc b) : zi a / zi b = zi (a.tdiv b) := by
  apply Int32.toInt_inj.mp
  rw [Int32.toInt_div, zi_toInt, zi_toInt, zi_toInt, ha, hb]
  show _ = (Int32.ofInt _).toInt
  rw [Int32.toInt_ofInt]
theorem zi_rem {a b : Int} (ha : zc a) (hb : zc b) : zi a - zi a / zi b * zi b = zi (a.tmod b) := by
  apply Int32.toInt_inj.mp
  rw [rem_toInt, zi_toInt, zi_toInt, ha, hb]
  show _ = (Int32.ofInt _).toInt
  have h1 := zc_bd ha
  have h2 := zc_bd hb
  rw [Int32.toInt_ofInt]
  have h3 : (zi a % zi b).toInt = a.tmod b := by rw [Int32.toInt_mod, zi_toInt, zi_toInt, ha, hb]
  rw [← h3]
  exact (Int32.toInt_bmod_size _).symm
theorem zi_nat {i : Int} (h0 : 0 ≤ i) (h1 : i < 2147483648) : (zi i).toNatClampNeg = i.toNat := by
  show (zi i).toInt.toNat = i.toNat
  rw [zi_toInt, zw_of (by omega) h1]
theorem zi_in {i : Int} {n : Nat} (h0 : 0 ≤ i) (h1 : i < n) (h2 : n < 2147483648) : ¬ (zi i < 0 ∨ n ≤ (zi i).toNatClampNeg) := by
  rw [zi_nat h0 (by omega)]
  rintro (h | h)
  · rw [← zi_0, zi_lt (zc_of (by omega) (by omega)) (zc_of (by omega) (by omega))] at h
    omega
  · omega
/-- the whole number that an int is, for use -/
def nf (e e' : Int) : Prop := zi e = zi e' ∧ zc e'
theorem nf_r {e : Int} (h : zc e) : nf e e := ⟨rfl, h⟩
theorem nf_w (e : Int) : nf e (zw e) := ⟨(zi_zw e).symm, zc_zw e⟩
def nfl (e e' : Int) : Prop := zl e = zl e' ∧ zcl e'
theorem nfl_r {e : Int} (h : zcl e) : nfl e e := ⟨rfl, h⟩
theorem nfl_w (e : Int) : nfl e (zwl e) := ⟨(zl_zwl e).symm, zcl_zwl e⟩
theorem zl_add (a b : Int) : zl a + zl b = zl (a + b) := (Int64.ofInt_add a b).symm
theorem zl_sub (a b : Int) : zl a - zl b = zl (a - b) := (Int64.ofInt_sub a b).symm
theorem zl_mul (a b : Int) : zl a * zl b = zl (a * b) := (Int64.ofInt_mul a b).symm
theorem zl_toInt (n : Int) : (zl n).toInt = zwl n := rfl
theorem zl_eq {a b : Int} (ha : zcl a) (hb : zcl b) : zl a = zl b ↔ a = b := by
  constructor
  · intro h
    have h1 : (zl a).toInt = (zl b).toInt := by rw [h]
    rw [zl_toInt, zl_toInt, ha, hb] at h1
    exact h1
  · intro h
    rw [h]
theorem zl_lt {a b : Int} (ha : zcl a) (hb : zcl b) : zl a < zl b ↔ a < b := by
  rw [Int64.lt_iff_toInt_lt, zl_toInt, zl_toInt, ha, hb]
theorem zl_div {a b : Int} (ha : zcl a) (hb : zcl b) : zl a / zl b = zl (a.tdiv b) := by
  apply Int64.toInt_inj.mp
  rw [Int64.toInt_div, zl_toInt, zl_toInt, zl_toInt, ha, hb]
  show _ = (Int64.ofInt _).toInt
  rw [Int64.toInt_ofInt]
theorem zlrem (x y : Int64) : x - (x / y) * y = x % y := by
  apply Int64.toInt_inj.mp
  have h1 := Int64.le_toInt (x % y)
  have h2 := Int64.toInt_lt (x % y)
  rw [Int64.toInt_sub, Int64.toInt_mul, Int64.toInt_div, Int.bmod_mul_bmod, Int.sub_bmod_bmod, Int.mul_comm (x.toInt.tdiv y.toInt), ← Int.tmod_def, ← Int64.toInt_mod]
  exact Int.bmod_eq_of_le_mul_two (by omega) (by omega)
theorem zl_rem {a b : Int} (ha : zcl a) (hb : zcl b) : zl a - zl a / zl b * zl b = zl (a.tmod b) := by
  apply Int64.toInt_inj.mp
  rw [zlrem]
  have h3 : (zl a % zl b).toInt = a.tmod b := by rw [Int64.toInt_mod, zl_toInt, zl_toInt, ha, hb]
  rw [← h3]
  show _ = (Int64.ofInt _).toInt
  rw [Int64.ofInt_toInt]
theorem zl_i {a : Int} (ha : zc a) : (zi a).toInt64 = zl a := by
  apply Int64.toInt_inj.mp
  rw [Int32.toInt_toInt64, zi_toInt, zl_toInt, ha, zcl_zc ha]
theorem zi_l (a : Int) : (zl a).toInt32 = zi a := Int64.toInt32_ofInt
theorem zi_b {a : Int} (ha : zc a) : (zi a).toInt8.toInt32 = zi (a.bmod 256) := by
  apply Int32.toInt_inj.mp
  rw [Int8.toInt_toInt32, Int32.toInt_toInt8, zi_toInt, zi_toInt, ha]
  have h1 := @Int.bmod_lt a 256 (by omega)
  have h2 := @Int.le_bmod a 256 (by omega)
  rw [zw_of (by omega) (by omega)]
/-! memory -/
abbrev zSh : Type := (Nat → Nat) × (Nat → Nat) × (Nat → Nat → Option Nat) × Nat
abbrev zIm : Type := Nat → Int → Int
def zkd (S : zSh) : Nat → Nat := S.1
def zln (S : zSh) : Nat → Nat := S.2.1
def zrf (S : zSh) : Nat → Nat → Option Nat := S.2.2.1
def ztop (S : zSh) : Nat := S.2.2.2
/-- a row's place set -/
def zup (f : Int → Int) (i v : Int) : Int → Int := fun j => if j = i then v else f j
/-- a row set -/
def zsr (im : zIm) (a : Nat) (f : Int → Int) : zIm := fun b => if b = a then f else im b
def zst (im : zIm) (a : Nat) (i v : Int) : zIm := zsr im a (zup (im a) i v)
theorem zup_s {f : Int → Int} {i v : Int} : zup f i v i = v := if_pos rfl
theorem zup_n {f : Int → Int} {i j v : Int} (h : j ≠ i) : zup f i v j = f j := if_neg h
theorem zsr_s {im : zIm} {a : Nat} {f : Int → Int} : zsr im a f a = f := if_pos rfl
theorem zsr_n {im : zIm} {a b : Nat} {f : Int → Int} (h : b ≠ a) : zsr im a f b = im b := if_neg h
/-- a new cell of kind k with n places -/
def zpush (S : zSh) (k n : Nat) : zSh := (fun a => if a = ztop S then k else zkd S a, fun a => if a = ztop S then n else zln S a, fun a => if a = ztop S then (fun _ => none) else zrf S a, ztop S + 1)
/-- a reference set -/
def zsf (S : zSh) (a j : Nat) (v : Option Nat) : zSh := (zkd S, zln S, fun b => if b = a then (fun i => if i = j then v else zrf S a i) else zrf S b, ztop S)
/-- the classes by their numbers: how many fields, of which kind (0 an int, 1 a long, 2 a reference), their names -/
def zN : Nat → Nat := fun k => match k with
  | 0 => 6
  | 1 => 1
  | 2 => 10
  | 3 => 5
  | 4 => 11
  | 5 => 9
  | 6 => 7
  | 7 => 4
  | _ => 16
def zft (k j : Nat) : Nat := match k with
  | 0 => if j = 0 then 0 else 2
  | 1 => 1
  | 2 => if j = 0 then 0 else 2
  | 3 => if j = 0 then 0 else 2
  | 4 => if j < 3 then 0 else 2
  | 5 => if j = 3 ∨ j = 4 then 2 else 0
  | 6 => if j = 0 then 0 else 2
  | 7 => 2
  | _ => if j < 4 then 2 else if j = 5 then 1 else if j = 6 then 2 else if j = 15 then 1 else 0
def zRn : Nat → String := fun k => match k with
  | 0 => RX0
  | 1 => RX1
  | 2 => RX2
  | 3 => RX3
  | 4 => RX4
  | 5 => RX5
  | 6 => RX6
  | 7 => RX7
  | _ => RX8
def zT : Nat → u_T := fun k => match k with
  | 0 => TX0
  | 1 => TX1
  | 2 => TX2
  | 3 => TX3
  | 4 => TX4
  | 5 => TX5
  | 6 => TX6
  | 7 => TX7
  | _ => TX8
def zty : Nat → Nat → FieldType := fun k => match k with
  | 0 => tyX0
  | 1 => tyX1
  | 2 => tyX2
  | 3 => tyX3
  | 4 => tyX4
  | 5 => tyX5
  | 6 => tyX6
  | 7 => tyX7
  | _ => tyX8
/-- arrays: kind 9 int, 10 byte, 11 boolean, 12 long, 13 Network; what a place is (3 a byte, 4 a boolean) -/
def zat (k : Nat) : Nat := match k with
  | 9 => 0
  | 10 => 3
  | 11 => 4
  | 12 => 1
  | _ => 2
def zv (t : Nat) (r : Nat → Option Nat) (x : Int → Int) (j : Nat) : Value := match t with
  | 1 => .long (zl (x j))
  | 2 => va_rf (r j)
  | _ => .int (zi (x j))
def zcan (t : Nat) (x : Int) : Prop := match t with
  | 0 => zc x
  | 1 => zcl x
  | 3 => -128 ≤ x ∧ x < 128
  | 4 => x = 0 ∨ x = 1
  | _ => True
/-- the claim's own things: the launch, the state at the law's entry, the classes' ids and slots, the array classes' ids -/
abbrev zG : Type := Launch × State × va_G × (Nat → ClassId)
def zbs (g : zG) : Nat := g.2.1.heap.size
def zcell (g : zG) (k n : Nat) (r : Nat → Option Nat) (x : Int → Int) (H : Heap) (a : Nat) : Prop :=
  (k < 9 → t_OB a (g.2.2.1.1 k) (zN k) (g.2.2.1.2 k) H (fun j => zv (zft k j) r x j) ∧ ∀ j : Nat, j < zN k → zcan (zft k j) (x j)) ∧
  (9 ≤ k → H[a]? = some (arrV (g.2.2.2 k) n (fun j => zv (zat k) r x j)) ∧ n < 2147483648 ∧ ∀ j : Nat, j < n → zcan (zat k) (x j))
def zRel (g : zG) (S : zSh) (im : zIm) (H : Heap) : Prop :=
  H.size = ztop S ∧ zbs g ≤ ztop S ∧ (∀ q : Nat, q < zbs g → H[q]? = g.2.1.heap[q]?) ∧
  ∀ a : Nat, zkd S a < 14 → zbs g ≤ a ∧ a < ztop S ∧ zcell g (zkd S a) (zln S a) (zrf S a) (im a) H a
theorem zcell.kept {g : zG} {k n : Nat} {r : Nat → Option Nat} {x : Int → Int} {H H' : Heap} {a : Nat} (h : zcell g k n r x H a) (e : H'[a]? = H[a]?) : zcell g k n r x H' a :=
  ⟨fun hk => ⟨(h.1 hk).1.kept e, (h.1 hk).2⟩, fun hk => ⟨by rw [e]; exact (h.2 hk).1, (h.2 hk).2⟩⟩
/-- one cell has changed -/
theorem zRel.at {g : zG} {S S' : zSh} {im im' : zIm} {H H' : Heap} {a : Nat} (h : zRel g S im H) (hz : H'.size = H.size) (ho : ∀ q : Nat, q ≠ a → H'[q]? = H[q]?) (ha : zkd S a < 14) (hkd : zkd S' = zkd S) (hln : zln S' = zln S) (htop : ztop S' = ztop S)
    (hrf : ∀ b, b ≠ a → zrf S' b = zrf S b) (him : ∀ b, b ≠ a → im' b = im b) (hc : zcell g (zkd S a) (zln S a) (zrf S' a) (im' a) H' a) : zRel g S' im' H' := by
  obtain ⟨h1, h2, h3, h4⟩ := h
  refine ⟨by rw [hz, htop]; exact h1, by rw [htop]; exact h2, fun q hq => ?_, fun b hb => ?_⟩
  · rw [ho q (by have := (h4 a ha).1; omega)]
    exact h3 q hq
  · rw [hkd] at hb ⊢
    rw [hln, htop]
    obtain ⟨k1, k2, k3⟩ := h4 b hb
    by_cases e : b = a
    · subst e
      exact ⟨k1, k2, hc⟩
    · rw [hrf b e, him b e]
      exact ⟨k1, k2, k3.kept (ho b e)⟩
/-- one cell has come -/
theorem zRel.push {g : zG} {S : zSh} {im im' : zIm} {H H' : Heap} {k n : Nat} (h : zRel g S im H) (hz : H'.size = H.size + 1) (ho : ∀ q : Nat, q < H.size → H'[q]? = H[q]?)
    (him : ∀ b, b ≠ ztop S → im' b = im b) (hc : k < 14 → zcell g k n (fun _ => none) (im' (ztop S)) H' (ztop S)) : zRel g (zpush S k n) im' H' := by
  obtain ⟨h1, h2, h3, h4⟩ := h
  refine ⟨by rw [hz, h1]; rfl, Nat.le_succ_of_le h2, fun q hq => ?_, fun b hb => ?_⟩
  · rw [ho q (by omega)]
    exact h3 q hq
  · by_cases e : b = ztop S
    · subst e
      have e1 : zkd (zpush S k n) (ztop S) = k := if_pos rfl
      have e2 : zln (zpush S k n) (ztop S) = n := if_pos rfl
      have e3 : zrf (zpush S k n) (ztop S) = fun _ => none := if_pos rfl
      rw [e1] at hb
      rw [e1, e2, e3]
      exact ⟨h2, Nat.lt_succ_self _, hc hb⟩
    · have e1 : zkd (zpush S k n) b = zkd S b := if_neg e
      have e2 : zln (zpush S k n) b = zln S b := if_neg e
      have e3 : zrf (zpush S k n) b = zrf S b := if_neg e
      rw [e1] at hb
      rw [e1, e2, e3, him b e]
      obtain ⟨k1, k2, k3⟩ := h4 b hb
      exact ⟨k1, Nat.lt_succ_of_lt k2, k3.kept (ho b (by omega))⟩
theorem zvw {k : Nat} (h : k < 9) : vwCl[k]? = some (zRn k, zT k, zN k) := by
  match k, h with
  | 0, _ => rfl
  | 1, _ => rfl
  | 2, _ => rfl
  | 3, _ => rfl
  | 4, _ => rfl
  | 5, _ => rfl
  | 6, _ => rfl
  | 7, _ => rfl
  | 8, _ => rfl
  | k + 9, h => exact absurd h (by omega)
def zTs : List Cond := lw_tbl.filter goodWord
theorem zTs_in {w : Cond} (h : w ∈ lw_tbl) (hg : goodWord w = true) : w ∈ zTs := List.mem_filter.mpr ⟨h, hg⟩
theorem zlay_good (C : String) (T : u_T) (N : Nat) : ∀ w ∈ u_ws C T N, goodWord w = true := by
  intro w hw
  obtain ⟨k, -, rfl⟩ := List.mem_map.mp hw
  unfold u_lay
  split <;> rfl
theorem zin {k : Nat} (h : k < 9) : ∀ w ∈ u_ws (zRn k) (zT k) (zN k), w ∈ zTs := by
  intro w hw
  refine zTs_in ?_ (zlay_good _ _ _ w hw)
  match k, h with
  | 0, _ => exact inX0 w hw
  | 1, _ => exact inX1 w hw
  | 2, _ => exact inX2 w hw
  | 3, _ => exact inX3 w hw
  | 4, _ => exact inX4 w hw
  | 5, _ => exact inX5 w hw
  | 6, _ => exact inX6 w hw
  | 7, _ => exact inX7 w hw
  | 8, _ => exact inX8 w hw
  | k + 9, h => exact absurd h (by omega)
theorem znm {k : Nat} (h : k < 9) : ∀ a, a < zN k → ∀ b, b < zN k → a ≠ b → (zT k a).2.1 ≠ (zT k b).2.1 := by
  match k, h with
  | 0, _ => exact nmX0
  | 1, _ => exact nmX1
  | 2, _ => exact nmX2
  | 3, _ => exact nmX3
  | 4, _ => exact nmX4
  | 5, _ => exact nmX5
  | 6, _ => exact nmX6
  | 7, _ => exact nmX7
  | 8, _ => exact nmX8
  | k + 9, h => exact absurd h (by omega)
theorem zty_ok {k : Nat} (h : k < 9) : ∀ j, j < zN k → parseFieldDescriptor (zT k j).2.2.1 = some (zty k j) := by
  match k, h with
  | 0, _ => exact tyX0_ok
  | 1, _ => exact tyX1_ok
  | 2, _ => exact tyX2_ok
  | 3, _ => exact tyX3_ok
  | 4, _ => exact tyX4_ok
  | 5, _ => exact tyX5_ok
  | 6, _ => exact tyX6_ok
  | 7, _ => exact tyX7_ok
  | 8, _ => exact tyX8_ok
  | k + 9, h => exact absurd h (by omega)
