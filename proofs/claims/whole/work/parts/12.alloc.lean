/-! new cells, by kind -/
theorem zdef {q : Nat} (hq : q < 9) : ∀ j, j < zN q → defaultValue (zty q j) = zv (zft q j) (fun _ => none) (fun _ => 0) j := by
  match q, hq with
  | 0, _ => exact fun j hj => match j, hj with
    | 0, _ => rfl
    | 1, _ => rfl
    | 2, _ => rfl
    | 3, _ => rfl
    | 4, _ => rfl
    | 5, _ => rfl
    | j + 6, h => absurd h (by show ¬ j + 6 < 6; omega)
  | 1, _ => exact fun j hj => match j, hj with
    | 0, _ => rfl
    | j + 1, h => absurd h (by show ¬ j + 1 < 1; omega)
  | 2, _ => exact fun j hj => match j, hj with
    | 0, _ => rfl
    | 1, _ => rfl
    | 2, _ => rfl
    | 3, _ => rfl
    | 4, _ => rfl
    | 5, _ => rfl
    | 6, _ => rfl
    | 7, _ => rfl
    | 8, _ => rfl
    | 9, _ => rfl
    | j + 10, h => absurd h (by show ¬ j + 10 < 10; omega)
  | 3, _ => exact fun j hj => match j, hj with
    | 0, _ => rfl
    | 1, _ => rfl
    | 2, _ => rfl
    | 3, _ => rfl
    | 4, _ => rfl
    | j + 5, h => absurd h (by show ¬ j + 5 < 5; omega)
  | 4, _ => exact fun j hj => match j, hj with
    | 0, _ => rfl
    | 1, _ => rfl
    | 2, _ => rfl
    | 3, _ => rfl
    | 4, _ => rfl
    | 5, _ => rfl
    | 6, _ => rfl
    | 7, _ => rfl
    | 8, _ => rfl
    | 9, _ => rfl
    | 10, _ => rfl
    | j + 11, h => absurd h (by show ¬ j + 11 < 11; omega)
  | 5, _ => exact fun j hj => match j, hj with
    | 0, _ => rfl
    | 1, _ => rfl
    | 2, _ => rfl
    | 3, _ => rfl
    | 4, _ => rfl
    | 5, _ => rfl
    | 6, _ => rfl
    | 7, _ => rfl
    | 8, _ => rfl
    | j + 9, h => absurd h (by show ¬ j + 9 < 9; omega)
  | 6, _ => exact fun j hj => match j, hj with
    | 0, _ => rfl
    | 1, _ => rfl
    | 2, _ => rfl
    | 3, _ => rfl
    | 4, _ => rfl
    | 5, _ => rfl
    | 6, _ => rfl
    | j + 7, h => absurd h (by show ¬ j + 7 < 7; omega)
  | 7, _ => exact fun j hj => match j, hj with
    | 0, _ => rfl
    | 1, _ => rfl
    | 2, _ => rfl
    | 3, _ => rfl
    | j + 4, h => absurd h (by show ¬ j + 4 < 4; omega)
  | 8, _ => exact fun j hj => match j, hj with
    | 0, _ => rfl
    | 1, _ => rfl
    | 2, _ => rfl
    | 3, _ => rfl
    | 4, _ => rfl
    | 5, _ => rfl
    | 6, _ => rfl
    | 7, _ => rfl
    | 8, _ => rfl
    | 9, _ => rfl
    | 10, _ => rfl
    | 11, _ => rfl
    | 12, _ => rfl
    | 13, _ => rfl
    | 14, _ => rfl
    | 15, _ => rfl
    | j + 16, h => absurd h (by show ¬ j + 16 < 16; omega)
  | q + 9, h => exact absurd h (by omega)
section ZW
variable {g : zG} {M : zM} {k n pc : Nat} {lv lv' : List (Nat × Value)} {st : List Value} {S : zSh} {im : zIm} {Z : zEnd}
theorem p_newI (G : zOK g) {N : Nat} {x : Int} (hx : nf x (N : Int)) (hN1 : N < 2147483648) (hb : N * componentBytes (newarray.typeOf .int) ≤ 536870912) (hc : k + 1 ≤ (zrm M).cells) (hs : n + N ≤ (zrm M).slots) (hd : decode (zcc M) pc = .ok (.newarray .int, 2))
    (kk : zPz g M (k + 1) (n + N) (pc + 2) lv (.ref (ztop S) :: st) (zpush S 9 N) (zsr im (ztop S) (fun _ => 0)) Z) : zPz g M k n pc lv (.int (zi x) :: st) S im Z :=
  p_newarray G (atype := .int) (ty := .int) (q := 9) (t0 := 0) rfl q_1_99 rfl (by decide) (fun _ => rfl) hx rfl hN1 hb rfl (fun _ => rfl) zc_0 hc hs hd kk
theorem p_newB (G : zOK g) {N : Nat} {x : Int} (hx : nf x (N : Int)) (hN1 : N < 2147483648) (hb : N * componentBytes (newarray.typeOf .byte) ≤ 536870912) (hc : k + 1 ≤ (zrm M).cells) (hs : n + N ≤ (zrm M).slots) (hd : decode (zcc M) pc = .ok (.newarray .byte, 2))
    (kk : zPz g M (k + 1) (n + N) (pc + 2) lv (.ref (ztop S) :: st) (zpush S 10 N) (zsr im (ztop S) (fun _ => 0)) Z) : zPz g M k n pc lv (.int (zi x) :: st) S im Z :=
  p_newarray G (atype := .byte) (ty := .byte) (q := 10) (t0 := 1) rfl q_2_53 rfl (by decide) (fun _ => rfl) hx rfl hN1 hb rfl (fun _ => rfl) (by show (-128 : Int) ≤ 0 ∧ (0 : Int) < 128; omega) hc hs hd kk
theorem p_newZ (G : zOK g) {N : Nat} {x : Int} (hx : nf x (N : Int)) (hN1 : N < 2147483648) (hb : N * componentBytes (newarray.typeOf .boolean) ≤ 536870912) (hc : k + 1 ≤ (zrm M).cells) (hs : n + N ≤ (zrm M).slots) (hd : decode (zcc M) pc = .ok (.newarray .boolean, 2))
    (kk : zPz g M (k + 1) (n + N) (pc + 2) lv (.ref (ztop S) :: st) (zpush S 11 N) (zsr im (ztop S) (fun _ => 0)) Z) : zPz g M k n pc lv (.int (zi x) :: st) S im Z :=
  p_newarray G (atype := .boolean) (ty := .boolean) (q := 11) (t0 := 2) rfl q_5_199 rfl (by decide) (fun _ => rfl) hx rfl hN1 hb rfl (fun _ => rfl) (Or.inl rfl) hc hs hd kk
theorem p_newL (G : zOK g) {N : Nat} {x : Int} (hx : nf x (N : Int)) (hN1 : N < 2147483648) (hb : N * componentBytes (newarray.typeOf .long) ≤ 536870912) (hc : k + 1 ≤ (zrm M).cells) (hs : n + N ≤ (zrm M).slots) (hd : decode (zcc M) pc = .ok (.newarray .long, 2))
    (kk : zPz g M (k + 1) (n + N) (pc + 2) lv (.ref (ztop S) :: st) (zpush S 12 N) (zsr im (ztop S) (fun _ => 0)) Z) : zPz g M k n pc lv (.int (zi x) :: st) S im Z :=
  p_newarray G (atype := .long) (ty := .long) (q := 12) (t0 := 3) rfl q_7_199 rfl (by decide) (fun _ => rfl) hx rfl hN1 hb rfl (fun _ => rfl) (zcl_of (by omega) (by omega)) hc hs hd kk
theorem p_genS (kk : ∀ S1, S1 = S → zPz g M k n pc lv st S1 im Z) : zPz g M k n pc lv st S im Z := kk S rfl
theorem p_anew (G : zOK g) {N : Nat} {x : Int} {idx : Nat} (h1 : Cond.classLink (zown M) idx "DepotNetwork$Network" ∈ lw_tbl) (h2 : Cond.arrayOver (.object "DepotNetwork$Network") ∈ lw_tbl) (hx : nf x (N : Int)) (hN1 : N < 134217728) (hc : k + 1 ≤ (zrm M).cells) (hs : n + N ≤ (zrm M).slots) (hd : decode (zcc M) pc = .ok (.anewarray idx, 3))
    (kk : zPz g M (k + 1) (n + N) (pc + 3) lv (.ref (ztop S) :: st) (zpush S 13 N) (zsr im (ztop S) (fun _ => 0)) Z) : zPz g M k n pc lv (.int (zi x) :: st) S im Z := by
  intro p e s m args below meth c H locs ls B R L V
  rw [hx.1]
  have hz : (zi (N : Int)).toNatClampNeg = N := by rw [zi_nat (by omega) (by omega)]; omega
  obtain ⟨⟨A, hA⟩, -⟩ := id G
  have hov : (Cond.arrayOver (.object "DepotNetwork$Network")).before args s = true := Cond.arrayOver_alike B.2.2.2.2.1.alike (hA _ h2)
  refine W.anew B.1 B.2.1 B.2.2.2.1 (B.ts G h1 rfl args) hov rfl hd rfl (by rw [← zi_0, zi_lt hx.2 zc_0]; omega) (by rw [hz]; omega) hc (by rw [hz]; exact hs) fun cA kA comp e1 e2 e3 e4 => ?_
  rw [hz]
  obtain ⟨kA9, comp9, r1, r2, r3, r4⟩ := ((B.kn G).2 4 _ rfl).2
  have hcA : cA = g.2.2.2 13 := Option.some.inj (e1.symm.trans r4)
  have hsz : H.size = ztop S := R.1
  rw [hsz]
  refine kk p e s m args below meth c _ locs ls B (R.push (by rw [Array.size_push]) (fun b hb => by rw [Array.getElem?_push, if_neg (Nat.ne_of_lt hb)]) (fun b hb => zsr_n hb) (fun _ => ?_)) L V
  rw [zsr_s]
  refine ⟨fun h => absurd h (by omega), fun _ => ⟨?_, by omega, fun j _ => trivial⟩⟩
  rw [← hsz, Array.getElem?_push, if_pos rfl, hcA]
  congr 1
  exact arrV_new _ _ _
end ZW
