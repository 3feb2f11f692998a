/-! handlers, and calls of methods that have some -/
def zQW (Q : Int → zSh → zIm → Prop) : Option Value → zSh → zIm → Prop := fun v S im => ∃ r : Int, v = some (.int (zi r)) ∧ zc r ∧ Q r S im
section ZK
variable {g : zG} {M : zM} {k n pc : Nat} {lv lv' : List (Nat × Value)} {st : List Value} {S : zSh} {im : zIm} {Z : zEnd} {Q : Option Value → zSh → zIm → Prop} {X : String → zSh → zIm → Prop}
theorem p_iretW {Q : Int → zSh → zIm → Prop} {x x' : Int} (hk : k ≤ (zrm M).cells) (hn : n ≤ (zrm M).slots) (hr : zret M = some .int) (hx : nf x x') (hd : decode (zcc M) pc = .ok (.ireturn, 1)) (hq : Q x' S im) : zPz g M k n pc lv [.int (zi x)] S im (zZ g M (zQW Q) X) := p_ireturn hk hn hr hx hd ⟨x', rfl, hx.2, hq⟩
theorem p_catch (G : zOK g) {E : String} {pre suf : List (Nat × Nat × Nat × Nat)} {x : Nat × Nat × Nat × Nat} (htb : ztb M = some (pre ++ x :: suf)) (hpass : ∀ z ∈ pre, z.2.2.2 ≠ 0 ∧ ∃ nm : String, Cond.classLink (zown M) z.2.2.2 nm ∈ lw_tbl ∧ va_Nc E nm g.2.1)
    (hcov : covers ⟨x.1, x.2.1, x.2.2.1, x.2.2.2⟩ pc = true) (h0 : x.2.2.2 ≠ 0) (hl : Cond.classLink (zown M) x.2.2.2 E ∈ lw_tbl) (hc : Cond.castable E E ∈ lw_tbl) (kk : ∀ q : Nat, zPz g M k n x.2.2.1 lv [.ref q] S im Z) : zXz g M k n pc lv st S im E Z := by
  intro p e s m args below meth c H locs ls q ce B R L V h1 h2 h3
  have ht := B.2.2.2.2.2.2.2.1 _ htb
  refine vx_catch (E := E) (name := E) B.2.2.2.1 (tableOf pre) ⟨x.1, x.2.1, x.2.2.1, x.2.2.2⟩ (tableOf suf) (by rw [ht]; simp [tableOf]) (fun z hz => ?_) hcov h0 (B.ts G hl rfl args) (B.ts2 G hc rfl args) h1 h2 h3 (kk q p e s m args below meth c H locs ls B R L V)
  obtain ⟨w, hw, rfl⟩ := List.mem_map.mp hz
  obtain ⟨z0, nm, z1, z2⟩ := hpass w hw
  exact Or.inr ⟨z0, nm, B.ts G z1 rfl args, va_Nc.moved B.2.2.2.2.1.alike z2⟩
def zKW (own : String) (idx : Nat) (y : MethodName) (M' : zM) (hh : List (Nat × Nat × Nat × Nat)) (np : Nat) : Prop :=
  Cond.methodLink own idx y ∈ lw_tbl ∧ Cond.static y ∈ lw_tbl ∧ Cond.initialized y.cls ∈ lw_tbl ∧ Cond.codeWith y (zcc M') (znL M') (zret M') hh ∈ lw_tbl ∧
  (y.cls ≠ "java/lang/invoke/MethodHandle" ∧ y.cls ≠ "java/lang/invoke/VarHandle") ∧ (parseMethodDescriptor y.desc).map (fun d => d.parameters.length) = some np
theorem p_SW (G : zOK g) {idx np : Nat} {y : MethodName} {M' : zM} {hh : List (Nat × Nat × Nat × Nat)} {As rest : List Value} {Q' : Int → zSh → zIm → Prop} (hK : zKW (zown M) idx y M' hh np) (hn : As.length = np) (hst : st = As.reverse ++ rest) (hrs : (rest.map fun v => v.category).sum ≤ 8)
    (hR : (zrm M').frames + 1 ≤ (zrm M).frames ∧ 8 + (znL M' + 11) + (zrm M').locals ≤ (zrm M).locals) (hc : k + (zrm M').cells ≤ (zrm M).cells ∧ n + (zrm M').slots ≤ (zrm M).slots) (hd : decode (zcc M) pc = .ok (.invokestatic idx, 3))
    (hM : zCW g y M' hh As S im (zQW Q') zX0) (kk : ∀ r S' im', zc r → Q' r S' im' → zPz g M (k + (zrm M').cells) (n + (zrm M').slots) (pc + 3) lv (.int (zi r) :: rest) S' im' Z) : zPz g M k n pc lv st S im Z := by
  intro p e s m args below meth c H locs ls B R L V
  obtain ⟨h1, h2, h4, h5, h6, h7⟩ := hK
  exact p_ran (Q' := zQW Q') (X' := zX0) (fun v S' im' ⟨r, h1, h2, h4⟩ => by subst h1; exact kk r S' im' h2 h4) (fun _ _ _ h => absurd h id) B L V (vx_runSX (hh := hh) (Ts := []) ⟨B.1, B.2.1, B.2.2.1, B.2.2.2.1, fun _ h => nomatch h⟩ hM ⟨⟨rfl, rfl, hR.1, hR.2, zcode G B h5 rfl, List.mem_singleton.mpr rfl⟩, B.ts G h5 rfl args, B.ts G h4 rfl args, h6, znp h7, B.ts G h1 rfl args, B.ts G h2 rfl args⟩ ⟨zPc_blind g _ S im, fun U hU hW => ⟨rfl, State.WarmedH.trans B.2.2.2.2.1 hW, by rw [hU]; exact R⟩⟩ rfl hn V.1 hst (zroom hrs) hd hc)
/-- the law's own script, which was there before -/
theorem p_sld {b L : Nat} {xs : Nat → Int32} {i i' : Int} (hX : va_X b L xs g.2.1 g.2.1.heap) (hb : b < zbs g) (hL : L < 2147483648) (hi : nf i i') (h0 : 0 ≤ i') (h1 : i' < L) (hd : decode (zcc M) pc = .ok (.iaload, 1)) (kk : zPz g M k n (pc + 1) lv (.int (zi (xs i'.toNat).toInt) :: st) S im Z) : zPz g M k n pc lv (.int (zi i) :: .ref b :: st) S im Z := by
  intro p e s m args below meth c H locs ls B R L9 V
  obtain ⟨scr, q1, q2, q3, q4, q5⟩ := hX
  rw [hi.1]
  have hz := zi_nat h0 (by omega)
  refine W.iald (v := .int (xs i'.toNat)) B.1 B.2.1 (by rw [R.2.2.1 b hb]; exact q1) (State.isArrayOf_alike B.2.2.2.2.1.alike q2) q3 (by rw [q4]; exact zi_in h0 h1 hL) (by rw [hz, q5 _ (by omega)]) rfl rfl hd ?_
  have := kk p e s m args below meth c H locs ls B R L9 V
  rw [zi_of] at this
  exact this
theorem p_slenA {b L : Nat} {xs : Nat → Int32} (hX : va_X b L xs g.2.1 g.2.1.heap) (hb : b < zbs g) (hL : L < 2147483648) (hd : decode (zcc M) pc = .ok (.arraylength, 1)) (kk : zPz g M k n (pc + 1) lv (.int (zi L) :: st) S im Z) : zPz g M k n pc lv (.ref b :: st) S im Z := by
  intro p e s m args below meth c H locs ls B R L9 V
  obtain ⟨scr, q1, q2, q3, q4, q5⟩ := hX
  exact W.alen (n := zi L) B.1 B.2.1 (by rw [R.2.2.1 b hb]; exact q1) (State.isArrayOf_alike B.2.2.2.2.1.alike q2) (by rw [q4]; apply Int32.toInt_inj.mp; rw [zi_toInt, zw_of (by omega) (by omega)]; exact Int32.toInt_ofNat_of_lt (by omega)) rfl rfl hd (kk p e s m args below meth c H locs ls B R L9 V)
/-- a reference put into an array of Networks; a new array of them -/
theorem p_aast (G : zOK g) {a b : Nat} {i i' : Int} (hk : zkd S a = 13) (hb : zkd S b = 2) (hi : nf i i') (h0 : 0 ≤ i') (h1 : i' < zln S a) (hd : decode (zcc M) pc = .ok (.aastore, 1)) (kk : zPz g M k n (pc + 1) lv st (zsf S a i'.toNat (some b)) im Z) : zPz g M k n pc lv (.ref b :: .int (zi i) :: .ref a :: st) S im Z := by
  intro p e s m args below meth c H locs ls B R L V
  obtain ⟨hba, hc, hlt, hcan⟩ := zrow R hk (by omega) (by omega)
  obtain ⟨cellB, hcB, hoB, hclB⟩ := zcell_at G B R hb (by omega)
  obtain ⟨kA, comp, r1, r2, r3, r4⟩ := ((B.kn G).2 4 _ rfl).2
  obtain ⟨k9, hk9, -⟩ := Vm.findClass_spec r3
  have hcb2 : cellB.cls = comp := Option.some.inj (hclB.symm.trans r3)
  have hz := zi_nat h0 (by omega)
  rw [hi.1]
  refine W.aast B.1 B.2.1 hc (fun q h => by cases h) (fun h => by cases h) r1 r2 rfl hk9 ⟨by rw [← zi_0, zi_lt hi.2 zc_0]; omega, by rw [arrV_size, hz]; omega⟩ hcB (fun q h => by rw [h] at hoB; cases hoB) (by rw [hcb2]; exact hk9) (by rw [hcb2]; exact va_asg _ _) rfl rfl hd fun H' e1 e2 e3 => ?_
  refine kk p e s m args below meth c H' _ ls B (R.at e2 e3 (by rw [hk]; omega) rfl rfl rfl (fun b hb => zsf_o hb) (fun _ _ => rfl) ?_) (zloc L hba) V
  rw [hk]
  refine ⟨fun h => absurd h (by omega), fun _ => ⟨?_, hlt, fun _ _ => trivial⟩⟩
  rw [e1, hz]
  rw [zstore (f' := fun j => zv 2 (zrf (zsf S a i'.toNat (some b)) a) (im a) j) (by omega)]
  · rfl
  · show va_rf (zrf (zsf S a i'.toNat (some b)) a i'.toNat) = _
    rw [zsf_s]; rfl
  · intro j hj
    show va_rf (zrf (zsf S a i'.toNat (some b)) a j) = va_rf (zrf S a j)
    rw [zsf_p hj]
end ZK
