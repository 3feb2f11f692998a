/-! calls within the nest, constructors, new cells -/
theorem zMet {g : zG} {y : MethodName} {M : zM} {av : List Value} {S : zSh} {im : zIm} {Q : Option Value → zSh → zIm → Prop} (h : zC g y M av S im Q zX0) : Met g.1 y [.code y (zcc M) (znL M) (zret M)] (zrm M) (zPc g av S im) (zQc g Q) (zrm M).cells (zrm M).slots (zF g) := by
  intro p e ha hc hk s m args below hf happ hP ht
  obtain ⟨t, o, h1, h2, h3, h4⟩ := h p e ha hc hk s m args below hf happ hP ht
  refine ⟨t, o, h1, h2, h3, ?_⟩
  rcases h4 with h5 | ⟨q, e1, E, ce, L, ⟨S', im', e2, e3⟩, h5⟩
  · exact h5
  · exact absurd e2 id
theorem zcan_0 (t : Nat) : zcan t 0 := by
  unfold zcan
  split
  · exact zc_of (by omega) (by omega)
  · exact zcl_of (by omega) (by omega)
  · omega
  · exact Or.inl rfl
  · trivial
section ZN
variable {g : zG} {M : zM} {k n pc : Nat} {lv lv' : List (Nat × Value)} {st : List Value} {S : zSh} {im : zIm} {Z : zEnd} {Q : Option Value → zSh → zIm → Prop} {X : String → zSh → zIm → Prop}
theorem p_ranM {rest : List Value} {mc ms : Nat} {Q' : Option Value → zSh → zIm → Prop} {av : Array Value} {st0 : List Value}
    (kk : ∀ v S' im', Q' v S' im' → zPz g M (k + mc) (n + ms) (pc + 3) lv (v.toList ++ rest) S' im' Z)
    {p : Program} {e : Env} {s : State} {m : MethodId} {args : Array Value} {below : List Frame} {meth : Method} {c : Code} {H : Heap} {locs : List Loc} {ls : Array Slot}
    (B : zB g M p s m meth c) (L : ∀ z ∈ locs, zbs g ≤ z.base) (V : lv_has ls (znL M) lv)
    (hr : va_Run p g.1 e (zrm M) s m args below meth c H locs k n mc ms (F0 m pc ls st0) rest (zQc g Q' av) (zF g)) : W p g.1 e (zrm M) s m args below meth c H locs k n (Z below args s) (F0 m pc ls st0) := by
  intro T hT X9
  have hL9 : ∀ L9 : List Loc, (∀ q ∈ L9, zF g q.base) → ∀ z ∈ locs ++ L9, zbs g ≤ z.base := fun L9 h z hz => (List.mem_append.mp hz).elim (L z) (h z)
  obtain ⟨v, st₀, t, T', L9, h0, X', hL, e1, e2, ⟨v', S', im', hv, hq, hR⟩, go⟩ := hr T hT X9
  cases hv
  obtain ⟨t2, a1, b1⟩ := kk v S' im' hq p e s m args below meth c T'.heap (locs ++ L9) ls B (by rw [e1]; exact hR) (hL9 L9 hL) V T' rfl X'
  exact ⟨t2, go t2 a1, b1⟩
theorem zB.nw {g : zG} {M : zM} {p : Program} {s : State} {m : MethodId} {meth : Method} {c : Code} (G : zOK g) (B : zB g M p s m meth c) {own host : String} {idx : Nat} {y : MethodName} (h : Cond.methodLinkNest own idx y host ∈ lw_tbl) : va_Nw (.methodLinkNest own idx y host) s := by
  obtain ⟨⟨A, hA⟩, -⟩ := G
  exact va_Nw.warmM B.2.2.2.2.1 (va_Nw.of rfl (hA _ h))
def zKSN (own : String) (idx : Nat) (host : String) (y : MethodName) (M' : zM) (np : Nat) : Prop :=
  Cond.methodLinkNest own idx y host ∈ lw_tbl ∧ Cond.static y ∈ lw_tbl ∧ Cond.initialized y.cls ∈ lw_tbl ∧ Cond.code y (zcc M') (znL M') (zret M') ∈ lw_tbl ∧
  (y.cls ≠ "java/lang/invoke/MethodHandle" ∧ y.cls ≠ "java/lang/invoke/VarHandle") ∧ (parseMethodDescriptor y.desc).map (fun d => d.parameters.length) = some np
theorem p_SN (G : zOK g) {idx np : Nat} {host : String} {y : MethodName} {M' : zM} {As rest : List Value} {Q' : Option Value → zSh → zIm → Prop} (hK : zKSN (zown M) idx host y M' np) (hn : As.length = np) (hst : st = As.reverse ++ rest) (hrs : (rest.map fun v => v.category).sum ≤ 8)
    (hR : (zrm M').frames + 1 ≤ (zrm M).frames ∧ 8 + (znL M' + 11) + (zrm M').locals ≤ (zrm M).locals) (hc : k + (zrm M').cells ≤ (zrm M).cells ∧ n + (zrm M').slots ≤ (zrm M).slots) (hd : decode (zcc M) pc = .ok (.invokestatic idx, 3))
    (hM : zC g y M' As S im Q' zX0) (kk : ∀ v S' im', Q' v S' im' → zPz g M (k + (zrm M').cells) (n + (zrm M').slots) (pc + 3) lv (v.toList ++ rest) S' im' Z) : zPz g M k n pc lv st S im Z := by
  intro p e s m args below meth c H locs ls B R L V
  obtain ⟨h1, h2, h4, h5, h6, h7⟩ := hK
  exact p_ranM kk B L V (va_runSN (Ts := []) ⟨B.1, B.2.1, B.2.2.1, B.2.2.2.1, fun _ h => nomatch h⟩ (zMet hM) ⟨⟨⟨rfl, rfl, hR.1, hR.2, zcode G B h5 rfl, List.mem_singleton.mpr rfl⟩, B.ts G h5 rfl args, B.ts G h4 rfl args, h6, znp h7, va_Nw.use rfl (B.nw G h1)⟩, B.ts G h2 rfl args, trivial⟩ ⟨zPc_blind g _ S im, fun U hU hW => ⟨rfl, State.WarmedH.trans B.2.2.2.2.1 hW, by rw [hU]; exact R⟩⟩ rfl hn V.1 hst (zroom hrs) hd hc)
theorem p_I (G : zOK g) {idx np a : Nat} {y : MethodName} {M' : zM} {As rest : List Value} {Q' : Option Value → zSh → zIm → Prop} (hK : zKI (zown M) idx y M' np) (hn : As.length = np) (hst : st = As.reverse ++ .ref a :: rest) (hrs : (rest.map fun v => v.category).sum ≤ 8)
    (hR : (zrm M').frames + 1 ≤ (zrm M).frames ∧ 8 + (znL M' + 11) + (zrm M').locals ≤ (zrm M).locals) (hc : k + (zrm M').cells ≤ (zrm M).cells ∧ n + (zrm M').slots ≤ (zrm M).slots) (hd : decode (zcc M) pc = .ok (.invokespecial idx, 3))
    (hM : zC g y M' (.ref a :: As) S im Q' zX0) (kk : ∀ v S' im', Q' v S' im' → zPz g M (k + (zrm M').cells) (n + (zrm M').slots) (pc + 3) lv (v.toList ++ rest) S' im' Z) : zPz g M k n pc lv st S im Z := by
  intro p e s m args below meth c H locs ls B R L V
  obtain ⟨h1, h2, h4, h5, h6, h7, h8, h9⟩ := hK
  have hM' := zMet hM
  rw [h9] at hM'
  exact p_ranM kk B L V (va_runI (Ts := []) ⟨B.1, B.2.1, B.2.2.1, B.2.2.2.1, fun _ h => nomatch h⟩ hM' ⟨⟨rfl, rfl, hR.1, hR.2, zcode G B h5 rfl, List.mem_singleton.mpr rfl, B.ts G h5 rfl args, B.ts G h4 rfl args, h6, znp h7, B.ts G h1 rfl args⟩, h8, B.ts G h2 rfl args⟩ ⟨zPc_blind g _ S im, fun U hU hW => ⟨rfl, State.WarmedH.trans B.2.2.2.2.1 hW, by rw [hU]; exact R⟩⟩ rfl hn V.1 hst (zroom hrs) hd hc)
def zKIN (own : String) (idx : Nat) (host : String) (y : MethodName) (M' : zM) (np : Nat) : Prop :=
  Cond.methodLinkNest own idx y host ∈ lw_tbl ∧ Cond.instanceMethod y ∈ lw_tbl ∧ Cond.initialized y.cls ∈ lw_tbl ∧ Cond.code y (zcc M') (znL M') none ∈ lw_tbl ∧
  (y.cls ≠ "java/lang/invoke/MethodHandle" ∧ y.cls ≠ "java/lang/invoke/VarHandle") ∧ (parseMethodDescriptor y.desc).map (fun d => d.parameters.length) = some np ∧ y.name = "<init>" ∧ zret M' = none
theorem p_IN (G : zOK g) {idx np a : Nat} {host : String} {y : MethodName} {M' : zM} {As rest : List Value} {Q' : Option Value → zSh → zIm → Prop} (hK : zKIN (zown M) idx host y M' np) (hn : As.length = np) (hst : st = As.reverse ++ .ref a :: rest) (hrs : (rest.map fun v => v.category).sum ≤ 8)
    (hR : (zrm M').frames + 1 ≤ (zrm M).frames ∧ 8 + (znL M' + 11) + (zrm M').locals ≤ (zrm M).locals) (hc : k + (zrm M').cells ≤ (zrm M).cells ∧ n + (zrm M').slots ≤ (zrm M).slots) (hd : decode (zcc M) pc = .ok (.invokespecial idx, 3))
    (hM : zC g y M' (.ref a :: As) S im Q' zX0) (kk : ∀ v S' im', Q' v S' im' → zPz g M (k + (zrm M').cells) (n + (zrm M').slots) (pc + 3) lv (v.toList ++ rest) S' im' Z) : zPz g M k n pc lv st S im Z := by
  intro p e s m args below meth c H locs ls B R L V
  obtain ⟨h1, h2, h4, h5, h6, h7, h8, h9⟩ := hK
  have hM' := zMet hM
  rw [h9] at hM'
  exact p_ranM kk B L V (va_runIN (Ts := []) ⟨B.1, B.2.1, B.2.2.1, B.2.2.2.1, fun _ h => nomatch h⟩ hM' ⟨⟨⟨rfl, rfl, hR.1, hR.2, zcode G B h5 rfl, List.mem_singleton.mpr rfl⟩, B.ts G h5 rfl args, B.ts G h4 rfl args, h6, znp h7, va_Nw.use rfl (B.nw G h1)⟩, h8, B.ts G h2 rfl args⟩ ⟨zPc_blind g _ S im, fun U hU hW => ⟨rfl, State.WarmedH.trans B.2.2.2.2.1 hW, by rw [hU]; exact R⟩⟩ rfl hn V.1 hst (zroom hrs) hd hc)
theorem p_objInit (G : zOK g) {idx a : Nat} (h1 : Cond.methodLink (zown M) idx Lib.objectInit ∈ lw_tbl) (h2 : Cond.instanceMethod Lib.objectInit ∈ lw_tbl) (h3 : Cond.code Lib.objectInit ⟨#[0xb1]⟩ 1 none ∈ lw_tbl) (hf : 1 ≤ (zrm M).frames) (hl : (st.map fun v => v.category).sum + 12 ≤ (zrm M).locals) (hd : decode (zcc M) pc = .ok (.invokespecial idx, 3))
    (kk : zPz g M k n (pc + 3) lv st S im Z) : zPz g M k n pc lv (.ref a :: st) S im Z := by
  intro p e s m args below meth c H locs ls B R L V
  refine W.objInit B.1 B.2.1 B.2.2.2.1 (B.ts G h1 rfl args) (B.ts G h2 rfl args) (B.ts G h3 rfl args) rfl (by rw [B.2.2.1]; exact V.1) rfl hd hf ?_ (kk p e s m args below meth c H locs ls B R L V)
  show 2 * 0 + _ + 12 ≤ _
  omega
/-- new cells -/
theorem p_new (G : zOK g) {idx q : Nat} (hq : q < 9) (h1 : Cond.classLink (zown M) idx (zRn q) ∈ lw_tbl) (h2 : Cond.instantiable (zRn q) (zN q) ∈ lw_tbl) (h3 : Cond.initialized (zRn q) ∈ lw_tbl) (hc : k + 1 ≤ (zrm M).cells) (hs : n + zN q ≤ (zrm M).slots) (hd : decode (zcc M) pc = .ok (.new idx, 3))
    (hdv : ∀ j, j < zN q → defaultValue (zty q j) = zv (zft q j) (fun _ => none) (fun _ => 0) j)
    (kk : zPz g M (k + 1) (n + zN q) (pc + 3) lv (.ref (ztop S) :: st) (zpush S q 0) (zsr im (ztop S) (fun _ => 0)) Z) : zPz g M k n pc lv st S im Z := by
  intro p e s m args below meth c H locs ls B R L V
  have hKn := (B.kn G).1 q _ (zvw hq)
  refine W.newcK B.1 B.2.1 B.2.2.2.1 (B.ts G h1 rfl args) (B.ts G h2 rfl args) (B.ts G h3 rfl args) rfl hd hc hs hKn.2.1 R.1 fun H1 kC hkC e1 z1 o1 => ?_
  refine kk p e s m args below meth c H1 locs ls B (R.push (by rw [z1, R.1]) (fun b hb => o1 b (by rw [← R.1]; exact hb)) (fun b hb => zsr_n hb) (fun _ => ?_)) L V
  rw [zsr_s]
  refine ⟨fun _ => ⟨?_, fun j hj => ?_⟩, fun h => absurd h (by omega)⟩
  · exact (u_born (zty q) (B.tss G args) (zin hq) hKn hkC e1 (zty_ok hq)).to hdv
  · exact zcan_0 _
theorem p_newarray (G : zOK g) {atype : ArrayType} {ty : FieldType} {q t0 N : Nat} {x x' : Int} (hty : newarray.typeOf atype = ty) (h1 : Cond.arrayClass (newarray.typeOf atype) ∈ lw_tbl) (ht : (ztys g)[t0]? = some (g.2.2.2 q, ty)) (hq : 9 ≤ q) (hra : ∀ cA, va_RA g.2.1 cA ty = (g.2.1.vm.findClass ("[" ++ ty.toString) = some cA)) (hx : nf x x') (hN : x' = N) (hN1 : N < 2147483648) (hb : N * componentBytes (newarray.typeOf atype) ≤ 536870912)
    (hdv : defaultValue ty = zv (zat q) (fun _ => none) (fun _ => 0) 0) (hdv2 : ∀ j, zv (zat q) (fun _ => none) (fun _ => 0) j = zv (zat q) (fun _ => none) (fun _ => 0) 0) (hcan : zcan (zat q) 0) (hc : k + 1 ≤ (zrm M).cells) (hs : n + N ≤ (zrm M).slots) (hd : decode (zcc M) pc = .ok (.newarray atype, 2))
    (kk : zPz g M (k + 1) (n + N) (pc + 2) lv (.ref (ztop S) :: st) (zpush S q N) (zsr im (ztop S) (fun _ => 0)) Z) : zPz g M k n pc lv (.int (zi x) :: st) S im Z := by
  intro p e s m args below meth c H locs ls B R L V
  rw [hx.1]
  refine va_newaK B.1 B.2.1 (B.ts G h1 rfl args) rfl hd rfl (n := zi x') (N := N) (by rw [← zi_0, zi_lt hx.2 zc_0]; omega) (by rw [zi_nat (by omega) (by omega)]; omega) hb hc hs R.1 fun H1 cA e1 z1 o1 hAr hNm => ?_
  subst hty
  have hcA : cA = g.2.2.2 q := by
    have h9 := ((B.kn G).2 t0 _ ht).2
    have h10 := (G.2.1.2 t0 _ ht).2
    rw [hra] at h10
    have h11 : s.vm.findClass ("[" ++ (newarray.typeOf atype).toString) = some (g.2.2.2 q) := by rw [B.2.2.2.2.1.alike.findClass]; exact h10
    exact Option.some.inj (hNm.symm.trans h11)
  refine kk p e s m args below meth c H1 locs ls B (R.push (by rw [z1, R.1]) (fun b hb => o1 b (by rw [← R.1]; exact hb)) (fun b hb => zsr_n hb) (fun _ => ?_)) L V
  rw [zsr_s]
  refine ⟨fun h => absurd h (by omega), fun _ => ⟨?_, hN1, fun j _ => hcan⟩⟩
  rw [e1, hcA, hdv]
  congr 2
end ZN
