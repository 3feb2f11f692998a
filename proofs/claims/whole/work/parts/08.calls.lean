/-! ends and contracts -/
def zQc (g : zG) (Q : Option Value → zSh → zIm → Prop) : Array Value → State → Outcome → State → Prop := fun _ _ o t => ∃ (v : Option Value) (S : zSh) (im : zIm), o = .returned v ∧ Q v S im ∧ zRel g S im t.heap
def zXC (g : zG) (X : String → zSh → zIm → Prop) : String → State → State → Prop := fun E _ t => ∃ (S : zSh) (im : zIm), X E S im ∧ zRel g S im t.heap
def zF (g : zG) : Addr → Prop := fun q => zbs g ≤ q
def zPc (g : zG) (av : List Value) (S : zSh) (im : zIm) : Array Value → State → Prop := fun v U => v = av.toArray ∧ g.2.1.WarmedH U.vm ∧ zRel g S im U.heap
def zZ (g : zG) (M : zM) (Q : Option Value → zSh → zIm → Prop) (X : String → zSh → zIm → Prop) : zEnd := fun below args s => vx_MQ below (zQc g Q) (zXC g X) args s (zrm M).cells (zrm M).slots (zF g)
/-- the contract of a method: from memory (S, im) with the arguments av it returns with Q, or throws with X -/
def zC (g : zG) (y : MethodName) (M : zM) (av : List Value) (S : zSh) (im : zIm) (Q : Option Value → zSh → zIm → Prop) (X : String → zSh → zIm → Prop) : Prop :=
  vx_Met g.1 y [.code y (zcc M) (znL M) (zret M)] (zrm M) (zPc g av S im) (zQc g Q) (zXC g X) (zrm M).cells (zrm M).slots (zF g)
/-- .. of one with handlers -/
def zCW (g : zG) (y : MethodName) (M : zM) (hh : List (Nat × Nat × Nat × Nat)) (av : List Value) (S : zSh) (im : zIm) (Q : Option Value → zSh → zIm → Prop) (X : String → zSh → zIm → Prop) : Prop :=
  vx_Met g.1 y [.codeWith y (zcc M) (znL M) (zret M) hh] (zrm M) (zPc g av S im) (zQc g Q) (zXC g X) (zrm M).cells (zrm M).slots (zF g)
theorem zPc_blind (g : zG) (av : List Value) (S : zSh) (im : zIm) : FrameBlind (zPc g av S im) := fun _ _ _ _ h => h
def zX0 : String → zSh → zIm → Prop := fun _ _ _ => False
/-- shape unchanged, an int answered -/
def zQI (S : zSh) (Q : Int → zIm → Prop) : Option Value → zSh → zIm → Prop := fun v S' im' => ∃ r : Int, v = some (.int (zi r)) ∧ zc r ∧ S' = S ∧ Q r im'
def zQV (S : zSh) (Q : zIm → Prop) : Option Value → zSh → zIm → Prop := fun v S' im' => v = none ∧ S' = S ∧ Q im'
theorem zC.mono {g : zG} {y : MethodName} {M : zM} {av : List Value} {S : zSh} {im : zIm} {Q Q' : Option Value → zSh → zIm → Prop} {X X' : String → zSh → zIm → Prop} (h : zC g y M av S im Q X) (hq : ∀ v S' im', Q v S' im' → Q' v S' im') (hx : ∀ E S' im', X E S' im' → X' E S' im') : zC g y M av S im Q' X' := by
  intro p e ha hc hk s m args below hf happ hP ht
  obtain ⟨t, o, h1, h2, h3, h4⟩ := h p e ha hc hk s m args below hf happ hP ht
  refine ⟨t, o, h1, h2, h3, ?_⟩
  rcases h4 with ⟨⟨v, S', im', e1, e2, e3⟩, h5⟩ | ⟨q, e1, E, ce, L, ⟨S', im', e2, e3⟩, h5⟩
  · exact Or.inl ⟨⟨v, S', im', e1, hq _ _ _ e2, e3⟩, h5⟩
  · exact Or.inr ⟨q, e1, E, ce, L, ⟨S', im', hx _ _ _ e2, e3⟩, h5⟩
section ZC
variable {g : zG} {M : zM} {k n pc : Nat} {lv lv' : List (Nat × Value)} {st : List Value} {S : zSh} {im : zIm} {Z : zEnd} {Q : Option Value → zSh → zIm → Prop} {X : String → zSh → zIm → Prop}
theorem zC_of {y : MethodName} {av : List Value} (hy : plainName y.cls = true) (htb : ztb M = some []) (hmn : y.name = zmn M) (hown : y.cls = zown M) (hlv : lv_args 0 av = lv) (hlen : (lg_sl av).length ≤ znL M)
    (kk : zPz g M 0 0 0 lv [] S im (zZ g M Q X)) : zC g y M av S im Q X := by
  refine vx_ofW (cc := zcc M) (maxL := znL M) (ret := zret M) hy rfl ?_
  intro p e s m args below meth c s₁ B hml htab hv
  obtain ⟨rfl, hW, hR⟩ := hv
  have hl := lv_entry av (n := znL M) hlen
  rw [hlv] at hl
  rw [lg_entry_eq]
  refine kk p e s m _ below meth c s.heap [] _ ⟨B.exec, B.bytes, hml, ?_, hW, B.returns, B.notSynchronized, fun hh h => ?_, fun h => ?_⟩ hR (fun z h => nomatch h) hl
  · rw [← hown]; exact findClass_of_methodNamed B.named
  · rw [htb] at h
    cases h
    exact List.eq_nil_iff_forall_not_mem.mpr htab
  · rw [(name_of_methodNamed B.named B.method).1, hmn, h]
theorem zCW_of {y : MethodName} {av : List Value} {hh : List (Nat × Nat × Nat × Nat)} (hy : plainName y.cls = true) (htb : ztb M = some hh) (hmn : y.name = zmn M) (hown : y.cls = zown M) (hlv : lv_args 0 av = lv) (hlen : (lg_sl av).length ≤ znL M)
    (kk : zPz g M 0 0 0 lv [] S im (zZ g M Q X)) : zCW g y M hh av S im Q X := by
  refine vx_ofWH (cc := zcc M) (maxL := znL M) (ret := zret M) (hh := hh) hy rfl ?_
  intro p e s m args below meth c s₁ B hml hv
  obtain ⟨rfl, hW, hR⟩ := hv
  have hl := lv_entry av (n := znL M) hlen
  rw [hlv] at hl
  rw [lg_entry_eq]
  refine kk p e s m _ below meth c s.heap [] _ ⟨B.exec, B.bytes, hml, ?_, hW, B.returns, B.notSynchronized, fun hh' h => ?_, fun h => ?_⟩ hR (fun z h => nomatch h) hl
  · rw [← hown]; exact findClass_of_methodNamed B.named
  · rw [htb] at h
    cases h
    exact vx_table (x := y) B (atoms_spec (ws := [.codeWith y (zcc M) (znL M) (zret M) hh]) B.pre _ List.mem_cons_self)
  · rw [(name_of_methodNamed B.named B.method).1, hmn, h]
/-- returns -/
theorem p_ireturn {x x' : Int} (hk : k ≤ (zrm M).cells) (hn : n ≤ (zrm M).slots) (hr : zret M = some .int) (hx : nf x x') (hd : decode (zcc M) pc = .ok (.ireturn, 1)) (hq : Q (some (.int (zi x'))) S im) : zPz g M k n pc lv [.int (zi x)] S im (zZ g M Q X) := by
  intro p e s m args below meth c H locs ls B R L V
  rw [hx.1]
  exact W.widen hk hn (vx_ret (W.iret B.1 B.2.1 (B.2.2.2.2.2.1.trans hr) (fun t ht hW => ⟨_, S, im, rfl, hq, by rw [ht]; exact R⟩) L hd (hlocks := B.2.2.2.2.2.2.1)))
theorem p_zreturn {x x' : Int} (hk : k ≤ (zrm M).cells) (hn : n ≤ (zrm M).slots) (hr : zret M = some .boolean) (hx : nf x x') (h01 : x' = 0 ∨ x' = 1) (hd : decode (zcc M) pc = .ok (.ireturn, 1)) (hq : Q (some (.int (zi x'))) S im) : zPz g M k n pc lv [.int (zi x)] S im (zZ g M Q X) := by
  intro p e s m args below meth c H locs ls B R L V
  rw [hx.1]
  refine W.widen hk hn (vx_ret (W.zret B.1 B.2.1 (B.2.2.2.2.2.1.trans hr) ?_ (fun t ht hW => ⟨_, S, im, rfl, hq, by rw [ht]; exact R⟩) L hd (hlocks := B.2.2.2.2.2.2.1)))
  rcases h01 with h | h <;> (rw [h]; rfl)
theorem p_return (hk : k ≤ (zrm M).cells) (hn : n ≤ (zrm M).slots) (hr : zret M = none) (hd : decode (zcc M) pc = .ok (.return_, 1)) (hq : Q none S im) : zPz g M k n pc lv [] S im (zZ g M Q X) := by
  intro p e s m args below meth c H locs ls B R L V
  exact W.widen hk hn (vx_ret (W.vret B.1 B.2.1 (B.2.2.2.2.2.1.trans hr) (fun t ht hW => ⟨_, S, im, rfl, hq, by rw [ht]; exact R⟩) L hd (hlocks := B.2.2.2.2.2.2.1)))
/-- a call has run: where it returns, where it throws -/
theorem p_ran {rest : List Value} {mc ms : Nat} {Q' : Option Value → zSh → zIm → Prop} {X' : String → zSh → zIm → Prop} {av : Array Value} {st0 : List Value}
    (kk : ∀ v S' im', Q' v S' im' → zPz g M (k + mc) (n + ms) (pc + 3) lv (v.toList ++ rest) S' im' Z) (kx : ∀ E S' im', X' E S' im' → zXz g M (k + mc) (n + ms) pc lv rest S' im' E Z)
    {p : Program} {e : Env} {s : State} {m : MethodId} {args : Array Value} {below : List Frame} {meth : Method} {c : Code} {H : Heap} {locs : List Loc} {ls : Array Slot}
    (B : zB g M p s m meth c) (L : ∀ z ∈ locs, zbs g ≤ z.base) (V : lv_has ls (znL M) lv)
    (hr : vx_Run p g.1 e (zrm M) s m args below meth c H locs k n mc ms (F0 m pc ls st0) rest (zQc g Q' av) (zXC g X') (zF g)) : W p g.1 e (zrm M) s m args below meth c H locs k n (Z below args s) (F0 m pc ls st0) := by
  intro T hT X9
  have hL9 : ∀ L9 : List Loc, (∀ q ∈ L9, zF g q.base) → ∀ z ∈ locs ++ L9, zbs g ≤ z.base := fun L9 h z hz => (List.mem_append.mp hz).elim (L z) (h z)
  rcases hr T hT X9 with ⟨v, st₀, t, T', L9, h0, X', hL, e1, e2, ⟨v', S', im', hv, hq, hR⟩, go⟩ | ⟨q, st₀, t, T', L9, E, ce, h0, X', hL, e1, e2, ⟨S', im', hq, hR⟩, hce, hcv, hcl, go⟩
  · cases hv
    obtain ⟨t2, a1, b1⟩ := kk v S' im' hq p e s m args below meth c T'.heap (locs ++ L9) ls B (by rw [e1]; exact hR) (hL9 L9 hL) V T' rfl X'
    exact ⟨t2, go t2 a1, b1⟩
  · obtain ⟨t2, a1, b1⟩ := kx E S' im' hq p e s m args below meth c T'.heap (locs ++ L9) ls q ce B (by rw [e1]; exact hR) (hL9 L9 hL) V (by rw [e1]; exact hce) hcv hcl T' rfl X'
    exact ⟨t2, go.trans a1, b1⟩
theorem zcell_at {g : zG} {S : zSh} {im : zIm} {H : Heap} {M : zM} {p : Program} {s : State} {m : MethodId} {meth : Method} {c : Code} (G : zOK g) (B : zB g M p s m meth c) (R : zRel g S im H) {a q : Nat} (hk : zkd S a = q) (hq : q < 9) : ∃ cell : Cell, H[a]? = some cell ∧ cell.vm.isStatics = false ∧ s.vm.findClass (zRn q) = some cell.cls := by
  have hc := (R.2.2.2 a (by rw [hk]; omega)).2.2
  rw [hk] at hc
  obtain ⟨⟨cell, q1, q2, q3, q4⟩, -⟩ := hc.1 hq
  exact ⟨cell, q1, by rw [q3]; rfl, by rw [q2]; exact ((B.kn G).1 q _ (zvw hq)).2.1⟩
/-- a call's words: entry idx of the pool of own is the method y with the code M' -/
def zKV (own : String) (idx q : Nat) (y : MethodName) (M' : zM) (np : Nat) : Prop :=
  Cond.methodLink own idx y ∈ lw_tbl ∧ Cond.instanceMethod y ∈ lw_tbl ∧ Cond.selects (zRn q) y y ∈ lw_tbl ∧ Cond.initialized y.cls ∈ lw_tbl ∧ Cond.code y (zcc M') (znL M') (zret M') ∈ lw_tbl ∧
  (y.cls ≠ "java/lang/invoke/MethodHandle" ∧ y.cls ≠ "java/lang/invoke/VarHandle") ∧ (parseMethodDescriptor y.desc).map (fun d => d.parameters.length) = some np
def zKS (own : String) (idx : Nat) (y : MethodName) (M' : zM) (np : Nat) : Prop :=
  Cond.methodLink own idx y ∈ lw_tbl ∧ Cond.static y ∈ lw_tbl ∧ Cond.initialized y.cls ∈ lw_tbl ∧ Cond.code y (zcc M') (znL M') (zret M') ∈ lw_tbl ∧
  (y.cls ≠ "java/lang/invoke/MethodHandle" ∧ y.cls ≠ "java/lang/invoke/VarHandle") ∧ (parseMethodDescriptor y.desc).map (fun d => d.parameters.length) = some np
def zKI (own : String) (idx : Nat) (y : MethodName) (M' : zM) (np : Nat) : Prop :=
  Cond.methodLink own idx y ∈ lw_tbl ∧ Cond.instanceMethod y ∈ lw_tbl ∧ Cond.initialized y.cls ∈ lw_tbl ∧ Cond.code y (zcc M') (znL M') none ∈ lw_tbl ∧
  (y.cls ≠ "java/lang/invoke/MethodHandle" ∧ y.cls ≠ "java/lang/invoke/VarHandle") ∧ (parseMethodDescriptor y.desc).map (fun d => d.parameters.length) = some np ∧ y.name = "<init>" ∧ zret M' = none
theorem zcode {g : zG} (G : zOK g) {M : zM} {p : Program} {s : State} {m : MethodId} {meth : Method} {c : Code} (B : zB g M p s m meth c) {w : Cond} (h : w ∈ lw_tbl) (hg : goodWord w = true) : ∀ w' ∈ [w], ∀ (a' : Array Value) (U : State), s.WarmedH U.vm → w'.before a' U = true := by
  intro w' hw a' U hW
  rw [List.mem_singleton.mp hw]
  exact word_at hW (good_of_word hg) (B.ts G h hg #[])
theorem znp {y : MethodName} {np : Nat} (h : (parseMethodDescriptor y.desc).map (fun d => d.parameters.length) = some np) : ∀ sig, parseMethodDescriptor y.desc = some sig → np = sig.parameters.length := by
  intro sig h1
  rw [h1] at h
  exact (Option.some.inj h).symm
theorem zroom {m : MethodId} {pc : Nat} {ls : Array Slot} {st0 rest : List Value} (h : (rest.map fun v => v.category).sum ≤ 8) : 2 * (F0 m pc ls st0).monitorRoom + (rest.map fun v => v.category).sum ≤ 8 := lv_room h
theorem p_V (G : zOK g) {idx q np a : Nat} {y : MethodName} {M' : zM} {As rest : List Value} {Q' : Option Value → zSh → zIm → Prop} {X' : String → zSh → zIm → Prop} (hK : zKV (zown M) idx q y M' np) (hq : q < 9) (hk : zkd S a = q) (hn : As.length = np) (hst : st = As.reverse ++ .ref a :: rest) (hrs : (rest.map fun v => v.category).sum ≤ 8)
    (hR : (zrm M').frames + 1 ≤ (zrm M).frames ∧ 8 + (znL M' + 11) + (zrm M').locals ≤ (zrm M).locals) (hc : k + (zrm M').cells ≤ (zrm M).cells ∧ n + (zrm M').slots ≤ (zrm M).slots) (hd : decode (zcc M) pc = .ok (.invokevirtual idx, 3))
    (hM : zC g y M' (.ref a :: As) S im Q' X') (kk : ∀ v S' im', Q' v S' im' → zPz g M (k + (zrm M').cells) (n + (zrm M').slots) (pc + 3) lv (v.toList ++ rest) S' im' Z) (kx : ∀ E S' im', X' E S' im' → zXz g M (k + (zrm M').cells) (n + (zrm M').slots) pc lv rest S' im' E Z) : zPz g M k n pc lv st S im Z := by
  intro p e s m args below meth c H locs ls B R L V
  obtain ⟨h1, h2, h3, h4, h5, h6, h7⟩ := hK
  exact p_ran kk kx B L V (vx_runV (Ts := []) ⟨B.1, B.2.1, B.2.2.1, B.2.2.2.1, fun _ h => nomatch h⟩ hM ⟨⟨rfl, rfl, hR.1, hR.2, zcode G B h5 rfl, List.mem_singleton.mpr rfl, B.ts G h5 rfl args, B.ts G h4 rfl args, h6, znp h7, B.ts G h1 rfl args⟩, B.ts G h2 rfl args, B.ts G h3 rfl args⟩ ⟨zPc_blind g _ S im, zcell_at G B R hk hq, fun U hU hW => ⟨rfl, State.WarmedH.trans B.2.2.2.2.1 hW, by rw [hU]; exact R⟩⟩ rfl hn V.1 hst (zroom hrs) hd hc)
theorem p_S (G : zOK g) {idx np : Nat} {y : MethodName} {M' : zM} {As rest : List Value} {Q' : Option Value → zSh → zIm → Prop} {X' : String → zSh → zIm → Prop} (hK : zKS (zown M) idx y M' np) (hn : As.length = np) (hst : st = As.reverse ++ rest) (hrs : (rest.map fun v => v.category).sum ≤ 8)
    (hR : (zrm M').frames + 1 ≤ (zrm M).frames ∧ 8 + (znL M' + 11) + (zrm M').locals ≤ (zrm M).locals) (hc : k + (zrm M').cells ≤ (zrm M).cells ∧ n + (zrm M').slots ≤ (zrm M).slots) (hd : decode (zcc M) pc = .ok (.invokestatic idx, 3))
    (hM : zC g y M' As S im Q' X') (kk : ∀ v S' im', Q' v S' im' → zPz g M (k + (zrm M').cells) (n + (zrm M').slots) (pc + 3) lv (v.toList ++ rest) S' im' Z) (kx : ∀ E S' im', X' E S' im' → zXz g M (k + (zrm M').cells) (n + (zrm M').slots) pc lv rest S' im' E Z) : zPz g M k n pc lv st S im Z := by
  intro p e s m args below meth c H locs ls B R L V
  obtain ⟨h1, h2, h4, h5, h6, h7⟩ := hK
  exact p_ran kk kx B L V (vx_runS (Ts := []) ⟨B.1, B.2.1, B.2.2.1, B.2.2.2.1, fun _ h => nomatch h⟩ hM ⟨⟨rfl, rfl, hR.1, hR.2, zcode G B h5 rfl, List.mem_singleton.mpr rfl, B.ts G h5 rfl args, B.ts G h4 rfl args, h6, znp h7, B.ts G h1 rfl args⟩, B.ts G h2 rfl args⟩ ⟨zPc_blind g _ S im, fun U hU hW => ⟨rfl, State.WarmedH.trans B.2.2.2.2.1 hW, by rw [hU]; exact R⟩⟩ rfl hn V.1 hst (zroom hrs) hd hc)
end ZC
