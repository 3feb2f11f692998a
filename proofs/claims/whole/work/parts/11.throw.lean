section ZT0
variable {p : Program} {l : Launch} {e : Env} {R : Room} {s : State} {m : MethodId} {args : Array Value} {below : List Frame} {meth : Method} {c : Code} {H : Heap} {locs : List Loc} {cells slots : Nat} {Q : State → Prop}
variable {mc ms : Nat} {free : Addr → Prop} {A0 A1 : Nat → Prop} {H0 : Heap} {a : Array Value} {ls : Array Slot} {st0 rest : List Value}
variable {Qc : Array Value → State → Outcome → State → Prop} {XC : String → State → State → Prop}
theorem zx_throwS {cc : ByteArray} {pc : Nat} (hexec : p.tables.exec = Jvm.exec) (hb : c.code = cc) (hl : l.stackTraces = false) {own cls text : String} {names : List String} {ik is ic mc ms sa : Nat} {A : Nat → Prop}
    (hown : s.vm.findClass own = some m.cls) (hcls : Bundle.fit cls = true) (hnames : ∀ n ∈ names, Bundle.fit n = true)
    (hk : (Cond.classLink own ik cls).before args s = true) (hini : (Cond.initialized cls).before args s = true) (hstr : vk_R own is text sa s) (hat : ∀ w ∈ vx_atS own ic cls names, w.before args s = true)
    (hgood : ∀ w ∈ Cond.classLink own ik cls :: Cond.initialized cls :: vx_atS own ic cls names, vx_ot w = true)
    (hU : vx_Zq Bundle.tN "UNASSIGNED_STACK" Bundle.steD A s H) (hN : vx_Zq Bundle.tN "SUPPRESSED_SENTINEL" Bundle.listD A s H) (hsize : ls.size = c.maxLocals)
    (d0 : decode cc pc = .ok (.new ik, 3)) (d3 : decode cc (pc + 3) = .ok (.dup, 1)) (d4 : decode cc (pc + 4) = .ok (.ldc is, 2)) (d6 : decode cc (pc + 6) = .ok (.invokespecial ic, 3)) (d9 : decode cc (pc + 9) = .ok (.athrow, 1))
    (hout : ∀ x ∈ c.exceptionTable.toList, covers x (pc + 9) = false)
    (hRframes : names.length + 3 < R.frames) (hRlocals : (rest.map fun v => v.category).sum + (13 * (names.length + 1) + 43) ≤ R.locals) (hRcells : cells + 1 ≤ R.cells) (hRslots : slots + 6 ≤ R.slots) (hlocks : meth.locks = false)
    (hx : ∀ t : State, s.vm.Alike t.vm → t.heap.size = H.size + 1 → (∀ q : Nat, q < H.size → t.heap[q]? = H[q]?) → XC cls s t)
    (hf : ∀ z ∈ locs, free z.base) (hc : cells + 1 ≤ mc) (hs : slots + 6 ≤ ms) :
    W p l e R s m args below meth c H locs cells slots (vx_MQ below Qc XC args s mc ms free) (F0 m pc ls rest) := by
  intro T hT X
  have htr : e.platform.stackTraces = false := (show e.platform.stackTraces = l.stackTraces by rw [X.admits.platform]).trans hl
  have Y := vx_rebase X (R' := { frames := R.frames, locals := R.locals, cells := 1, slots := 6 }) (Nat.le_refl _) (Nat.le_refl _) hRcells hRslots
  obtain ⟨s', hA⟩ : ∃ z, z = (T.setVm s.vm).setFrames (.invoking m args :: below) := ⟨_, rfl⟩
  rw [← hA] at Y
  have hvm : s'.vm = s.vm := by rw [hA]; rfl
  have hhp : s'.heap = H := by rw [hA]; exact hT
  have hW0 : s.WarmedH s'.vm := by rw [hvm]; exact State.WarmedH.refl s
  have hat' : ∀ w ∈ vx_atS own ic cls names, w.before args s' = true := fun w hw => vx_ot_at hW0 hvm.symm (hgood w (List.mem_cons_of_mem _ (List.mem_cons_of_mem _ hw))) (hat w hw)
  have hk' : (Cond.classLink own ik cls).before args s' = true := vx_ot_at hW0 hvm.symm (hgood _ List.mem_cons_self) hk
  have hini' : (Cond.initialized cls).before args s' = true := vx_ot_at hW0 hvm.symm (hgood _ (List.mem_cons_of_mem _ List.mem_cons_self)) hini
  have hU' : vx_Zq Bundle.tN "UNASSIGNED_STACK" Bundle.steD A s' s'.heap := by rw [hhp]; exact vx_Zq.moved hW0.alike hU
  have hN' : vx_Zq Bundle.tN "SUPPRESSED_SENTINEL" Bundle.listD A s' s'.heap := by rw [hhp]; exact vx_Zq.moved hW0.alike hN
  have h : ∀ w ∈ Bundle.ownAtoms own ic cls names, w.before args s' = true := vx_own hat' (vx_isRefq hU'.1) (vx_isRefq hN'.1) hU'.2.word hN'.2.word
  have hown' : s'.vm.findClass own = some m.cls := by rw [hvm]; exact hown
  have hins : (Cond.instantiable cls 6).before args s' = true := h _ (by simp [Bundle.ownAtoms])
  obtain ⟨vm₁, cX, kX, hfX, hkX, -, -, X₁, st1⟩ := Y.newCold hexec (own := own) (C := cls) (index := ik) (n := 6) hown' hk' hins hini'
    (g := F0 m pc ls rest) rfl (by rw [hb]; exact d0) (Nat.le_refl _) (Nat.le_refl _)
  generalize hT1 : (T.setVm vm₁).pushCell { cls := cX, slots := kX.instanceTypes.map defaultValue, vm := .none } = T1 at X₁ st1
  have hcat : (Value.ref T.heap.size).category = 1 := rfl
  have hcellA : T1.heap[T.heap.size]? = some (freshCell cX kX) := by rw [← hT1]; exact State.heap_pushCell_size _ _
  have d3' : decode c.code (pc + 3) = .ok (.dup, 1) := by rw [hb]; exact d3
  have d4' : decode c.code (pc + 4) = .ok (.ldc is, 2) := by rw [hb]; exact d4
  have hstr' : vk_R own is text sa s' := vk_R.warm hW0 hstr
  obtain ⟨U, hsteps, hrun, hend, hW, hsame, ce, hce, hO⟩ := X₁.ctorThrowS hexec htr (own := own) (cls := cls) (names := names) (ic := ic) hown' hcls hnames h (fun x hx => nomatch hx) hfX hkX hcellA (by rw [hhp, hT]; exact Nat.le_refl _) (msg := .ref sa) rfl
    (g := { method := m, pc := pc + 6, locals := ls, stack := .ref sa :: .ref T.heap.size :: .ref T.heap.size :: rest, locked := none }) rfl hsize rfl rfl (rest := rest) rfl
    (by rw [hb]; exact d6) (by rw [hb]; exact d9) hout hRframes (by simp only [List.map_cons, List.sum_cons, hcat]; omega) hlocks
  obtain ⟨f1, f2⟩ := vx_frame hsame
  rw [hhp] at f1 f2
  have f0 : U.heap.size = H.size + 1 := by
    have g3 : U.heap.size ≤ s'.heap.size + (0 + 1) := hsame.2.2.1
    have g4 : T.heap.size < U.heap.size := (Array.getElem?_eq_some_iff.mp hce).1
    rw [hhp] at g3
    rw [hT] at g4
    omega
  have hWs : s.WarmedH U.vm := State.WarmedH.trans hW0 hW
  have hcl : s.vm.findClass cls = some ce.cls := by
    have h9 := hO.cls
    rw [hvm] at h9
    exact h9
  have hall : s.sameButNew ({ U with vm := s.vm } : State) locs mc ms := by
    subst hA
    obtain ⟨e1, e2⟩ := hsame
    rw [State.setFrames_setFrames] at e1
    have h2 : (T.setVm s.vm).sameButNew ({ U with vm := s.vm } : State) [] (0 + 1) (0 + 6) := ⟨e1, e2⟩
    have h3 := X.same.trans h2
    rw [List.append_nil] at h3
    exact h3.mono hc hs
  refine ⟨U, ?_, .threw T.heap.size, hrun, hend, Or.inr ⟨T.heap.size, rfl, cls, ce, locs, hx U hWs.alike f0 (fun q hq => f2 q hq (fun z hz => nomatch hz)), hce, hO.vm, hcl, hWs, hall, hf⟩⟩
  refine st1 _ ?_
  show Steps p.tables e below (T1.setTop { method := m, pc := pc + 3, locals := ls, stack := .ref T.heap.size :: rest, locked := none }) _
  jvm_step X₁.here [X₁.here.top, hexec, d3', Value.category]
  exact X₁.ldcString hexec (own := own) (text := text) (index := is) (a := sa) hown' hstr'.1 hstr'.2
    (g := { method := m, pc := pc + 4, locals := ls, stack := .ref T.heap.size :: .ref T.heap.size :: rest, locked := none }) rfl d4' _ hsteps
theorem zx_throwSW {cc : ByteArray} {pc : Nat} (hexec : p.tables.exec = Jvm.exec) (hb : c.code = cc) (hl : l.stackTraces = false) {own cls text : String} {names : List String} {ik is ic mc ms sa : Nat} {A : Nat → Prop}
    (hown : s.vm.findClass own = some m.cls) (hcls : Bundle.fit cls = true) (hnames : ∀ n ∈ names, Bundle.fit n = true)
    (hk : (Cond.classLink own ik cls).before args s = true) (hini : (Cond.initialized cls).before args s = true) (hstr : vk_R own is text sa s) (hat : ∀ w ∈ vx_atS own ic cls names, w.before args s = true)
    (hgood : ∀ w ∈ Cond.classLink own ik cls :: Cond.initialized cls :: vx_atS own ic cls names, vx_ot w = true)
    (hU : vx_Zq Bundle.tN "UNASSIGNED_STACK" Bundle.steD A s H) (hN : vx_Zq Bundle.tN "SUPPRESSED_SENTINEL" Bundle.listD A s H) (hsize : ls.size = c.maxLocals)
    (d0 : decode cc pc = .ok (.new ik, 3)) (d3 : decode cc (pc + 3) = .ok (.dup, 1)) (d4 : decode cc (pc + 4) = .ok (.ldc_w is, 3)) (d7 : decode cc (pc + 7) = .ok (.invokespecial ic, 3)) (d10 : decode cc (pc + 10) = .ok (.athrow, 1))
    (hout : ∀ x ∈ c.exceptionTable.toList, covers x (pc + 10) = false)
    (hRframes : names.length + 3 < R.frames) (hRlocals : (rest.map fun v => v.category).sum + (13 * (names.length + 1) + 43) ≤ R.locals) (hRcells : cells + 1 ≤ R.cells) (hRslots : slots + 6 ≤ R.slots) (hlocks : meth.locks = false)
    (hx : ∀ t : State, s.vm.Alike t.vm → t.heap.size = H.size + 1 → (∀ q : Nat, q < H.size → t.heap[q]? = H[q]?) → XC cls s t)
    (hf : ∀ z ∈ locs, free z.base) (hc : cells + 1 ≤ mc) (hs : slots + 6 ≤ ms) :
    W p l e R s m args below meth c H locs cells slots (vx_MQ below Qc XC args s mc ms free) (F0 m pc ls rest) := by
  intro T hT X
  have htr : e.platform.stackTraces = false := (show e.platform.stackTraces = l.stackTraces by rw [X.admits.platform]).trans hl
  have Y := vx_rebase X (R' := { frames := R.frames, locals := R.locals, cells := 1, slots := 6 }) (Nat.le_refl _) (Nat.le_refl _) hRcells hRslots
  obtain ⟨s', hA⟩ : ∃ z, z = (T.setVm s.vm).setFrames (.invoking m args :: below) := ⟨_, rfl⟩
  rw [← hA] at Y
  have hvm : s'.vm = s.vm := by rw [hA]; rfl
  have hhp : s'.heap = H := by rw [hA]; exact hT
  have hW0 : s.WarmedH s'.vm := by rw [hvm]; exact State.WarmedH.refl s
  have hat' : ∀ w ∈ vx_atS own ic cls names, w.before args s' = true := fun w hw => vx_ot_at hW0 hvm.symm (hgood w (List.mem_cons_of_mem _ (List.mem_cons_of_mem _ hw))) (hat w hw)
  have hk' : (Cond.classLink own ik cls).before args s' = true := vx_ot_at hW0 hvm.symm (hgood _ List.mem_cons_self) hk
  have hini' : (Cond.initialized cls).before args s' = true := vx_ot_at hW0 hvm.symm (hgood _ (List.mem_cons_of_mem _ List.mem_cons_self)) hini
  have hU' : vx_Zq Bundle.tN "UNASSIGNED_STACK" Bundle.steD A s' s'.heap := by rw [hhp]; exact vx_Zq.moved hW0.alike hU
  have hN' : vx_Zq Bundle.tN "SUPPRESSED_SENTINEL" Bundle.listD A s' s'.heap := by rw [hhp]; exact vx_Zq.moved hW0.alike hN
  have h : ∀ w ∈ Bundle.ownAtoms own ic cls names, w.before args s' = true := vx_own hat' (vx_isRefq hU'.1) (vx_isRefq hN'.1) hU'.2.word hN'.2.word
  have hown' : s'.vm.findClass own = some m.cls := by rw [hvm]; exact hown
  have hins : (Cond.instantiable cls 6).before args s' = true := h _ (by simp [Bundle.ownAtoms])
  obtain ⟨vm₁, cX, kX, hfX, hkX, -, -, X₁, st1⟩ := Y.newCold hexec (own := own) (C := cls) (index := ik) (n := 6) hown' hk' hins hini'
    (g := F0 m pc ls rest) rfl (by rw [hb]; exact d0) (Nat.le_refl _) (Nat.le_refl _)
  generalize hT1 : (T.setVm vm₁).pushCell { cls := cX, slots := kX.instanceTypes.map defaultValue, vm := .none } = T1 at X₁ st1
  have hcat : (Value.ref T.heap.size).category = 1 := rfl
  have hcellA : T1.heap[T.heap.size]? = some (freshCell cX kX) := by rw [← hT1]; exact State.heap_pushCell_size _ _
  have d3' : decode c.code (pc + 3) = .ok (.dup, 1) := by rw [hb]; exact d3
  have d4' : decode c.code (pc + 4) = .ok (.ldc_w is, 3) := by rw [hb]; exact d4
  have hstr' : vk_R own is text sa s' := vk_R.warm hW0 hstr
  obtain ⟨U, hsteps, hrun, hend, hW, hsame, ce, hce, hO⟩ := X₁.ctorThrowS hexec htr (own := own) (cls := cls) (names := names) (ic := ic) hown' hcls hnames h (fun x hx => nomatch hx) hfX hkX hcellA (by rw [hhp, hT]; exact Nat.le_refl _) (msg := .ref sa) rfl
    (g := { method := m, pc := pc + 7, locals := ls, stack := .ref sa :: .ref T.heap.size :: .ref T.heap.size :: rest, locked := none }) rfl hsize rfl rfl (rest := rest) rfl
    (by rw [hb]; exact d7) (by rw [hb]; exact d10) hout hRframes (by simp only [List.map_cons, List.sum_cons, hcat]; omega) hlocks
  obtain ⟨f1, f2⟩ := vx_frame hsame
  rw [hhp] at f1 f2
  have f0 : U.heap.size = H.size + 1 := by
    have g3 : U.heap.size ≤ s'.heap.size + (0 + 1) := hsame.2.2.1
    have g4 : T.heap.size < U.heap.size := (Array.getElem?_eq_some_iff.mp hce).1
    rw [hhp] at g3
    rw [hT] at g4
    omega
  have hWs : s.WarmedH U.vm := State.WarmedH.trans hW0 hW
  have hcl : s.vm.findClass cls = some ce.cls := by
    have h9 := hO.cls
    rw [hvm] at h9
    exact h9
  have hall : s.sameButNew ({ U with vm := s.vm } : State) locs mc ms := by
    subst hA
    obtain ⟨e1, e2⟩ := hsame
    rw [State.setFrames_setFrames] at e1
    have h2 : (T.setVm s.vm).sameButNew ({ U with vm := s.vm } : State) [] (0 + 1) (0 + 6) := ⟨e1, e2⟩
    have h3 := X.same.trans h2
    rw [List.append_nil] at h3
    exact h3.mono hc hs
  refine ⟨U, ?_, .threw T.heap.size, hrun, hend, Or.inr ⟨T.heap.size, rfl, cls, ce, locs, hx U hWs.alike f0 (fun q hq => f2 q hq (fun z hz => nomatch hz)), hce, hO.vm, hcl, hWs, hall, hf⟩⟩
  refine st1 _ ?_
  show Steps p.tables e below (T1.setTop { method := m, pc := pc + 3, locals := ls, stack := .ref T.heap.size :: rest, locked := none }) _
  jvm_step X₁.here [X₁.here.top, hexec, d3', Value.category]
  exact X₁.ldcStringW hexec (own := own) (text := text) (index := is) (a := sa) hown' hstr'.1 hstr'.2
    (g := { method := m, pc := pc + 4, locals := ls, stack := .ref T.heap.size :: .ref T.heap.size :: rest, locked := none }) rfl d4' _ hsteps
end ZT0
def zNms : List String := ["java/lang/RuntimeException", "java/lang/Exception"]
def zg2 (w : Cond) : Bool := goodWord w || (match w with | .castable .. => true | .declares _ => true | _ => false)
theorem zB.ts2 {g : zG} {M : zM} {p : Program} {s : State} {m : MethodId} {meth : Method} {c : Code} (G : zOK g) (B : zB g M p s m meth c) {w : Cond} (h : w ∈ lw_tbl) (hg : zg2 w = true) (a : Array Value) : w.before a s = true := by
  by_cases h1 : goodWord w = true
  · exact B.ts G h h1 a
  · have hz : zg2 w = true := hg
    obtain ⟨⟨A, hA⟩, -⟩ := G
    cases w <;> first | (exact va_Nw.use rfl (va_Nw.warmC B.2.2.2.2.1 (va_Nw.of rfl (hA _ h)))) | (exact va_Nw.use rfl (va_Nw.warmD B.2.2.2.2.1 (va_Nw.of rfl (hA _ h)))) | (exact absurd hz (by simp [zg2, h1]))
def zTw (own cls : String) (ik ic : Nat) : Prop := Cond.classLink own ik cls ∈ lw_tbl ∧ Cond.initialized cls ∈ lw_tbl ∧ (∀ w ∈ vx_atS own ic cls zNms, w ∈ lw_tbl ∧ zg2 w = true) ∧
  (∀ w ∈ Cond.classLink own ik cls :: Cond.initialized cls :: vx_atS own ic cls zNms, vx_ot w = true) ∧ Bundle.fit cls = true
theorem zNms_fit : ∀ n ∈ zNms, Bundle.fit n = true := by decide +kernel
section ZT
variable {g : zG} {M : zM} {k n pc : Nat} {lv lv' : List (Nat × Value)} {st : List Value} {S : zSh} {im : zIm} {Z : zEnd} {Q : Option Value → zSh → zIm → Prop} {X : String → zSh → zIm → Prop}
theorem zS_of {g : zG} {S : zSh} {im : zIm} {H : Heap} {M : zM} {p : Program} {s : State} {m : MethodId} {meth : Method} {c : Code} (R : zRel g S im H) {C n d : String} (B : zB g M p s m meth c) (h : vx_Zq C n d (fun q => zbs g ≤ q) g.2.1 g.2.1.heap) : vx_Zq C n d (fun q => zbs g ≤ q) s H := vx_Zq.moved B.2.2.2.2.1.alike (h.kept (fun a _ hn => R.2.2.1 a (Nat.not_le.mp hn)))

theorem p_throwS (G : zOK g) {cls text : String} {ik is ic : Nat} (hT : zTw (zown M) cls ik ic) (hs9 : Cond.stringRef (zown M) is text ∈ lw_tbl) (htb : ztb M = some []) (hf : 5 < (zrm M).frames) (hl : (st.map fun v => v.category).sum + 82 ≤ (zrm M).locals) (hc : k + 1 ≤ (zrm M).cells) (hs : n + 6 ≤ (zrm M).slots)
    (d0 : decode (zcc M) pc = .ok (.new ik, 3)) (d3 : decode (zcc M) (pc + 3) = .ok (.dup, 1)) (d4 : decode (zcc M) (pc + 4) = .ok (.ldc is, 2)) (d6 : decode (zcc M) (pc + 6) = .ok (.invokespecial ic, 3)) (d9 : decode (zcc M) (pc + 9) = .ok (.athrow, 1))
    (hx : X cls (zpush S 14 0) im) : zPz g M k n pc lv st S im (zZ g M Q X) := by
  intro p e s m args below meth c H locs ls B R L V
  obtain ⟨sa, hsa⟩ := G.2.2.2.2.2.1 _ _ _ hs9
  refine W.widen (k := k) (n := n) (Nat.le_refl _) (Nat.le_refl _) (zx_throwS B.1 B.2.1 G.2.2.1 (names := zNms) (A := fun q => zbs g ≤ q) B.2.2.2.1 hT.2.2.2.2 zNms_fit (B.ts G hT.1 rfl args) (B.ts G hT.2.1 rfl args) (vk_R.warm B.2.2.2.2.1 hsa) (fun w hw => B.ts2 G (hT.2.2.1 w hw).1 (hT.2.2.1 w hw).2 args) hT.2.2.2.1 (zS_of R B G.2.2.2.1) (zS_of R B G.2.2.2.2.1) (by rw [B.2.2.1]; exact V.1) d0 d3 d4 d6 d9 (fun x hx9 => by rw [B.2.2.2.2.2.2.2.1 _ htb] at hx9; exact absurd hx9 (by simp [tableOf])) (by show 2 + 3 < _; exact hf) (by show _ + (13 * (2 + 1) + 43) ≤ _; exact hl) hc hs B.2.2.2.2.2.2.1 (fun t ht hz ho => ⟨zpush S 14 0, im, hx, R.push hz ho (fun _ _ => rfl) (fun h => absurd h (by omega))⟩) L hc hs)
theorem p_throwSW (G : zOK g) {cls text : String} {ik is ic : Nat} (hT : zTw (zown M) cls ik ic) (hs9 : Cond.stringRef (zown M) is text ∈ lw_tbl) (htb : ztb M = some []) (hf : 5 < (zrm M).frames) (hl : (st.map fun v => v.category).sum + 82 ≤ (zrm M).locals) (hc : k + 1 ≤ (zrm M).cells) (hs : n + 6 ≤ (zrm M).slots)
    (d0 : decode (zcc M) pc = .ok (.new ik, 3)) (d3 : decode (zcc M) (pc + 3) = .ok (.dup, 1)) (d4 : decode (zcc M) (pc + 4) = .ok (.ldc_w is, 3)) (d6 : decode (zcc M) (pc + 7) = .ok (.invokespecial ic, 3)) (d9 : decode (zcc M) (pc + 10) = .ok (.athrow, 1))
    (hx : X cls (zpush S 14 0) im) : zPz g M k n pc lv st S im (zZ g M Q X) := by
  intro p e s m args below meth c H locs ls B R L V
  obtain ⟨sa, hsa⟩ := G.2.2.2.2.2.1 _ _ _ hs9
  refine W.widen (k := k) (n := n) (Nat.le_refl _) (Nat.le_refl _) (zx_throwSW B.1 B.2.1 G.2.2.1 (names := zNms) (A := fun q => zbs g ≤ q) B.2.2.2.1 hT.2.2.2.2 zNms_fit (B.ts G hT.1 rfl args) (B.ts G hT.2.1 rfl args) (vk_R.warm B.2.2.2.2.1 hsa) (fun w hw => B.ts2 G (hT.2.2.1 w hw).1 (hT.2.2.1 w hw).2 args) hT.2.2.2.1 (zS_of R B G.2.2.2.1) (zS_of R B G.2.2.2.2.1) (by rw [B.2.2.1]; exact V.1) d0 d3 d4 d6 d9 (fun x hx9 => by rw [B.2.2.2.2.2.2.2.1 _ htb] at hx9; exact absurd hx9 (by simp [tableOf])) (by show 2 + 3 < _; exact hf) (by show _ + (13 * (2 + 1) + 43) ≤ _; exact hl) hc hs B.2.2.2.2.2.2.1 (fun t ht hz ho => ⟨zpush S 14 0, im, hx, R.push hz ho (fun _ _ => rfl) (fun h => absurd h (by omega))⟩) L hc hs)
end ZT
theorem tw_ISE : zTw RX7 "java/lang/IllegalStateException" 44 48 := ⟨by decide +kernel, by decide +kernel, by decide +kernel, by decide +kernel, by decide +kernel⟩
theorem tw_IAE : zTw RX7 "java/lang/IllegalArgumentException" 68 72 := ⟨by decide +kernel, by decide +kernel, by decide +kernel, by decide +kernel, by decide +kernel⟩
theorem tw_IOB : zTw RX7 "java/lang/IndexOutOfBoundsException" 261 265 := ⟨by decide +kernel, by decide +kernel, by decide +kernel, by decide +kernel, by decide +kernel⟩
