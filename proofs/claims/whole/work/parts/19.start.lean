/-! THE CLAIM OUT OF ONE WALK OF THE LAW'S BODY. Your part is whole_start (and what it stands on); all else here is the same for every law, but numbers. -/
def R_law : String := "DepotNetworkLaw"
def lw_P (b : Addr) (xs : List Int32) (args : Array Value) (s : State) : Prop := args = #[.ref b] ∧ s.IntsAt b xs ∧ xs.length ≤ 2048 ∧ (Jvm.Cond.and given_1 narrow_1).before args s = true
def lw_Q (_ : Array Value) (s : State) (o : Outcome) (t : State) : Prop := o = .returned (some (.int 1)) ∧ Framed s o t [] 601024 7293034
def lw_Z (below : List Frame) (a : Array Value) (s : State) : State → Prop := fun t => ∃ o, t.status = .running ∧ Ended t below o ∧ lw_Q a s o t
/-- the law's own end, with 1 on the stack, nothing written that was there before, its room as the claim has it -/
theorem lw_ret {p : Program} {l : Launch} {e : Env} {s : State} {m : MethodId} {below : List Frame} {meth : Method} {c : Code} {b : Nat} (hx : p.tables.exec = Jvm.exec) (hb : c.code = code) (hr : meth.sig.returnType = ret) (hlocks : meth.locks = false) {pc : Nat} {H : Heap} {ls : Array Slot} (hdg : decode code pc = .ok (.ireturn, 1)) : W p l e room_1 s m #[Value.ref b] below meth c H [] 601024 7293034 (lw_Z below #[Value.ref b] s) (F0 m pc ls [.int 1]) := by
  intro T hT X
  obtain ⟨fs, hret, hrun, hended, hW, hframe⟩ := X.leave (v := some (.int 1)) (hlocks := hlocks) (fun h => by rw [hr] at h; cases h)
  have hmeth' : T.vm.method? m = some meth := X.method'
  refine ⟨T.setFrames fs, ?_, .returned (some (.int 1)), hrun, hended, rfl, ⟨_, rfl⟩, hW, hframe⟩
  jvm_step X.here [X.here.top, hx, hb, hdg, hmeth', hr, ret, narrow_b1]
  (try refine ⟨rfl, ?_⟩); (try refine ⟨rfl, ?_⟩)
  first | (intro acts; rw [hret _ acts rfl rfl rfl]) | rw [hret _ _ rfl rfl rfl]
  exact Steps.refl _
/-- what holds at the law's entry: the machine, the code, the tables' words (any of lw_tbl by 'hts w (by decide +kernel)'), the script of L ints xs at the cell b, what the Statement gives of the start (any of its parts by flat_of_before) -/
def lw_At (p : Program) (s : State) (m : MethodId) (meth : Method) (c : Code) (b L : Nat) (xs : Nat → Int32) : Prop :=
  p.tables.exec = Jvm.exec ∧ c.code = code ∧ meth.sig.returnType = ret ∧ c.maxLocals = 7 ∧ s.vm.findClass R_law = some m.cls ∧ (∀ w ∈ lw_tbl, w.before #[Value.ref b] s = true) ∧ va_X b L xs s s.heap ∧ b < s.heap.size ∧ meth.locks = false ∧ (Jvm.Cond.and given_1 narrow_1).before #[Value.ref b] s = true
theorem zStr_of {args : Array Value} {s : State} {tm : Term} {bs : List Int} {A : Nat → Prop} (hN : bs.length < 2 ^ 31) (hex : (Cond.exactly tm "java/lang/String").before args s = true) (hco : (Cond.eq (.field tm "java/lang/String" "coder" "B") (.int 0)).before args s = true)
    (har : (Cond.arrayOf (.field tm "java/lang/String" "value" "[B") .byte).before args s = true) (hle : (Cond.eq (.length (.field tm "java/lang/String" "value" "[B")) (.int (Int32.ofNat bs.length))).before args s = true)
    (hel : ∀ j : Nat, j < bs.length → (Cond.eq (.elem (.field tm "java/lang/String" "value" "[B") (.int (Int32.ofNat j))) (.int (zi (bs.getD j 0)))).before args s = true) (hA : ∀ a : Nat, a < s.heap.size → ¬ A a) :
    ∃ a t : Nat, tm.eval args s none [] s = some (.ref a) ∧ va_O "java/lang/String" a A s s.heap ∧ va_OF "java/lang/String" "coder" "B" (.int 0) a A s s.heap ∧ va_OF "java/lang/String" "value" "[B" (.ref t) a A s s.heap ∧ va_T .byte t bs.length (fun j => .int (zi (bs.getD j 0))) A s s.heap := by
  obtain ⟨a, c, cA, kA, q1, q2, q3, q4, q5, q6, -⟩ := Cond.exactly_spec (args := args) (first := s) (o := none) (s := s) (idx := []) (t := tm) (cls := "java/lang/String") hex
  obtain ⟨t, ht, hT⟩ := va_Tof (f := fun j => .int (zi (bs.getD j 0))) (A := A) hN har (va_eqt hle) (fun j hj => va_eqt (hel j hj)) hA
  exact ⟨a, t, q1, ⟨cA, q3, q5, by rw [q6]; exact q2, hA a (Array.getElem?_eq_some_iff.mp q3).1⟩, vk_OFof q1 (va_eqt hco) hA, vk_OFof q1 ht hA, hT⟩
/-- every text of the tables stands among the premises -/
def zfl : List Cond := flatC (Jvm.Cond.and given_1 narrow_1)
def zsx (w : Cond) : Bool := match w with
  | .stringRef own k _ => decide (Cond.exactly (.string own k) "java/lang/String" ∈ zfl)
  | _ => true
theorem zsx_all : ∀ w ∈ lw_tbl, zsx w = true := by
  have h : lw_tbl.all zsx = true := by decide +kernel
  exact List.all_eq_true.mp h
def zsq (q : String × Nat × String × List Int) : Bool := decide (Cond.stringRef q.1 q.2.1 q.2.2.1 ∈ lw_tbl) && decide (q.2.2.2.length < 2 ^ 31) && decide (Cond.exactly (.string q.1 q.2.1) "java/lang/String" ∈ zfl) && decide (Cond.eq (.field (.string q.1 q.2.1) "java/lang/String" "coder" "B") (.int 0) ∈ zfl) && decide (Cond.arrayOf (.field (.string q.1 q.2.1) "java/lang/String" "value" "[B") .byte ∈ zfl) &&
  decide (Cond.eq (.length (.field (.string q.1 q.2.1) "java/lang/String" "value" "[B")) (.int (Int32.ofNat q.2.2.2.length)) ∈ zfl) && (List.range q.2.2.2.length).all (fun j => decide (Cond.eq (.elem (.field (.string q.1 q.2.1) "java/lang/String" "value" "[B") (.int (Int32.ofNat j))) (.int (zi (q.2.2.2.getD j 0))) ∈ zfl))

theorem zsq_0 : zsq (RX5, 82, "item", [105, 116, 101, 109]) = true := by decide +kernel
theorem zsq_1 : zsq (RX5, 88, "base", [98, 97, 115, 101]) = true := by decide +kernel
theorem zsq_2 : zsq (RX5, 90, "level", [108, 101, 118, 101, 108]) = true := by decide +kernel
theorem zsq_3 : zsq (RX5, 92, "link", [108, 105, 110, 107]) = true := by decide +kernel
theorem zsq_4 : zsq (RX5, 94, "share", [115, 104, 97, 114, 101]) = true := by decide +kernel
theorem zsq_5 : zsq (RX5, 96, "reserve", [114, 101, 115, 101, 114, 118, 101]) = true := by decide +kernel
theorem zsq_6 : zsq (RX5, 98, "rate", [114, 97, 116, 101]) = true := by decide +kernel
theorem zsq_7 : zsq (RX5, 100, "limit", [108, 105, 109, 105, 116]) = true := by decide +kernel
theorem zsq_8 : zsq (RX8, 293, "item", [105, 116, 101, 109]) = true := by decide +kernel
theorem zsq_9 : zsq (RX8, 301, "base", [98, 97, 115, 101]) = true := by decide +kernel
theorem zsq_10 : zsq (RX8, 306, "level", [108, 101, 118, 101, 108]) = true := by decide +kernel
theorem zsq_11 : zsq (RX8, 311, "link", [108, 105, 110, 107]) = true := by decide +kernel
theorem zsq_12 : zsq (RX8, 315, "share", [115, 104, 97, 114, 101]) = true := by decide +kernel
theorem zsq_13 : zsq (RX8, 320, "reserve", [114, 101, 115, 101, 114, 118, 101]) = true := by decide +kernel
theorem zsq_14 : zsq (RX8, 322, "rate", [114, 97, 116, 101]) = true := by decide +kernel
theorem zsq_15 : zsq (RX8, 324, "limit", [108, 105, 109, 105, 116]) = true := by decide +kernel
theorem zsq_all : ∀ q ∈ zStrs, zsq q = true := List.forall_mem_cons.mpr ⟨zsq_0, List.forall_mem_cons.mpr ⟨zsq_1, List.forall_mem_cons.mpr ⟨zsq_2, List.forall_mem_cons.mpr ⟨zsq_3, List.forall_mem_cons.mpr ⟨zsq_4, List.forall_mem_cons.mpr ⟨zsq_5, List.forall_mem_cons.mpr ⟨zsq_6, List.forall_mem_cons.mpr ⟨zsq_7, List.forall_mem_cons.mpr ⟨zsq_8, List.forall_mem_cons.mpr ⟨zsq_9, List.forall_mem_cons.mpr ⟨zsq_10, List.forall_mem_cons.mpr ⟨zsq_11, List.forall_mem_cons.mpr ⟨zsq_12, List.forall_mem_cons.mpr ⟨zsq_13, List.forall_mem_cons.mpr ⟨zsq_14, List.forall_mem_cons.mpr ⟨zsq_15, fun _ h => absurd h List.not_mem_nil⟩⟩⟩⟩⟩⟩⟩⟩⟩⟩⟩⟩⟩⟩⟩⟩
set_option maxHeartbeats 4000000 in
set_option maxRecDepth 100000 in
theorem zOK_of {p : Program} {s : State} {m : MethodId} {meth : Method} {c : Code} (l : Launch) (hflags : l.flags = flags0) {b L : Nat} {xs : Nat → Int32} (C0 : lw_At p s m meth c b L xs) : ∃ D : va_G, ∃ cy : Nat → ClassId, zOK (l, s, D, cy) := by
  obtain ⟨hx, hb, hr, hml, hown, hts, hX, hbl, hlocks, hgv⟩ := id C0
  have hs : ∀ w ∈ zfl, w.before #[Value.ref b] s = true := flat_of_before _ hgv
  obtain ⟨c0, iS0, hKn0⟩ := u_known (C := RX0) (T := TX0) (N := 6) (n := 6) hts inX0 (hts _ q_1_101)
  obtain ⟨c1, iS1, hKn1⟩ := u_known (C := RX1) (T := TX1) (N := 1) (n := 1) hts inX1 (hts _ q_1_206)
  obtain ⟨c2, iS2, hKn2⟩ := u_known (C := RX2) (T := TX2) (N := 10) (n := 10) hts inX2 (hts _ q_1_32)
  obtain ⟨c3, iS3, hKn3⟩ := u_known (C := RX3) (T := TX3) (N := 5) (n := 5) hts inX3 (hts _ q_1_179)
  obtain ⟨c4, iS4, hKn4⟩ := u_known (C := RX4) (T := TX4) (N := 11) (n := 11) hts inX4 (hts _ q_1_38)
  obtain ⟨c5, iS5, hKn5⟩ := u_known (C := RX5) (T := TX5) (N := 9) (n := 9) hts inX5 (hts _ q_2_17)
  obtain ⟨c6, iS6, hKn6⟩ := u_known (C := RX6) (T := TX6) (N := 7) (n := 7) hts inX6 (hts _ q_1_138)
  obtain ⟨c7, iS7, hKn7⟩ := u_known (C := RX7) (T := TX7) (N := 4) (n := 4) hts inX7 (hts _ q_1_24)
  obtain ⟨c8, iS8, hKn8⟩ := u_known (C := RX8) (T := TX8) (N := 16) (n := 16) hts inX8 (hts _ q_5_145)
  obtain ⟨cI, kI, pI, xI1, xI2, xI3⟩ := Cond.arrayClass_spec (args := #[Value.ref b]) (first := s) (o := none) (s := s) (idx := []) (hts _ q_1_99)
  obtain ⟨cB, kB, pB, xB1, xB2, xB3⟩ := Cond.arrayClass_spec (args := #[Value.ref b]) (first := s) (o := none) (s := s) (idx := []) (hts _ q_2_53)
  obtain ⟨cZ, kZ, pZ, xZ1, xZ2, xZ3⟩ := Cond.arrayClass_spec (args := #[Value.ref b]) (first := s) (o := none) (s := s) (idx := []) (hts _ q_5_199)
  obtain ⟨cJ, kJ, pJ, xJ1, xJ2, xJ3⟩ := Cond.arrayClass_spec (args := #[Value.ref b]) (first := s) (o := none) (s := s) (idx := []) (hts _ q_7_199)
  obtain ⟨pN, cN, kN, xN1, xN2, xN3, xN4, xN5⟩ := Cond.arrayOver_spec (args := #[Value.ref b]) (first := s) (o := none) (s := s) (idx := []) (hts _ q_2_15)
  obtain ⟨dC, hdC⟩ : ∃ f : Nat → ClassId, f = fun k => match k with | 0 => c0 | 1 => c1 | 2 => c2 | 3 => c3 | 4 => c4 | 5 => c5 | 6 => c6 | 7 => c7 | _ => c8 := ⟨_, rfl⟩
  obtain ⟨dI, hdI⟩ : ∃ f : Nat → Nat → Nat, f = fun k => match k with | 0 => iS0 | 1 => iS1 | 2 => iS2 | 3 => iS3 | 4 => iS4 | 5 => iS5 | 6 => iS6 | 7 => iS7 | _ => iS8 := ⟨_, rfl⟩
  obtain ⟨cy, hcy⟩ : ∃ f : Nat → ClassId, f = fun k => match k with | 9 => cI | 10 => cB | 11 => cZ | 12 => cJ | _ => cN := ⟨_, rfl⟩
  have hA : ∀ a : Nat, a < s.heap.size → ¬ (fun q => zbs (l, s, (dC, dI), cy) ≤ q) a := fun a h => by show ¬ s.heap.size ≤ a; omega
  have hK : va_K (dC, dI) vwCl (ztys (l, s, (dC, dI), cy)) s := by
    refine ⟨fun k q hq => ?_, fun k q hq => ?_⟩
    · subst hdC; subst hdI
      match k, hq with
      | 0, hq => cases hq; exact hKn0
      | 1, hq => cases hq; exact hKn1
      | 2, hq => cases hq; exact hKn2
      | 3, hq => cases hq; exact hKn3
      | 4, hq => cases hq; exact hKn4
      | 5, hq => cases hq; exact hKn5
      | 6, hq => cases hq; exact hKn6
      | 7, hq => cases hq; exact hKn7
      | 8, hq => cases hq; exact hKn8
      | k + 9, hq => simp [vwCl] at hq
    · subst hcy
      match k, hq with
      | 0, hq => cases hq; exact ⟨fun n z => ⟨fun k h => (by cases h), kI, xI2, pI, xI3⟩, xI1⟩
      | 1, hq => cases hq; exact ⟨fun n z => ⟨fun k h => (by cases h), kB, xB2, pB, xB3⟩, xB1⟩
      | 2, hq => cases hq; exact ⟨fun n z => ⟨fun k h => (by cases h), kZ, xZ2, pZ, xZ3⟩, xZ1⟩
      | 3, hq => cases hq; exact ⟨fun n z => ⟨fun k h => (by cases h), kJ, xJ2, pJ, xJ3⟩, xJ1⟩
      | 4, hq => cases hq; exact ⟨fun n z => ⟨fun k h => (by cases h), kN, xN3, pN, xN4⟩, kN, pN, xN3, xN4, xN1, xN5⟩
      | k + 5, hq => simp [ztys] at hq
  refine ⟨(dC, dI), cy, ⟨_, hts⟩, hK, ?_, ?_, ?_, ?_, ?_, ⟨?_, ?_, ?_⟩, ?_, ?_, ?_⟩
  · show l.stackTraces = false
    unfold Launch.stackTraces
    rw [hflags]
    decide +kernel
  · exact vx_Zqof (hts _ q_3_94) (hts _ q_1_10) (hs _ (by decide +kernel)) hA
  · exact vx_Zqof (hts _ q_3_96) (hts _ q_1_10) (hs _ (by decide +kernel)) hA
  · intro own k tx h
    have h1 := zsx_all _ h
    have h2 : Cond.exactly (.string own k) "java/lang/String" ∈ zfl := of_decide_eq_true h1
    obtain ⟨a, c, cA, kA, q1, -⟩ := Cond.exactly_spec (args := #[Value.ref b]) (first := s) (o := none) (s := s) (idx := []) (hs _ h2)
    exact ⟨a, vk_R.of (hts _ h) q1⟩
  · intro k j hk hj i hi hne
    exact va_apart (D := (dC, dI)) (own := RX0) (Ts := lw_tbl) hts (fun w hw => (List.mem_filter.mp (zin hk w hw)).1) (zty k) (zty_ok hk) (znm hk) hK (zvw hk) j i hj hi hne
  · exact va_Nc.of (hs _ (by decide +kernel))
  · exact va_Nc.of (hs _ (by decide +kernel))
  · exact va_Nc.of (hs _ (by decide +kernel))
  · exact va_Zof (hts _ q_2_158) (hts _ q_1_19) (va_eqi (hs _ (by decide +kernel))) hA
  · exact va_Zqof (hts _ q_2_174) (hts _ q_1_21) (hs _ (by decide +kernel)) hA
  · intro q hq
    have h1 := zsq_all q hq
    simp only [zsq, Bool.and_eq_true, decide_eq_true_eq, List.all_eq_true, List.mem_range] at h1
    obtain ⟨⟨⟨⟨⟨⟨h1, h2⟩, h3⟩, h4⟩, h5⟩, h6⟩, h7⟩ := h1
    obtain ⟨a, t, z1, z2⟩ := zStr_of (A := fun q => zbs (l, s, (dC, dI), cy) ≤ q) h2 (hs _ h3) (hs _ h4) (hs _ h5) (hs _ h6) (fun j hj => hs _ (h7 j hj)) hA
    exact ⟨a, vk_R.of (hts _ h1) z1, t, z2⟩
