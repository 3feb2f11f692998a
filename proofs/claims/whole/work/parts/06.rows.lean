/-! the judgement: a method M (class, bytes, locals, return type, room, handlers, name) at pc, with locals lv, stack st, memory (S, im), k cells and n slots made so far, comes to its end Z -/
abbrev zM : Type := String × ByteArray × Nat × Option FieldType × Room × Option (List (Nat × Nat × Nat × Nat)) × String
abbrev zown (M : zM) : String := M.1
abbrev zcc (M : zM) : ByteArray := M.2.1
abbrev znL (M : zM) : Nat := M.2.2.1
abbrev zret (M : zM) : Option FieldType := M.2.2.2.1
abbrev zrm (M : zM) : Room := M.2.2.2.2.1
abbrev ztb (M : zM) : Option (List (Nat × Nat × Nat × Nat)) := M.2.2.2.2.2.1
abbrev zmn (M : zM) : String := M.2.2.2.2.2.2
def zB (g : zG) (M : zM) (p : Program) (s : State) (m : MethodId) (meth : Method) (c : Code) : Prop :=
  p.tables.exec = Jvm.exec ∧ c.code = zcc M ∧ c.maxLocals = znL M ∧ s.vm.findClass (zown M) = some m.cls ∧ g.2.1.WarmedH s.vm ∧ meth.sig.returnType = zret M ∧ meth.locks = false ∧
  (∀ hh, ztb M = some hh → c.exceptionTable.toList = tableOf hh) ∧ (zmn M = "<init>" → meth.name = "<init>")
abbrev zEnd : Type := List Frame → Array Value → State → State → Prop
def zPz (g : zG) (M : zM) (k n pc : Nat) (lv : List (Nat × Value)) (st : List Value) (S : zSh) (im : zIm) (Z : zEnd) : Prop :=
  ∀ (p : Program) (e : Env) (s : State) (m : MethodId) (args : Array Value) (below : List Frame) (meth : Method) (c : Code) (H : Heap) (locs : List Loc) (ls : Array Slot),
    zB g M p s m meth c → zRel g S im H → (∀ z ∈ locs, zbs g ≤ z.base) → lv_has ls (znL M) lv → W p g.1 e (zrm M) s m args below meth c H locs k n (Z below args s) (F0 m pc ls st)
/-- the same, with an exception of the class E thrown at pc -/
def zXz (g : zG) (M : zM) (k n pc : Nat) (lv : List (Nat × Value)) (st : List Value) (S : zSh) (im : zIm) (E : String) (Z : zEnd) : Prop :=
  ∀ (p : Program) (e : Env) (s : State) (m : MethodId) (args : Array Value) (below : List Frame) (meth : Method) (c : Code) (H : Heap) (locs : List Loc) (ls : Array Slot) (q : Addr) (ce : Cell),
    zB g M p s m meth c → zRel g S im H → (∀ z ∈ locs, zbs g ≤ z.base) → lv_has ls (znL M) lv → H[q]? = some ce → ce.vm = .none → s.vm.findClass E = some ce.cls → vx_W p g.1 e (zrm M) s m args below meth c H locs k n (Z below args s) (F0 m pc ls st) q
section ZR
variable {g : zG} {M : zM} {k n pc : Nat} {lv lv' : List (Nat × Value)} {st : List Value} {S : zSh} {im : zIm} {Z : zEnd}

theorem p_iconst {x : Int} (hd : decode (zcc M) pc = .ok (.iconst x, 1)) (kk : zPz g M k n (pc + 1) lv (.int (zi x) :: st) S im Z) : zPz g M k n pc lv (st) S im Z :=
  fun p e s m args below meth c H locs ls B R L V => lv_iconst B.1 B.2.1 hd rfl (kk p e s m args below meth c H locs ls B R L V)
theorem p_bipush {x : Int} (hd : decode (zcc M) pc = .ok (.bipush x, 2)) (hv : (Int8.ofInt x).toInt32 = zi x) (kk : zPz g M k n (pc + 2) lv (.int (zi x) :: st) S im Z) : zPz g M k n pc lv (st) S im Z :=
  fun p e s m args below meth c H locs ls B R L V => lv_bipush B.1 B.2.1 hd hv (kk p e s m args below meth c H locs ls B R L V)
theorem p_sipush {x : Int} (hd : decode (zcc M) pc = .ok (.sipush x, 3)) (hv : (Int16.ofInt x).toInt32 = zi x) (kk : zPz g M k n (pc + 3) lv (.int (zi x) :: st) S im Z) : zPz g M k n pc lv (st) S im Z :=
  fun p e s m args below meth c H locs ls B R L V => lv_sipush B.1 B.2.1 hd hv (kk p e s m args below meth c H locs ls B R L V)
theorem p_lconst {y : Fin 2} {x : Int} (hd : decode (zcc M) pc = .ok (.lconst y, 1)) (hv : Int64.ofNat (y : Nat) = zl x) (kk : zPz g M k n (pc + 1) lv (.long (zl x) :: st) S im Z) : zPz g M k n pc lv (st) S im Z :=
  fun p e s m args below meth c H locs ls B R L V => lv_lconst B.1 B.2.1 hd hv (kk p e s m args below meth c H locs ls B R L V)
theorem p_iload_n {y : Fin 4} {i q : Nat} {x : Int32} (hd : decode (zcc M) pc = .ok (.iload_n y, 1)) (hi : (y : Nat) = i) (hl : lv[q]? = some (i, .int x)) (kk : zPz g M k n (pc + 1) lv (.int x :: st) S im Z) : zPz g M k n pc lv (st) S im Z :=
  fun p e s m args below meth c H locs ls B R L V => lv_iload_n B.1 B.2.1 hd hi (lv_at V q hl) (kk p e s m args below meth c H locs ls B R L V)
theorem p_iload {i q : Nat} {x : Int32} (hd : decode (zcc M) pc = .ok (.iload i, 2)) (hl : lv[q]? = some (i, .int x)) (kk : zPz g M k n (pc + 2) lv (.int x :: st) S im Z) : zPz g M k n pc lv (st) S im Z :=
  fun p e s m args below meth c H locs ls B R L V => lv_iload B.1 B.2.1 hd (lv_at V q hl) (kk p e s m args below meth c H locs ls B R L V)
theorem p_aload_n {y : Fin 4} {i q : Nat} {x : Nat} (hd : decode (zcc M) pc = .ok (.aload_n y, 1)) (hi : (y : Nat) = i) (hl : lv[q]? = some (i, .ref x)) (kk : zPz g M k n (pc + 1) lv (.ref x :: st) S im Z) : zPz g M k n pc lv (st) S im Z :=
  fun p e s m args below meth c H locs ls B R L V => lv_aload_n B.1 B.2.1 hd hi (lv_at V q hl) (kk p e s m args below meth c H locs ls B R L V)
theorem p_aload {i q : Nat} {x : Nat} (hd : decode (zcc M) pc = .ok (.aload i, 2)) (hl : lv[q]? = some (i, .ref x)) (kk : zPz g M k n (pc + 2) lv (.ref x :: st) S im Z) : zPz g M k n pc lv (st) S im Z :=
  fun p e s m args below meth c H locs ls B R L V => lv_aload B.1 B.2.1 hd (lv_at V q hl) (kk p e s m args below meth c H locs ls B R L V)
theorem p_aload_nN {y : Fin 4} {i q : Nat} (hd : decode (zcc M) pc = .ok (.aload_n y, 1)) (hi : (y : Nat) = i) (hl : lv[q]? = some (i, .null)) (kk : zPz g M k n (pc + 1) lv (.null :: st) S im Z) : zPz g M k n pc lv (st) S im Z :=
  fun p e s m args below meth c H locs ls B R L V => lv_aload_nN B.1 B.2.1 hd hi (lv_at V q hl) (kk p e s m args below meth c H locs ls B R L V)
theorem p_lload_n {y : Fin 4} {i q : Nat} {x : Int64} (hd : decode (zcc M) pc = .ok (.lload_n y, 1)) (hi : (y : Nat) = i) (hl : lv[q]? = some (i, .long x)) (kk : zPz g M k n (pc + 1) lv (.long x :: st) S im Z) : zPz g M k n pc lv (st) S im Z :=
  fun p e s m args below meth c H locs ls B R L V => lv_lload_n B.1 B.2.1 hd hi (lv_at V q hl) (kk p e s m args below meth c H locs ls B R L V)
theorem p_istore_n {y : Fin 4} {i : Nat} {x : Int32} (hd : decode (zcc M) pc = .ok (.istore_n y, 1)) (hi : (y : Nat) = i) (hn : i < znL M) (hl : (i, Value.int x) :: lv.filter (fun q => !(q.1 == i) && !(q.1 + 1 == i && q.2.category == 2)) = lv') (kk : zPz g M k n (pc + 1) lv' st S im Z) : zPz g M k n pc lv (Value.int x :: st) S im Z :=
  fun p e s m args below meth c H locs ls B R L V => lv_istore_n B.1 B.2.1 hd hi V hn hl (fun ls V => kk p e s m args below meth c H locs ls B R L V)
theorem p_istore {i : Nat} {x : Int32} (hd : decode (zcc M) pc = .ok (.istore i, 2)) (hn : i < znL M) (hl : (i, Value.int x) :: lv.filter (fun q => !(q.1 == i) && !(q.1 + 1 == i && q.2.category == 2)) = lv') (kk : zPz g M k n (pc + 2) lv' st S im Z) : zPz g M k n pc lv (Value.int x :: st) S im Z :=
  fun p e s m args below meth c H locs ls B R L V => lv_istore B.1 B.2.1 hd V hn hl (fun ls V => kk p e s m args below meth c H locs ls B R L V)
theorem p_astore_n {y : Fin 4} {i : Nat} {x : Nat} (hd : decode (zcc M) pc = .ok (.astore_n y, 1)) (hi : (y : Nat) = i) (hn : i < znL M) (hl : (i, Value.ref x) :: lv.filter (fun q => !(q.1 == i) && !(q.1 + 1 == i && q.2.category == 2)) = lv') (kk : zPz g M k n (pc + 1) lv' st S im Z) : zPz g M k n pc lv (Value.ref x :: st) S im Z :=
  fun p e s m args below meth c H locs ls B R L V => lv_astore_n B.1 B.2.1 hd hi V hn hl (fun ls V => kk p e s m args below meth c H locs ls B R L V)
theorem p_astore {i : Nat} {x : Nat} (hd : decode (zcc M) pc = .ok (.astore i, 2)) (hn : i < znL M) (hl : (i, Value.ref x) :: lv.filter (fun q => !(q.1 == i) && !(q.1 + 1 == i && q.2.category == 2)) = lv') (kk : zPz g M k n (pc + 2) lv' st S im Z) : zPz g M k n pc lv (Value.ref x :: st) S im Z :=
  fun p e s m args below meth c H locs ls B R L V => lv_astore B.1 B.2.1 hd V hn hl (fun ls V => kk p e s m args below meth c H locs ls B R L V)
theorem p_astore_nN {y : Fin 4} {i : Nat} (hd : decode (zcc M) pc = .ok (.astore_n y, 1)) (hi : (y : Nat) = i) (hn : i < znL M) (hl : (i, Value.null) :: lv.filter (fun q => !(q.1 == i) && !(q.1 + 1 == i && q.2.category == 2)) = lv') (kk : zPz g M k n (pc + 1) lv' st S im Z) : zPz g M k n pc lv (Value.null :: st) S im Z :=
  fun p e s m args below meth c H locs ls B R L V => lv_astore_nN B.1 B.2.1 hd hi V hn hl (fun ls V => kk p e s m args below meth c H locs ls B R L V)
theorem p_lstore_n {y : Fin 4} {i : Nat} {x : Int64} (hd : decode (zcc M) pc = .ok (.lstore_n y, 1)) (hi : (y : Nat) = i) (hn : i + 1 < znL M) (hl : (i, Value.long x) :: lv.filter (fun q => !(q.1 == i) && (!(q.1 == i + 1) && !(q.1 + 1 == i && q.2.category == 2))) = lv') (kk : zPz g M k n (pc + 1) lv' st S im Z) : zPz g M k n pc lv (.long x :: st) S im Z :=
  fun p e s m args below meth c H locs ls B R L V => lv_lstore_n B.1 B.2.1 hd hi V hn hl (fun ls V => kk p e s m args below meth c H locs ls B R L V)
theorem p_iinc {i q : Nat} {x a : Int} (hd : decode (zcc M) pc = .ok (.iinc i x, 3)) (hk : lv[q]? = some (i, .int (zi a))) (hn : i < znL M) (hl : (i, Value.int (zi (a + x))) :: lv.filter (fun q => !(q.1 == i) && !(q.1 + 1 == i && q.2.category == 2)) = lv') (kk : zPz g M k n (pc + 3) lv' st S im Z) : zPz g M k n pc lv st S im Z :=
  fun p e s m args below meth c H locs ls B R L V => lv_iinc (v := zi (a + x)) B.1 B.2.1 hd V hk (zi_add a x) hn hl (fun ls V => kk p e s m args below meth c H locs ls B R L V)
theorem p_sub (ks : List Nat) (hl : lv_pick lv ks = lv') (kk : zPz g M k n pc lv' st S im Z) : zPz g M k n pc lv st S im Z :=
  fun p e s m args below meth c H locs ls B R L V => kk p e s m args below meth c H locs ls B R L (lv_sub V ks hl)
theorem p_top {x y : Value} (h : x = y) (kk : zPz g M k n pc lv (y :: st) S im Z) : zPz g M k n pc lv (x :: st) S im Z := h ▸ kk
theorem p_wide {k2 n2 : Nat} (h1 : k ≤ k2) (h2 : n ≤ n2) (kk : zPz g M k2 n2 pc lv st S im Z) : zPz g M k n pc lv st S im Z :=
  fun p e s m args below meth c H locs ls B R L V => W.widen h1 h2 (kk p e s m args below meth c H locs ls B R L V)
theorem p_iadd {a b : Int} (hd : decode (zcc M) pc = .ok (.iadd, 1)) (kk : zPz g M k n (pc + 1) lv (.int (zi (a + b)) :: st) S im Z) : zPz g M k n pc lv (.int (zi b) :: .int (zi a) :: st) S im Z :=
  fun p e s m args below meth c H locs ls B R L V => lv_iadd B.1 B.2.1 hd (by rw [zi_add]; exact kk p e s m args below meth c H locs ls B R L V)
theorem p_isub {a b : Int} (hd : decode (zcc M) pc = .ok (.isub, 1)) (kk : zPz g M k n (pc + 1) lv (.int (zi (a - b)) :: st) S im Z) : zPz g M k n pc lv (.int (zi b) :: .int (zi a) :: st) S im Z :=
  fun p e s m args below meth c H locs ls B R L V => lv_isub B.1 B.2.1 hd (by rw [zi_sub]; exact kk p e s m args below meth c H locs ls B R L V)
theorem p_imul {a b : Int} (hd : decode (zcc M) pc = .ok (.imul, 1)) (kk : zPz g M k n (pc + 1) lv (.int (zi (a * b)) :: st) S im Z) : zPz g M k n pc lv (.int (zi b) :: .int (zi a) :: st) S im Z :=
  fun p e s m args below meth c H locs ls B R L V => lv_imul B.1 B.2.1 hd (by rw [zi_mul]; exact kk p e s m args below meth c H locs ls B R L V)
theorem p_idiv {a b a' b' : Int} (hd : decode (zcc M) pc = .ok (.idiv, 1)) (ha : nf a a') (hb : nf b b') (h0 : b' ≠ 0) (kk : zPz g M k n (pc + 1) lv (.int (zi (Int.tdiv a' b')) :: st) S im Z) : zPz g M k n pc lv (.int (zi b) :: .int (zi a) :: st) S im Z :=
  fun p e s m args below meth c H locs ls B R L V => lv_idiv B.1 B.2.1 hd (by rw [hb.1, ← zi_0, zi_eq hb.2 (zc_of (by omega) (by omega))]; exact h0) (by rw [ha.1, hb.1, zi_div ha.2 hb.2]; exact kk p e s m args below meth c H locs ls B R L V)
theorem p_irem {a b a' b' : Int} (hd : decode (zcc M) pc = .ok (.irem, 1)) (ha : nf a a') (hb : nf b b') (h0 : b' ≠ 0) (kk : zPz g M k n (pc + 1) lv (.int (zi (Int.tmod a' b')) :: st) S im Z) : zPz g M k n pc lv (.int (zi b) :: .int (zi a) :: st) S im Z :=
  fun p e s m args below meth c H locs ls B R L V => lv_irem B.1 B.2.1 hd (by rw [hb.1, ← zi_0, zi_eq hb.2 (zc_of (by omega) (by omega))]; exact h0) (by rw [ha.1, hb.1, zi_rem ha.2 hb.2]; exact kk p e s m args below meth c H locs ls B R L V)
def zand (a b : Int) : Int := (zi a &&& zi b).toInt
def zshr (a b : Int) : Int := (zi a >>> (zi b &&& 31)).toInt
def zushr (a b : Int) : Int := ((zi a).toUInt32 >>> ((zi b).toUInt32 &&& Int32.toUInt32 31)).toInt32.toInt
theorem zi_of (x : Int32) : zi x.toInt = x := Int32.ofInt_toInt x
theorem zc_t (x : Int32) : zc x.toInt := by unfold zc zw; rw [Int32.ofInt_toInt]
theorem p_iand {a b : Int} (hd : decode (zcc M) pc = .ok (.iand, 1)) (kk : zPz g M k n (pc + 1) lv (.int (zi (zand a b)) :: st) S im Z) : zPz g M k n pc lv (.int (zi b) :: .int (zi a) :: st) S im Z :=
  fun p e s m args below meth c H locs ls B R L V => lv_iand B.1 B.2.1 hd (by unfold zand at kk; rw [zi_of] at kk; exact kk p e s m args below meth c H locs ls B R L V)
theorem p_ishr {a b : Int} (hd : decode (zcc M) pc = .ok (.ishr, 1)) (kk : zPz g M k n (pc + 1) lv (.int (zi (zshr a b)) :: st) S im Z) : zPz g M k n pc lv (.int (zi b) :: .int (zi a) :: st) S im Z :=
  fun p e s m args below meth c H locs ls B R L V => lv_ishr B.1 B.2.1 hd (by unfold zshr at kk; rw [zi_of] at kk; exact kk p e s m args below meth c H locs ls B R L V)
theorem p_iushr {a b : Int} (hd : decode (zcc M) pc = .ok (.iushr, 1)) (kk : zPz g M k n (pc + 1) lv (.int (zi (zushr a b)) :: st) S im Z) : zPz g M k n pc lv (.int (zi b) :: .int (zi a) :: st) S im Z :=
  fun p e s m args below meth c H locs ls B R L V => lv_iushr B.1 B.2.1 hd rfl (by unfold zushr at kk; rw [zi_of] at kk; exact kk p e s m args below meth c H locs ls B R L V)
theorem p_i2b {a a' : Int} (hd : decode (zcc M) pc = .ok (.i2b, 1)) (ha : nf a a') (kk : zPz g M k n (pc + 1) lv (.int (zi (Int.bmod a' 256)) :: st) S im Z) : zPz g M k n pc lv (.int (zi a) :: st) S im Z :=
  fun p e s m args below meth c H locs ls B R L V => lv_i2b B.1 B.2.1 hd (by rw [ha.1]; exact zi_b ha.2) (kk p e s m args below meth c H locs ls B R L V)
theorem p_i2l {a a' : Int} (hd : decode (zcc M) pc = .ok (.i2l, 1)) (ha : nf a a') (kk : zPz g M k n (pc + 1) lv (.long (zl a') :: st) S im Z) : zPz g M k n pc lv (.int (zi a) :: st) S im Z :=
  fun p e s m args below meth c H locs ls B R L V => lv_i2l B.1 B.2.1 hd (by rw [ha.1]; exact zl_i ha.2) (kk p e s m args below meth c H locs ls B R L V)
theorem p_l2i {a a' : Int} (hd : decode (zcc M) pc = .ok (.l2i, 1)) (ha : nfl a a') (kk : zPz g M k n (pc + 1) lv (.int (zi a') :: st) S im Z) : zPz g M k n pc lv (.long (zl a) :: st) S im Z :=
  fun p e s m args below meth c H locs ls B R L V => lv_l2i B.1 B.2.1 hd (by rw [ha.1]; exact zi_l a') (kk p e s m args below meth c H locs ls B R L V)
theorem p_ladd {a b : Int} (hd : decode (zcc M) pc = .ok (.ladd, 1)) (kk : zPz g M k n (pc + 1) lv (.long (zl (a + b)) :: st) S im Z) : zPz g M k n pc lv (.long (zl b) :: .long (zl a) :: st) S im Z :=
  fun p e s m args below meth c H locs ls B R L V => lv_ladd B.1 B.2.1 hd (by rw [zl_add]; exact kk p e s m args below meth c H locs ls B R L V)
theorem p_lsub {a b : Int} (hd : decode (zcc M) pc = .ok (.lsub, 1)) (kk : zPz g M k n (pc + 1) lv (.long (zl (a - b)) :: st) S im Z) : zPz g M k n pc lv (.long (zl b) :: .long (zl a) :: st) S im Z :=
  fun p e s m args below meth c H locs ls B R L V => lv_lsub B.1 B.2.1 hd (by rw [zl_sub]; exact kk p e s m args below meth c H locs ls B R L V)
theorem p_lmul {a b : Int} (hd : decode (zcc M) pc = .ok (.lmul, 1)) (kk : zPz g M k n (pc + 1) lv (.long (zl (a * b)) :: st) S im Z) : zPz g M k n pc lv (.long (zl b) :: .long (zl a) :: st) S im Z :=
  fun p e s m args below meth c H locs ls B R L V => lv_lmul B.1 B.2.1 hd (by rw [zl_mul]; exact kk p e s m args below meth c H locs ls B R L V)
theorem zl_0 : zl 0 = 0 := rfl
theorem p_ldiv {a b a' b' : Int} (hd : decode (zcc M) pc = .ok (.ldiv, 1)) (ha : nfl a a') (hb : nfl b b') (h0 : b' ≠ 0) (kk : zPz g M k n (pc + 1) lv (.long (zl (Int.tdiv a' b')) :: st) S im Z) : zPz g M k n pc lv (.long (zl b) :: .long (zl a) :: st) S im Z :=
  fun p e s m args below meth c H locs ls B R L V => lv_ldiv B.1 B.2.1 hd (by rw [hb.1, ← zl_0, zl_eq hb.2 (zcl_of (by omega) (by omega))]; exact h0) (by rw [ha.1, hb.1, zl_div ha.2 hb.2]; exact kk p e s m args below meth c H locs ls B R L V)
theorem p_lrem {a b a' b' : Int} (hd : decode (zcc M) pc = .ok (.lrem, 1)) (ha : nfl a a') (hb : nfl b b') (h0 : b' ≠ 0) (kk : zPz g M k n (pc + 1) lv (.long (zl (Int.tmod a' b')) :: st) S im Z) : zPz g M k n pc lv (.long (zl b) :: .long (zl a) :: st) S im Z :=
  fun p e s m args below meth c H locs ls B R L V => lv_lrem B.1 B.2.1 hd (by rw [hb.1, ← zl_0, zl_eq hb.2 (zcl_of (by omega) (by omega))]; exact h0) (by rw [ha.1, hb.1, zl_rem ha.2 hb.2]; exact kk p e s m args below meth c H locs ls B R L V)
def zcmp (a b : Int) : Int := if b < a then 1 else if a = b then 0 else -1
theorem zcmp_eq {a b : Int} (ha : zcl a) (hb : zcl b) : lg_cmp (zl a) (zl b) = zi (zcmp a b) := by
  unfold lg_cmp zcmp
  by_cases h1 : b < a
  · rw [if_pos h1, if_pos ((zl_lt hb ha).mpr h1)]; rfl
  · rw [if_neg h1, if_neg (fun h => h1 ((zl_lt hb ha).mp h))]
    by_cases h2 : a = b
    · rw [if_pos h2, if_pos ((zl_eq ha hb).mpr h2)]; rfl
    · rw [if_neg h2, if_neg (fun h => h2 ((zl_eq ha hb).mp h))]; rfl
theorem p_lcmp {a b a' b' : Int} (hd : decode (zcc M) pc = .ok (.lcmp, 1)) (ha : nfl a a') (hb : nfl b b') (kk : zPz g M k n (pc + 1) lv (.int (zi (zcmp a' b')) :: st) S im Z) : zPz g M k n pc lv (.long (zl b) :: .long (zl a) :: st) S im Z :=
  fun p e s m args below meth c H locs ls B R L V => W.lcmp B.1 B.2.1 hd (by rw [ha.1, hb.1, zcmp_eq ha.2 hb.2]; exact kk p e s m args below meth c H locs ls B R L V)
theorem p_dup {x : Value} (hd : decode (zcc M) pc = .ok (.dup, 1)) (h1 : x.category = 1) (kk : zPz g M k n (pc + 1) lv (x :: x :: st) S im Z) : zPz g M k n pc lv (x :: st) S im Z :=
  fun p e s m args below meth c H locs ls B R L V => lv_dup B.1 B.2.1 hd h1 (kk p e s m args below meth c H locs ls B R L V)
theorem p_pop {x : Value} (hd : decode (zcc M) pc = .ok (.pop, 1)) (h1 : x.category = 1) (kk : zPz g M k n (pc + 1) lv (st) S im Z) : zPz g M k n pc lv (x :: st) S im Z :=
  fun p e s m args below meth c H locs ls B R L V => lv_pop B.1 B.2.1 hd h1 (kk p e s m args below meth c H locs ls B R L V)
theorem p_dup2 {x y : Value} (hd : decode (zcc M) pc = .ok (.dup2, 1)) (h1 : x.category = 1) (h2 : y.category = 1) (kk : zPz g M k n (pc + 1) lv (x :: y :: x :: y :: st) S im Z) : zPz g M k n pc lv (x :: y :: st) S im Z :=
  fun p e s m args below meth c H locs ls B R L V => lv_dup2_11 B.1 B.2.1 hd h1 h2 (kk p e s m args below meth c H locs ls B R L V)
theorem p_goto {off : Int} {tgt : Nat} (hd : decode (zcc M) pc = .ok (.goto off, 3)) (ht : (pc : Int) + off = (tgt : Int)) (kk : zPz g M k n tgt lv st S im Z) : zPz g M k n pc lv st S im Z :=
  fun p e s m args below meth c H locs ls B R L V => lv_goto B.1 B.2.1 hd ht (kk p e s m args below meth c H locs ls B R L V)
theorem p_icmp_eq {a b a' b' off : Int} {tgt : Nat} (hd : decode (zcc M) pc = .ok (.if_icmp .eq off, 3)) (ht : (pc : Int) + off = (tgt : Int)) (ha : nf a a') (hb : nf b b') (kt : a' = b' → zPz g M k n tgt lv st S im Z) (kf : ¬ a' = b' → zPz g M k n (pc + 3) lv st S im Z) : zPz g M k n pc lv (.int (zi b) :: .int (zi a) :: st) S im Z :=
  fun p e s m args below meth c H locs ls B R L V => lv_icmp_eq B.1 B.2.1 hd ht (fun h => by rw [ha.1, hb.1, zi_eq ha.2 hb.2] at h; exact kt h p e s m args below meth c H locs ls B R L V) (fun h => by rw [ha.1, hb.1, zi_eq ha.2 hb.2] at h; exact kf h p e s m args below meth c H locs ls B R L V)
theorem p_icmp_ne {a b a' b' off : Int} {tgt : Nat} (hd : decode (zcc M) pc = .ok (.if_icmp .ne off, 3)) (ht : (pc : Int) + off = (tgt : Int)) (ha : nf a a') (hb : nf b b') (kt : ¬ a' = b' → zPz g M k n tgt lv st S im Z) (kf : a' = b' → zPz g M k n (pc + 3) lv st S im Z) : zPz g M k n pc lv (.int (zi b) :: .int (zi a) :: st) S im Z :=
  fun p e s m args below meth c H locs ls B R L V => lv_icmp_ne B.1 B.2.1 hd ht (fun h => by rw [ha.1, hb.1, zi_eq ha.2 hb.2] at h; exact kt h p e s m args below meth c H locs ls B R L V) (fun h => by rw [ha.1, hb.1, zi_eq ha.2 hb.2] at h; exact kf h p e s m args below meth c H locs ls B R L V)
theorem p_icmp_lt {a b a' b' off : Int} {tgt : Nat} (hd : decode (zcc M) pc = .ok (.if_icmp .lt off, 3)) (ht : (pc : Int) + off = (tgt : Int)) (ha : nf a a') (hb : nf b b') (kt : a' < b' → zPz g M k n tgt lv st S im Z) (kf : b' ≤ a' → zPz g M k n (pc + 3) lv st S im Z) : zPz g M k n pc lv (.int (zi b) :: .int (zi a) :: st) S im Z :=
  fun p e s m args below meth c H locs ls B R L V => lv_icmp_lt B.1 B.2.1 hd ht (fun h => by rw [ha.1, hb.1, zi_lt ha.2 hb.2] at h; exact kt h p e s m args below meth c H locs ls B R L V) (fun h => by rw [ha.1, hb.1, zi_lt ha.2 hb.2, Int.not_lt] at h; exact kf h p e s m args below meth c H locs ls B R L V)
theorem p_icmp_ge {a b a' b' off : Int} {tgt : Nat} (hd : decode (zcc M) pc = .ok (.if_icmp .ge off, 3)) (ht : (pc : Int) + off = (tgt : Int)) (ha : nf a a') (hb : nf b b') (kt : b' ≤ a' → zPz g M k n tgt lv st S im Z) (kf : a' < b' → zPz g M k n (pc + 3) lv st S im Z) : zPz g M k n pc lv (.int (zi b) :: .int (zi a) :: st) S im Z :=
  fun p e s m args below meth c H locs ls B R L V => lv_icmp_ge B.1 B.2.1 hd ht (fun h => by rw [ha.1, hb.1, zi_le hb.2 ha.2] at h; exact kt h p e s m args below meth c H locs ls B R L V) (fun h => by rw [ha.1, hb.1, zi_le hb.2 ha.2, Int.not_le] at h; exact kf h p e s m args below meth c H locs ls B R L V)
theorem p_icmp_gt {a b a' b' off : Int} {tgt : Nat} (hd : decode (zcc M) pc = .ok (.if_icmp .gt off, 3)) (ht : (pc : Int) + off = (tgt : Int)) (ha : nf a a') (hb : nf b b') (kt : b' < a' → zPz g M k n tgt lv st S im Z) (kf : a' ≤ b' → zPz g M k n (pc + 3) lv st S im Z) : zPz g M k n pc lv (.int (zi b) :: .int (zi a) :: st) S im Z :=
  fun p e s m args below meth c H locs ls B R L V => lv_icmp_gt B.1 B.2.1 hd ht (fun h => by rw [ha.1, hb.1, zi_lt hb.2 ha.2] at h; exact kt h p e s m args below meth c H locs ls B R L V) (fun h => by rw [ha.1, hb.1, zi_lt hb.2 ha.2, Int.not_lt] at h; exact kf h p e s m args below meth c H locs ls B R L V)
theorem p_icmp_le {a b a' b' off : Int} {tgt : Nat} (hd : decode (zcc M) pc = .ok (.if_icmp .le off, 3)) (ht : (pc : Int) + off = (tgt : Int)) (ha : nf a a') (hb : nf b b') (kt : a' ≤ b' → zPz g M k n tgt lv st S im Z) (kf : b' < a' → zPz g M k n (pc + 3) lv st S im Z) : zPz g M k n pc lv (.int (zi b) :: .int (zi a) :: st) S im Z :=
  fun p e s m args below meth c H locs ls B R L V => lv_icmp_le B.1 B.2.1 hd ht (fun h => by rw [ha.1, hb.1, zi_le ha.2 hb.2] at h; exact kt h p e s m args below meth c H locs ls B R L V) (fun h => by rw [ha.1, hb.1, zi_le ha.2 hb.2, Int.not_le] at h; exact kf h p e s m args below meth c H locs ls B R L V)
theorem zc_0 : zc 0 := zc_of (by omega) (by omega)
theorem p_if_eq {a a' off : Int} {tgt : Nat} (hd : decode (zcc M) pc = .ok (.ifCond .eq off, 3)) (ht : (pc : Int) + off = (tgt : Int)) (ha : nf a a') (kt : a' = 0 → zPz g M k n tgt lv st S im Z) (kf : ¬ a' = 0 → zPz g M k n (pc + 3) lv st S im Z) : zPz g M k n pc lv (.int (zi a) :: st) S im Z :=
  fun p e s m args below meth c H locs ls B R L V => lv_if_eq B.1 B.2.1 hd ht (fun h => by rw [ha.1, ← zi_0, zi_eq ha.2 zc_0] at h; exact kt h p e s m args below meth c H locs ls B R L V) (fun h => by rw [ha.1, ← zi_0, zi_eq ha.2 zc_0] at h; exact kf h p e s m args below meth c H locs ls B R L V)
theorem p_if_ne {a a' off : Int} {tgt : Nat} (hd : decode (zcc M) pc = .ok (.ifCond .ne off, 3)) (ht : (pc : Int) + off = (tgt : Int)) (ha : nf a a') (kt : ¬ a' = 0 → zPz g M k n tgt lv st S im Z) (kf : a' = 0 → zPz g M k n (pc + 3) lv st S im Z) : zPz g M k n pc lv (.int (zi a) :: st) S im Z :=
  fun p e s m args below meth c H locs ls B R L V => lv_if_ne B.1 B.2.1 hd ht (fun h => by rw [ha.1, ← zi_0, zi_eq ha.2 zc_0] at h; exact kt h p e s m args below meth c H locs ls B R L V) (fun h => by rw [ha.1, ← zi_0, zi_eq ha.2 zc_0] at h; exact kf h p e s m args below meth c H locs ls B R L V)
theorem p_if_lt {a a' off : Int} {tgt : Nat} (hd : decode (zcc M) pc = .ok (.ifCond .lt off, 3)) (ht : (pc : Int) + off = (tgt : Int)) (ha : nf a a') (kt : a' < 0 → zPz g M k n tgt lv st S im Z) (kf : 0 ≤ a' → zPz g M k n (pc + 3) lv st S im Z) : zPz g M k n pc lv (.int (zi a) :: st) S im Z :=
  fun p e s m args below meth c H locs ls B R L V => lv_if_lt B.1 B.2.1 hd ht (fun h => by rw [ha.1, ← zi_0, zi_lt ha.2 zc_0] at h; exact kt h p e s m args below meth c H locs ls B R L V) (fun h => by rw [ha.1, ← zi_0, zi_lt ha.2 zc_0, Int.not_lt] at h; exact kf h p e s m args below meth c H locs ls B R L V)
theorem p_if_ge {a a' off : Int} {tgt : Nat} (hd : decode (zcc M) pc = .ok (.ifCond .ge off, 3)) (ht : (pc : Int) + off = (tgt : Int)) (ha : nf a a') (kt : 0 ≤ a' → zPz g M k n tgt lv st S im Z) (kf : a' < 0 → zPz g M k n (pc + 3) lv st S im Z) : zPz g M k n pc lv (.int (zi a) :: st) S im Z :=
  fun p e s m args below meth c H locs ls B R L V => lv_if_ge B.1 B.2.1 hd ht (fun h => by rw [ha.1, ← zi_0, zi_le zc_0 ha.2] at h; exact kt h p e s m args below meth c H locs ls B R L V) (fun h => by rw [ha.1, ← zi_0, zi_le zc_0 ha.2, Int.not_le] at h; exact kf h p e s m args below meth c H locs ls B R L V)
theorem p_if_gt {a a' off : Int} {tgt : Nat} (hd : decode (zcc M) pc = .ok (.ifCond .gt off, 3)) (ht : (pc : Int) + off = (tgt : Int)) (ha : nf a a') (kt : 0 < a' → zPz g M k n tgt lv st S im Z) (kf : a' ≤ 0 → zPz g M k n (pc + 3) lv st S im Z) : zPz g M k n pc lv (.int (zi a) :: st) S im Z :=
  fun p e s m args below meth c H locs ls B R L V => lv_if_gt B.1 B.2.1 hd ht (fun h => by rw [ha.1, ← zi_0, zi_lt zc_0 ha.2] at h; exact kt h p e s m args below meth c H locs ls B R L V) (fun h => by rw [ha.1, ← zi_0, zi_lt zc_0 ha.2, Int.not_lt] at h; exact kf h p e s m args below meth c H locs ls B R L V)
theorem p_if_le {a a' off : Int} {tgt : Nat} (hd : decode (zcc M) pc = .ok (.ifCond .le off, 3)) (ht : (pc : Int) + off = (tgt : Int)) (ha : nf a a') (kt : a' ≤ 0 → zPz g M k n tgt lv st S im Z) (kf : 0 < a' → zPz g M k n (pc + 3) lv st S im Z) : zPz g M k n pc lv (.int (zi a) :: st) S im Z :=
  fun p e s m args below meth c H locs ls B R L V => lv_if_le B.1 B.2.1 hd ht (fun h => by rw [ha.1, ← zi_0, zi_le ha.2 zc_0] at h; exact kt h p e s m args below meth c H locs ls B R L V) (fun h => by rw [ha.1, ← zi_0, zi_le ha.2 zc_0, Int.not_le] at h; exact kf h p e s m args below meth c H locs ls B R L V)
theorem p_ifnonnull {x : Nat} {off : Int} {tgt : Nat} (hd : decode (zcc M) pc = .ok (.ifnonnull off, 3)) (ht : (pc : Int) + off = (tgt : Int)) (kk : zPz g M k n tgt lv st S im Z) : zPz g M k n pc lv (.ref x :: st) S im Z :=
  fun p e s m args below meth c H locs ls B R L V => lv_ifnonnull B.1 B.2.1 hd ht (kk p e s m args below meth c H locs ls B R L V)
theorem p_ifnonnullN {off : Int} (hd : decode (zcc M) pc = .ok (.ifnonnull off, 3)) (kk : zPz g M k n (pc + 3) lv st S im Z) : zPz g M k n pc lv (.null :: st) S im Z :=
  fun p e s m args below meth c H locs ls B R L V => lv_ifnonnullN B.1 B.2.1 hd (kk p e s m args below meth c H locs ls B R L V)
theorem p_tableOut {dflt lo hi a a' : Int} {offs : Array Int} {len tgt : Nat} (hd : decode (zcc M) pc = .ok (.tableswitch dflt lo hi offs, len)) (ha : nf a a') (h : a' < lo ∨ hi < a') (ht : (pc : Int) + dflt = (tgt : Int)) (kk : zPz g M k n tgt lv st S im Z) : zPz g M k n pc lv (.int (zi a) :: st) S im Z :=
  fun p e s m args below meth c H locs ls B R L V => lv_tableOut B.1 B.2.1 hd (by rw [ha.1, zi_toInt, ha.2]; exact h) ht (kk p e s m args below meth c H locs ls B R L V)
theorem p_tableIn {dflt lo hi a a' off : Int} {offs : Array Int} {len tgt : Nat} (hd : decode (zcc M) pc = .ok (.tableswitch dflt lo hi offs, len)) (ha : nf a a') (h1 : lo ≤ a') (h2 : a' ≤ hi) (ho : offs[(a' - lo).toNat]? = some off) (ht : (pc : Int) + off = (tgt : Int)) (kk : zPz g M k n tgt lv st S im Z) : zPz g M k n pc lv (.int (zi a) :: st) S im Z :=
  fun p e s m args below meth c H locs ls B R L V => lv_tableIn B.1 B.2.1 hd (by rw [ha.1, zi_toInt, ha.2]; omega) (by rw [ha.1, zi_toInt, ha.2]; omega) (by rw [ha.1, zi_toInt, ha.2]; exact ho) ht (kk p e s m args below meth c H locs ls B R L V)
end ZR
