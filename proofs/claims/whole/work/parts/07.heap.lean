/-! what holds throughout: the words at the law's entry, the classes, no traces, Throwable's two statics, the String constants -/
def ztys (g : zG) : List (ClassId × FieldType) := [(g.2.2.2 9, .int), (g.2.2.2 10, .byte), (g.2.2.2 11, .boolean), (g.2.2.2 12, .long), (g.2.2.2 13, .object "DepotNetwork$Network")]
/-- a String that was there before, of these signs -/
def zStrAt (g : zG) (a : Nat) (bs : List Int) : Prop := ∃ t : Nat, va_O "java/lang/String" a (fun q => zbs g ≤ q) g.2.1 g.2.1.heap ∧ va_OF "java/lang/String" "coder" "B" (.int 0) a (fun q => zbs g ≤ q) g.2.1 g.2.1.heap ∧ va_OF "java/lang/String" "value" "[B" (.ref t) a (fun q => zbs g ≤ q) g.2.1 g.2.1.heap ∧ va_T .byte t bs.length (fun j => .int (zi (bs.getD j 0))) (fun q => zbs g ≤ q) g.2.1 g.2.1.heap
def zStrs : List (String × Nat × String × List Int) := [(RX5, 82, "item", [105, 116, 101, 109]), (RX5, 88, "base", [98, 97, 115, 101]), (RX5, 90, "level", [108, 101, 118, 101, 108]), (RX5, 92, "link", [108, 105, 110, 107]), (RX5, 94, "share", [115, 104, 97, 114, 101]), (RX5, 96, "reserve", [114, 101, 115, 101, 114, 118, 101]), (RX5, 98, "rate", [114, 97, 116, 101]), (RX5, 100, "limit", [108, 105, 109, 105, 116]), (RX8, 293, "item", [105, 116, 101, 109]), (RX8, 301, "base", [98, 97, 115, 101]), (RX8, 306, "level", [108, 101, 118, 101, 108]), (RX8, 311, "link", [108, 105, 110, 107]), (RX8, 315, "share", [115, 104, 97, 114, 101]), (RX8, 320, "reserve", [114, 101, 115, 101, 114, 118, 101]), (RX8, 322, "rate", [114, 97, 116, 101]), (RX8, 324, "limit", [108, 105, 109, 105, 116])]
def zOK (g : zG) : Prop :=
  (∃ A : Array Value, ∀ w ∈ lw_tbl, w.before A g.2.1 = true) ∧ va_K g.2.2.1 vwCl (ztys g) g.2.1 ∧ g.1.stackTraces = false ∧
  vx_Zq Bundle.tN "UNASSIGNED_STACK" Bundle.steD (fun q => zbs g ≤ q) g.2.1 g.2.1.heap ∧ vx_Zq Bundle.tN "SUPPRESSED_SENTINEL" Bundle.listD (fun q => zbs g ≤ q) g.2.1 g.2.1.heap ∧
  (∀ (own : String) (k : Nat) (tx : String), Cond.stringRef own k tx ∈ lw_tbl → ∃ a, vk_R own k tx a g.2.1) ∧
  (∀ k j, k < 9 → j < zN k → ∀ i, i < zN k → j ≠ i → g.2.2.1.2 k j ≠ g.2.2.1.2 k i) ∧
  (va_Nc "java/lang/IllegalStateException" "java/lang/IllegalArgumentException" g.2.1 ∧ va_Nc "java/lang/IllegalArgumentException" "java/lang/IndexOutOfBoundsException" g.2.1 ∧ va_Nc "java/lang/IllegalStateException" "java/lang/IndexOutOfBoundsException" g.2.1) ∧
  va_Z "java/lang/String" "COMPACT_STRINGS" "Z" (.int 1) (fun q => zbs g ≤ q) g.2.1 g.2.1.heap ∧
  va_Zq "jdk/internal/util/Preconditions" "SIOOBE_FORMATTER" "Ljava/util/function/BiFunction;" (fun q => zbs g ≤ q) g.2.1 g.2.1.heap ∧
  (∀ q ∈ zStrs, ∃ a, vk_R q.1 q.2.1 q.2.2.1 a g.2.1 ∧ zStrAt g a q.2.2.2)
theorem zB.ts {g : zG} {M : zM} {p : Program} {s : State} {m : MethodId} {meth : Method} {c : Code} (G : zOK g) (B : zB g M p s m meth c) {w : Cond} (h : w ∈ lw_tbl) (hg : goodWord w = true) (a : Array Value) : w.before a s = true := by
  obtain ⟨⟨A, hA⟩, -⟩ := G
  exact word_at B.2.2.2.2.1 (good_of_word hg) (hA w h)
theorem zB.tss {g : zG} {M : zM} {p : Program} {s : State} {m : MethodId} {meth : Method} {c : Code} (G : zOK g) (B : zB g M p s m meth c) (a : Array Value) : ∀ w ∈ zTs, w.before a s = true := fun w h => B.ts G (List.mem_filter.mp h).1 (List.mem_filter.mp h).2 a
theorem zB.kn {g : zG} {M : zM} {p : Program} {s : State} {m : MethodId} {meth : Method} {c : Code} (G : zOK g) (B : zB g M p s m meth c) : va_K g.2.2.1 vwCl (ztys g) s := va_K.moved B.2.2.2.2.1.alike G.2.1
/-- entry idx of the pool of the class own is field j of class k -/
def zFL (own : String) (idx k j : Nat) : Prop := Cond.fieldLink own idx (zT k j).1 (zT k j).2.1 (zT k j).2.2.1 ∈ lw_tbl ∧ k < 9 ∧ j < zN k
section ZH
variable {g : zG} {M : zM} {k n pc : Nat} {lv lv' : List (Nat × Value)} {st : List Value} {S : zSh} {im : zIm} {Z : zEnd}
theorem p_get (G : zOK g) {idx q j a : Nat} (hf : zFL (zown M) idx q j) (hk : zkd S a = q) (hd : decode (zcc M) pc = .ok (.getfield idx, 3)) (kk : zcan (zft q j) (im a j) → zPz g M k n (pc + 3) lv (zv (zft q j) (zrf S a) (im a) j :: st) S im Z) : zPz g M k n pc lv (.ref a :: st) S im Z := by
  intro p e s m args below meth c H locs ls B R L V
  have hc := (R.2.2.2 a (by rw [hk]; have := hf.2.1; omega)).2.2
  rw [hk] at hc
  obtain ⟨⟨cell, q1, q2, q3, q4⟩, hcan⟩ := hc.1 hf.2.1
  obtain ⟨hS, hfc, kC, hkC, hkind⟩ := (B.kn G).1 q _ (zvw hf.2.1)
  obtain ⟨cf, kf, fi, f, hi, hsl⟩ := hS j hf.2.2
  refine W.getf B.1 B.2.1 B.2.2.2.1 (B.ts G hf.1 rfl args) hi (u_facts hfc hkC (u_lays (B.tss G args) (zin hf.2.1) hf.2.2) hi).1 q1 (by rw [q3]; exact fun h => by cases h) (v := zv (zft q j) (zrf S a) (im a) j) ?_ rfl rfl hd (kk (hcan j hf.2.2) p e s m args below meth c H locs ls B R L V)
  rw [hsl, q4 j hf.2.2]
theorem p_getI (G : zOK g) {idx q j a : Nat} (hf : zFL (zown M) idx q j) (ht : zft q j = 0) (hk : zkd S a = q) (hd : decode (zcc M) pc = .ok (.getfield idx, 3)) (kk : zc (im a j) → zPz g M k n (pc + 3) lv (.int (zi (im a j)) :: st) S im Z) : zPz g M k n pc lv (.ref a :: st) S im Z :=
  p_get G hf hk hd (by rw [ht]; exact kk)
theorem p_getJ (G : zOK g) {idx q j a : Nat} (hf : zFL (zown M) idx q j) (ht : zft q j = 1) (hk : zkd S a = q) (hd : decode (zcc M) pc = .ok (.getfield idx, 3)) (kk : zcl (im a j) → zPz g M k n (pc + 3) lv (.long (zl (im a j)) :: st) S im Z) : zPz g M k n pc lv (.ref a :: st) S im Z :=
  p_get G hf hk hd (by rw [ht]; exact kk)
theorem p_getR (G : zOK g) {idx q j a b : Nat} (hf : zFL (zown M) idx q j) (ht : zft q j = 2) (hk : zkd S a = q) (hr : zrf S a j = some b) (hd : decode (zcc M) pc = .ok (.getfield idx, 3)) (kk : zPz g M k n (pc + 3) lv (.ref b :: st) S im Z) : zPz g M k n pc lv (.ref a :: st) S im Z :=
  p_get G hf hk hd (by rw [ht]; intro _; show zPz g M k n (pc + 3) lv (va_rf (zrf S a j) :: st) S im Z; rw [hr]; exact kk)
/-- a field's cell set: the slots apart -/
theorem zset {g : zG} (G : zOK g) {q : Nat} (hq : q < 9) {j : Nat} (hj : j < zN q) {cell : Cell} {r r' : Nat → Option Nat} {x x' : Int → Int} {v : Value}
    (h : ∀ i, i < zN q → cell.slots[g.2.2.1.2 q i]? = some (zv (zft q i) r x i)) (hv : zv (zft q j) r' x' j = v) (ho : ∀ i, i < zN q → i ≠ j → zv (zft q i) r' x' i = zv (zft q i) r x i) :
    ∀ i, i < zN q → (cell.setSlot (g.2.2.1.2 q j) v).slots[g.2.2.1.2 q i]? = some (zv (zft q i) r' x' i) := by
  intro i hi
  have hlt : g.2.2.1.2 q j < cell.slots.size := (Array.getElem?_eq_some_iff.mp (h j hj)).1
  by_cases e : i = j
  · subst e
    show (cell.slots.setIfInBounds _ _)[_]? = _
    rw [hv]
    simp [Array.getElem?_setIfInBounds, hlt]
  · have hne := G.2.2.2.2.2.2.1 q j hq hj i hi (fun h => e h.symm)
    show (cell.slots.setIfInBounds _ _)[_]? = _
    rw [ho i hi e, ← h i hi]
    simp [Array.getElem?_setIfInBounds, hne]
/-- putfield, not final -/
theorem p_put (G : zOK g) {idx q j a : Nat} {v : Value} {S' : zSh} {im' : zIm} (hf : zFL (zown M) idx q j) (hfin : (zT q j).2.2.2 = false) (hk : zkd S a = q) (hn : narrow (zty q j) v = v) (hfit : fits (zty q j) v = true)
    (hkd : zkd S' = zkd S) (hln : zln S' = zln S) (htop : ztop S' = ztop S) (hrf : ∀ b, b ≠ a → zrf S' b = zrf S b) (him : ∀ b, b ≠ a → im' b = im b)
    (hv : zv (zft q j) (zrf S' a) (im' a) j = v) (hc : zcan (zft q j) (im' a j)) (ho : ∀ i : Nat, i < zN q → i ≠ j → zrf S' a i = zrf S a i ∧ im' a i = im a i)
    (hd : decode (zcc M) pc = .ok (.putfield idx, 3)) (kk : zPz g M k n (pc + 3) lv st S' im' Z) : zPz g M k n pc lv (v :: .ref a :: st) S im Z := by
  intro p e s m args below meth c H locs ls B R L V
  have h14 : zkd S a < 14 := by rw [hk]; have := hf.2.1; omega
  have hba := (R.2.2.2 a h14).1
  have hcl := (R.2.2.2 a h14).2.2
  rw [hk] at hcl
  obtain ⟨⟨cell, q1, q2, q3, q4⟩, hcan⟩ := hcl.1 hf.2.1
  obtain ⟨hS, hfc, kC, hkC, hkind⟩ := (B.kn G).1 q _ (zvw hf.2.1)
  obtain ⟨cf, kf, fi, f, hi, hsl⟩ := hS j hf.2.2
  have hlay := B.tss G args _ (zin hf.2.1 _ (u_in_lay hf.2.2))
  unfold u_lay at hlay
  rw [if_neg (by rw [hfin]; decide)] at hlay
  have hst := (u_facts hfc hkC (u_lays (B.tss G args) (zin hf.2.1) hf.2.2) hi).1
  have h6 := u_store hfc hkC hkind hlay hi (zty_ok hf.2.1 j hf.2.2) hn hfit
  have hzv : ∀ i : Nat, i < zN q → i ≠ j → zv (zft q i) (zrf S' a) (im' a) i = zv (zft q i) (zrf S a) (im a) i := fun i hi9 hne => by
    unfold zv; rw [(ho i hi9 hne).1, (ho i hi9 hne).2]
  refine W.putK B.1 B.2.1 (f := f) ⟨B.2.2.2.1, B.ts G hf.1 rfl args, ⟨_, _, _, hi⟩, hst⟩ (by rw [q2]; exact h6) q1 q3 (by rw [hsl]; exact k2_hasslot (q4 j hf.2.2)) rfl rfl hd fun H' e1 e2 e3 => ?_
  rw [hsl] at e1 ⊢
  refine kk p e s m args below meth c H' _ ls B (R.at e2 e3 h14 hkd hln htop hrf him ?_) (fun z hz => ?_) V
  · rw [hk]
    refine ⟨fun hq => ⟨⟨_, e1, q2, q3, zset G hq hf.2.2 q4 hv hzv⟩, fun i hi9 => ?_⟩, fun hq => absurd hf.2.1 (by omega)⟩
    by_cases e9 : i = j
    · subst e9; exact hc
    · rw [(ho i hi9 e9).2]; exact hcan i hi9
  · rcases List.mem_append.mp hz with h | h
    · exact L z h
    · rw [List.mem_singleton.mp h]; exact hba
theorem p_putI (G : zOK g) {idx q j a : Nat} {x x' : Int} (hf : zFL (zown M) idx q j) (ht : zft q j = 0) (hty : zty q j = .int) (hfin : (zT q j).2.2.2 = false) (hk : zkd S a = q) (hx : nf x x') (hd : decode (zcc M) pc = .ok (.putfield idx, 3)) (kk : zPz g M k n (pc + 3) lv st S (zst im a j x') Z) : zPz g M k n pc lv (.int (zi x) :: .ref a :: st) S im Z := by
  have e0 : zst im a j x' a = zup (im a) j x' := zsr_s
  refine p_put (im' := zst im a j x') G hf hfin hk (by rw [hty]; rfl) (by rw [hty]; rfl) rfl rfl rfl (fun _ _ => rfl) (fun b hb => zsr_n hb) ?_ ?_ (fun i _ hne => ⟨rfl, by rw [e0]; exact zup_n (by omega)⟩) hd kk
  · rw [ht, hx.1, e0]
    show Value.int (zi (zup (im a) j x' j)) = _
    rw [zup_s]
  · rw [ht, e0, zup_s]
    exact hx.2
theorem p_putJ (G : zOK g) {idx q j a : Nat} {x x' : Int} (hf : zFL (zown M) idx q j) (ht : zft q j = 1) (hty : zty q j = .long) (hfin : (zT q j).2.2.2 = false) (hk : zkd S a = q) (hx : nfl x x') (hd : decode (zcc M) pc = .ok (.putfield idx, 3)) (kk : zPz g M k n (pc + 3) lv st S (zst im a j x') Z) : zPz g M k n pc lv (.long (zl x) :: .ref a :: st) S im Z := by
  have e0 : zst im a j x' a = zup (im a) j x' := zsr_s
  refine p_put (im' := zst im a j x') G hf hfin hk (by rw [hty]; rfl) (by rw [hty]; rfl) rfl rfl rfl (fun _ _ => rfl) (fun b hb => zsr_n hb) ?_ ?_ (fun i _ hne => ⟨rfl, by rw [e0]; exact zup_n (by omega)⟩) hd kk
  · rw [ht, hx.1, e0]
    show Value.long (zl (zup (im a) j x' j)) = _
    rw [zup_s]
  · rw [ht, e0, zup_s]
    exact hx.2
theorem zsf_s {S : zSh} {a j : Nat} {v : Option Nat} : zrf (zsf S a j v) a j = v := by
  show (if a = a then (fun i => if i = j then v else zrf S a i) else zrf S a) j = v
  rw [if_pos rfl, if_pos rfl]
theorem zsf_o {S : zSh} {a b j : Nat} {v : Option Nat} (h : b ≠ a) : zrf (zsf S a j v) b = zrf S b := if_neg h
theorem zsf_p {S : zSh} {a i j : Nat} {v : Option Nat} (h : i ≠ j) : zrf (zsf S a j v) a i = zrf S a i := by
  show (if a = a then (fun i => if i = j then v else zrf S a i) else zrf S a) i = _
  rw [if_pos rfl, if_neg h]
theorem p_putR (G : zOK g) {idx q j a b : Nat} (hf : zFL (zown M) idx q j) (ht : zft q j = 2) (hfin : (zT q j).2.2.2 = false) (hk : zkd S a = q) (hn : narrow (zty q j) (.ref b) = .ref b) (hfit : fits (zty q j) (.ref b) = true) (hd : decode (zcc M) pc = .ok (.putfield idx, 3)) (kk : zPz g M k n (pc + 3) lv st (zsf S a j (some b)) im Z) : zPz g M k n pc lv (.ref b :: .ref a :: st) S im Z := by
  refine p_put (S' := zsf S a j (some b)) (im' := im) G hf hfin hk hn hfit rfl rfl rfl (fun b hb => zsf_o hb) (fun _ _ => rfl) ?_ ?_ (fun i _ hne => ⟨zsf_p hne, rfl⟩) hd kk
  · rw [ht]
    show va_rf (zrf (zsf S a j (some b)) a j) = _
    rw [zsf_s]; rfl
  · rw [ht]; exact trivial
/-- putfield of a final field, in the constructor of its class -/
theorem p_putF (G : zOK g) {idx q j a b : Nat} (hf : zFL (zown M) idx q j) (ht : zft q j = 2) (hfin : (zT q j).2.2.2 = true) (hini : zmn M = "<init>") (hdecl : (zT q j).1 = zown M) (hk : zkd S a = q) (hn : narrow (zty q j) (.ref b) = .ref b) (hfit : fits (zty q j) (.ref b) = true) (hd : decode (zcc M) pc = .ok (.putfield idx, 3)) (kk : zPz g M k n (pc + 3) lv st (zsf S a j (some b)) im Z) : zPz g M k n pc lv (.ref b :: .ref a :: st) S im Z := by
  intro p e s m args below meth c H locs ls B R L V
  have h14 : zkd S a < 14 := by rw [hk]; have := hf.2.1; omega
  have hba := (R.2.2.2 a h14).1
  have hcl := (R.2.2.2 a h14).2.2
  rw [hk] at hcl
  obtain ⟨⟨cell, q1, q2, q3, q4⟩, hcan⟩ := hcl.1 hf.2.1
  obtain ⟨hS, hfc, kC, hkC, hkind⟩ := (B.kn G).1 q _ (zvw hf.2.1)
  obtain ⟨cf, kf, fi, f, hi, hsl⟩ := hS j hf.2.2
  have hlay := B.tss G args _ (zin hf.2.1 _ (u_in_lay hf.2.2))
  unfold u_lay at hlay
  rw [if_pos hfin] at hlay
  have hst := (u_facts hfc hkC (u_lays (B.tss G args) (zin hf.2.1) hf.2.2) hi).1
  have hcf : m.cls = cf := by
    obtain ⟨_, _, c', _, _, _, -, -, hf', -, -, -, hown2, -⟩ := Cond.laysFinal_spec hlay
    have e1 : c' = cf := by have := hi.symm.trans hf'; simp at this; exact this.1.symm
    rw [hdecl] at hown2
    rw [← e1]; exact Option.some.inj (B.2.2.2.1.symm.trans hown2)
  have h6 := u_fits hfc hkC hkind (Or.inr hlay) hi (zty_ok hf.2.1 j hf.2.2) hn hfit
  refine W.putFinK B.1 B.2.1 B.2.2.2.1 (B.ts G hf.1 rfl args) hi hst hcf (B.2.2.2.2.2.2.2.2 hini) (by rw [q2]; exact h6) q1 q3 (by rw [hsl]; exact k2_hasslot (q4 j hf.2.2)) rfl rfl hd fun H' e1 e2 e3 => ?_
  rw [hsl] at e1 ⊢
  refine kk p e s m args below meth c H' _ ls B (R.at e2 e3 h14 rfl rfl rfl (fun b hb => zsf_o hb) (fun _ _ => rfl) ?_) (fun z hz => ?_) V
  · rw [hk]
    refine ⟨fun hq => ⟨⟨_, e1, q2, q3, zset G hq hf.2.2 q4 ?_ ?_⟩, hcan⟩, fun hq => absurd hf.2.1 (by omega)⟩
    · rw [ht]
      show va_rf (zrf (zsf S a j (some b)) a j) = _
      rw [zsf_s]; rfl
    · intro i _ hne
      unfold zv
      rw [zsf_p hne]
  · rcases List.mem_append.mp hz with h | h
    · exact L z h
    · rw [List.mem_singleton.mp h]; exact hba
end ZH
/-! arrays -/
theorem zarr {g : zG} {M : zM} {p : Program} {s : State} {m : MethodId} {meth : Method} {c : Code} (G : zOK g) (B : zB g M p s m meth c) (t0 : Nat) {q : Nat} {ty : FieldType} (ht : (ztys g)[t0]? = some (g.2.2.2 q, ty)) (N : Nat) (z : Nat → Value) : s.isArrayOf (arrV (g.2.2.2 q) N z) ty := ((B.kn G).2 t0 _ ht).1 N z
theorem zrow {g : zG} {S : zSh} {im : zIm} {H : Heap} (R : zRel g S im H) {a q : Nat} (hk : zkd S a = q) (h9 : 9 ≤ q) (h14 : q < 14) : zbs g ≤ a ∧ H[a]? = some (arrV (g.2.2.2 q) (zln S a) (fun j => zv (zat q) (zrf S a) (im a) j)) ∧ zln S a < 2147483648 ∧ ∀ j : Nat, j < zln S a → zcan (zat q) (im a j) := by
  obtain ⟨h1, -, h2⟩ := R.2.2.2 a (by rw [hk]; exact h14)
  rw [hk] at h2
  exact ⟨h1, h2.2 h9⟩
theorem zidx {i : Int} {n : Nat} (h0 : 0 ≤ i) (h1 : i < n) (h2 : n < 2147483648) : (zi i).toNatClampNeg < n ∧ (((zi i).toNatClampNeg : Nat) : Int) = i := by
  rw [zi_nat h0 (by omega)]
  omega
theorem zread {cA : ClassId} {n : Nat} {f : Nat → Value} {j : Nat} (h : j < n) : (arrV cA n f).slots[j]? = some (f j) := arrV_read _ _ h
section ZA
variable {g : zG} {M : zM} {k n pc : Nat} {lv lv' : List (Nat × Value)} {st : List Value} {S : zSh} {im : zIm} {Z : zEnd}
theorem p_iald (G : zOK g) {a : Nat} {i i' : Int} (hk : zkd S a = 9) (hi : nf i i') (h0 : 0 ≤ i') (h1 : i' < zln S a) (hd : decode (zcc M) pc = .ok (.iaload, 1)) (kk : zc (im a i') → zPz g M k n (pc + 1) lv (.int (zi (im a i')) :: st) S im Z) : zPz g M k n pc lv (.int (zi i) :: .ref a :: st) S im Z := by
  intro p e s m args below meth c H locs ls B R L V
  obtain ⟨-, hc, hlt, hcan⟩ := zrow R hk (by omega) (by omega)
  obtain ⟨j1, j2⟩ := zidx h0 h1 hlt
  have hcn := hcan _ j1
  rw [j2] at hcn
  rw [hi.1]
  refine W.iald B.1 B.2.1 hc (zarr G B 0 rfl _ _) (fun q => by cases q) (by rw [arrV_size]; exact zi_in h0 h1 hlt) (zread j1) rfl rfl hd ?_
  show W _ _ _ _ _ _ _ _ _ _ _ _ _ _ _ (F0 m (pc + 1) ls (.int (zi (im a ((zi i').toNatClampNeg : Nat))) :: st))
  rw [j2]
  exact kk hcn p e s m args below meth c H locs ls B R L V
theorem p_bald (G : zOK g) {a : Nat} {i i' : Int} (hk : zkd S a = 10) (hi : nf i i') (h0 : 0 ≤ i') (h1 : i' < zln S a) (hd : decode (zcc M) pc = .ok (.baload, 1)) (kk : (-128 ≤ im a i' ∧ im a i' < 128) → zPz g M k n (pc + 1) lv (.int (zi (im a i')) :: st) S im Z) : zPz g M k n pc lv (.int (zi i) :: .ref a :: st) S im Z := by
  intro p e s m args below meth c H locs ls B R L V
  obtain ⟨-, hc, hlt, hcan⟩ := zrow R hk (by omega) (by omega)
  obtain ⟨j1, j2⟩ := zidx h0 h1 hlt
  have hcn := hcan _ j1
  rw [j2] at hcn
  rw [hi.1]
  refine W.bald B.1 B.2.1 hc (zarr G B 1 rfl _ _) (fun q => by cases q) (by rw [arrV_size]; exact zi_in h0 h1 hlt) (zread j1) rfl rfl hd ?_
  show W _ _ _ _ _ _ _ _ _ _ _ _ _ _ _ (F0 m (pc + 1) ls (.int (zi (im a ((zi i').toNatClampNeg : Nat))) :: st))
  rw [j2]
  exact kk hcn p e s m args below meth c H locs ls B R L V
theorem p_zald (G : zOK g) {a : Nat} {i i' : Int} (hk : zkd S a = 11) (hi : nf i i') (h0 : 0 ≤ i') (h1 : i' < zln S a) (hd : decode (zcc M) pc = .ok (.baload, 1)) (kk : (im a i' = 0 ∨ im a i' = 1) → zPz g M k n (pc + 1) lv (.int (zi (im a i')) :: st) S im Z) : zPz g M k n pc lv (.int (zi i) :: .ref a :: st) S im Z := by
  intro p e s m args below meth c H locs ls B R L V
  obtain ⟨-, hc, hlt, hcan⟩ := zrow R hk (by omega) (by omega)
  obtain ⟨j1, j2⟩ := zidx h0 h1 hlt
  have hcn := hcan _ j1
  rw [j2] at hcn
  rw [hi.1]
  refine W.zald B.1 B.2.1 hc (zarr G B 2 rfl _ _) (fun q => by cases q) (by rw [arrV_size]; exact zi_in h0 h1 hlt) (zread j1) rfl rfl hd ?_
  show W _ _ _ _ _ _ _ _ _ _ _ _ _ _ _ (F0 m (pc + 1) ls (.int (zi (im a ((zi i').toNatClampNeg : Nat))) :: st))
  rw [j2]
  exact kk hcn p e s m args below meth c H locs ls B R L V
theorem p_lald (G : zOK g) {a : Nat} {i i' : Int} (hk : zkd S a = 12) (hi : nf i i') (h0 : 0 ≤ i') (h1 : i' < zln S a) (hd : decode (zcc M) pc = .ok (.laload, 1)) (kk : zcl (im a i') → zPz g M k n (pc + 1) lv (.long (zl (im a i')) :: st) S im Z) : zPz g M k n pc lv (.int (zi i) :: .ref a :: st) S im Z := by
  intro p e s m args below meth c H locs ls B R L V
  obtain ⟨-, hc, hlt, hcan⟩ := zrow R hk (by omega) (by omega)
  obtain ⟨j1, j2⟩ := zidx h0 h1 hlt
  have hcn := hcan _ j1
  rw [j2] at hcn
  rw [hi.1]
  refine W.lald B.1 B.2.1 hc (zarr G B 3 rfl _ _) (fun q => by cases q) (by rw [arrV_size]; exact zi_in h0 h1 hlt) (zread j1) rfl rfl hd ?_
  show W _ _ _ _ _ _ _ _ _ _ _ _ _ _ _ (F0 m (pc + 1) ls (.long (zl (im a ((zi i').toNatClampNeg : Nat))) :: st))
  rw [j2]
  exact kk hcn p e s m args below meth c H locs ls B R L V
theorem p_aald (G : zOK g) {a : Nat} {i i' : Int} (hk : zkd S a = 13) (hi : nf i i') (h0 : 0 ≤ i') (h1 : i' < zln S a) (hd : decode (zcc M) pc = .ok (.aaload, 1)) (kk : zPz g M k n (pc + 1) lv (va_rf (zrf S a i'.toNat) :: st) S im Z) : zPz g M k n pc lv (.int (zi i) :: .ref a :: st) S im Z := by
  intro p e s m args below meth c H locs ls B R L V
  obtain ⟨-, hc, hlt, hcan⟩ := zrow R hk (by omega) (by omega)
  obtain ⟨j1, j2⟩ := zidx h0 h1 hlt
  rw [hi.1]
  refine W.aald B.1 B.2.1 hc (zarr G B 4 rfl _ _) rfl (fun q => by cases q) (by rw [arrV_size]; exact zi_in h0 h1 hlt) (zread j1) rfl rfl hd ?_
  show W _ _ _ _ _ _ _ _ _ _ _ _ _ _ _ (F0 m (pc + 1) ls (va_rf (zrf S a ((zi i').toNatClampNeg)) :: st))
  rw [zi_nat h0 (by omega)]
  exact kk p e s m args below meth c H locs ls B R L V
/-- what an array's cell is behind a store -/
theorem zstore {cA : ClassId} {N j : Nat} {f f' : Nat → Value} {v : Value} (hj : j < N) (h1 : f' j = v) (h2 : ∀ i, i ≠ j → f' i = f i) : (arrV cA N f).setSlot j v = arrV cA N f' := by
  rw [arrV_store]
  congr 1
  funext i
  by_cases e : i = j
  · subst e; rw [h1]; simp [updV]
  · rw [h2 i e]; simp [updV, e]
theorem zloc {g : zG} {locs : List Loc} {a i : Nat} (L : ∀ z ∈ locs, zbs g ≤ z.base) (h : zbs g ≤ a) : ∀ z ∈ locs ++ [(⟨a, i⟩ : Loc)], zbs g ≤ z.base := fun z hz => by
  rcases List.mem_append.mp hz with h1 | h1
  · exact L z h1
  · rw [List.mem_singleton.mp h1]; exact h
theorem zRel.row {g : zG} {S : zSh} {im : zIm} {H H' : Heap} (R : zRel g S im H) {a q : Nat} {i' x' : Int} (hk : zkd S a = q) (h9 : 9 ≤ q) (h14 : q < 14) (hne : zat q ≠ 2) (h0 : 0 ≤ i') (h1 : i' < zln S a) (hx : zcan (zat q) x')
    (hz : H'.size = H.size) (ho : ∀ b : Nat, b ≠ a → H'[b]? = H[b]?) {v : Value} (hv : zv (zat q) (fun _ => none) (fun _ => x') 0 = v)
    (he : H'[a]? = some ((arrV (g.2.2.2 q) (zln S a) (fun j => zv (zat q) (zrf S a) (im a) j)).setSlot (zi i').toNatClampNeg v)) : zRel g S (zst im a i' x') H' := by
  obtain ⟨-, hc, hlt, hcan⟩ := zrow R hk h9 h14
  obtain ⟨j1, j2⟩ := zidx h0 h1 hlt
  have e0 : zst im a i' x' a = zup (im a) i' x' := zsr_s
  refine R.at hz ho (by rw [hk]; exact h14) rfl rfl rfl (fun _ _ => rfl) (fun b hb => zsr_n hb) ⟨fun h => absurd h (by rw [hk]; omega), fun _ => ?_⟩
  rw [hk, e0]
  refine ⟨?_, hlt, fun j hj => ?_⟩
  · rw [he, zstore (f' := fun j => zv (zat q) (zrf S a) (zup (im a) i' x') j) j1]
    · rw [← hv]
      unfold zv
      rw [j2, zup_s]
      split
      · rfl
      · exact absurd (by assumption) hne
      · rfl
    · intro i hi
      unfold zv
      rw [zup_n (by omega)]
  · by_cases e : (j : Int) = i'
    · rw [e, zup_s]; exact hx
    · rw [zup_n e]; exact hcan j hj
theorem p_iast (G : zOK g) {a : Nat} {i i' x x' : Int} (hk : zkd S a = 9) (hi : nf i i') (h0 : 0 ≤ i') (h1 : i' < zln S a) (hx : nf x x') (hd : decode (zcc M) pc = .ok (.iastore, 1)) (kk : zPz g M k n (pc + 1) lv st S (zst im a i' x') Z) : zPz g M k n pc lv (.int (zi x) :: .int (zi i) :: .ref a :: st) S im Z := by
  intro p e s m args below meth c H locs ls B R L V
  obtain ⟨hba, hc, hlt, hcan⟩ := zrow R hk (by omega) (by omega)
  rw [hi.1, hx.1]
  exact W.iast B.1 B.2.1 hc (zarr G B 0 rfl _ _) (fun q => by cases q) (by rw [arrV_size]; exact zi_in h0 h1 hlt) rfl rfl hd fun H' e1 e2 e3 => kk p e s m args below meth c H' _ ls B (R.row hk (by omega) (by omega) (by decide) h0 h1 hx.2 e2 e3 rfl e1) (zloc L hba) V
theorem p_last (G : zOK g) {a : Nat} {i i' x x' : Int} (hk : zkd S a = 12) (hi : nf i i') (h0 : 0 ≤ i') (h1 : i' < zln S a) (hx : nfl x x') (hd : decode (zcc M) pc = .ok (.lastore, 1)) (kk : zPz g M k n (pc + 1) lv st S (zst im a i' x') Z) : zPz g M k n pc lv (.long (zl x) :: .int (zi i) :: .ref a :: st) S im Z := by
  intro p e s m args below meth c H locs ls B R L V
  obtain ⟨hba, hc, hlt, hcan⟩ := zrow R hk (by omega) (by omega)
  rw [hi.1, hx.1]
  exact W.last B.1 B.2.1 hc (zarr G B 3 rfl _ _) (fun q => by cases q) (by rw [arrV_size]; exact zi_in h0 h1 hlt) rfl rfl hd fun H' e1 e2 e3 => kk p e s m args below meth c H' _ ls B (R.row hk (by omega) (by omega) (by decide) h0 h1 hx.2 e2 e3 rfl e1) (zloc L hba) V
theorem znb {x : Int} (h1 : -128 ≤ x) (h2 : x < 128) : narrow .byte (.int (zi x)) = .int (zi x) := by
  have e : zi x = (zi x).toInt8.toInt32 := by
    rw [zi_b (zc_of (by omega) (by omega))]
    congr 1
    exact (Int.bmod_eq_of_le (by omega) (by omega)).symm
  rw [e]; exact pk_nb _
theorem p_bast (G : zOK g) {a : Nat} {i i' x x' : Int} (hk : zkd S a = 10) (hi : nf i i') (h0 : 0 ≤ i') (h1 : i' < zln S a) (hx : nf x x') (hx1 : -128 ≤ x') (hx2 : x' < 128) (hd : decode (zcc M) pc = .ok (.bastore, 1)) (kk : zPz g M k n (pc + 1) lv st S (zst im a i' x') Z) : zPz g M k n pc lv (.int (zi x) :: .int (zi i) :: .ref a :: st) S im Z := by
  intro p e s m args below meth c H locs ls B R L V
  obtain ⟨hba, hc, hlt, hcan⟩ := zrow R hk (by omega) (by omega)
  rw [hi.1, hx.1]
  exact W.bast B.1 B.2.1 hc (zarr G B 1 rfl _ _) (fun q => by cases q) (by rw [arrV_size]; exact zi_in h0 h1 hlt) rfl rfl hd fun H' e1 e2 e3 => kk p e s m args below meth c H' _ ls B (R.row hk (by omega) (by omega) (by decide) h0 h1 ⟨hx1, hx2⟩ e2 e3 rfl (by rw [e1, znb hx1 hx2]; rfl)) (zloc L hba) V
theorem p_zast (G : zOK g) {a : Nat} {i i' : Int} (hk : zkd S a = 11) (hi : nf i i') (h0 : 0 ≤ i') (h1 : i' < zln S a) (hd : decode (zcc M) pc = .ok (.bastore, 1)) (kk : zPz g M k n (pc + 1) lv st S (zst im a i' 1) Z) : zPz g M k n pc lv (.int (zi 1) :: .int (zi i) :: .ref a :: st) S im Z := by
  intro p e s m args below meth c H locs ls B R L V
  obtain ⟨hba, hc, hlt, hcan⟩ := zrow R hk (by omega) (by omega)
  rw [hi.1]
  exact W.zast B.1 B.2.1 hc (zarr G B 2 rfl _ _) (fun q => by cases q) (by rw [arrV_size]; exact zi_in h0 h1 hlt) rfl rfl hd fun H' e1 e2 e3 => kk p e s m args below meth c H' _ ls B (R.row hk (by omega) (by omega) (by decide) h0 h1 (Or.inr rfl) e2 e3 rfl (by rw [e1]; rfl)) (zloc L hba) V
theorem p_alen (G : zOK g) {a : Nat} (hk : zkd S a = 9) (hd : decode (zcc M) pc = .ok (.arraylength, 1)) (kk : zPz g M k n (pc + 1) lv (.int (zi (zln S a)) :: st) S im Z) : zPz g M k n pc lv (.ref a :: st) S im Z := by
  intro p e s m args below meth c H locs ls B R L V
  obtain ⟨hba, hc, hlt, hcan⟩ := zrow R hk (by omega) (by omega)
  exact W.alen B.1 B.2.1 hc (zarr G B 0 rfl _ _) (n := zi (zln S a)) (by rw [arrV_size]; apply Int32.toInt_inj.mp; rw [zi_toInt, zw_of (by omega) (by omega)]; exact Int32.toInt_ofNat_of_lt (by omega)) rfl rfl hd (kk p e s m args below meth c H locs ls B R L V)
end ZA
