/-! contracts that leave the shape alone -/
def zCI (g : zG) (y : MethodName) (M : zM) (av : List Value) (S : zSh) (im : zIm) (Q : Int → zIm → Prop) : Prop := zC g y M av S im (zQI S Q) zX0
def zCV (g : zG) (y : MethodName) (M : zM) (av : List Value) (S : zSh) (im : zIm) (Q : zIm → Prop) : Prop := zC g y M av S im (zQV S Q) zX0
/-- .. and may throw -/
def zCIx (g : zG) (y : MethodName) (M : zM) (av : List Value) (S : zSh) (im : zIm) (Q : Int → zIm → Prop) (X : String → zSh → zIm → Prop) : Prop := zC g y M av S im (zQI S Q) X
def zCVx (g : zG) (y : MethodName) (M : zM) (av : List Value) (S : zSh) (im : zIm) (Q : zIm → Prop) (X : String → zSh → zIm → Prop) : Prop := zC g y M av S im (zQV S Q) X
def zPI (g : zG) (M : zM) (pc : Nat) (lv : List (Nat × Value)) (S : zSh) (im : zIm) (Q : Int → zIm → Prop) : Prop := zPz g M 0 0 pc lv [] S im (zZ g M (zQI S Q) zX0)
def zPV (g : zG) (M : zM) (pc : Nat) (lv : List (Nat × Value)) (S : zSh) (im : zIm) (Q : zIm → Prop) : Prop := zPz g M 0 0 pc lv [] S im (zZ g M (zQV S Q) zX0)
theorem zCI.mono {g : zG} {y : MethodName} {M : zM} {av : List Value} {S : zSh} {im : zIm} {Q Q' : Int → zIm → Prop} (h : zCI g y M av S im Q) (hq : ∀ r im', Q r im' → Q' r im') : zCI g y M av S im Q' :=
  zC.mono h (fun _ _ _ ⟨r, h1, h2, h3, h4⟩ => ⟨r, h1, h2, h3, hq _ _ h4⟩) (fun _ _ _ h => h)
theorem zCV.mono {g : zG} {y : MethodName} {M : zM} {av : List Value} {S : zSh} {im : zIm} {Q Q' : zIm → Prop} (h : zCV g y M av S im Q) (hq : ∀ im', Q im' → Q' im') : zCV g y M av S im Q' :=
  zC.mono h (fun _ _ _ ⟨h1, h3, h4⟩ => ⟨h1, h3, hq _ h4⟩) (fun _ _ _ h => h)
theorem zCIx.mono {g : zG} {y : MethodName} {M : zM} {av : List Value} {S : zSh} {im : zIm} {Q Q' : Int → zIm → Prop} {X X' : String → zSh → zIm → Prop} (h : zCIx g y M av S im Q X) (hq : ∀ r im', Q r im' → Q' r im') (hx : ∀ E S' im', X E S' im' → X' E S' im') : zCIx g y M av S im Q' X' :=
  zC.mono h (fun _ _ _ ⟨r, h1, h2, h3, h4⟩ => ⟨r, h1, h2, h3, hq _ _ h4⟩) hx
theorem zCVx.mono {g : zG} {y : MethodName} {M : zM} {av : List Value} {S : zSh} {im : zIm} {Q Q' : zIm → Prop} {X X' : String → zSh → zIm → Prop} (h : zCVx g y M av S im Q X) (hq : ∀ im', Q im' → Q' im') (hx : ∀ E S' im', X E S' im' → X' E S' im') : zCVx g y M av S im Q' X' :=
  zC.mono h (fun _ _ _ ⟨h1, h3, h4⟩ => ⟨h1, h3, hq _ h4⟩) hx
theorem nf_k {e : Int} (h : -2147483648 ≤ e ∧ e < 2147483648) : nf e e := nf_r (zc_of h.1 h.2)
theorem nfl_k {e : Int} (h : -9223372036854775808 ≤ e ∧ e < 9223372036854775808) : nfl e e := nfl_r (zcl_of h.1 h.2)
theorem zln_lt {S : zSh} {a n : Nat} {i : Int} (h : zln S a = n) (hi : i < (n : Int)) : i < zln S a := by rw [h]; exact hi
/-- the cells of a kind of object, by their places behind its first one: kind, length, references -/
def zShp (S : zSh) (a N : Nat) (T : Nat → Nat × Nat × (Nat → Option Nat)) : Prop := ∀ d, d < N → zkd S (a + d) = (T d).1 ∧ zln S (a + d) = (T d).2.1 ∧ ∀ j, j < 16 → zrf S (a + d) j = ((T d).2.2 j).map (fun o => a + o)
section ZD
variable {g : zG} {M : zM} {k n pc : Nat} {lv lv' : List (Nat × Value)} {st : List Value} {S : zSh} {im : zIm} {Z : zEnd} {Q : Option Value → zSh → zIm → Prop} {X : String → zSh → zIm → Prop}
theorem p_gen (kk : ∀ im1, im1 = im → zPz g M k n pc lv st S im1 Z) : zPz g M k n pc lv st S im Z := kk im rfl
theorem p_iretI {Q : Int → zIm → Prop} {x x' : Int} (hk : k ≤ (zrm M).cells) (hn : n ≤ (zrm M).slots) (hr : zret M = some .int) (hx : nf x x') (hd : decode (zcc M) pc = .ok (.ireturn, 1)) (hq : Q x' im) : zPz g M k n pc lv [.int (zi x)] S im (zZ g M (zQI S Q) X) := p_ireturn hk hn hr hx hd ⟨x', rfl, hx.2, rfl, hq⟩
theorem p_zretI {Q : Int → zIm → Prop} {x x' : Int} (hk : k ≤ (zrm M).cells) (hn : n ≤ (zrm M).slots) (hr : zret M = some .boolean) (hx : nf x x') (h01 : x' = 0 ∨ x' = 1) (hd : decode (zcc M) pc = .ok (.ireturn, 1)) (hq : Q x' im) : zPz g M k n pc lv [.int (zi x)] S im (zZ g M (zQI S Q) X) := p_zreturn hk hn hr hx h01 hd ⟨x', rfl, hx.2, rfl, hq⟩
theorem p_retV {Q : zIm → Prop} (hk : k ≤ (zrm M).cells) (hn : n ≤ (zrm M).slots) (hr : zret M = none) (hd : decode (zcc M) pc = .ok (.return_, 1)) (hq : Q im) : zPz g M k n pc lv [] S im (zZ g M (zQV S Q) X) := p_return hk hn hr hd ⟨rfl, rfl, hq⟩
/-- not caught here -/
theorem p_xout {E : String} {Q : Option Value → zSh → zIm → Prop} {X : String → zSh → zIm → Prop} (htb : ztb M = some []) (hk : k ≤ (zrm M).cells) (hn : n ≤ (zrm M).slots) (hx : X E S im) : zXz g M k n pc lv st S im E (zZ g M Q X) := by
  intro p e s m args below meth c H locs ls q ce B R L V h1 h2 h3
  exact vx_out (fun x hx9 => by rw [B.2.2.2.2.2.2.2.1 _ htb] at hx9; exact absurd hx9 (by simp [tableOf])) B.2.2.2.2.2.2.1 h1 h2 h3 (fun t ht _ => ⟨S, im, hx, by rw [ht]; exact R⟩) L hk hn
theorem p_VI (G : zOK g) {idx q np a : Nat} {y : MethodName} {M' : zM} {As rest : List Value} {Q' : Int → zIm → Prop} (hK : zKV (zown M) idx q y M' np) (hq : q < 9) (hk : zkd S a = q) (hn : As.length = np) (hst : st = As.reverse ++ .ref a :: rest) (hrs : (rest.map fun v => v.category).sum ≤ 8)
    (hR : (zrm M').frames + 1 ≤ (zrm M).frames ∧ 8 + (znL M' + 11) + (zrm M').locals ≤ (zrm M).locals) (hc : k + (zrm M').cells ≤ (zrm M).cells ∧ n + (zrm M').slots ≤ (zrm M).slots) (hd : decode (zcc M) pc = .ok (.invokevirtual idx, 3))
    (hM : zCI g y M' (.ref a :: As) S im Q') (kk : ∀ r im', zc r → Q' r im' → zPz g M (k + (zrm M').cells) (n + (zrm M').slots) (pc + 3) lv (.int (zi r) :: rest) S im' Z) : zPz g M k n pc lv st S im Z :=
  p_V G hK hq hk hn hst hrs hR hc hd hM (fun v S' im' ⟨r, h1, h2, h3, h4⟩ => by subst h1; subst h3; exact kk r im' h2 h4) (fun _ _ _ h => absurd h id)
theorem p_VV (G : zOK g) {idx q np a : Nat} {y : MethodName} {M' : zM} {As rest : List Value} {Q' : zIm → Prop} (hK : zKV (zown M) idx q y M' np) (hq : q < 9) (hk : zkd S a = q) (hn : As.length = np) (hst : st = As.reverse ++ .ref a :: rest) (hrs : (rest.map fun v => v.category).sum ≤ 8)
    (hR : (zrm M').frames + 1 ≤ (zrm M).frames ∧ 8 + (znL M' + 11) + (zrm M').locals ≤ (zrm M).locals) (hc : k + (zrm M').cells ≤ (zrm M).cells ∧ n + (zrm M').slots ≤ (zrm M).slots) (hd : decode (zcc M) pc = .ok (.invokevirtual idx, 3))
    (hM : zCV g y M' (.ref a :: As) S im Q') (kk : ∀ im', Q' im' → zPz g M (k + (zrm M').cells) (n + (zrm M').slots) (pc + 3) lv rest S im' Z) : zPz g M k n pc lv st S im Z :=
  p_V G hK hq hk hn hst hrs hR hc hd hM (fun v S' im' ⟨h1, h3, h4⟩ => by subst h1; subst h3; exact kk im' h4) (fun _ _ _ h => absurd h id)
theorem p_SI (G : zOK g) {idx np : Nat} {y : MethodName} {M' : zM} {As rest : List Value} {Q' : Int → zIm → Prop} (hK : zKS (zown M) idx y M' np) (hn : As.length = np) (hst : st = As.reverse ++ rest) (hrs : (rest.map fun v => v.category).sum ≤ 8)
    (hR : (zrm M').frames + 1 ≤ (zrm M).frames ∧ 8 + (znL M' + 11) + (zrm M').locals ≤ (zrm M).locals) (hc : k + (zrm M').cells ≤ (zrm M).cells ∧ n + (zrm M').slots ≤ (zrm M).slots) (hd : decode (zcc M) pc = .ok (.invokestatic idx, 3))
    (hM : zCI g y M' As S im Q') (kk : ∀ r im', zc r → Q' r im' → zPz g M (k + (zrm M').cells) (n + (zrm M').slots) (pc + 3) lv (.int (zi r) :: rest) S im' Z) : zPz g M k n pc lv st S im Z :=
  p_S G hK hn hst hrs hR hc hd hM (fun v S' im' ⟨r, h1, h2, h3, h4⟩ => by subst h1; subst h3; exact kk r im' h2 h4) (fun _ _ _ h => absurd h id)
theorem p_SV (G : zOK g) {idx np : Nat} {y : MethodName} {M' : zM} {As rest : List Value} {Q' : zIm → Prop} (hK : zKS (zown M) idx y M' np) (hn : As.length = np) (hst : st = As.reverse ++ rest) (hrs : (rest.map fun v => v.category).sum ≤ 8)
    (hR : (zrm M').frames + 1 ≤ (zrm M).frames ∧ 8 + (znL M' + 11) + (zrm M').locals ≤ (zrm M).locals) (hc : k + (zrm M').cells ≤ (zrm M).cells ∧ n + (zrm M').slots ≤ (zrm M).slots) (hd : decode (zcc M) pc = .ok (.invokestatic idx, 3))
    (hM : zCV g y M' As S im Q') (kk : ∀ im', Q' im' → zPz g M (k + (zrm M').cells) (n + (zrm M').slots) (pc + 3) lv rest S im' Z) : zPz g M k n pc lv st S im Z :=
  p_S G hK hn hst hrs hR hc hd hM (fun v S' im' ⟨h1, h3, h4⟩ => by subst h1; subst h3; exact kk im' h4) (fun _ _ _ h => absurd h id)
theorem p_SNI (G : zOK g) {idx np : Nat} {host : String} {y : MethodName} {M' : zM} {As rest : List Value} {Q' : Int → zIm → Prop} (hK : zKSN (zown M) idx host y M' np) (hn : As.length = np) (hst : st = As.reverse ++ rest) (hrs : (rest.map fun v => v.category).sum ≤ 8)
    (hR : (zrm M').frames + 1 ≤ (zrm M).frames ∧ 8 + (znL M' + 11) + (zrm M').locals ≤ (zrm M).locals) (hc : k + (zrm M').cells ≤ (zrm M).cells ∧ n + (zrm M').slots ≤ (zrm M).slots) (hd : decode (zcc M) pc = .ok (.invokestatic idx, 3))
    (hM : zCI g y M' As S im Q') (kk : ∀ r im', zc r → Q' r im' → zPz g M (k + (zrm M').cells) (n + (zrm M').slots) (pc + 3) lv (.int (zi r) :: rest) S im' Z) : zPz g M k n pc lv st S im Z :=
  p_SN G hK hn hst hrs hR hc hd hM (fun v S' im' ⟨r, h1, h2, h3, h4⟩ => by subst h1; subst h3; exact kk r im' h2 h4)
theorem p_SNV (G : zOK g) {idx np : Nat} {host : String} {y : MethodName} {M' : zM} {As rest : List Value} {Q' : zIm → Prop} (hK : zKSN (zown M) idx host y M' np) (hn : As.length = np) (hst : st = As.reverse ++ rest) (hrs : (rest.map fun v => v.category).sum ≤ 8)
    (hR : (zrm M').frames + 1 ≤ (zrm M).frames ∧ 8 + (znL M' + 11) + (zrm M').locals ≤ (zrm M).locals) (hc : k + (zrm M').cells ≤ (zrm M).cells ∧ n + (zrm M').slots ≤ (zrm M).slots) (hd : decode (zcc M) pc = .ok (.invokestatic idx, 3))
    (hM : zCV g y M' As S im Q') (kk : ∀ im', Q' im' → zPz g M (k + (zrm M').cells) (n + (zrm M').slots) (pc + 3) lv rest S im' Z) : zPz g M k n pc lv st S im Z :=
  p_SN G hK hn hst hrs hR hc hd hM (fun v S' im' ⟨h1, h3, h4⟩ => by subst h1; subst h3; exact kk im' h4)
/-- a callee that may throw, from a method without handlers: what it throws goes on -/
theorem p_VVx (G : zOK g) {idx q np a : Nat} {y : MethodName} {M' : zM} {As rest : List Value} {Q' : zIm → Prop} (htb : ztb M = some []) (hK : zKV (zown M) idx q y M' np) (hq : q < 9) (hk : zkd S a = q) (hn : As.length = np) (hst : st = As.reverse ++ .ref a :: rest) (hrs : (rest.map fun v => v.category).sum ≤ 8)
    (hR : (zrm M').frames + 1 ≤ (zrm M).frames ∧ 8 + (znL M' + 11) + (zrm M').locals ≤ (zrm M).locals) (hc : k + (zrm M').cells ≤ (zrm M).cells ∧ n + (zrm M').slots ≤ (zrm M).slots) (hd : decode (zcc M) pc = .ok (.invokevirtual idx, 3))
    (hM : zCVx g y M' (.ref a :: As) S im Q' X) (kk : ∀ im', Q' im' → zPz g M (k + (zrm M').cells) (n + (zrm M').slots) (pc + 3) lv rest S im' (zZ g M Q X)) : zPz g M k n pc lv st S im (zZ g M Q X) :=
  p_V G hK hq hk hn hst hrs hR hc hd hM (fun v S' im' ⟨h1, h3, h4⟩ => by subst h1; subst h3; exact kk im' h4) (fun _ _ _ h => p_xout htb hc.1 hc.2 h)
theorem p_VIx (G : zOK g) {idx q np a : Nat} {y : MethodName} {M' : zM} {As rest : List Value} {Q' : Int → zIm → Prop} (htb : ztb M = some []) (hK : zKV (zown M) idx q y M' np) (hq : q < 9) (hk : zkd S a = q) (hn : As.length = np) (hst : st = As.reverse ++ .ref a :: rest) (hrs : (rest.map fun v => v.category).sum ≤ 8)
    (hR : (zrm M').frames + 1 ≤ (zrm M).frames ∧ 8 + (znL M' + 11) + (zrm M').locals ≤ (zrm M).locals) (hc : k + (zrm M').cells ≤ (zrm M).cells ∧ n + (zrm M').slots ≤ (zrm M).slots) (hd : decode (zcc M) pc = .ok (.invokevirtual idx, 3))
    (hM : zCIx g y M' (.ref a :: As) S im Q' X) (kk : ∀ r im', zc r → Q' r im' → zPz g M (k + (zrm M').cells) (n + (zrm M').slots) (pc + 3) lv (.int (zi r) :: rest) S im' (zZ g M Q X)) : zPz g M k n pc lv st S im (zZ g M Q X) :=
  p_V G hK hq hk hn hst hrs hR hc hd hM (fun v S' im' ⟨r, h1, h2, h3, h4⟩ => by subst h1; subst h3; exact kk r im' h2 h4) (fun _ _ _ h => p_xout htb hc.1 hc.2 h)
theorem p_SVx (G : zOK g) {idx np : Nat} {y : MethodName} {M' : zM} {As rest : List Value} {Q' : zIm → Prop} (htb : ztb M = some []) (hK : zKS (zown M) idx y M' np) (hn : As.length = np) (hst : st = As.reverse ++ rest) (hrs : (rest.map fun v => v.category).sum ≤ 8)
    (hR : (zrm M').frames + 1 ≤ (zrm M).frames ∧ 8 + (znL M' + 11) + (zrm M').locals ≤ (zrm M).locals) (hc : k + (zrm M').cells ≤ (zrm M).cells ∧ n + (zrm M').slots ≤ (zrm M).slots) (hd : decode (zcc M) pc = .ok (.invokestatic idx, 3))
    (hM : zCVx g y M' As S im Q' X) (kk : ∀ im', Q' im' → zPz g M (k + (zrm M').cells) (n + (zrm M').slots) (pc + 3) lv rest S im' (zZ g M Q X)) : zPz g M k n pc lv st S im (zZ g M Q X) :=
  p_S G hK hn hst hrs hR hc hd hM (fun v S' im' ⟨h1, h3, h4⟩ => by subst h1; subst h3; exact kk im' h4) (fun _ _ _ h => p_xout htb hc.1 hc.2 h)
end ZD
