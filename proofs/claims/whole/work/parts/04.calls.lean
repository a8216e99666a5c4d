/-! CONTRACTS: a method of height d, its value as a function tells it -/
def rmH (d : Nat) : Room := { frames := d, cells := 0, slots := 0, locals := 40 * d }
def CtI (E : En) (y : MethodName) (cc : ByteArray) (mL : Nat) (ret : Option FieldType) (d : Nat) (av : List Value) (σ : Mm) (o : Option (Int32 × Mm)) : Prop :=
  ∀ (r : Int32) (σ' : Mm), o = some (r, σ') → Met E.1 y (.code y cc mL ret :: W0) (rmH d) (va_Pc av (Wd E σ)) (va_Qi (fun r' u => r' = r ∧ u = σ') (Wp E) (AA E)) 0 0 (AA E)
def CtL (E : En) (y : MethodName) (cc : ByteArray) (mL : Nat) (ret : Option FieldType) (d : Nat) (av : List Value) (σ : Mm) (o : Option (Int64 × Mm)) : Prop :=
  ∀ (r : Int64) (σ' : Mm), o = some (r, σ') → Met E.1 y (.code y cc mL ret :: W0) (rmH d) (va_Pc av (Wd E σ)) (va_Ql (fun r' u => r' = r ∧ u = σ') (Wp E) (AA E)) 0 0 (AA E)
def CtV (E : En) (y : MethodName) (cc : ByteArray) (mL : Nat) (ret : Option FieldType) (d : Nat) (av : List Value) (σ : Mm) (o : Option (Unit × Mm)) : Prop :=
  ∀ (r : Unit) (σ' : Mm), o = some (r, σ') → Met E.1 y (.code y cc mL ret :: W0) (rmH d) (va_Pc av (Wd E σ)) (va_Qv (fun u => u = σ') (Wp E) (AA E)) 0 0 (AA E)
def CtR (E : En) (y : MethodName) (cc : ByteArray) (mL : Nat) (ret : Option FieldType) (d : Nat) (av : List Value) (σ : Mm) (o : Option (Nat × Mm)) : Prop :=
  ∀ (r : Nat) (σ' : Mm), o = some (r, σ') → Met E.1 y (.code y cc mL ret :: W0) (rmH d) (va_Pc av (Wd E σ)) (va_Qr (fun u => u = σ') (fun u a t => a = r ∧ Wp E u t) (AA E)) 0 0 (AA E)
def ZI (E : En) (G : Cx) (r : Int32) (σ' : Mm) : State → Prop := MQ (Gb G) (va_Qi (fun r' u => r' = r ∧ u = σ') (Wp E) (AA E)) (Ga G) (Gs G) (Gn G) (Go G) (AA E)
def ZL (E : En) (G : Cx) (r : Int64) (σ' : Mm) : State → Prop := MQ (Gb G) (va_Ql (fun r' u => r' = r ∧ u = σ') (Wp E) (AA E)) (Ga G) (Gs G) (Gn G) (Go G) (AA E)
def ZV (E : En) (G : Cx) (_ : Unit) (σ' : Mm) : State → Prop := MQ (Gb G) (va_Qv (fun u => u = σ') (Wp E) (AA E)) (Ga G) (Gs G) (Gn G) (Go G) (AA E)
def ZR (E : En) (G : Cx) (r : Nat) (σ' : Mm) : State → Prop := MQ (Gb G) (va_Qr (fun u => u = σ') (fun u a t => a = r ∧ Wp E u t) (AA E)) (Ga G) (Gs G) (Gn G) (Go G) (AA E)
def Bx (E : En) (G : Cx) (cc : ByteArray) (nL : Nat) (own : String) (d : Nat) (ret : Option FieldType) : Prop :=
  Fx E G cc nL own ∧ (d ≤ (GR G).frames ∧ 40 * d ≤ (GR G).locals) ∧ (Gh G).sig.returnType = ret
/-- the words of a method that is called, static or not -/
def MS (y : MethodName) (bytes : ByteArray) (mL : Nat) (ret : Option FieldType) (n : Nat) : Prop :=
  Cond.static y ∈ W0 ∧ Cond.initialized y.cls ∈ W0 ∧ Cond.code y bytes mL ret ∈ W0 ∧ y.cls ≠ "java/lang/invoke/MethodHandle" ∧ y.cls ≠ "java/lang/invoke/VarHandle" ∧ (parseMethodDescriptor y.desc).map (fun d => d.parameters.length) = some n
def MV (y : MethodName) (bytes : ByteArray) (mL : Nat) (ret : Option FieldType) (n : Nat) : Prop :=
  (Cond.instanceMethod y ∈ W0 ∧ Cond.selects y.cls y y ∈ W0) ∧ Cond.initialized y.cls ∈ W0 ∧ Cond.code y bytes mL ret ∈ W0 ∧ y.cls ≠ "java/lang/invoke/MethodHandle" ∧ y.cls ≠ "java/lang/invoke/VarHandle" ∧ (parseMethodDescriptor y.desc).map (fun d => d.parameters.length) = some n
theorem Met_ofWF {l : Launch} {y : MethodName} {ws ws' : List Cond} {rm : Room} {Pc : Array Value → State → Prop} {Qc : Array Value → State → Outcome → State → Prop} {mc ms : Nat} {free : Addr → Prop} {cc : ByteArray} {maxL : Nat} {ret : Option FieldType}
    (hy : plainFor y = true) (hw : ws = Cond.code y cc maxL ret :: ws')
    (body : ∀ p e s m args below meth c s₁, BodyLoose p l y (headSpec ws rm) cc maxL ret e s m args below meth c s₁ → c.maxLocals = maxL → Pc args s →
      W p l e (headSpec ws rm).room s m args below meth c s.heap [] 0 0 (MQ below Qc args s mc ms free) (entryFrame m args maxL)) : Met l y ws rm Pc Qc mc ms free := by
  refine MetFree.of_bodySF (code := cc) (maxLocals := maxL) (ret := ret) hy ?_ ?_
  · intro args s m h hn
    obtain ⟨meth, c, h1, h2, h3, h4, h5, h6, -, -⟩ := Cond.code_spec hn (atoms_spec (ws := ws) h _ (by rw [hw]; exact List.mem_cons_self))
    exact ⟨meth, c, h1, h2, h3, h4, h5, h6⟩
  · intro p e s m args below meth c s₁ B hml hP _
    have hh0 : s₁.heap = s.heap := by rw [B.state]; rfl
    obtain ⟨t, a1, o, b1, b2, b3⟩ := body p e s m args below meth c s₁ B hml hP s₁ hh0 (Stand.of_body B)
    exact ⟨t, o, a1, b1, b2, ⟨b3.1, b3.2⟩⟩
theorem gd_code {y : MethodName} {bytes : ByteArray} {mL : Nat} {ret : Option FieldType} (h : Cond.code y bytes mL ret ∈ W0) : GoodIn W0 (.code y bytes mL ret :: W0) := fun w hw => by
  rcases List.mem_cons.mp hw with rfl | hw
  · exact ⟨h, W0_good h⟩
  · exact ⟨hw, W0_good hw⟩
theorem ct_I {E : En} {y : MethodName} {cc : ByteArray} {mL : Nat} {ret : Option FieldType} {d : Nat} {av : List Value} {σ : Mm} {o : Option (Int32 × Mm)} (hy : plainFor y = true) (hlen : (lg_sl av).length ≤ mL) {lv : List (Nat × Value)} (hlv : lv_args 0 av = lv) (body : ∀ G : Cx, Bx E G cc mL y.cls d ret → KR E G mL (ZI E G) o 0 lv [] σ) : CtI E y cc mL ret d av σ o := by
  subst hlv
  intro r σ' ho
  refine Met_ofWF (cc := cc) (maxL := mL) (ret := ret) hy rfl ?_
  intro p e s m args below meth c s₁ B hml hv
  obtain ⟨rfl, hP, hK, hD, hT⟩ := hv
  have hts := atoms_spec (ws := .code y cc mL ret :: W0) B.pre
  have hl := lv_entry av hlen
  rw [lg_entry_eq]
  exact body (p, e, rmH d, s, m, av.toArray, below, meth, c, 0, 0) ⟨⟨B.exec, B.bytes, hml, findClass_of_methodNamed B.named, fun w h => hts w (List.mem_cons_of_mem _ h), hK, hT, B.notSynchronized, Nat.zero_le _, Nat.zero_le _⟩, ⟨Nat.le_refl _, Nat.le_refl _⟩, B.returns⟩ s.heap [] _ r σ' ho hP hD va_S.rf hl
theorem ct_L {E : En} {y : MethodName} {cc : ByteArray} {mL : Nat} {ret : Option FieldType} {d : Nat} {av : List Value} {σ : Mm} {o : Option (Int64 × Mm)} (hy : plainFor y = true) (hlen : (lg_sl av).length ≤ mL) {lv : List (Nat × Value)} (hlv : lv_args 0 av = lv) (body : ∀ G : Cx, Bx E G cc mL y.cls d ret → KR E G mL (ZL E G) o 0 lv [] σ) : CtL E y cc mL ret d av σ o := by
  subst hlv
  intro r σ' ho
  refine Met_ofWF (cc := cc) (maxL := mL) (ret := ret) hy rfl ?_
  intro p e s m args below meth c s₁ B hml hv
  obtain ⟨rfl, hP, hK, hD, hT⟩ := hv
  have hts := atoms_spec (ws := .code y cc mL ret :: W0) B.pre
  have hl := lv_entry av hlen
  rw [lg_entry_eq]
  exact body (p, e, rmH d, s, m, av.toArray, below, meth, c, 0, 0) ⟨⟨B.exec, B.bytes, hml, findClass_of_methodNamed B.named, fun w h => hts w (List.mem_cons_of_mem _ h), hK, hT, B.notSynchronized, Nat.zero_le _, Nat.zero_le _⟩, ⟨Nat.le_refl _, Nat.le_refl _⟩, B.returns⟩ s.heap [] _ r σ' ho hP hD va_S.rf hl
theorem ct_V {E : En} {y : MethodName} {cc : ByteArray} {mL : Nat} {ret : Option FieldType} {d : Nat} {av : List Value} {σ : Mm} {o : Option (Unit × Mm)} (hy : plainFor y = true) (hlen : (lg_sl av).length ≤ mL) {lv : List (Nat × Value)} (hlv : lv_args 0 av = lv) (body : ∀ G : Cx, Bx E G cc mL y.cls d ret → KR E G mL (ZV E G) o 0 lv [] σ) : CtV E y cc mL ret d av σ o := by
  subst hlv
  intro r σ' ho
  refine Met_ofWF (cc := cc) (maxL := mL) (ret := ret) hy rfl ?_
  intro p e s m args below meth c s₁ B hml hv
  obtain ⟨rfl, hP, hK, hD, hT⟩ := hv
  have hts := atoms_spec (ws := .code y cc mL ret :: W0) B.pre
  have hl := lv_entry av hlen
  rw [lg_entry_eq]
  exact body (p, e, rmH d, s, m, av.toArray, below, meth, c, 0, 0) ⟨⟨B.exec, B.bytes, hml, findClass_of_methodNamed B.named, fun w h => hts w (List.mem_cons_of_mem _ h), hK, hT, B.notSynchronized, Nat.zero_le _, Nat.zero_le _⟩, ⟨Nat.le_refl _, Nat.le_refl _⟩, B.returns⟩ s.heap [] _ r σ' ho hP hD va_S.rf hl
theorem ct_R {E : En} {y : MethodName} {cc : ByteArray} {mL : Nat} {ret : Option FieldType} {d : Nat} {av : List Value} {σ : Mm} {o : Option (Nat × Mm)} (hy : plainFor y = true) (hlen : (lg_sl av).length ≤ mL) {lv : List (Nat × Value)} (hlv : lv_args 0 av = lv) (body : ∀ G : Cx, Bx E G cc mL y.cls d ret → KR E G mL (ZR E G) o 0 lv [] σ) : CtR E y cc mL ret d av σ o := by
  subst hlv
  intro r σ' ho
  refine Met_ofWF (cc := cc) (maxL := mL) (ret := ret) hy rfl ?_
  intro p e s m args below meth c s₁ B hml hv
  obtain ⟨rfl, hP, hK, hD, hT⟩ := hv
  have hts := atoms_spec (ws := .code y cc mL ret :: W0) B.pre
  have hl := lv_entry av hlen
  rw [lg_entry_eq]
  exact body (p, e, rmH d, s, m, av.toArray, below, meth, c, 0, 0) ⟨⟨B.exec, B.bytes, hml, findClass_of_methodNamed B.named, fun w h => hts w (List.mem_cons_of_mem _ h), hK, hT, B.notSynchronized, Nat.zero_le _, Nat.zero_le _⟩, ⟨Nat.le_refl _, Nat.le_refl _⟩, B.returns⟩ s.heap [] _ r σ' ho hP hD va_S.rf hl
def CtU (E : En) (y : MethodName) (cc : ByteArray) (mL : Nat) (ret : Option FieldType) (d : Nat) (av : List Value) (σ : Mm) (a : Nat) (o : Option (Unit × Mm)) : Prop :=
  ∀ (r : Unit) (σ' : Mm), o = some (r, σ') → Met E.1 y (.code y cc mL ret :: W0) (rmH d) (va_Pc av (Wd E σ)) (va_Qr (fun u => u = σ') (fun u b t => b = a ∧ Wp E u t) (AA E)) 0 0 (AA E)
def ZU (E : En) (G : Cx) (a : Nat) (_ : Unit) (σ' : Mm) : State → Prop := MQ (Gb G) (va_Qr (fun u => u = σ') (fun u b t => b = a ∧ Wp E u t) (AA E)) (Ga G) (Gs G) (Gn G) (Go G) (AA E)
theorem ct_U {E : En} {y : MethodName} {cc : ByteArray} {mL : Nat} {ret : Option FieldType} {d a : Nat} {av : List Value} {σ : Mm} {o : Option (Unit × Mm)} (hy : plainFor y = true) (hlen : (lg_sl av).length ≤ mL) {lv : List (Nat × Value)} (hlv : lv_args 0 av = lv) (body : ∀ G : Cx, Bx E G cc mL y.cls d ret → KR E G mL (ZU E G a) o 0 lv [] σ) : CtU E y cc mL ret d av σ a o := by
  subst hlv
  intro r σ' ho
  refine Met_ofWF (cc := cc) (maxL := mL) (ret := ret) hy rfl ?_
  intro p e s m args below meth c s₁ B hml hv
  obtain ⟨rfl, hP, hK, hD, hT⟩ := hv
  have hts := atoms_spec (ws := .code y cc mL ret :: W0) B.pre
  have hl := lv_entry av hlen
  rw [lg_entry_eq]
  exact body (p, e, rmH d, s, m, av.toArray, below, meth, c, 0, 0) ⟨⟨B.exec, B.bytes, hml, findClass_of_methodNamed B.named, fun w h => hts w (List.mem_cons_of_mem _ h), hK, hT, B.notSynchronized, Nat.zero_le _, Nat.zero_le _⟩, ⟨Nat.le_refl _, Nat.le_refl _⟩, B.returns⟩ s.heap [] _ r σ' ho hP hD va_S.rf hl
theorem rec_h {dr d mL hb d2 : Nat} (hd : dr + 1 ≤ d ∧ hb ≤ dr) (h : d2 + 1 ≤ hb ∧ 8 + (mL + 11) + 40 * d2 ≤ 40 * hb) : d2 + 1 ≤ d ∧ 8 + (mL + 11) + 40 * d2 ≤ 40 * d := by omega
section KCALLS
variable {ρ : Type} {E : En} {G : Cx} {cc : ByteArray} {nL d : Nat} {own : String} {ret : Option FieldType} {Z : ρ → Mm → State → Prop} {pc : Nat} {lv : List (Nat × Value)} {σ : Mm}
theorem k_iret (B : Bx E G cc nL own d (some .int)) {x : Int32} (dd : decode cc pc = .ok (.ireturn, 1)) : KR E G nL (ZI E G) (some (x, σ)) pc lv [.int x] σ := fun H locs ls r σ2 ho hP hD hS hl => by
  cases ho
  exact W.iret B.1.1 B.1.2.1 B.2.2 (fun t ht hW => ⟨⟨_, _, rfl, ⟨rfl, rfl⟩, by rw [ht]; exact hP, hD⟩, hS.F ht⟩) hS.2.2 dd B.1.2.2.2.2.2.2.2.1
theorem k_zret (B : Bx E G cc nL own d (some .boolean)) {x : Int32} (dd : decode cc pc = .ok (.ireturn, 1)) : KR E G nL (ZI E G) (cb x (some (x, σ))) pc lv [.int x] σ := fun H locs ls r σ2 ho hP hD hS hl => by
  obtain ⟨hb, ho⟩ := cb_some ho
  cases ho
  exact W.zret B.1.1 B.1.2.1 B.2.2 (nar_b hb) (fun t ht hW => ⟨⟨_, _, rfl, ⟨rfl, rfl⟩, by rw [ht]; exact hP, hD⟩, hS.F ht⟩) hS.2.2 dd B.1.2.2.2.2.2.2.2.1
theorem k_lret (B : Bx E G cc nL own d (some .long)) {x : Int64} (dd : decode cc pc = .ok (.lreturn, 1)) : KR E G nL (ZL E G) (some (x, σ)) pc lv [.long x] σ := fun H locs ls r σ2 ho hP hD hS hl => by
  cases ho
  exact W.lret B.1.1 B.1.2.1 B.2.2 (fun t ht hW => ⟨⟨_, _, rfl, ⟨rfl, rfl⟩, by rw [ht]; exact hP, hD⟩, hS.F ht⟩) hS.2.2 dd B.1.2.2.2.2.2.2.2.1
theorem k_vret (B : Bx E G cc nL own d none) (dd : decode cc pc = .ok (.return_, 1)) : KR E G nL (ZV E G) (some ((), σ)) pc lv [] σ := fun H locs ls r σ2 ho hP hD hS hl => by
  cases ho
  exact W.vret B.1.1 B.1.2.1 B.2.2 (fun t ht hW => ⟨⟨_, rfl, rfl, by rw [ht]; exact hP, hD⟩, hS.F ht⟩) hS.2.2 dd B.1.2.2.2.2.2.2.2.1
theorem k_aret {n : String} (B : Bx E G cc nL own d (some (.object n))) {x : Nat} (dd : decode cc pc = .ok (.areturn, 1)) : KR E G nL (ZR E G) (some (x, σ)) pc lv [.ref x] σ := fun H locs ls r σ2 ho hP hD hS hl => by
  cases ho
  exact W.aret B.1.1 B.1.2.1 B.2.2 (Or.inl ⟨_, rfl⟩) (Or.inr ⟨_, rfl⟩) (fun t ht hW => ⟨⟨_, _, rfl, rfl, rfl, by rw [ht]; exact hP, hD⟩, hS.F ht⟩) hS.2.2 dd B.1.2.2.2.2.2.2.2.1
theorem k_uret {n : String} (B : Bx E G cc nL own d (some (.object n))) {x : Nat} (dd : decode cc pc = .ok (.areturn, 1)) : KR E G nL (ZU E G x) (some ((), σ)) pc lv [.ref x] σ := fun H locs ls r σ2 ho hP hD hS hl => by
  cases ho
  exact W.aret B.1.1 B.1.2.1 B.2.2 (Or.inl ⟨_, rfl⟩) (Or.inr ⟨_, rfl⟩) (fun t ht hW => ⟨⟨_, _, rfl, rfl, rfl, by rw [ht]; exact hP, hD⟩, hS.F ht⟩) hS.2.2 dd B.1.2.2.2.2.2.2.2.1
theorem preW {s : State} {H : Heap} {locs : List Loc} {As : List Value} (hP : va_P (dD E) vwCl (wd E σ) H) (hK : va_K (dD E) vwCl (tyl E) s) (hD : va_D (AA E) (wd E σ)) (hT : Stt E s) (hS : va_S (AA E) s.heap H locs) : PreS s H (va_Pc As (Wd E σ)) As :=
  ⟨Wd_blind, fun U hU hW => ⟨rfl, by rw [hU]; exact hP, va_K.moved hW.alike hK, hD, Stt.warm hT hS hU hW⟩⟩
theorem k_callVI (B : Bx E G cc nL own d ret) {y : MethodName} {bytes : ByteArray} {mL n index d2 k ci N : Nat} {ret2 : Option FieldType} {As rest st0 : List Value} {o1 : Option (Int32 × Mm)} {f : Int32 → Mm → Option (ρ × Mm)} {T : u_T} {fs : List (Option (Option Nat))} (hC : CtI E y bytes mL ret2 d2 (.ref (ad E k) :: As) σ o1) (hL : lay[k]? = some (.inr (ci, fs))) (hci : vwCl[ci]? = some (y.cls, T, N)) (M : MV y bytes mL ret2 n) (h1 : Cond.methodLink own index y ∈ W0) (hn : As.length = n) (hR : d2 + 1 ≤ d ∧ 8 + (mL + 11) + 40 * d2 ≤ 40 * d) (hst : st0 = As.reverse ++ .ref (ad E k) :: rest) (hroom : (rest.map fun v => v.category).sum ≤ 8) (dd : decode cc pc = .ok (.invokevirtual index, 3)) (kk : ∀ (r1 : Int32) (σ1 : Mm), o1 = some (r1, σ1) → KR E G nL Z (f r1 σ1) (pc + 3) lv (.int r1 :: rest) σ1) : KR E G nL Z (bd o1 f) pc lv st0 σ := by
  intro H locs ls r σ2 ho hP hD hS hl
  obtain ⟨r1, σ1, ho1, ho2⟩ := bd_some ho
  obtain ⟨hx, hb, hml, hown, hts, hK, hT, hlk, hcl, hsl⟩ := B.1
  have hpre := preW (As := .ref (ad E k) :: As) hP hK hD hT hS
  have cb0 : CallB (GR G) (Gs G) (Ga G) own index y bytes mL ret2 (.code y bytes mL ret2 :: W0) (rmH d2) 0 0 n := callB_of n hts (gd_code M.2.2.1) rfl rfl rfl (hts _ M.2.1) (hts _ h1) M.2.2.2 ⟨Nat.le_trans hR.1 B.2.1.1, Nat.le_trans hR.2 B.2.1.2⟩
  refine va_calli (va_runV (As := As) (rest := rest) ⟨hx, hb, hml, hown, hts⟩ (hC r1 σ1 ho1) ⟨cb0, hts _ M.1.1, hts _ M.1.2⟩ ⟨hpre.1, va_recv hK hP (ci := ci) (q0 := k) hci (wd_at hL), hpre.2⟩ rfl hn hl.1 hst (lv_room hroom) dd ⟨hcl, hsl⟩) hS (fun q _ h => h) (fun q h => h) (fun r9 u t H1 locs1 ht hvm hw hB hz hk hS1 => ?_)
  obtain ⟨rfl, rfl⟩ := hw
  exact kk _ _ ho1 H1 locs1 ls r σ2 ho2 (by rw [← ht]; exact hB.1) hB.2 hS1 hl
theorem k_callSI (B : Bx E G cc nL own d ret) {y : MethodName} {bytes : ByteArray} {mL n index d2 : Nat} {ret2 : Option FieldType} {As rest st0 : List Value} {o1 : Option (Int32 × Mm)} {f : Int32 → Mm → Option (ρ × Mm)} (hC : CtI E y bytes mL ret2 d2 (As) σ o1) (M : MS y bytes mL ret2 n) (h1 : Cond.methodLink own index y ∈ W0) (hn : As.length = n) (hR : d2 + 1 ≤ d ∧ 8 + (mL + 11) + 40 * d2 ≤ 40 * d) (hst : st0 = As.reverse ++ rest) (hroom : (rest.map fun v => v.category).sum ≤ 8) (dd : decode cc pc = .ok (.invokestatic index, 3)) (kk : ∀ (r1 : Int32) (σ1 : Mm), o1 = some (r1, σ1) → KR E G nL Z (f r1 σ1) (pc + 3) lv (.int r1 :: rest) σ1) : KR E G nL Z (bd o1 f) pc lv st0 σ := by
  intro H locs ls r σ2 ho hP hD hS hl
  obtain ⟨r1, σ1, ho1, ho2⟩ := bd_some ho
  obtain ⟨hx, hb, hml, hown, hts, hK, hT, hlk, hcl, hsl⟩ := B.1
  have hpre := preW (As := As) hP hK hD hT hS
  have cb0 : CallB (GR G) (Gs G) (Ga G) own index y bytes mL ret2 (.code y bytes mL ret2 :: W0) (rmH d2) 0 0 n := callB_of n hts (gd_code M.2.2.1) rfl rfl rfl (hts _ M.2.1) (hts _ h1) M.2.2.2 ⟨Nat.le_trans hR.1 B.2.1.1, Nat.le_trans hR.2 B.2.1.2⟩
  refine va_calli (va_runS (As := As) (rest := rest) ⟨hx, hb, hml, hown, hts⟩ (hC r1 σ1 ho1) ⟨cb0, hts _ M.1⟩ hpre rfl hn hl.1 hst (lv_room hroom) dd ⟨hcl, hsl⟩) hS (fun q _ h => h) (fun q h => h) (fun r9 u t H1 locs1 ht hvm hw hB hz hk hS1 => ?_)
  obtain ⟨rfl, rfl⟩ := hw
  exact kk _ _ ho1 H1 locs1 ls r σ2 ho2 (by rw [← ht]; exact hB.1) hB.2 hS1 hl
theorem k_callVL (B : Bx E G cc nL own d ret) {y : MethodName} {bytes : ByteArray} {mL n index d2 k ci N : Nat} {ret2 : Option FieldType} {As rest st0 : List Value} {o1 : Option (Int64 × Mm)} {f : Int64 → Mm → Option (ρ × Mm)} {T : u_T} {fs : List (Option (Option Nat))} (hC : CtL E y bytes mL ret2 d2 (.ref (ad E k) :: As) σ o1) (hL : lay[k]? = some (.inr (ci, fs))) (hci : vwCl[ci]? = some (y.cls, T, N)) (M : MV y bytes mL ret2 n) (h1 : Cond.methodLink own index y ∈ W0) (hn : As.length = n) (hR : d2 + 1 ≤ d ∧ 8 + (mL + 11) + 40 * d2 ≤ 40 * d) (hst : st0 = As.reverse ++ .ref (ad E k) :: rest) (hroom : (rest.map fun v => v.category).sum ≤ 8) (dd : decode cc pc = .ok (.invokevirtual index, 3)) (kk : ∀ (r1 : Int64) (σ1 : Mm), o1 = some (r1, σ1) → KR E G nL Z (f r1 σ1) (pc + 3) lv (.long r1 :: rest) σ1) : KR E G nL Z (bd o1 f) pc lv st0 σ := by
  intro H locs ls r σ2 ho hP hD hS hl
  obtain ⟨r1, σ1, ho1, ho2⟩ := bd_some ho
  obtain ⟨hx, hb, hml, hown, hts, hK, hT, hlk, hcl, hsl⟩ := B.1
  have hpre := preW (As := .ref (ad E k) :: As) hP hK hD hT hS
  have cb0 : CallB (GR G) (Gs G) (Ga G) own index y bytes mL ret2 (.code y bytes mL ret2 :: W0) (rmH d2) 0 0 n := callB_of n hts (gd_code M.2.2.1) rfl rfl rfl (hts _ M.2.1) (hts _ h1) M.2.2.2 ⟨Nat.le_trans hR.1 B.2.1.1, Nat.le_trans hR.2 B.2.1.2⟩
  refine va_calll (va_runV (As := As) (rest := rest) ⟨hx, hb, hml, hown, hts⟩ (hC r1 σ1 ho1) ⟨cb0, hts _ M.1.1, hts _ M.1.2⟩ ⟨hpre.1, va_recv hK hP (ci := ci) (q0 := k) hci (wd_at hL), hpre.2⟩ rfl hn hl.1 hst (lv_room hroom) dd ⟨hcl, hsl⟩) hS (fun q _ h => h) (fun q h => h) (fun r9 u t H1 locs1 ht hvm hw hB hz hk hS1 => ?_)
  obtain ⟨rfl, rfl⟩ := hw
  exact kk _ _ ho1 H1 locs1 ls r σ2 ho2 (by rw [← ht]; exact hB.1) hB.2 hS1 hl
theorem k_callSL (B : Bx E G cc nL own d ret) {y : MethodName} {bytes : ByteArray} {mL n index d2 : Nat} {ret2 : Option FieldType} {As rest st0 : List Value} {o1 : Option (Int64 × Mm)} {f : Int64 → Mm → Option (ρ × Mm)} (hC : CtL E y bytes mL ret2 d2 (As) σ o1) (M : MS y bytes mL ret2 n) (h1 : Cond.methodLink own index y ∈ W0) (hn : As.length = n) (hR : d2 + 1 ≤ d ∧ 8 + (mL + 11) + 40 * d2 ≤ 40 * d) (hst : st0 = As.reverse ++ rest) (hroom : (rest.map fun v => v.category).sum ≤ 8) (dd : decode cc pc = .ok (.invokestatic index, 3)) (kk : ∀ (r1 : Int64) (σ1 : Mm), o1 = some (r1, σ1) → KR E G nL Z (f r1 σ1) (pc + 3) lv (.long r1 :: rest) σ1) : KR E G nL Z (bd o1 f) pc lv st0 σ := by
  intro H locs ls r σ2 ho hP hD hS hl
  obtain ⟨r1, σ1, ho1, ho2⟩ := bd_some ho
  obtain ⟨hx, hb, hml, hown, hts, hK, hT, hlk, hcl, hsl⟩ := B.1
  have hpre := preW (As := As) hP hK hD hT hS
  have cb0 : CallB (GR G) (Gs G) (Ga G) own index y bytes mL ret2 (.code y bytes mL ret2 :: W0) (rmH d2) 0 0 n := callB_of n hts (gd_code M.2.2.1) rfl rfl rfl (hts _ M.2.1) (hts _ h1) M.2.2.2 ⟨Nat.le_trans hR.1 B.2.1.1, Nat.le_trans hR.2 B.2.1.2⟩
  refine va_calll (va_runS (As := As) (rest := rest) ⟨hx, hb, hml, hown, hts⟩ (hC r1 σ1 ho1) ⟨cb0, hts _ M.1⟩ hpre rfl hn hl.1 hst (lv_room hroom) dd ⟨hcl, hsl⟩) hS (fun q _ h => h) (fun q h => h) (fun r9 u t H1 locs1 ht hvm hw hB hz hk hS1 => ?_)
  obtain ⟨rfl, rfl⟩ := hw
  exact kk _ _ ho1 H1 locs1 ls r σ2 ho2 (by rw [← ht]; exact hB.1) hB.2 hS1 hl
theorem k_callVV (B : Bx E G cc nL own d ret) {y : MethodName} {bytes : ByteArray} {mL n index d2 k ci N : Nat} {ret2 : Option FieldType} {As rest st0 : List Value} {o1 : Option (Unit × Mm)} {f : Unit → Mm → Option (ρ × Mm)} {T : u_T} {fs : List (Option (Option Nat))} (hC : CtV E y bytes mL ret2 d2 (.ref (ad E k) :: As) σ o1) (hL : lay[k]? = some (.inr (ci, fs))) (hci : vwCl[ci]? = some (y.cls, T, N)) (M : MV y bytes mL ret2 n) (h1 : Cond.methodLink own index y ∈ W0) (hn : As.length = n) (hR : d2 + 1 ≤ d ∧ 8 + (mL + 11) + 40 * d2 ≤ 40 * d) (hst : st0 = As.reverse ++ .ref (ad E k) :: rest) (hroom : (rest.map fun v => v.category).sum ≤ 8) (dd : decode cc pc = .ok (.invokevirtual index, 3)) (kk : ∀ (r1 : Unit) (σ1 : Mm), o1 = some (r1, σ1) → KR E G nL Z (f r1 σ1) (pc + 3) lv (rest) σ1) : KR E G nL Z (bd o1 f) pc lv st0 σ := by
  intro H locs ls r σ2 ho hP hD hS hl
  obtain ⟨r1, σ1, ho1, ho2⟩ := bd_some ho
  obtain ⟨hx, hb, hml, hown, hts, hK, hT, hlk, hcl, hsl⟩ := B.1
  have hpre := preW (As := .ref (ad E k) :: As) hP hK hD hT hS
  have cb0 : CallB (GR G) (Gs G) (Ga G) own index y bytes mL ret2 (.code y bytes mL ret2 :: W0) (rmH d2) 0 0 n := callB_of n hts (gd_code M.2.2.1) rfl rfl rfl (hts _ M.2.1) (hts _ h1) M.2.2.2 ⟨Nat.le_trans hR.1 B.2.1.1, Nat.le_trans hR.2 B.2.1.2⟩
  refine va_callv (va_runV (As := As) (rest := rest) ⟨hx, hb, hml, hown, hts⟩ (hC r1 σ1 ho1) ⟨cb0, hts _ M.1.1, hts _ M.1.2⟩ ⟨hpre.1, va_recv hK hP (ci := ci) (q0 := k) hci (wd_at hL), hpre.2⟩ rfl hn hl.1 hst (lv_room hroom) dd ⟨hcl, hsl⟩) hS (fun q _ h => h) (fun q h => h) (fun u t H1 locs1 ht hvm hw hB hz hk hS1 => ?_)
  subst hw
  exact kk _ _ ho1 H1 locs1 ls r σ2 ho2 (by rw [← ht]; exact hB.1) hB.2 hS1 hl
theorem k_callSV (B : Bx E G cc nL own d ret) {y : MethodName} {bytes : ByteArray} {mL n index d2 : Nat} {ret2 : Option FieldType} {As rest st0 : List Value} {o1 : Option (Unit × Mm)} {f : Unit → Mm → Option (ρ × Mm)} (hC : CtV E y bytes mL ret2 d2 (As) σ o1) (M : MS y bytes mL ret2 n) (h1 : Cond.methodLink own index y ∈ W0) (hn : As.length = n) (hR : d2 + 1 ≤ d ∧ 8 + (mL + 11) + 40 * d2 ≤ 40 * d) (hst : st0 = As.reverse ++ rest) (hroom : (rest.map fun v => v.category).sum ≤ 8) (dd : decode cc pc = .ok (.invokestatic index, 3)) (kk : ∀ (r1 : Unit) (σ1 : Mm), o1 = some (r1, σ1) → KR E G nL Z (f r1 σ1) (pc + 3) lv (rest) σ1) : KR E G nL Z (bd o1 f) pc lv st0 σ := by
  intro H locs ls r σ2 ho hP hD hS hl
  obtain ⟨r1, σ1, ho1, ho2⟩ := bd_some ho
  obtain ⟨hx, hb, hml, hown, hts, hK, hT, hlk, hcl, hsl⟩ := B.1
  have hpre := preW (As := As) hP hK hD hT hS
  have cb0 : CallB (GR G) (Gs G) (Ga G) own index y bytes mL ret2 (.code y bytes mL ret2 :: W0) (rmH d2) 0 0 n := callB_of n hts (gd_code M.2.2.1) rfl rfl rfl (hts _ M.2.1) (hts _ h1) M.2.2.2 ⟨Nat.le_trans hR.1 B.2.1.1, Nat.le_trans hR.2 B.2.1.2⟩
  refine va_callv (va_runS (As := As) (rest := rest) ⟨hx, hb, hml, hown, hts⟩ (hC r1 σ1 ho1) ⟨cb0, hts _ M.1⟩ hpre rfl hn hl.1 hst (lv_room hroom) dd ⟨hcl, hsl⟩) hS (fun q _ h => h) (fun q h => h) (fun u t H1 locs1 ht hvm hw hB hz hk hS1 => ?_)
  subst hw
  exact kk _ _ ho1 H1 locs1 ls r σ2 ho2 (by rw [← ht]; exact hB.1) hB.2 hS1 hl
theorem k_callVR (B : Bx E G cc nL own d ret) {y : MethodName} {bytes : ByteArray} {mL n index d2 k ci N : Nat} {ret2 : Option FieldType} {As rest st0 : List Value} {o1 : Option (Nat × Mm)} {f : Nat → Mm → Option (ρ × Mm)} {T : u_T} {fs : List (Option (Option Nat))} (hC : CtR E y bytes mL ret2 d2 (.ref (ad E k) :: As) σ o1) (hL : lay[k]? = some (.inr (ci, fs))) (hci : vwCl[ci]? = some (y.cls, T, N)) (M : MV y bytes mL ret2 n) (h1 : Cond.methodLink own index y ∈ W0) (hn : As.length = n) (hR : d2 + 1 ≤ d ∧ 8 + (mL + 11) + 40 * d2 ≤ 40 * d) (hst : st0 = As.reverse ++ .ref (ad E k) :: rest) (hroom : (rest.map fun v => v.category).sum ≤ 8) (dd : decode cc pc = .ok (.invokevirtual index, 3)) (kk : ∀ (r1 : Nat) (σ1 : Mm), o1 = some (r1, σ1) → KR E G nL Z (f r1 σ1) (pc + 3) lv (.ref r1 :: rest) σ1) : KR E G nL Z (bd o1 f) pc lv st0 σ := by
  intro H locs ls r σ2 ho hP hD hS hl
  obtain ⟨r1, σ1, ho1, ho2⟩ := bd_some ho
  obtain ⟨hx, hb, hml, hown, hts, hK, hT, hlk, hcl, hsl⟩ := B.1
  have hpre := preW (As := .ref (ad E k) :: As) hP hK hD hT hS
  have cb0 : CallB (GR G) (Gs G) (Ga G) own index y bytes mL ret2 (.code y bytes mL ret2 :: W0) (rmH d2) 0 0 n := callB_of n hts (gd_code M.2.2.1) rfl rfl rfl (hts _ M.2.1) (hts _ h1) M.2.2.2 ⟨Nat.le_trans hR.1 B.2.1.1, Nat.le_trans hR.2 B.2.1.2⟩
  refine va_callr (va_runV (As := As) (rest := rest) ⟨hx, hb, hml, hown, hts⟩ (hC r1 σ1 ho1) ⟨cb0, hts _ M.1.1, hts _ M.1.2⟩ ⟨hpre.1, va_recv hK hP (ci := ci) (q0 := k) hci (wd_at hL), hpre.2⟩ rfl hn hl.1 hst (lv_room hroom) dd ⟨hcl, hsl⟩) hS (fun q _ h => h) (fun q h => h) (fun u a9 t H1 locs1 ht hvm hw hB0 hz hk hS1 => ?_)
  subst hw
  obtain ⟨rfl, hB⟩ := hB0
  exact kk _ _ ho1 H1 locs1 ls r σ2 ho2 (by rw [← ht]; exact hB.1) hB.2 hS1 hl
theorem k_callSR (B : Bx E G cc nL own d ret) {y : MethodName} {bytes : ByteArray} {mL n index d2 : Nat} {ret2 : Option FieldType} {As rest st0 : List Value} {o1 : Option (Nat × Mm)} {f : Nat → Mm → Option (ρ × Mm)} (hC : CtR E y bytes mL ret2 d2 (As) σ o1) (M : MS y bytes mL ret2 n) (h1 : Cond.methodLink own index y ∈ W0) (hn : As.length = n) (hR : d2 + 1 ≤ d ∧ 8 + (mL + 11) + 40 * d2 ≤ 40 * d) (hst : st0 = As.reverse ++ rest) (hroom : (rest.map fun v => v.category).sum ≤ 8) (dd : decode cc pc = .ok (.invokestatic index, 3)) (kk : ∀ (r1 : Nat) (σ1 : Mm), o1 = some (r1, σ1) → KR E G nL Z (f r1 σ1) (pc + 3) lv (.ref r1 :: rest) σ1) : KR E G nL Z (bd o1 f) pc lv st0 σ := by
  intro H locs ls r σ2 ho hP hD hS hl
  obtain ⟨r1, σ1, ho1, ho2⟩ := bd_some ho
  obtain ⟨hx, hb, hml, hown, hts, hK, hT, hlk, hcl, hsl⟩ := B.1
  have hpre := preW (As := As) hP hK hD hT hS
  have cb0 : CallB (GR G) (Gs G) (Ga G) own index y bytes mL ret2 (.code y bytes mL ret2 :: W0) (rmH d2) 0 0 n := callB_of n hts (gd_code M.2.2.1) rfl rfl rfl (hts _ M.2.1) (hts _ h1) M.2.2.2 ⟨Nat.le_trans hR.1 B.2.1.1, Nat.le_trans hR.2 B.2.1.2⟩
  refine va_callr (va_runS (As := As) (rest := rest) ⟨hx, hb, hml, hown, hts⟩ (hC r1 σ1 ho1) ⟨cb0, hts _ M.1⟩ hpre rfl hn hl.1 hst (lv_room hroom) dd ⟨hcl, hsl⟩) hS (fun q _ h => h) (fun q h => h) (fun u a9 t H1 locs1 ht hvm hw hB0 hz hk hS1 => ?_)
  subst hw
  obtain ⟨rfl, hB⟩ := hB0
  exact kk _ _ ho1 H1 locs1 ls r σ2 ho2 (by rw [← ht]; exact hB.1) hB.2 hS1 hl
theorem k_callVU (B : Bx E G cc nL own d ret) {y : MethodName} {bytes : ByteArray} {mL n index d2 k ci N : Nat} {ret2 : Option FieldType} {As rest st0 : List Value} {o1 : Option (Unit × Mm)} {f : Unit → Mm → Option (ρ × Mm)} {T : u_T} {fs : List (Option (Option Nat))} {a0 : Nat} (hC : CtU E y bytes mL ret2 d2 (.ref (ad E k) :: As) σ a0 o1) (hL : lay[k]? = some (.inr (ci, fs))) (hci : vwCl[ci]? = some (y.cls, T, N)) (M : MV y bytes mL ret2 n) (h1 : Cond.methodLink own index y ∈ W0) (hn : As.length = n) (hR : d2 + 1 ≤ d ∧ 8 + (mL + 11) + 40 * d2 ≤ 40 * d) (hst : st0 = As.reverse ++ .ref (ad E k) :: rest) (hroom : (rest.map fun v => v.category).sum ≤ 8) (dd : decode cc pc = .ok (.invokevirtual index, 3)) (kk : ∀ (r1 : Unit) (σ1 : Mm), o1 = some (r1, σ1) → KR E G nL Z (f r1 σ1) (pc + 3) lv (.ref a0 :: rest) σ1) : KR E G nL Z (bd o1 f) pc lv st0 σ := by
  intro H locs ls r σ2 ho hP hD hS hl
  obtain ⟨r1, σ1, ho1, ho2⟩ := bd_some ho
  obtain ⟨hx, hb, hml, hown, hts, hK, hT, hlk, hcl, hsl⟩ := B.1
  have hpre := preW (As := .ref (ad E k) :: As) hP hK hD hT hS
  have cb0 : CallB (GR G) (Gs G) (Ga G) own index y bytes mL ret2 (.code y bytes mL ret2 :: W0) (rmH d2) 0 0 n := callB_of n hts (gd_code M.2.2.1) rfl rfl rfl (hts _ M.2.1) (hts _ h1) M.2.2.2 ⟨Nat.le_trans hR.1 B.2.1.1, Nat.le_trans hR.2 B.2.1.2⟩
  refine va_callr (va_runV (As := As) (rest := rest) ⟨hx, hb, hml, hown, hts⟩ (hC r1 σ1 ho1) ⟨cb0, hts _ M.1.1, hts _ M.1.2⟩ ⟨hpre.1, va_recv hK hP (ci := ci) (q0 := k) hci (wd_at hL), hpre.2⟩ rfl hn hl.1 hst (lv_room hroom) dd ⟨hcl, hsl⟩) hS (fun q _ h => h) (fun q h => h) (fun u a9 t H1 locs1 ht hvm hw hB0 hz hk hS1 => ?_)
  subst hw
  obtain ⟨rfl, hB⟩ := hB0
  exact kk _ _ ho1 H1 locs1 ls r σ2 ho2 (by rw [← ht]; exact hB.1) hB.2 hS1 hl
theorem k_callSU (B : Bx E G cc nL own d ret) {y : MethodName} {bytes : ByteArray} {mL n index d2 : Nat} {ret2 : Option FieldType} {As rest st0 : List Value} {o1 : Option (Unit × Mm)} {f : Unit → Mm → Option (ρ × Mm)} {a0 : Nat} (hC : CtU E y bytes mL ret2 d2 (As) σ a0 o1) (M : MS y bytes mL ret2 n) (h1 : Cond.methodLink own index y ∈ W0) (hn : As.length = n) (hR : d2 + 1 ≤ d ∧ 8 + (mL + 11) + 40 * d2 ≤ 40 * d) (hst : st0 = As.reverse ++ rest) (hroom : (rest.map fun v => v.category).sum ≤ 8) (dd : decode cc pc = .ok (.invokestatic index, 3)) (kk : ∀ (r1 : Unit) (σ1 : Mm), o1 = some (r1, σ1) → KR E G nL Z (f r1 σ1) (pc + 3) lv (.ref a0 :: rest) σ1) : KR E G nL Z (bd o1 f) pc lv st0 σ := by
  intro H locs ls r σ2 ho hP hD hS hl
  obtain ⟨r1, σ1, ho1, ho2⟩ := bd_some ho
  obtain ⟨hx, hb, hml, hown, hts, hK, hT, hlk, hcl, hsl⟩ := B.1
  have hpre := preW (As := As) hP hK hD hT hS
  have cb0 : CallB (GR G) (Gs G) (Ga G) own index y bytes mL ret2 (.code y bytes mL ret2 :: W0) (rmH d2) 0 0 n := callB_of n hts (gd_code M.2.2.1) rfl rfl rfl (hts _ M.2.1) (hts _ h1) M.2.2.2 ⟨Nat.le_trans hR.1 B.2.1.1, Nat.le_trans hR.2 B.2.1.2⟩
  refine va_callr (va_runS (As := As) (rest := rest) ⟨hx, hb, hml, hown, hts⟩ (hC r1 σ1 ho1) ⟨cb0, hts _ M.1⟩ hpre rfl hn hl.1 hst (lv_room hroom) dd ⟨hcl, hsl⟩) hS (fun q _ h => h) (fun q h => h) (fun u a9 t H1 locs1 ht hvm hw hB0 hz hk hS1 => ?_)
  subst hw
  obtain ⟨rfl, hB⟩ := hB0
  exact kk _ _ ho1 H1 locs1 ls r σ2 ho2 (by rw [← ht]; exact hB.1) hB.2 hS1 hl
end KCALLS
