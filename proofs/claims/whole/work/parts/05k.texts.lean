/-! TEXTS: constant w < 9 of the class Reader, its row of bytes -/
def cB {β : Type} (v : Int32) (o : Option β) : Option β := if v.toInt8.toInt32 = v then o else none
def cC {β : Type} (v : Int32) (o : Option β) : Option β := if (v.toUInt32 % 65536).toInt32 = v then o else none
theorem cB_some {β : Type} {v : Int32} {o : Option β} {r : β} (h : cB v o = some r) : v.toInt8.toInt32 = v ∧ o = some r := by
  unfold cB at h
  split at h
  · exact ⟨by assumption, h⟩
  · cases h
theorem cC_some {β : Type} {v : Int32} {o : Option β} {r : β} (h : cC v o = some r) : (v.toUInt32 % 65536).toInt32 = v ∧ o = some r := by
  unfold cC at h
  split at h
  · exact ⟨by assumption, h⟩
  · cases h
def CtK (E : En) (y : MethodName) (cc : ByteArray) (mL : Nat) (ret : Option FieldType) (d : Nat) (av : List Value) (σ : Mm) (o : Option (Nat × Mm)) : Prop :=
  ∀ (r : Nat) (σ' : Mm), o = some (r, σ') → Met E.1 y (.code y cc mL ret :: W0) (rmH d) (va_Pc av (Wd E σ)) (va_Qr (fun u => u = σ') (fun u b t => b = kA E r ∧ Wp E u t) (AA E)) 0 0 (AA E)
def ZK (E : En) (G : Cx) (r : Nat) (σ' : Mm) : State → Prop := MQ (Gb G) (va_Qr (fun u => u = σ') (fun u b t => b = kA E r ∧ Wp E u t) (AA E)) (Ga G) (Gs G) (Gn G) (Go G) (AA E)
theorem ct_K {E : En} {y : MethodName} {cc : ByteArray} {mL : Nat} {ret : Option FieldType} {d : Nat} {av : List Value} {σ : Mm} {o : Option (Nat × Mm)} (hy : plainFor y = true) (hlen : (lg_sl av).length ≤ mL) {lv : List (Nat × Value)} (hlv : lv_args 0 av = lv) (body : ∀ G : Cx, Bx E G cc mL y.cls d ret → KR E G mL (ZK E G) o 0 lv [] σ) : CtK E y cc mL ret d av σ o := by
  subst hlv
  intro r σ' ho
  refine Met_ofWF (cc := cc) (maxL := mL) (ret := ret) hy rfl ?_
  intro p e s m args below meth c s₁ B hml hv
  obtain ⟨rfl, hP, hK, hD, hT⟩ := hv
  have hts := atoms_spec (ws := .code y cc mL ret :: W0) B.pre
  have hl := lv_entry av hlen
  rw [lg_entry_eq]
  exact body (p, e, rmH d, s, m, av.toArray, below, meth, c, 0, 0) ⟨⟨B.exec, B.bytes, hml, findClass_of_methodNamed B.named, fun w h => hts w (List.mem_cons_of_mem _ h), hK, hT, B.notSynchronized, Nat.zero_le _, Nat.zero_le _⟩, ⟨Nat.le_refl _, Nat.le_refl _⟩, B.returns⟩ s.heap [] _ r σ' ho hP hD va_S.rf hl
section KTEXT
variable {ρ : Type} {E : En} {G : Cx} {cc : ByteArray} {nL index d : Nat} {own : String} {ret : Option FieldType} {Z : ρ → Mm → State → Prop} {o : Option (ρ × Mm)} {pc : Nat} {lv : List (Nat × Value)} {st : List Value} {σ : Mm}
theorem k_ldcS (F : Fx E G cc nL RX3) {q : Nat × String} (i : Nat) (hq : stS[i]? = some q) (d : decode cc pc = .ok (.ldc q.1, 2)) (k : KR E G nL Z o (pc + 2) lv (.ref (kA E i) :: st) σ) : KR E G nL Z o pc lv st σ := fun H locs ls r σ2 ho hP hD hS hl => va_ldcS F.1 F.2.1 F.2.2.2.1 (F.2.2.2.2.2.2.1.2.1 i q hq) d (k H locs ls r σ2 ho hP hD hS hl)
theorem k_kval (F : Fx E G cc nL own) {i : Nat} (hi : i < 9) (hlink : Cond.fieldLink own index "java/lang/String" "value" "[B" ∈ W0) (d : decode cc pc = .ok (.getfield index, 3)) (k : KR E G nL Z o (pc + 3) lv (.ref (vA E i) :: st) σ) : KR E G nL Z o pc lv (.ref (kA E i) :: st) σ := fun H locs ls r σ2 ho hP hD hS hl => vk_getf F.1 F.2.1 ((F.2.2.2.2.2.2.1.2.2.1).1 i hi).2.2.1 hS F.2.2.2.1 (F.2.2.2.2.1 _ hlink) (fun _ h9 => h9) d (k H locs ls r σ2 ho hP hD hS hl)
theorem k_kcod (F : Fx E G cc nL own) {i : Nat} (hi : i < 9) (hlink : Cond.fieldLink own index "java/lang/String" "coder" "B" ∈ W0) (d : decode cc pc = .ok (.getfield index, 3)) (k : KR E G nL Z o (pc + 3) lv (.int 0 :: st) σ) : KR E G nL Z o pc lv (.ref (kA E i) :: st) σ := fun H locs ls r σ2 ho hP hD hS hl => vk_getf F.1 F.2.1 ((F.2.2.2.2.2.2.1.2.2.1).1 i hi).2.1 hS F.2.2.2.1 (F.2.2.2.2.1 _ hlink) (fun _ h9 => h9) d (k H locs ls r σ2 ho hP hD hS hl)
theorem k_comp (F : Fx E G cc nL own) (hlink : Cond.fieldLink own index "java/lang/String" "COMPACT_STRINGS" "Z" ∈ W0) (d : decode cc pc = .ok (.getstatic index, 3)) (k : KR E G nL Z o (pc + 3) lv (.int 1 :: st) σ) : KR E G nL Z o pc lv st σ := fun H locs ls r σ2 ho hP hD hS hl => va_gets F.1 F.2.1 (F.2.2.2.2.2.2.1.2.2.2.1) hS F.2.2.2.1 (F.2.2.2.2.1 _ hlink) (fun _ h9 => h9) d (k H locs ls r σ2 ho hP hD hS hl)
theorem k_sio (F : Fx E G cc nL own) (hlink : Cond.fieldLink own index "jdk/internal/util/Preconditions" "SIOOBE_FORMATTER" "Ljava/util/function/BiFunction;" ∈ W0) (d : decode cc pc = .ok (.getstatic index, 3)) (k : ∀ v : Value, (v = .null ∨ ∃ t, v = .ref t) → KR E G nL Z o (pc + 3) lv (v :: st) σ) : KR E G nL Z o pc lv st σ := fun H locs ls r σ2 ho hP hD hS hl => by
  rcases F.2.2.2.2.2.2.1.2.2.2.2 with h | ⟨t, h⟩
  · exact va_gets F.1 F.2.1 h hS F.2.2.2.1 (F.2.2.2.2.1 _ hlink) (fun _ h9 => h9) d (k _ (Or.inl rfl) H locs ls r σ2 ho hP hD hS hl)
  · exact va_gets F.1 F.2.1 h hS F.2.2.2.1 (F.2.2.2.2.1 _ hlink) (fun _ h9 => h9) d (k _ (Or.inr ⟨_, rfl⟩) H locs ls r σ2 ho hP hD hS hl)
theorem k_klen (F : Fx E G cc nL own) {i : Nat} (hi : i < 9) (d : decode cc pc = .ok (.arraylength, 1)) (k : KR E G nL Z o (pc + 1) lv (.int (Int32.ofNat (stLen.getD i 0)) :: st) σ) : KR E G nL Z o pc lv (.ref (vA E i) :: st) σ := fun H locs ls r σ2 ho hP hD hS hl => va_tlen F.1 F.2.1 ((F.2.2.2.2.2.2.1.2.2.1).1 i hi).2.2.2 hS rfl d (k H locs ls r σ2 ho hP hD hS hl)
theorem k_kld (F : Fx E G cc nL own) {i : Nat} {x : Int32} (hi : i < 9) (d : decode cc pc = .ok (.baload, 1)) (k : KR E G nL Z o (pc + 1) lv (.int ((stByt.getD i []).getD (ix x) 0) :: st) σ) : KR E G nL Z (ck x (stLen.getD i 0) o) pc lv (.int x :: .ref (vA E i) :: st) σ := fun H locs ls r σ2 ho hP hD hS hl => va_tb F.1 F.2.1 ((F.2.2.2.2.2.2.1.2.2.1).1 i hi).2.2.2 hS (ck_some ho).1 rfl d (k H locs ls r σ2 (ck_some ho).2 hP hD hS hl)
theorem k_i2c (F : Fx E G cc nL own) {x : Int32} (d : decode cc pc = .ok (.i2c, 1)) (k : KR E G nL Z o (pc + 1) lv (.int (x.toUInt32 % 65536).toInt32 :: st) σ) : KR E G nL Z o pc lv (.int x :: st) σ := fun H locs ls r σ2 ho hP hD hS hl => lv_i2c F.1 F.2.1 d rfl (k H locs ls r σ2 ho hP hD hS hl)
theorem k_bret (B : Bx E G cc nL own d (some .byte)) {x : Int32} (dd : decode cc pc = .ok (.ireturn, 1)) : KR E G nL (ZI E G) (cB x (some (x, σ))) pc lv [.int x] σ := fun H locs ls r σ2 ho hP hD hS hl => by
  obtain ⟨hb, ho⟩ := cB_some ho
  cases ho
  exact W.zret B.1.1 B.1.2.1 B.2.2 (by rw [← hb]; exact pk_nb _) (fun t ht hW => ⟨⟨_, _, rfl, ⟨rfl, rfl⟩, by rw [ht]; exact hP, hD⟩, hS.F ht⟩) hS.2.2 dd B.1.2.2.2.2.2.2.2.1
theorem k_cret (B : Bx E G cc nL own d (some .char)) {x : Int32} (dd : decode cc pc = .ok (.ireturn, 1)) : KR E G nL (ZI E G) (cC x (some (x, σ))) pc lv [.int x] σ := fun H locs ls r σ2 ho hP hD hS hl => by
  obtain ⟨hb, ho⟩ := cC_some ho
  cases ho
  exact W.zret B.1.1 B.1.2.1 B.2.2 (by rw [← hb]; exact pk_nc _) (fun t ht hW => ⟨⟨_, _, rfl, ⟨rfl, rfl⟩, by rw [ht]; exact hP, hD⟩, hS.F ht⟩) hS.2.2 dd B.1.2.2.2.2.2.2.2.1
theorem k_kret {n : String} (B : Bx E G cc nL own d (some (.object n))) {x : Nat} (dd : decode cc pc = .ok (.areturn, 1)) : KR E G nL (ZK E G) (some (x, σ)) pc lv [.ref (kA E x)] σ := fun H locs ls r σ2 ho hP hD hS hl => by
  cases ho
  exact W.aret B.1.1 B.1.2.1 B.2.2 (Or.inl ⟨_, rfl⟩) (Or.inr ⟨_, rfl⟩) (fun t ht hW => ⟨⟨_, _, rfl, rfl, rfl, by rw [ht]; exact hP, hD⟩, hS.F ht⟩) hS.2.2 dd B.1.2.2.2.2.2.2.2.1
theorem k_callSK (B : Bx E G cc nL own d ret) {y : MethodName} {bytes : ByteArray} {mL n index d2 : Nat} {ret2 : Option FieldType} {As rest st0 : List Value} {o1 : Option (Nat × Mm)} {f : Nat → Mm → Option (ρ × Mm)} (hC : CtK E y bytes mL ret2 d2 As σ o1) (M : MS y bytes mL ret2 n) (h1 : Cond.methodLink own index y ∈ W0) (hn : As.length = n) (hR : d2 + 1 ≤ d ∧ 8 + (mL + 11) + 40 * d2 ≤ 40 * d) (hst : st0 = As.reverse ++ rest) (hroom : (rest.map fun v => v.category).sum ≤ 8) (dd : decode cc pc = .ok (.invokestatic index, 3)) (kk : ∀ (r1 : Nat) (σ1 : Mm), o1 = some (r1, σ1) → KR E G nL Z (f r1 σ1) (pc + 3) lv (.ref (kA E r1) :: rest) σ1) : KR E G nL Z (bd o1 f) pc lv st0 σ := by
  intro H locs ls r σ2 ho hP hD hS hl
  obtain ⟨r1, σ1, ho1, ho2⟩ := bd_some ho
  obtain ⟨hx, hb, hml, hown, hts, hK, hT, hlk, hcl, hsl⟩ := B.1
  have hpre := preW (As := As) hP hK hD hT hS
  have cb0 : CallB (GR G) (Gs G) (Ga G) own index y bytes mL ret2 (.code y bytes mL ret2 :: W0) (rmH d2) 0 0 n := callB_of n hts (gd_code M.2.2.1) rfl rfl rfl (hts _ M.2.1) (hts _ h1) M.2.2.2 ⟨Nat.le_trans hR.1 B.2.1.1, Nat.le_trans hR.2 B.2.1.2⟩
  refine va_callr (va_runS (As := As) (rest := rest) ⟨hx, hb, hml, hown, hts⟩ (hC r1 σ1 ho1) ⟨cb0, hts _ M.1⟩ hpre rfl hn hl.1 hst (lv_room hroom) dd ⟨hcl, hsl⟩) hS (fun q _ h => h) (fun q h => h) (fun u a9 t H1 locs1 ht hvm hw hB0 hz hk hS1 => ?_)
  subst hw
  obtain ⟨rfl, hB⟩ := hB0
  exact kk _ _ ho1 H1 locs1 ls r σ2 ho2 (by rw [← ht]; exact hB.1) hB.2 hS1 hl
theorem k_callKI (B : Bx E G cc nL own d ret) {y : MethodName} {bytes : ByteArray} {mL n index d2 i : Nat} {ret2 : Option FieldType} {As rest st0 : List Value} {o1 : Option (Int32 × Mm)} {f : Int32 → Mm → Option (ρ × Mm)} (hi : i < 9) (hyc : y.cls = "java/lang/String") (hC : CtI E y bytes mL ret2 d2 (.ref (kA E i) :: As) σ o1) (M : MV y bytes mL ret2 n) (h1 : Cond.methodLink own index y ∈ W0) (hn : As.length = n) (hR : d2 + 1 ≤ d ∧ 8 + (mL + 11) + 40 * d2 ≤ 40 * d) (hst : st0 = As.reverse ++ .ref (kA E i) :: rest) (hroom : (rest.map fun v => v.category).sum ≤ 8) (dd : decode cc pc = .ok (.invokevirtual index, 3)) (kk : ∀ (r1 : Int32) (σ1 : Mm), o1 = some (r1, σ1) → KR E G nL Z (f r1 σ1) (pc + 3) lv (.int r1 :: rest) σ1) : KR E G nL Z (bd o1 f) pc lv st0 σ := by
  intro H locs ls r σ2 ho hP hD hS hl
  obtain ⟨r1, σ1, ho1, ho2⟩ := bd_some ho
  obtain ⟨hx, hb, hml, hown, hts, hK, hT, hlk, hcl, hsl⟩ := B.1
  have hpre := preW (As := .ref (kA E i) :: As) hP hK hD hT hS
  have hrc := vk_recv hT.2.2.1 hi hS
  rw [← hyc] at hrc
  have cb0 : CallB (GR G) (Gs G) (Ga G) own index y bytes mL ret2 (.code y bytes mL ret2 :: W0) (rmH d2) 0 0 n := callB_of n hts (gd_code M.2.2.1) rfl rfl rfl (hts _ M.2.1) (hts _ h1) M.2.2.2 ⟨Nat.le_trans hR.1 B.2.1.1, Nat.le_trans hR.2 B.2.1.2⟩
  refine va_calli (va_runV (As := As) (rest := rest) ⟨hx, hb, hml, hown, hts⟩ (hC r1 σ1 ho1) ⟨cb0, hts _ M.1.1, hts _ M.1.2⟩ ⟨hpre.1, hrc, hpre.2⟩ rfl hn hl.1 hst (lv_room hroom) dd ⟨hcl, hsl⟩) hS (fun q _ h => h) (fun q h => h) (fun r9 u t H1 locs1 ht hvm hw hB hz hk hS1 => ?_)
  obtain ⟨rfl, rfl⟩ := hw
  exact kk _ _ ho1 H1 locs1 ls r σ2 ho2 (by rw [← ht]; exact hB.1) hB.2 hS1 hl
end KTEXT
def f_J3_checkIndex_8e157 (aq0 aq1 : Int32) (σ : Mm) : Option (Int32 × Mm) := if aq0 < 0 then none else if aq0 < aq1 then some (aq0, σ) else none
abbrev H_J3_checkIndex_8e157 : Nat := 0
abbrev H_J0_checkIndex_df160 : Nat := 1
set_option maxRecDepth 100000 in
theorem t_J3_checkIndex_8e157 {E : En} {G : Cx} (B : Bx E G cJ3_checkIndex_8e157 3 RJ3 H_J3_checkIndex_8e157 (some .int)) (aq0 aq1 : Int32) (vq : Value) (σ : Mm) : KR E G 3 (ZI E G) (f_J3_checkIndex_8e157 aq0 aq1 σ) 0 [(0, .int aq0), (1, .int aq1), (2, vq)] [] σ := by
  have F := B.1
  unfold f_J3_checkIndex_8e157
  refine k_iload_n (pc := 0) F 0 0 dJ3_checkIndex_8e157_0 rfl rfl ?_
  refine k_if_lt (pc := 1) F 9 dJ3_checkIndex_8e157_1 (by decide) (fun _ => ?_) (fun _ => ?_)
  · exact k_none
  · refine k_iload_n (pc := 4) F 0 0 dJ3_checkIndex_8e157_4 rfl rfl ?_
    refine k_iload_n (pc := 5) F 1 1 dJ3_checkIndex_8e157_5 rfl rfl ?_
    refine k_icmp_lt (pc := 6) F 16 dJ3_checkIndex_8e157_6 (by decide) (fun _ => ?_) (fun _ => ?_)
    · refine k_iload_n (pc := 16) F 0 0 dJ3_checkIndex_8e157_16 rfl rfl ?_
      exact k_iret (pc := 17) B dJ3_checkIndex_8e157_17
    · exact k_none
theorem ct_J3_checkIndex_8e157 (E : En) (aq0 aq1 : Int32) (vq : Value) (hv : vq = .null ∨ ∃ t, vq = .ref t) (σ : Mm) : CtI E yJ3_checkIndex_8e157 cJ3_checkIndex_8e157 3 (some .int) H_J3_checkIndex_8e157 [.int aq0, .int aq1, vq] σ (f_J3_checkIndex_8e157 aq0 aq1 σ) := by
  rcases hv with rfl | ⟨t, rfl⟩
  · exact ct_I (by decide +kernel) (Nat.le_of_ble_eq_true rfl) rfl (fun G B => t_J3_checkIndex_8e157 B aq0 aq1 _ σ)
  · exact ct_I (by decide +kernel) (Nat.le_of_ble_eq_true rfl) rfl (fun G B => t_J3_checkIndex_8e157 B aq0 aq1 _ σ)
def f_J0_checkIndex_df160 (aq0 aq1 : Int32) (σ : Mm) : Option (Unit × Mm) := bd (f_J3_checkIndex_8e157 aq0 aq1 σ) (fun _ σ1 => some ((), σ1))
set_option maxRecDepth 100000 in
theorem t_J0_checkIndex_df160 {E : En} {G : Cx} (B : Bx E G cJ0_checkIndex_df160 2 RJ0 H_J0_checkIndex_df160 none) (aq0 aq1 : Int32) (σ : Mm) : KR E G 2 (ZV E G) (f_J0_checkIndex_df160 aq0 aq1 σ) 0 [(0, .int aq0), (1, .int aq1)] [] σ := by
  have F := B.1
  unfold f_J0_checkIndex_df160
  refine k_iload_n (pc := 0) F 0 0 dJ0_checkIndex_df160_0 rfl rfl ?_
  refine k_iload_n (pc := 1) F 1 1 dJ0_checkIndex_df160_1 rfl rfl ?_
  refine k_sio (pc := 2) F w_2_177 dJ0_checkIndex_df160_2 (fun vq hv => ?_)
  refine k_callSI (pc := 5) B (As := [.int aq0, .int aq1, vq]) (rest := []) (ct_J3_checkIndex_8e157 E aq0 aq1 vq hv σ) ms_J3_checkIndex_8e157 w_2_179 rfl (by decide) rfl (Nat.le_of_ble_eq_true rfl) dJ0_checkIndex_df160_5 (fun rq1 σ1 _ => ?_)
  refine k_pop (pc := 8) F dJ0_checkIndex_df160_8 rfl ?_
  exact k_vret (pc := 9) B dJ0_checkIndex_df160_9
theorem ct_J0_checkIndex_df160 (E : En) (aq0 aq1 : Int32) (σ : Mm) : CtV E yJ0_checkIndex_df160 cJ0_checkIndex_df160 2 none H_J0_checkIndex_df160 [.int aq0, .int aq1] σ (f_J0_checkIndex_df160 aq0 aq1 σ) := ct_V (by decide +kernel) (Nat.le_of_ble_eq_true rfl) rfl (fun G B => t_J0_checkIndex_df160 B aq0 aq1 σ)
