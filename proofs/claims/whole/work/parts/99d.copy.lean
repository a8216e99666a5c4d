/-! PURE: copy -/
theorem sub_toInt {z : Nat} {n : Int32} (hz : z ≤ 40) (hn' : ¬ n < nI 0) : (nI z - n).toInt = z - n.toInt := by
  have h1 := Int32.toInt_lt n
  rw [Int32.lt_iff_toInt_lt, nI_toInt (by omega)] at hn'
  rw [Int32.toInt_sub, nI_toInt (by omega), Int.bmod_def]
  split <;> omega
def rgB (z : Nat) (x n : Int32) : Bool := decide (¬ x < nI 0 ∧ ¬ n < nI 0 ∧ ¬ nI z - n < x)
theorem hasRange_eq {s z : Nat} {x n : Int32} {σ : Mm} (hz : z ≤ 40) (h1 : σ.1 s 1 = nI z) : f_X6_hasRange s x n σ = some (bI (rgB z x n), σ) := by
  unfold f_X6_hasRange f_X6_hasRange_30
  rw [h1, qi_0, qi_1, p_cb0, p_cb1]
  by_cases c1 : x < nI 0
  · rw [if_pos c1, show rgB z x n = false from decide_eq_false (fun q => q.1 c1), bI_f]
  · rw [if_neg c1]
    by_cases c2 : n < nI 0
    · rw [if_pos c2, show rgB z x n = false from decide_eq_false (fun q => q.2.1 c2), bI_f]
    · rw [if_neg c2]
      by_cases c3 : nI z < n
      · have c4 : nI z - n < x := by
          rw [Int32.lt_iff_toInt_lt, sub_toInt hz c2]
          rw [Int32.lt_iff_toInt_lt, nI_toInt (by omega)] at c1 c3
          omega
        rw [if_pos c3, show rgB z x n = false from decide_eq_false (fun q => q.2.2 c4), bI_f]
      · rw [if_neg c3]
        by_cases c4 : nI z - n < x
        · rw [if_pos c4, show rgB z x n = false from decide_eq_false (fun q => q.2.2 c4), bI_f]
        · rw [if_neg c4, show rgB z x n = true from decide_eq_true ⟨c1, c2, c4⟩, bI_t]
theorem rg_ok {z : Nat} {x n : Int32} (hz : z ≤ 40) (h : rgB z x n = true) : ∃ p m, x = nI p ∧ n = nI m ∧ p + m ≤ z := by
  obtain ⟨c1, c2, c4⟩ := of_decide_eq_true h
  rw [Int32.lt_iff_toInt_lt, sub_toInt hz c2] at c4
  rw [Int32.lt_iff_toInt_lt, nI_toInt (by omega)] at c1 c2
  refine ⟨x.toInt.toNat, n.toInt.toNat, ?_, ?_, by omega⟩
  · apply Int32.toInt_inj.mp
    rw [nI_toInt (by omega)]
    omega
  · apply Int32.toInt_inj.mp
    rw [nI_toInt (by omega)]
    omega
def cpX (A : Ob) (a p b q m : Nat) : Ob := uX A (oQ A) (oZ A) (upq (oV A) b (fun j => if q ≤ j ∧ j < q + m then oV A a (p + (j - q)) else oV A b j))
theorem cpy_n {β : Type} {p q m : Nat} (o : Option β) (h1 : p + m ≤ 40) (h2 : q + m ≤ 40) : cpy 40 40 (nI p) (nI q) (nI m) o = o := by
  unfold cpy
  have e1 : (nI p).toNatClampNeg = p := p_ix (by omega)
  have e2 : (nI q).toNatClampNeg = q := p_ix (by omega)
  have e3 : (nI m).toNatClampNeg = m := p_ix (by omega)
  refine if_neg ?_
  rintro (z | z | z | z | z)
  · exact absurd z (nI_nlt (Nat.zero_le _) (by omega))
  · exact absurd z (nI_nlt (Nat.zero_le _) (by omega))
  · exact absurd z (nI_nlt (Nat.zero_le _) (by omega))
  · omega
  · omega
theorem copy_C {A : Ob} {σ : Mm} {a b p q m : Nat} (hc : AC A σ) (ha' : a < 4) (hb' : b < 4) (h1 : p + m ≤ oZ A a) (h2 : q + m ≤ oZ A b) : AC (cpX A a p b q m) (sQ σ (41 + 2 * b) (va_cpy (σ.2 (41 + 2 * a)) (σ.2 (41 + 2 * b)) p q m)) ∧ FrC σ (sQ σ (41 + 2 * b) (va_cpy (σ.2 (41 + 2 * a)) (σ.2 (41 + 2 * b)) p q m)) := by
  have m1 : 41 + 2 * b ∈ xcL := by rcases (show b = 0 ∨ b = 1 ∨ b = 2 ∨ b = 3 by omega) with rfl | rfl | rfl | rfl <;> decide
  have hF : Fr xcL σ (sQ σ (41 + 2 * b) (va_cpy (σ.2 (41 + 2 * a)) (σ.2 (41 + 2 * b)) p q m)) := (Fr.rf _ _).sQ m1
  refine ⟨AC_X hc hc.1.2.2.2 (fun d hd => ?_) hF, FrC_of hF (by decide)⟩
  obtain ⟨g1, g2, g3⟩ := hc.2.2.2.2.2.2.1 d hd
  have ga := (hc.2.2.2.2.2.2.1 a ha').2.2
  show (sQ σ (41 + 2 * b) (va_cpy (σ.2 (41 + 2 * a)) (σ.2 (41 + 2 * b)) p q m)).1 (40 + 2 * d) 0 = nI (oQ A d) ∧ (sQ σ (41 + 2 * b) (va_cpy (σ.2 (41 + 2 * a)) (σ.2 (41 + 2 * b)) p q m)).1 (40 + 2 * d) 1 = nI (oZ A d) ∧ ∀ j, j < oZ A d → (sQ σ (41 + 2 * b) (va_cpy (σ.2 (41 + 2 * a)) (σ.2 (41 + 2 * b)) p q m)).2 (41 + 2 * d) j = upq (oV A) b (fun j => if q ≤ j ∧ j < q + m then oV A a (p + (j - q)) else oV A b j) d j
  rw [r_sQ1]
  refine ⟨g1, g2, fun j hj => ?_⟩
  by_cases c : d = b
  · rw [c, upq_s, r_sQ0]
    rw [c] at g3 hj
    show (if q ≤ j ∧ j < q + m then σ.2 (41 + 2 * a) (p + (j - q)) else σ.2 (41 + 2 * b) j) = _
    by_cases k : q ≤ j ∧ j < q + m
    · rw [if_pos k, if_pos k]; exact ga _ (by omega)
    · rw [if_neg k, if_neg k]; exact g3 j hj
  · rw [upq_n c, r_sQ2 (by omega)]; exact g3 j hj
theorem copy_M {A : Ob} {σ : Mm} {a b p q m : Nat} (hm : AM A σ) (ha' : a < 4) (hb' : b < 4) (h1 : p + m ≤ oZ A a) (h2 : q + m ≤ oZ A b) : ∃ τ, fx (fun _ _ => none) FU (f_X11_copy_L120 (fun (σ : Mm) => f_X11_copy_154 (nI b) (nI q) (nI m) σ) (nI a) (nI p) (nI b) (nI q) (nI m)) (0 : Int32) σ = some (nI m, τ) ∧ AM (cpX A a p b q m) τ ∧ FrM σ τ := by
  have ga := (hm.2.2.2.2.2.2.1 a ha').2.2
  have za := (hm.1.2.2.2 a ha').1
  have zb := (hm.1.2.2.2 b hb').1
  rw [qi_0]
  obtain ⟨τ, ⟨t1, t2⟩, e1⟩ := lqU (F := f_X11_copy_L120 (fun (σ : Mm) => f_X11_copy_154 (nI b) (nI q) (nI m) σ) (nI a) (nI p) (nI b) (nI q) (nI m)) (bot := fun _ _ => none) (fun (σ : Mm) => f_X11_copy_154 (nI b) (nI q) (nI m) σ) m (fun k τ => (∀ i, i < k → τ.2 64 i = oV A a (p + i)) ∧ Fr [64] σ τ) (by
      rintro L τ _
      unfold f_X11_copy_L120
      rw [i_le (by omega) (by omega)]) (by
      rintro L k τ hk ⟨u1, u2⟩
      unfold f_X11_copy_L120
      rw [i_nle (by omega) (by omega), qi_40, pk_mul, nI_add, nI_add, p_ck _ (by omega) (by omega), p_ck _ (by omega) (by omega), p_ix (a := k) (by omega), p_ix (a := 40 * a + p + k) (by omega), u2.r2 63 (by decide), p_nm, qi_1, nI_add, p_nm]
      refine ⟨_, ⟨fun i hi => ?_, u2.sL (by decide)⟩, rfl⟩
      by_cases c : i = k
      · rw [c, r_sL0, show 40 * a + p + k = 40 * a + (p + k) by omega]; exact ga _ (by omega)
      · rw [r_sLj c]; exact u1 i (by omega)) FU 0 σ (by omega) (by rw [FU_v]; omega) ⟨fun i hi => by omega, Fr.rf _ _⟩
  rw [e1]
  show ∃ υ, f_X11_copy_154 (nI b) (nI q) (nI m) τ = some (nI m, υ) ∧ AM (cpX A a p b q m) υ ∧ FrM σ υ
  unfold f_X11_copy_154
  rw [qi_0]
  obtain ⟨υ, ⟨v1, v2, v3, v4⟩, e2⟩ := lqU (F := f_X11_copy_L157 (nI b) (nI q) (nI m)) (bot := fun _ _ => none) (fun (σ : Mm) => some (nI m, σ)) m (fun k υ => (∀ i, i < k → υ.2 63 (40 * b + q + i) = oV A a (p + i)) ∧ (∀ i, i < 40 * b + q ∨ 40 * b + q + k ≤ i → υ.2 63 i = σ.2 63 i) ∧ υ.2 64 = τ.2 64 ∧ Fr [63, 64] σ υ) (by
      rintro L τ _
      unfold f_X11_copy_L157
      rw [i_le (by omega) (by omega)]) (by
      rintro L k υ hk ⟨u1, u2, u3, u4⟩
      unfold f_X11_copy_L157
      rw [i_nle (by omega) (by omega), p_ck _ (by omega) (by omega), qi_40, pk_mul, nI_add, nI_add, p_ck _ (by omega) (by omega), p_ix (a := 40 * b + q + k) (by omega), p_ix (a := k) (by omega), u3, t1 k hk, p_nm, qi_1, nI_add, p_nm]
      refine ⟨_, ⟨fun i hi => ?_, fun i hi => by rw [r_sLj (by omega)]; exact u2 i (by omega), by rw [r_sL2 (by decide)]; exact u3, u4.sL (by decide)⟩, rfl⟩
      by_cases c : i = k
      · rw [c, r_sL0]
      · rw [r_sLj (by omega)]; exact u1 i (by omega)) FU 0 τ (by omega) (by rw [FU_v]; omega) ⟨fun i hi => by omega, fun i _ => by rw [t2.r2 63 (by decide)], rfl, t2.mo (by intro k hk; revert k; decide)⟩
  rw [e2]
  refine ⟨υ, rfl, AM_X hm hm.1.2.2.2 (fun d hd => ?_) (v4.mo (by intro k hk; revert k; decide)), FrM_of v4 (by decide)⟩
  obtain ⟨g1, g2, g3⟩ := hm.2.2.2.2.2.2.1 d hd
  have zd := (hm.1.2.2.2 d hd).1
  show υ.1 61 d = nI (oQ A d) ∧ υ.1 62 d = nI (oZ A d) ∧ ∀ j, j < oZ A d → υ.2 63 (40 * d + j) = upq (oV A) b (fun j => if q ≤ j ∧ j < q + m then oV A a (p + (j - q)) else oV A b j) d j
  refine ⟨by rw [v4.r1 61 (by decide)]; exact g1, by rw [v4.r1 62 (by decide)]; exact g2, fun j hj => ?_⟩
  by_cases c : d = b
  · rw [c, upq_s]
    rw [c] at g3 hj
    show _ = (if q ≤ j ∧ j < q + m then oV A a (p + (j - q)) else oV A b j)
    by_cases k : q ≤ j ∧ j < q + m
    · have := v1 (j - q) (by omega)
      rw [show 40 * b + q + (j - q) = 40 * b + j by omega] at this
      rw [if_pos k]; exact this
    · rw [if_neg k, v2 _ (by omega)]; exact g3 j hj
  · rw [upq_n c, v2 _ (by omega)]; exact g3 j hj
theorem op_copy {A : Ob} {σ : Mm} (hc : AC A σ) (hm : AM A σ) (x i y j n : Int32) : Ans (f_X10_copy x i y j n) (f_X11_copy x i y j n) σ := by
  rcases rng (n := 4) x (by omega) with h | ⟨a, ha', rfl⟩
  · refine told (e := 0) hc hm (by omega) ?_ (fun τ hm => ?_)
    · unfold f_X10_copy
      rw [isSheet_no h, p_bd, qi_0, i_eq rfl]
    · unfold f_X11_copy
      rw [misSheet_no h, p_bd, if_pos (show nI 0 = (0 : Int32) from rfl), er_1]
  rcases rng (n := 4) y (by omega) with h | ⟨b, hb', rfl⟩
  · refine told (e := 0) hc hm (by omega) ?_ (fun τ hm => ?_)
    · unfold f_X10_copy
      rw [isSheet_yes ha', p_bd, qi_0, i_ne (by omega) (by omega) (by omega), isSheet_no h, p_bd, i_eq rfl]
    · unfold f_X11_copy
      rw [misSheet_yes ha', p_bd, if_neg (show ¬ nI 1 = (0 : Int32) by decide), misSheet_no h, p_bd, if_pos (show nI 0 = (0 : Int32) from rfl), er_1]
  obtain ⟨a1, a2, a3⟩ := hc.2.2.2.2.2.2.1 a ha'
  obtain ⟨b1, b2, b3⟩ := hc.2.2.2.2.2.2.1 b hb'
  obtain ⟨za, qa⟩ := hc.1.2.2.2 a ha'
  obtain ⟨zb, qb⟩ := hc.1.2.2.2 b hb'
  have cls : f_X10_copy (nI a) i (nI b) j n σ = (if nI (oQ A a) = nI 0 then bd (f_X0_tell (nI 5) σ) (fun r σ1 => some (r, σ1)) else (if nI (oQ A b) = nI 0 then bd (f_X0_tell (nI 5) σ) (fun r σ1 => some (r, σ1)) else (if nI (oQ A a) = nI (oQ A b) then (if rgB (oZ A a) i n = true then (if rgB (oZ A b) j n = true then cpy 40 40 i j n (some (n, sQ σ (41 + 2 * b) (va_cpy (σ.2 (41 + 2 * a)) (σ.2 (41 + 2 * b)) (ix i) (ix j) (ix n)))) else bd (f_X0_tell (nI 0) σ) (fun r σ1 => some (r, σ1))) else bd (f_X0_tell (nI 0) σ) (fun r σ1 => some (r, σ1))) else bd (f_X0_tell (nI 2) σ) (fun r σ1 => some (r, σ1))))) := by
    unfold f_X10_copy
    rw [isSheet_yes ha', p_bd, qi_0, qi_2, qi_5, i_ne (by omega) (by omega) (by omega), isSheet_yes hb', p_bd, i_ne (by omega) (by omega) (by omega), p_ck _ ha' (by omega), p_ck _ hb' (by omega), shI_n ha', shI_n hb', a1, b1, hasRange_eq za a2, p_bd]
    cases rgB (oZ A a) i n with
    | false => rw [bI_f, if_pos (show nI 0 = nI 0 from rfl), if_neg (show ¬ false = true by decide)]
    | true =>
      rw [bI_t, if_neg (show ¬ nI 1 = nI 0 by decide), hasRange_eq zb b2, p_bd, if_pos (show true = true from rfl)]
      cases rgB (oZ A b) j n with
      | false => rw [bI_f, if_pos (show nI 0 = nI 0 from rfl), if_neg (show ¬ false = true by decide)]
      | true => rw [bI_t, if_neg (show ¬ nI 1 = nI 0 by decide), if_pos (show true = true from rfl), p_nm, show 40 + 2 * a + 1 = 41 + 2 * a by omega, show 40 + 2 * b + 1 = 41 + 2 * b by omega]
  have ref : ∀ τ, AM A τ → f_X11_copy (nI a) i (nI b) j n τ = (if nI (oQ A a) = nI 0 then bd (f_X11_finds (er7 5) τ) (fun r σ1 => some (r, σ1)) else (if nI (oQ A b) = nI 0 then bd (f_X11_finds (er7 5) τ) (fun r σ1 => some (r, σ1)) else (if nI (oQ A a) = nI (oQ A b) then (if rgB (oZ A a) i n = true ∧ rgB (oZ A b) j n = true then fx (fun _ _ => none) FU (f_X11_copy_L120 (fun (σ : Mm) => f_X11_copy_154 (nI b) j n σ) (nI a) i (nI b) j n) (0 : Int32) τ else bd (f_X11_finds (er7 0) τ) (fun r σ1 => some (r, σ1))) else bd (f_X11_finds (er7 2) τ) (fun r σ1 => some (r, σ1))))) := by
    intro τ hm
    obtain ⟨m1, m2, _⟩ := hm.2.2.2.2.2.2.1 a ha'
    obtain ⟨k1, k2, _⟩ := hm.2.2.2.2.2.2.1 b hb'
    unfold f_X11_copy
    rw [misSheet_yes ha', p_bd, if_neg (show ¬ nI 1 = (0 : Int32) by decide), misSheet_yes hb', p_bd, if_neg (show ¬ nI 1 = (0 : Int32) by decide), p_ck _ ha' (by omega), p_ck _ hb' (by omega), p_ck _ ha' (by omega), p_ck _ hb' (by omega), p_ck _ ha' (by omega), p_ck _ hb' (by omega), p_ix (a := a) (by omega), p_ix (a := b) (by omega), m1, k1, m2, k2, er_1, er_3, er_6]
    by_cases q1 : oQ A a = 0
    · rw [i_eq q1, if_pos (show nI (oQ A a) = (0 : Int32) by rw [q1]; rfl)]
    · have q1' : ¬ nI (oQ A a) = (0 : Int32) := fun z => q1 ((nI_eq (by omega) (by omega)).mp (z.trans qi_0))
      rw [if_neg q1', i_ne (by omega) (by omega) q1]
      by_cases q2 : oQ A b = 0
      · rw [i_eq q2, if_pos (show nI (oQ A b) = (0 : Int32) by rw [q2]; rfl)]
      · have q2' : ¬ nI (oQ A b) = (0 : Int32) := fun z => q2 ((nI_eq (by omega) (by omega)).mp (z.trans qi_0))
        rw [if_neg q2', i_ne (by omega) (by omega) q2]
        by_cases q3 : oQ A a = oQ A b
        · rw [i_eq q3, i_eq q3]
          by_cases c1 : i < nI 0
          · rw [if_pos (show i < (0 : Int32) from c1), if_neg (fun z => (of_decide_eq_true z.1).1 c1)]
          · rw [if_neg (show ¬ i < (0 : Int32) from c1)]
            by_cases c2 : j < nI 0
            · rw [if_pos (show j < (0 : Int32) from c2), if_neg (fun z => (of_decide_eq_true z.2).1 c2)]
            · rw [if_neg (show ¬ j < (0 : Int32) from c2)]
              by_cases c3 : n < nI 0
              · rw [if_pos (show n < (0 : Int32) from c3), if_neg (fun z => (of_decide_eq_true z.1).2.1 c3)]
              · rw [if_neg (show ¬ n < (0 : Int32) from c3)]
                by_cases c4 : nI (oZ A a) - n < i
                · rw [if_pos c4, if_neg (fun z => (of_decide_eq_true z.1).2.2 c4)]
                · rw [if_neg c4]
                  by_cases c5 : nI (oZ A b) - n < j
                  · have c6 : ¬ j ≤ nI (oZ A b) - n := by
                      rw [Int32.le_iff_toInt_le]
                      rw [Int32.lt_iff_toInt_lt] at c5
                      omega
                    rw [if_neg c6, if_neg (fun z => (of_decide_eq_true z.2).2.2 c5)]
                  · have c6 : j ≤ nI (oZ A b) - n := by
                      rw [Int32.le_iff_toInt_le]
                      rw [Int32.lt_iff_toInt_lt] at c5
                      omega
                    rw [if_pos c6, if_pos ⟨decide_eq_true ⟨c1, c3, c4⟩, decide_eq_true ⟨c2, c3, c5⟩⟩]
        · rw [i_ne (by omega) (by omega) q3, i_ne (by omega) (by omega) q3]
  by_cases q1 : oQ A a = 0
  · exact told (e := 5) hc hm (by omega) (by rw [cls, i_eq q1]) (fun τ hm => by rw [ref τ hm, i_eq q1])
  by_cases q2 : oQ A b = 0
  · exact told (e := 5) hc hm (by omega) (by rw [cls, i_ne (by omega) (by omega) q1, i_eq q2]) (fun τ hm => by rw [ref τ hm, i_ne (by omega) (by omega) q1, i_eq q2])
  by_cases q3 : oQ A a = oQ A b
  · cases r1 : rgB (oZ A a) i n with
    | false => exact told (e := 0) hc hm (by omega) (by rw [cls, i_ne (by omega) (by omega) q1, i_ne (by omega) (by omega) q2, i_eq q3, r1, if_neg (by decide)]) (fun τ hm => by rw [ref τ hm, i_ne (by omega) (by omega) q1, i_ne (by omega) (by omega) q2, i_eq q3, if_neg (fun z => by rw [r1] at z; cases z.1)])
    | true =>
      cases r2 : rgB (oZ A b) j n with
      | false => exact told (e := 0) hc hm (by omega) (by rw [cls, i_ne (by omega) (by omega) q1, i_ne (by omega) (by omega) q2, i_eq q3, r1, if_pos rfl, r2, if_neg (by decide)]) (fun τ hm => by rw [ref τ hm, i_ne (by omega) (by omega) q1, i_ne (by omega) (by omega) q2, i_eq q3, if_neg (fun z => by rw [r2] at z; cases z.2)])
      | true =>
        obtain ⟨p, m, ep, em, hpm⟩ := rg_ok za r1
        obtain ⟨q, m', eq, em', hqm⟩ := rg_ok zb r2
        have emm : m = m' := by
          have hme := em.symm.trans em'
          exact (nI_eq (by omega) (by omega)).mp hme
        subst emm
        subst ep em eq
        refine Ans_of (r := nI m) (A' := cpX A a p b q m) hm ?_ (fun τ hm => ?_)
        · obtain ⟨d1, d2⟩ := copy_C hc ha' hb' hpm hqm
          refine ⟨_, ?_, d1, d2⟩
          rw [cls, i_ne (by omega) (by omega) q1, i_ne (by omega) (by omega) q2, i_eq q3, r1, if_pos rfl, r2, if_pos rfl, cpy_n _ (by omega) (by omega), p_ix (a := p) (by omega), p_ix (a := q) (by omega), p_ix (a := m) (by omega)]
        · obtain ⟨υ, d1, d2, d3⟩ := copy_M hm ha' hb' hpm hqm
          refine ⟨υ, ?_, d2, d3⟩
          rw [ref τ hm, i_ne (by omega) (by omega) q1, i_ne (by omega) (by omega) q2, i_eq q3, if_pos ⟨r1, r2⟩, d1]
  · exact told (e := 2) hc hm (by omega) (by rw [cls, i_ne (by omega) (by omega) q1, i_ne (by omega) (by omega) q2, i_ne (by omega) (by omega) q3]) (fun τ hm => by rw [ref τ hm, i_ne (by omega) (by omega) q1, i_ne (by omega) (by omega) q2, i_ne (by omega) (by omega) q3])
