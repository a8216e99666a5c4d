/-! PURE: the class goes through all states -/
def hsC (y : Nat) : Nat := (lN y * (-7046029254386353131 : Int64)).toUInt64.toNat / 2 ^ 50
theorem hsC_lt (y : Nat) : hsC y < 16384 := by
  unfold hsC
  have := (lN y * (-7046029254386353131 : Int64)).toUInt64.toNat_lt
  omega
theorem hsC_eq (y : Nat) : (((lN y * (-7046029254386353131 : Int64))).toUInt64 >>> (((50 : Int32)).toInt64.toUInt64 &&& Int64.toUInt64 63)).toInt64.toInt32 = nI (hsC y) := by
  have e : (((50 : Int32)).toInt64.toUInt64 &&& Int64.toUInt64 63) = UInt64.ofNat 50 := by decide
  rw [e]
  unfold hsC
  generalize lN y * (-7046029254386353131 : Int64) = z
  have hz : z = lN z.toUInt64.toNat := by
    apply Int64.toBitVec_inj.1
    show z.toBitVec = BitVec.ofNat 64 z.toBitVec.toNat
    rw [BitVec.ofNat_toNat, BitVec.setWidth_eq]
  have hl := z.toUInt64.toNat_lt
  conv => lhs; rw [hz]
  rw [ush (by omega) (by decide), lN_i]
def occC (σ : Mm) (n s : Nat) : Option Nat := if ix (σ.1 20 s) < n ∧ σ.1 21 (ix (σ.1 20 s)) = nI s then some (ix (σ.1 20 s)) else none
def SlR (σ : Mm) : Prop := ∀ s, s < 16384 → ∃ v, v < 6000 ∧ σ.1 20 s = nI v
def TuC (n : Nat) (F : Nat → Nat) (σ : Mm) : Prop := n ≤ 6000 ∧ σ.1 18 7 = nI n ∧ (∀ j, j < n → σ.2 19 j = lN (F j)) ∧ SlR σ ∧ HT (occC σ n) hsC F n
def incC (σ : Mm) (n s y : Nat) (ed : Int32) : Mm := sI (sI (sI (sI (sL σ 19 n (lN y)) 20 s (nI n)) 21 n (nI s)) 22 n ed) 18 7 (nI (n + 1))
theorem include_eq {σ : Mm} {n s y : Nat} {ed : Int32} (hn : n < 6000) (h7 : σ.1 18 7 = nI n) (hs : s < 16384) : f_X9_include (lN y) (nI s) ed σ = some (nI n, incC σ n s y ed) := by
  unfold f_X9_include incC
  simp only [qi_0, qi_1, qi_2, qi_3, qi_4, qi_5, qi_6, qi_7, qi_8, qi_9, qi_10, qi_11, qi_12, qi_13, qi_14, qi_15, qi_16, qi_17, qi_19, qi_26, qi_31, qi_32, qi_35, qi_40, qi_42, qi_48, qi_50, qi_57, qi_59, qi_63, qi_64, qi_97, qi_120, qi_122, qi_210, qi_255, qi_511, qi_512, qi_1000, qi_6000, qi_13312, qi_14337, qi_16383, qi_16384, qi_524287]
  rw [h7, i_lt (by omega) hn, p_ck _ hn (by omega), p_ix (by omega), p_nm, p_ck _ hs (by omega), p_ix (by omega), r_sL1, h7, p_nm, r_sI1 (by decide), r_sL1, h7, p_ck _ hn (by omega), p_ix (by omega), p_nm]
  rw [r_sI1 (by decide), r_sI1 (by decide), r_sL1, h7, p_ck _ hn (by omega), p_ix (by omega), p_nm, r_sI1 (by decide), r_sI1 (by decide), r_sI1 (by decide), r_sL1, h7, p_nm, r_sI0, nI_add, pk_sub (by omega)]
  rfl
theorem TuC_inc {σ : Mm} {n t y : Nat} {F : Nat → Nat} {ed : Int32} (hT : TuC n F σ) (hn : n < 6000) (hb : ∀ t', t' < t → occC σ n ((hsC y + t') % 16384) ≠ none) (ht : t < 16384) (ho : occC σ n ((hsC y + t) % 16384) = none) : TuC (n + 1) (upq F n y) (incC σ n ((hsC y + t) % 16384) y ed) := by
  obtain ⟨_, h1, h2, h3, h4⟩ := hT
  have hs : (hsC y + t) % 16384 < 16384 := Nat.mod_lt _ (by decide)
  generalize hsd : (hsC y + t) % 16384 = s at *
  have e20 : ∀ q, (incC σ n s y ed).1 20 q = if q = s then nI n else σ.1 20 q := by
    intro q
    unfold incC
    rw [r_sI1 (by decide), r_sI1 (by decide), r_sI1 (by decide)]
    by_cases c : q = s
    · rw [if_pos c, c, r_sI0]
    · rw [if_neg c, r_sIj c, r_sL1]
  have e21 : ∀ q, (incC σ n s y ed).1 21 q = if q = n then nI s else σ.1 21 q := by
    intro q
    unfold incC
    rw [r_sI1 (by decide), r_sI1 (by decide)]
    by_cases c : q = n
    · rw [if_pos c, c, r_sI0]
    · rw [if_neg c, r_sIj c, r_sI1 (by decide), r_sL1]
  have e19 : ∀ q, (incC σ n s y ed).2 19 q = if q = n then lN y else σ.2 19 q := by
    intro q
    show (sL σ 19 n (lN y)).2 19 q = _
    by_cases c : q = n
    · rw [if_pos c, c, r_sL0]
    · rw [if_neg c, r_sLj c]
  refine ⟨by omega, by unfold incC; rw [r_sI0], ?_, ?_, ?_⟩
  · intro j hj
    rw [e19]
    by_cases c : j = n
    · rw [if_pos c, c, upq_s]
    · rw [if_neg c, upq_n c]; exact h2 j (by omega)
  · intro q hq
    rw [e20]
    by_cases c : q = s
    · rw [if_pos c]; exact ⟨n, hn, rfl⟩
    · rw [if_neg c]; exact h3 q hq
  · rw [← hsd] at hs ho
    refine HT_put (t := t) (y := y) h4 hb ht ho ?_ ?_ (fun j hj => upq_n (by omega)) upq_s
    · rw [hsd]
      unfold occC
      rw [e20, if_pos rfl, p_ix (by omega), e21, if_pos rfl]
      rw [if_pos ⟨by omega, rfl⟩]
    · intro q hq hne
      rw [hsd] at hne
      obtain ⟨v, hv, hq2⟩ := h3 q hq
      unfold occC
      rw [e20, if_neg hne, hq2, p_ix (by omega), e21]
      by_cases c : v = n
      · rw [if_pos c, if_neg (fun z => hne ((nI_eq (by omega) (by omega)).mp z.2).symm), if_neg (fun z => by omega)]
      · rw [if_neg c]
        by_cases c2 : v < n ∧ σ.1 21 v = nI q
        · rw [if_pos ⟨by omega, c2.2⟩, if_pos c2]
        · rw [if_neg (fun z => c2 ⟨by omega, z.2⟩), if_neg c2]
/-- the number of a state, or a new one, or too many -/
theorem indexOf_eq {σ : Mm} {n y : Nat} {F : Nat → Nat} {ed : Int32} (hT : TuC n F σ) (hy : y < 9223372036854775808) (hF : ∀ j, j < n → F j < 9223372036854775808) :
    (∃ j, idx F y n ≠ none ∧ j < n ∧ F j = y ∧ f_X9_indexOf (lN y) ed σ = some (nI j, σ)) ∨
    (idx F y n = none ∧ n < 6000 ∧ ∃ t, t < 16384 ∧ f_X9_indexOf (lN y) ed σ = some (nI n, incC σ n ((hsC y + t) % 16384) y ed) ∧ TuC (n + 1) (upq F n y) (incC σ n ((hsC y + t) % 16384) y ed)) ∨
    (idx F y n = none ∧ n = 6000 ∧ f_X9_indexOf (lN y) ed σ = some (-nI 1, sI σ 18 8 (nI 1))) := by
  have hT0 := hT
  obtain ⟨hn, h1, h2, h3, h4⟩ := hT
  obtain ⟨t, ht, hbf, hend⟩ := HT_probe h4 (by omega) y
  have hm : ∀ t, (hsC y + t) % 16384 < 16384 := fun t => Nat.mod_lt _ (by decide)
  have hu : ∀ (Q : Option (Int32 × Mm) → Prop), Q (f_X9_indexOf_L14 (lN y) ed (fun _ _ _ => none) (nI ((hsC y + t) % 16384)) (nI t) σ) → (∀ L, f_X9_indexOf_L14 (lN y) ed L (nI ((hsC y + t) % 16384)) (nI t) σ = f_X9_indexOf_L14 (lN y) ed (fun _ _ _ => none) (nI ((hsC y + t) % 16384)) (nI t) σ) → Q (f_X9_indexOf (lN y) ed σ) := by
    intro Q hQ hLs
    unfold f_X9_indexOf
    rw [p_nm, hsC_eq]
    refine lq2 (F := f_X9_indexOf_L14 (lN y) ed) (fun a b τ => ∃ u, u ≤ t ∧ a = nI ((hsC y + u) % 16384) ∧ b = nI u ∧ τ = σ) (fun _ b _ => t - ix b) Q ?_ FU _ (0 : Int32) σ ?_ ⟨0, by omega, by rw [Nat.add_zero, Nat.mod_eq_of_lt (hsC_lt y)], rfl, rfl⟩
    · rintro L a b τ ⟨u, hu, rfl, rfl, rfl⟩
      by_cases c : u = t
      · right; subst c; rw [hLs]; exact hQ
      · left
        obtain ⟨j, hj, ho, hf⟩ := hbf u (by omega)
        have hmu := hm u
        refine ⟨nI ((hsC y + (u + 1)) % 16384), nI (u + 1), τ, ⟨u + 1, by omega, rfl, rfl, rfl⟩, ?_, ?_⟩
        · rw [p_ix (by omega), p_ix (by omega)]; omega
        · obtain ⟨v, hv, hq⟩ := h3 _ hmu
          unfold occC at ho
          rw [hq, p_ix (by omega)] at ho
          split at ho
          · rename_i hc
            simp only [Option.some.injEq] at ho
            subst ho
            have hFj := hF v hj
            unfold f_X9_indexOf_L14
            simp only [qi_0, qi_1, qi_2, qi_3, qi_4, qi_5, qi_6, qi_7, qi_8, qi_9, qi_10, qi_11, qi_12, qi_13, qi_14, qi_15, qi_16, qi_17, qi_19, qi_26, qi_31, qi_32, qi_35, qi_40, qi_42, qi_48, qi_50, qi_57, qi_59, qi_63, qi_64, qi_97, qi_120, qi_122, qi_210, qi_255, qi_511, qi_512, qi_1000, qi_6000, qi_13312, qi_14337, qi_16383, qi_16384, qi_524287]
            rw [i_nle (by omega) (by omega), p_ck _ hmu (by omega), p_ix (by omega), hq, p_nm, h1, i_nle (by omega) (by omega), p_ck _ hv (by omega), p_ix (by omega), hc.2, i_eq rfl, p_ck _ hv (by omega), h2 v hj]
            rw [if_neg (show ¬ lg_cmp (lN (F v)) (lN y) = nI 0 by rw [lc_eq, pk_lEQ (by omega) (by omega)]; exact hf), p_nm, p_nm, nI_add, nI_add, and_16383]
            congr 2
            omega
          · cases ho
    · show t - ix (nI 0) < 40000
      rw [p_ix (by omega)]; omega
  have hmt := hm t
  obtain ⟨v, hv, hq⟩ := h3 _ hmt
  rcases hend with ⟨ho, hi⟩ | ⟨j, hj, ho, hf⟩
  · right
    have hinc : ∀ L, f_X9_indexOf_L14 (lN y) ed L (nI ((hsC y + t) % 16384)) (nI t) σ = bd (f_X9_include (lN y) (nI ((hsC y + t) % 16384)) ed σ) (fun rq4 σ3 => some (rq4, σ3)) := by
      intro L
      unfold occC at ho
      rw [hq, p_ix (by omega)] at ho
      split at ho
      · cases ho
      · rename_i hc
        unfold f_X9_indexOf_L14
        simp only [qi_0, qi_1, qi_2, qi_3, qi_4, qi_5, qi_6, qi_7, qi_8, qi_9, qi_10, qi_11, qi_12, qi_13, qi_14, qi_15, qi_16, qi_17, qi_19, qi_26, qi_31, qi_32, qi_35, qi_40, qi_42, qi_48, qi_50, qi_57, qi_59, qi_63, qi_64, qi_97, qi_120, qi_122, qi_210, qi_255, qi_511, qi_512, qi_1000, qi_6000, qi_13312, qi_14337, qi_16383, qi_16384, qi_524287]
        rw [i_nle (by omega) (by omega), p_ck _ hmt (by omega), p_ix (by omega), hq, p_nm, h1]
        by_cases c1 : n ≤ v
        · rw [i_le (by omega) c1]
        · rw [i_nle (by omega) (by omega), p_ck _ hv (by omega), p_ix (by omega), if_neg (fun z => hc ⟨by omega, z⟩)]
    by_cases hn6 : n < 6000
    · left
      refine ⟨hi, hn6, t, ht, ?_, ?_⟩
      · refine hu (fun o => o = some (nI n, incC σ n ((hsC y + t) % 16384) y ed)) ?_ (fun L => by rw [hinc, hinc])
        rw [hinc, include_eq hn6 h1 hmt, p_bd]
      · refine TuC_inc hT0 hn6 (fun t' ht' => ?_) ht ho
        obtain ⟨j, hj, hj2, _⟩ := hbf t' ht'
        rw [hj2]; intro q; cases q
    · right
      refine ⟨hi, by omega, ?_⟩
      refine hu (fun o => o = some (-nI 1, sI σ 18 8 (nI 1))) ?_ (fun L => by rw [hinc, hinc])
      rw [hinc]
      unfold f_X9_include
      simp only [qi_0, qi_1, qi_2, qi_3, qi_4, qi_5, qi_6, qi_7, qi_8, qi_9, qi_10, qi_11, qi_12, qi_13, qi_14, qi_15, qi_16, qi_17, qi_19, qi_26, qi_31, qi_32, qi_35, qi_40, qi_42, qi_48, qi_50, qi_57, qi_59, qi_63, qi_64, qi_97, qi_120, qi_122, qi_210, qi_255, qi_511, qi_512, qi_1000, qi_6000, qi_13312, qi_14337, qi_16383, qi_16384, qi_524287]
      rw [h1, i_nlt (by omega) (by omega), p_cb1, p_nm, p_bd]
  · left
    have hn0 : idx F y n ≠ none := fun q => idx_none q j hj hf
    refine ⟨j, hn0, hj, hf, ?_⟩
    unfold occC at ho
    rw [hq, p_ix (by omega)] at ho
    split at ho
    · rename_i hc
      simp only [Option.some.injEq] at ho
      subst ho
      have hFj := hF v hj
      have hret : ∀ L, f_X9_indexOf_L14 (lN y) ed L (nI ((hsC y + t) % 16384)) (nI t) σ = some (nI v, σ) := by
        intro L
        unfold f_X9_indexOf_L14
        simp only [qi_0, qi_1, qi_2, qi_3, qi_4, qi_5, qi_6, qi_7, qi_8, qi_9, qi_10, qi_11, qi_12, qi_13, qi_14, qi_15, qi_16, qi_17, qi_19, qi_26, qi_31, qi_32, qi_35, qi_40, qi_42, qi_48, qi_50, qi_57, qi_59, qi_63, qi_64, qi_97, qi_120, qi_122, qi_210, qi_255, qi_511, qi_512, qi_1000, qi_6000, qi_13312, qi_14337, qi_16383, qi_16384, qi_524287]
        rw [i_nle (by omega) (by omega), p_ck _ hmt (by omega), p_ix (by omega), hq, p_nm, h1, i_nle (by omega) (by omega), p_ck _ hv (by omega), p_ix (by omega), hc.2, i_eq rfl, p_ck _ hv (by omega), h2 v hj]
        rw [if_pos (show lg_cmp (lN (F v)) (lN y) = nI 0 by rw [lc_eq, pk_lEQ (by omega) (by omega)]; exact hf)]
      exact hu (fun o => o = some (nI v, σ)) (hret _) (fun L => by rw [hret, hret])
    · cases ho
