/-! PURE: the class counts states without an end -/
theorem fill_eq {σ : Mm} {n : Nat} (hn : n ≤ 6000) : ∃ σ', f_J7_fill_fda19 (nI 0) (nI n) (nI 0) σ = some ((), σ') ∧ (∀ i, i < n → σ'.1 24 i = nI 0) ∧ Fr [24] σ σ' := by
  have hr : f_J7_rangeCheck_23922 (nI 6000) (nI 0) (nI n) σ = some ((), σ) := by
    unfold f_J7_rangeCheck_23922
    simp only [qi_0, qi_1, qi_2, qi_3, qi_4, qi_5, qi_6, qi_7, qi_8, qi_9, qi_10, qi_11, qi_12, qi_13, qi_14, qi_15, qi_16, qi_17, qi_19, qi_26, qi_31, qi_32, qi_35, qi_40, qi_42, qi_48, qi_50, qi_57, qi_59, qi_63, qi_64, qi_97, qi_120, qi_122, qi_210, qi_255, qi_511, qi_512, qi_1000, qi_6000, qi_13312, qi_14337, qi_16383, qi_16384, qi_524287]
    rw [i_le (by omega) (by omega), i_le (by omega) (by omega), i_le (by omega) (by omega)]
  unfold f_J7_fill_fda19
  simp only [qi_0, qi_1, qi_2, qi_3, qi_4, qi_5, qi_6, qi_7, qi_8, qi_9, qi_10, qi_11, qi_12, qi_13, qi_14, qi_15, qi_16, qi_17, qi_19, qi_26, qi_31, qi_32, qi_35, qi_40, qi_42, qi_48, qi_50, qi_57, qi_59, qi_63, qi_64, qi_97, qi_120, qi_122, qi_210, qi_255, qi_511, qi_512, qi_1000, qi_6000, qi_13312, qi_14337, qi_16383, qi_16384, qi_524287]
  rw [hr, p_bd]
  obtain ⟨σ', ⟨a1, a2⟩, e⟩ := lqU (F := f_J7_fill_fda19_L10 (nI n) (nI 0)) (bot := fun _ _ => none) (fun τ => some ((), τ)) n (fun k τ => (∀ i, i < k → τ.1 24 i = nI 0) ∧ Fr [24] σ τ) (by
      intro L τ _
      unfold f_J7_fill_fda19_L10
      simp only [qi_0, qi_1, qi_2, qi_3, qi_4, qi_5, qi_6, qi_7, qi_8, qi_9, qi_10, qi_11, qi_12, qi_13, qi_14, qi_15, qi_16, qi_17, qi_19, qi_26, qi_31, qi_32, qi_35, qi_40, qi_42, qi_48, qi_50, qi_57, qi_59, qi_63, qi_64, qi_97, qi_120, qi_122, qi_210, qi_255, qi_511, qi_512, qi_1000, qi_6000, qi_13312, qi_14337, qi_16383, qi_16384, qi_524287]
      rw [i_le (by omega) (by omega)]) (by
      intro L k τ hk ⟨h1, h2⟩
      refine ⟨sI τ 24 k (nI 0), ⟨fun i hi => ?_, h2.sI (by decide)⟩, ?_⟩
      · by_cases e : i = k
        · rw [e, r_sI0]
        · rw [r_sIj e]; exact h1 i (by omega)
      · unfold f_J7_fill_fda19_L10
        simp only [qi_0, qi_1, qi_2, qi_3, qi_4, qi_5, qi_6, qi_7, qi_8, qi_9, qi_10, qi_11, qi_12, qi_13, qi_14, qi_15, qi_16, qi_17, qi_19, qi_26, qi_31, qi_32, qi_35, qi_40, qi_42, qi_48, qi_50, qi_57, qi_59, qi_63, qi_64, qi_97, qi_120, qi_122, qi_210, qi_255, qi_511, qi_512, qi_1000, qi_6000, qi_13312, qi_14337, qi_16383, qi_16384, qi_524287]
        rw [i_nle (by omega) (by omega), p_ck _ (by omega) (by omega), p_ix (by omega), p_nm, p_nm, nI_add]) FU 0 σ (by omega) (by rw [FU_v]; omega) ⟨fun i hi => by omega, Fr.rf _ _⟩
  exact ⟨σ', e, a1, a2⟩
def lds (G : Nat → Option Nat) (m : Nat → Bool) (i : Nat) : Prop := (∃ e t, e < 6 ∧ G (6 * i + e) = some t ∧ m t = true) ∨ ∀ e, e < 6 → G (6 * i + e) = none
theorem leadsOut_eq {G : Nat → Option Nat} {m : Nat → Bool} {n i : Nat} {σ : Mm} (hn : n ≤ 6000) (hi : i < n) (hG : ∀ d t, d < 6 * n → G d = some t → t < n) (h23 : ∀ d, d < 6 * n → σ.1 23 d = iO (G d)) (h24 : ∀ t, t < n → σ.1 24 t = bI (m t)) : ∃ r, f_X9_leadsOut (nI i) σ = some (bI r, σ) ∧ (r = true ↔ lds G m i) := by
  unfold f_X9_leadsOut
  simp only [qi_0, qi_1, qi_2, qi_3, qi_4, qi_5, qi_6, qi_7, qi_8, qi_9, qi_10, qi_11, qi_12, qi_13, qi_14, qi_15, qi_16, qi_17, qi_19, qi_26, qi_31, qi_32, qi_35, qi_40, qi_42, qi_48, qi_50, qi_57, qi_59, qi_63, qi_64, qi_97, qi_120, qi_122, qi_210, qi_255, qi_511, qi_512, qi_1000, qi_6000, qi_13312, qi_14337, qi_16383, qi_16384, qi_524287]
  rw [p_nm, pk_mul]
  refine lq2 (F := f_X9_leadsOut_L7 (nI i)) (fun a b τ => ∃ k f1, k ≤ 6 ∧ a = bI f1 ∧ b = nI (i * 6 + k) ∧ τ = σ ∧ (f1 = true ↔ ∀ e, e < k → G (6 * i + e) = none) ∧ (∀ e t, e < k → G (6 * i + e) = some t → m t = false)) (fun _ b _ => 36001 - ix b) (fun o => ∃ r, o = some (bI r, σ) ∧ (r = true ↔ lds G m i)) ?_ FU _ _ σ ?_ ⟨0, true, by omega, rfl, rfl, rfl, ⟨fun _ e he => by omega, fun _ => rfl⟩, fun e t he => by omega⟩
  · rintro L a b τ ⟨k, f1, hk, rfl, rfl, rfl, hf1, hno⟩
    unfold f_X9_leadsOut_L7 f_X9_leadsOut_45
    simp only [qi_0, qi_1, qi_2, qi_3, qi_4, qi_5, qi_6, qi_7, qi_8, qi_9, qi_10, qi_11, qi_12, qi_13, qi_14, qi_15, qi_16, qi_17, qi_19, qi_26, qi_31, qi_32, qi_35, qi_40, qi_42, qi_48, qi_50, qi_57, qi_59, qi_63, qi_64, qi_97, qi_120, qi_122, qi_210, qi_255, qi_511, qi_512, qi_1000, qi_6000, qi_13312, qi_14337, qi_16383, qi_16384, qi_524287, nI_add, pk_mul]
    by_cases c : k = 6
    · right
      subst c
      refine ⟨f1, by rw [i_le (by omega) (by omega), cb_b], ?_⟩
      rw [hf1]
      constructor
      · intro q; exact Or.inr q
      · rintro (⟨e, t, he, h1, h2⟩ | q)
        · rw [hno e t he h1] at h2; cases h2
        · exact q
    · have h6 : i * 6 + k = 6 * i + k := by omega
      rw [i_nle (by omega) (by omega), p_ck _ (by omega) (by omega), p_ix (a := i * 6 + k) (by omega), h23 _ (by omega), h6]
      cases hg : G (6 * i + k) with
      | none =>
        left
        rw [show iO none = -nI 1 from rfl, i_m1lt (by omega), p_nm]
        refine ⟨bI f1, nI (i * 6 + (k + 1)), τ, ⟨k + 1, f1, by omega, rfl, rfl, rfl, ?_, ?_⟩, ?_, by rw [show 6 * i + k + 1 = i * 6 + (k + 1) by omega]⟩
        · rw [hf1]
          constructor
          · intro q e he
            by_cases ek : e = k
            · rw [ek]; exact hg
            · exact q e (by omega)
          · intro q e he; exact q e (by omega)
        · intro e t he h1
          by_cases ek : e = k
          · rw [ek, hg] at h1; cases h1
          · exact hno e t (by omega) h1
        · rw [p_ix (by omega)]; omega
      | some t =>
        have ht := hG _ t (by omega) hg
        rw [show iO (some t) = nI t from rfl, i_nlt (by omega) (by omega), p_ck _ (by omega) (by omega), p_ck _ (by omega) (by omega), p_ix (a := t) (by omega), h24 t ht]
        cases hm : m t with
        | true =>
          right
          rw [bI_t, i_eq rfl, p_cb1]
          exact ⟨true, rfl, fun _ => Or.inl ⟨k, t, by omega, hg, hm⟩, fun _ => rfl⟩
        | false =>
          left
          rw [bI_f, i_ne (by omega) (by omega) (by omega), p_nm]
          refine ⟨bI false, nI (i * 6 + (k + 1)), τ, ⟨k + 1, false, by omega, rfl, rfl, rfl, ⟨(fun q => by cases q), fun q => ?_⟩, ?_⟩, ?_, by rw [show 6 * i + k + 1 = i * 6 + (k + 1) by omega]; rfl⟩
          · have := q k (by omega)
            rw [hg] at this; cases this
          · intro e t' he h1
            by_cases ek : e = k
            · rw [ek, hg] at h1
              simp only [Option.some.injEq] at h1
              rw [← h1]; exact hm
            · exact hno e t' (by omega) h1
          · rw [p_ix (by omega)]; omega
  · rw [p_ix (by omega), FU_v]; omega
theorem countStuck_eq {P : Pg} {σ : Mm} (hP : PgV P) (h0 : VS P (pF P)) (hT : TkC P σ) (hb : bN (bEnd P) ≤ 6000) : ∃ σ', f_X9_countStuck σ = some (nI (stk P), σ') ∧ Fr [24] σ σ' := by
  rcases hT with ⟨h1, h2, h3, h4, h5, h6, h7⟩ | ⟨h1, _⟩
  · have hG := edge_ok hb
    have hn1 : 1 ≤ bN (bEnd P) := (bE_BI P).1.1
    have hE : ∀ i, i < bN (bEnd P) → (eP P i ↔ ∀ e, e < 6 → bG (bEnd P) (6 * i + e) = none) := fun i hi => eP_iff hP h0 hb hi
    have hst : stk P = bN (bEnd P) - cT (rchB (eP P) (bG (bEnd P))) (bN (bEnd P)) := rfl
    have h187 := h2.2.1
    generalize bN (bEnd P) = n at *
    generalize bG (bEnd P) = G at *
    generalize eP P = E at *
    obtain ⟨σ1, e1, m1, m2⟩ := fill_eq (σ := σ) hb
    unfold f_X9_countStuck
    simp only [qi_0, qi_1, qi_2, qi_3, qi_4, qi_5, qi_6, qi_7, qi_8, qi_9, qi_10, qi_11, qi_12, qi_13, qi_14, qi_15, qi_16, qi_17, qi_19, qi_26, qi_31, qi_32, qi_35, qi_40, qi_42, qi_48, qi_50, qi_57, qi_59, qi_63, qi_64, qi_97, qi_120, qi_122, qi_210, qi_255, qi_511, qi_512, qi_1000, qi_6000, qi_13312, qi_14337, qi_16383, qi_16384, qi_524287]
    rw [h187, e1, p_bd]
    -- one sweep
    have sweep : ∀ (m : Nat → Bool) (τ : Mm) (K : Int32 → Int32 → Mm → Option (Int32 × Mm)) (s : Int32), (∀ t, t < n → τ.1 24 t = bI (m t)) → (∀ i, i < n → m i = true → Rch E G i) → Fr [24] σ τ →
        ∃ m' τ' g, fx (fun _ _ _ _ => none) FU (f_X9_countStuck_L41 K s) (nI (cT m n)) (nI 0) (nI (n - 1)) τ = K (nI (cT m' n)) (bI g) τ' ∧ (∀ t, t < n → τ'.1 24 t = bI (m' t)) ∧ (∀ i, i < n → m' i = true → Rch E G i) ∧ Fr [24] σ τ' ∧ cT m n ≤ cT m' n ∧ (g = true → cT m n < cT m' n) ∧ (g = false → ∀ i, i < n → lds G m' i → m' i = true) := by
      intro m τ K s hm hsd hF
      refine lq3 (F := f_X9_countStuck_L41 K s) (fun a b c υ => ∃ m' g k, k ≤ n ∧ a = nI (cT m' n) ∧ b = bI g ∧ c = nI k - nI 1 ∧ (∀ t, t < n → υ.1 24 t = bI (m' t)) ∧ (∀ i, i < n → m' i = true → Rch E G i) ∧ Fr [24] σ υ ∧ cT m n ≤ cT m' n ∧ (g = true → cT m n < cT m' n) ∧ (g = false → ∀ i, k ≤ i → i < n → lds G m' i → m' i = true)) (fun _ _ c _ => ix (c + nI 1)) (fun o => ∃ m' τ' g, o = K (nI (cT m' n)) (bI g) τ' ∧ (∀ t, t < n → τ'.1 24 t = bI (m' t)) ∧ (∀ i, i < n → m' i = true → Rch E G i) ∧ Fr [24] σ τ' ∧ cT m n ≤ cT m' n ∧ (g = true → cT m n < cT m' n) ∧ (g = false → ∀ i, i < n → lds G m' i → m' i = true)) ?_ FU _ _ _ τ ?_ ⟨m, false, n, by omega, rfl, rfl, by rw [dn_s (by omega)], hm, hsd, hF, by omega, (fun q => by cases q), fun _ i h1 h2 => by omega⟩
      · rintro L a b c υ ⟨m', g, k, hk, rfl, rfl, rfl, u1, u2, u3, u4, u5, u6⟩
        have hcl := cT_le m' n
        unfold f_X9_countStuck_L41 f_X9_countStuck_78
        simp only [qi_0, qi_1, qi_2, qi_3, qi_4, qi_5, qi_6, qi_7, qi_8, qi_9, qi_10, qi_11, qi_12, qi_13, qi_14, qi_15, qi_16, qi_17, qi_19, qi_26, qi_31, qi_32, qi_35, qi_40, qi_42, qi_48, qi_50, qi_57, qi_59, qi_63, qi_64, qi_97, qi_120, qi_122, qi_210, qi_255, qi_511, qi_512, qi_1000, qi_6000, qi_13312, qi_14337, qi_16383, qi_16384, qi_524287]
        by_cases c0 : k = 0
        · right
          subst c0
          rw [dn_0, i_m1lt (by omega)]
          exact ⟨m', υ, g, rfl, u1, u2, u3, u4, u5, fun q i hi => u6 q i (by omega) hi⟩
        · left
          rw [dn_s (by omega), i_nlt (by omega) (by omega), p_ck _ (by omega) (by omega), p_ix (a := k - 1) (by omega), u1 _ (by omega)]
          have e1 : ∀ z, nI z - nI 1 + nI 1 = nI z := fun z => Int32.sub_add_cancel _ _
          cases hmk : m' (k - 1) with
          | true =>
            rw [bI_t, i_ne (by omega) (by omega) (by omega), dn_n, p_nm]
            refine ⟨nI (cT m' n), bI g, nI (k - 1) - nI 1, υ, ⟨m', g, k - 1, by omega, rfl, rfl, rfl, u1, u2, u3, u4, u5, fun q i h1 h2 h3 => ?_⟩, ?_, rfl⟩
            · by_cases ei : i = k - 1
              · rw [ei]; exact hmk
              · exact u6 q i (by omega) h2 h3
            · rw [e1, nI_add, p_ix (by omega), p_ix (by omega)]; omega
          | false =>
            obtain ⟨r, er, hr⟩ := leadsOut_eq (m := m') (i := k - 1) hb (by omega) hG (fun d hd => by rw [u3.r1 23 (by decide)]; exact h4 d hd) u1
            rw [bI_f, i_eq rfl, er, p_bd]
            cases hrr : r with
            | false =>
              rw [bI_f, i_eq rfl, dn_n, p_nm]
              refine ⟨nI (cT m' n), bI g, nI (k - 1) - nI 1, υ, ⟨m', g, k - 1, by omega, rfl, rfl, rfl, u1, u2, u3, u4, u5, fun q i h1 h2 h3 => ?_⟩, ?_, rfl⟩
              · by_cases ei : i = k - 1
                · rw [ei] at h3
                  have := hr.mpr h3
                  rw [hrr] at this; cases this
                · exact u6 q i (by omega) h2 h3
              · rw [e1, nI_add, p_ix (by omega), p_ix (by omega)]; omega
            | true =>
              have hup := cT_up hmk n (by omega)
              rw [bI_t, i_ne (by omega) (by omega) (by omega), p_ck _ (by omega) (by omega), p_nm, nI_add (cT m' n) 1, p_nm, dn_n, p_nm]
              refine ⟨nI (cT (upq m' (k - 1) true) n), bI true, nI (k - 1) - nI 1, sI υ 24 (k - 1) (nI 1), ⟨upq m' (k - 1) true, true, k - 1, by omega, rfl, rfl, rfl, ?_, ?_, u3.sI (by decide), by omega, fun _ => by omega, (fun q => by cases q)⟩, ?_, by rw [hup]; rfl⟩
              · intro t ht
                by_cases et : t = k - 1
                · rw [et, r_sI0, upq_s]; rfl
                · rw [r_sIj et, upq_n et]; exact u1 t ht
              · intro i hi hmi
                by_cases ei : i = k - 1
                · rw [ei]
                  rcases hr.mp hrr with ⟨e, t, he, g1, g2⟩ | hnone
                  · exact Rch_s he g1 (u2 t (hG _ t (by omega) g1) g2)
                  · exact Rch_0 ((hE _ (by omega)).mpr hnone)
                · rw [upq_n ei] at hmi
                  exact u2 i hi hmi
              · rw [e1, nI_add, p_ix (by omega), p_ix (by omega)]; omega
      · have e1 : nI (n - 1) + nI 1 = nI n := by rw [nI_add, show n - 1 + 1 = n by omega]
        rw [e1, p_ix (by omega), FU_v]; omega
    -- all sweeps
    refine lq3 (F := f_X9_countStuck_L19) (fun a b c υ => ∃ m g s, a = nI (cT m n) ∧ b = bI g ∧ c = nI s ∧ s ≤ n + 1 ∧ (∀ t, t < n → υ.1 24 t = bI (m t)) ∧ (∀ i, i < n → m i = true → Rch E G i) ∧ Fr [24] σ υ ∧ (g = true → s ≤ cT m n) ∧ (g = false → ∀ i, i < n → lds G m i → m i = true)) (fun _ _ c _ => 6002 - ix c) (fun o => ∃ σ', o = some (nI (stk P), σ') ∧ Fr [24] σ σ') ?_ FU (nI 0) (nI 1) (nI 0) σ1 ?_ ⟨fun _ => false, true, 0, by rw [cT_0], rfl, rfl, by omega, m1, (fun i _ q => by cases q), m2, fun _ => by omega, (fun q => by cases q)⟩
    · rintro L a b c υ ⟨m, g, s, rfl, rfl, rfl, hs, u1, u2, u3, u4, u5⟩
      have hcl := cT_le m n
      unfold f_X9_countStuck_L19 f_X9_countStuck_84
      simp only [qi_0, qi_1, qi_2, qi_3, qi_4, qi_5, qi_6, qi_7, qi_8, qi_9, qi_10, qi_11, qi_12, qi_13, qi_14, qi_15, qi_16, qi_17, qi_19, qi_26, qi_31, qi_32, qi_35, qi_40, qi_42, qi_48, qi_50, qi_57, qi_59, qi_63, qi_64, qi_97, qi_120, qi_122, qi_210, qi_255, qi_511, qi_512, qi_1000, qi_6000, qi_13312, qi_14337, qi_16383, qi_16384, qi_524287]
      rw [u3.r1 18 (by decide), h187]
      have fin : g = false → nI n - nI (cT m n) = nI (stk P) := by
        intro hg
        have hcl2 := u5 hg
        have heq := rch_of hG u2 (fun i hi hEi => hcl2 i hi (Or.inr ((hE i hi).mp hEi))) (fun i e t hi he g1 g2 => hcl2 i hi (Or.inl ⟨e, t, he, g1, g2⟩))
        rw [pk_sub hcl, hst, cT_congr n heq]
      cases hg : g with
      | false =>
        right
        by_cases c1 : n < s
        · rw [i_lt (by omega) c1, fin hg]; exact ⟨υ, rfl, u3⟩
        · rw [i_nlt (by omega) (by omega), bI_f, i_eq rfl, fin hg]; exact ⟨υ, rfl, u3⟩
      | true =>
        left
        have hsc := u4 hg
        obtain ⟨m', τ', g', e2, v1, v2, v3, v4, v5, v6⟩ := sweep m υ (fun (xq1 : Int32) (xq2 : Int32) (σ : Mm) => nm (nI s + nI 1) (fun vq9 => L xq1 xq2 vq9 σ)) (nI s) u1 u2 u3
        have hcl' := cT_le m' n
        rw [i_nlt (by omega) (by omega), bI_t, i_ne (by omega) (by omega) (by omega), p_nm, pk_sub (by omega), e2, p_nm, nI_add]
        refine ⟨nI (cT m' n), bI g', nI (s + 1), τ', ⟨m', g', s + 1, rfl, rfl, rfl, by omega, v1, v2, v3, fun q => ?_, v6⟩, ?_, rfl⟩
        · have := v5 q; omega
        · rw [p_ix (by omega), p_ix (by omega)]; omega
    · rw [p_ix (by omega), FU_v]; omega
  · omega
