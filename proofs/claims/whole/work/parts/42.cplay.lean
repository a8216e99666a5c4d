/-! PURE: the class plays a told turn -/
def mvN (v : Int64) : Option Nat := if v < 0 then none else if v.toInt.toNat < 3 then some v.toInt.toNat else if 10 ≤ v.toInt.toNat ∧ v.toInt.toNat < 13 then some (v.toInt.toNat - 7) else none
theorem mvN_n {n : Nat} (h : n < 9223372036854775808) : mvN (lN n) = if n < 3 then some n else if 10 ≤ n ∧ n < 13 then some (n - 7) else none := by
  unfold mvN
  have e : (lN n).toInt.toNat = n := by rw [pk_lT (by omega)]; omega
  have e2 : ¬ lN n < 0 := by
    rw [show (0 : Int64) = lN 0 from rfl, pk_lLT (by omega) (by omega)]
    omega
  rw [if_neg e2, e]
theorem mvN_lt {v : Int64} {k : Nat} (h : mvN v = some k) : k < 6 := by
  unfold mvN at h
  split at h
  · cases h
  · split at h
    · simp only [Option.some.injEq] at h; omega
    · split at h
      · simp only [Option.some.injEq] at h; omega
      · cases h
theorem moveFor_eq (v : Int64) (σ : Mm) : f_X2_moveFor v σ = some (iO (mvN v), σ) := by
  unfold f_X2_moveFor f_X2_moveFor_17 f_X2_moveFor_43
  simp only [qi_0, qi_1, qi_2, qi_3, qi_4, qi_5, qi_6, qi_7, qi_8, qi_9, qi_10, qi_11, qi_12, qi_13, qi_14, qi_15, qi_16, qi_17, qi_19, qi_26, qi_31, qi_32, qi_35, qi_40, qi_42, qi_48, qi_50, qi_57, qi_59, qi_63, qi_64, qi_97, qi_120, qi_122, qi_210, qi_255, qi_511, qi_512, qi_1000, qi_6000, qi_13312, qi_14337, qi_16383, qi_16384, qi_524287, ql_0, ql_1, ql_3, ql_4, ql_10, ql_12, ql_13, ql_16, ql_42, ql_157, ql_256, ql_16383, ql_524287, lc_lt, lc_ge]
  by_cases h0 : v < lN 0
  · have h10 : v < lN 10 := by
      rw [Int64.lt_iff_toInt_lt] at h0 ⊢
      rw [pk_lT (by omega)] at h0 ⊢
      omega
    have e : mvN v = none := if_pos h0
    rw [if_pos h0, if_pos h10, e]; rfl
  · obtain ⟨n, hn, rfl⟩ := pk_lOf h0
    have hn : n < 9223372036854775808 := by omega
    rw [if_neg h0, mvN_n hn]
    by_cases c3 : n < 3
    · rw [if_neg (show ¬ lN 3 ≤ lN n by rw [pk_lLE (by omega) (by omega)]; omega), if_pos c3, lN_i]; rfl
    · rw [if_pos (show lN 3 ≤ lN n by rw [pk_lLE (by omega) (by omega)]; omega), if_neg c3]
      by_cases c10 : n < 10
      · rw [if_pos (show lN n < lN 10 by rw [pk_lLT (by omega) (by omega)]; omega), if_neg (by omega)]; rfl
      · rw [if_neg (show ¬ lN n < lN 10 by rw [pk_lLT (by omega) (by omega)]; omega)]
        by_cases c13 : n < 13
        · rw [if_neg (show ¬ lN 13 ≤ lN n by rw [pk_lLE (by omega) (by omega)]; omega), if_pos ⟨by omega, c13⟩, lN_i, pk_sub (by omega), nI_add]
          show some (nI (n - 10 + 3), σ) = some (nI (n - 7), σ)
          rw [show n - 10 + 3 = n - 7 by omega]
        · rw [if_pos (show lN 13 ≤ lN n by rw [pk_lLE (by omega) (by omega)]; omega), if_neg (by omega)]; rfl
/-- state, latest hands (0: none), cost, how many moves -/
abbrev Ply : Type := Nat × (Nat → Nat) × Nat × Nat
def plyX (P : Pg) (s : Ply) (k y : Nat) : Ply := match tch P s.1 k with
  | none => (y, s.2.1, s.2.2.1 + 1, s.2.2.2 + 1)
  | some c => (y, upq s.2.1 c (k % 3 + 1), s.2.2.1 + (if s.2.1 c ≠ 0 ∧ s.2.1 c ≠ k % 3 + 1 then 5 else 1), s.2.2.2 + 1)
def ply (P : Pg) (num : Nat → Int64) : Nat → Ply
  | 0 => (pF P, (fun _ => 0), 0, 0)
  | i + 1 => if (ply P num i).2.2.2 < i then ply P num i else match mvN (num i) with
    | none => ply P num i
    | some k => match mv P (pL P) (ply P num i).1 k with
      | none => ply P num i
      | some y => plyX P (ply P num i) k y
theorem tch_lt {P : Pg} {x k c : Nat} (hP : PgV P) (hV : VS P x) (hk : k < 6) (hc : mv P (pL P) x k ≠ none) (h : tch P x k = some c) : c < 3 := by
  unfold tch at h
  split at h
  · rename_i h3
    have hp : pl (hd x k) < pN P k := by
      apply Classical.byContradiction
      intro q
      apply hc
      unfold mv stp stpf
      rw [if_pos h3, if_pos (by omega)]
    obtain ⟨v1, v2, v3, v4, v5, v6⟩ := hP.2.2.2.2 k _ h3 hp
    split at h
    · rename_i k1
      split at h
      · simp only [Option.some.injEq] at h; rw [← h]; exact v2 (by omega) (by omega)
      · cases h
    · split at h
      · rename_i k2
        split at h
        · simp only [Option.some.injEq] at h; rw [← h]; exact v2 (by omega) (by omega)
        · cases h
      · split at h
        · rename_i k3
          simp only [Option.some.injEq] at h; rw [← h]
          rcases k3 with k3 | k3
          · exact v2 (by omega) (by omega)
          · exact v2 (by omega) (by omega)
        · cases h
  · simp only [Option.some.injEq] at h
    have := (hV.2 (k - 3) (by omega)).1.2.2.2.1
    omega
theorem ply_ok {P : Pg} (hP : PgV P) (h0 : VS P (pF P)) (num : Nat → Int64) : ∀ i, VS P (ply P num i).1 ∧ (ply P num i).2.2.1 ≤ 5 * i ∧ (ply P num i).2.2.2 ≤ i ∧ ∀ c, (ply P num i).2.1 c ≤ 3 := by
  intro i
  induction i with
  | zero => exact ⟨h0, Nat.le_refl _, Nat.le_refl _, fun c => Nat.zero_le _⟩
  | succ i ih =>
    obtain ⟨a1, a2, a3, a4⟩ := ih
    rw [ply]
    split
    · exact ⟨a1, by omega, by omega, a4⟩
    · split
      · exact ⟨a1, by omega, by omega, a4⟩
      · rename_i k hk
        split
        · exact ⟨a1, by omega, by omega, a4⟩
        · rename_i y hy
          have hk6 := mvN_lt hk
          have hVy := mv_VS hP a1 hk6 hy
          unfold plyX
          split
          · exact ⟨hVy, by show _ + 1 ≤ _; omega, by show _ + 1 ≤ _; omega, a4⟩
          · rename_i c hc
            refine ⟨hVy, ?_, by show _ + 1 ≤ _; omega, fun d => ?_⟩
            · show (ply P num i).2.2.1 + (if (ply P num i).2.1 c ≠ 0 ∧ (ply P num i).2.1 c ≠ k % 3 + 1 then 5 else 1) ≤ _
              split <;> omega
            · show upq (ply P num i).2.1 c (k % 3 + 1) d ≤ 3
              by_cases e : d = c
              · rw [e, upq_s]; omega
              · rw [upq_n e]; exact a4 d
theorem ply_frz {P : Pg} {num : Nat → Int64} {i : Nat} (h : (ply P num i).2.2.2 < i) : ∀ k, ply P num (i + k) = ply P num i := by
  intro k
  induction k with
  | zero => rfl
  | succ k ih => rw [show i + (k + 1) = i + k + 1 by omega, ply, ih, if_pos (by omega)]
theorem priceOf_eq {k c : Nat} {lat : Nat → Nat} {σ : Mm} (hk : k < 6) (hc : c < 3) (hl : lat c ≤ 3) (h38 : σ.1 38 c = tI (lat c)) : f_X2_priceOf (nI k) (nI c) σ = some (nI (if lat c ≠ 0 ∧ lat c ≠ k % 3 + 1 then 5 else 1), sI σ 38 c (nI (k % 3))) := by
  unfold f_X2_priceOf f_X2_priceOf_38 f_X2_priceOf_39
  simp only [qi_0, qi_1, qi_2, qi_3, qi_4, qi_5, qi_6, qi_7, qi_8, qi_9, qi_10, qi_11, qi_12, qi_13, qi_14, qi_15, qi_16, qi_17, qi_19, qi_26, qi_31, qi_32, qi_35, qi_40, qi_42, qi_48, qi_50, qi_57, qi_59, qi_63, qi_64, qi_97, qi_120, qi_122, qi_210, qi_255, qi_511, qi_512, qi_1000, qi_6000, qi_13312, qi_14337, qi_16383, qi_16384, qi_524287]
  rw [i_nlt (by omega) (by omega), i_lt (by omega) hc, p_irm (by omega) (by omega) (by omega), p_nm, p_ck _ hc (by omega), p_ix (by omega), h38]
  by_cases l0 : lat c = 0
  · rw [show tI (lat c) = -nI 1 from if_pos l0, i_m1lt (by omega), p_ck _ hc (by omega), p_nm, p_tf, if_neg (fun q => q.1 l0)]
  · rw [show tI (lat c) = nI (lat c - 1) from if_neg l0, i_nlt (by omega) (by omega), p_ck _ hc (by omega)]
    by_cases l1 : lat c = k % 3 + 1
    · rw [i_eq (by omega), p_ck _ hc (by omega), p_nm, p_tf, if_neg (fun q => q.2 l1)]
    · rw [i_ne (by omega) (by omega) (by omega), p_ck _ hc (by omega), p_nm, i_ne (by omega) (by omega) (by omega), if_pos ⟨l0, l1⟩]
theorem priceOf_m1 {k : Nat} {σ : Mm} : f_X2_priceOf (nI k) (-nI 1) σ = some (nI 1, σ) := by
  unfold f_X2_priceOf
  simp only [qi_0, qi_1, qi_2, qi_3, qi_4, qi_5, qi_6, qi_7, qi_8, qi_9, qi_10, qi_11, qi_12, qi_13, qi_14, qi_15, qi_16, qi_17, qi_19, qi_26, qi_31, qi_32, qi_35, qi_40, qi_42, qi_48, qi_50, qi_57, qi_59, qi_63, qi_64, qi_97, qi_120, qi_122, qi_210, qi_255, qi_511, qi_512, qi_1000, qi_6000, qi_13312, qi_14337, qi_16383, qi_16384, qi_524287]
  rw [i_m1lt (by omega)]
theorem fill38 (σ : Mm) : ∃ σ', f_J7_fill_53178 (-nI 1) σ = some ((), σ') ∧ (∀ c, c < 3 → σ'.1 38 c = -nI 1) ∧ Fr [38] σ σ' := by
  unfold f_J7_fill_53178
  simp only [qi_0, qi_1, qi_2, qi_3, qi_4, qi_5, qi_6, qi_7, qi_8, qi_9, qi_10, qi_11, qi_12, qi_13, qi_14, qi_15, qi_16, qi_17, qi_19, qi_26, qi_31, qi_32, qi_35, qi_40, qi_42, qi_48, qi_50, qi_57, qi_59, qi_63, qi_64, qi_97, qi_120, qi_122, qi_210, qi_255, qi_511, qi_512, qi_1000, qi_6000, qi_13312, qi_14337, qi_16383, qi_16384, qi_524287]
  obtain ⟨σ', ⟨a1, a2⟩, e⟩ := lqU (F := f_J7_fill_53178_L5 (-nI 1) (nI 3)) (bot := fun _ _ => none) (fun τ => some ((), τ)) 3 (fun k τ => (∀ i, i < k → τ.1 38 i = -nI 1) ∧ Fr [38] σ τ) (by
      intro L τ _
      unfold f_J7_fill_53178_L5
      simp only [qi_0, qi_1, qi_2, qi_3, qi_4, qi_5, qi_6, qi_7, qi_8, qi_9, qi_10, qi_11, qi_12, qi_13, qi_14, qi_15, qi_16, qi_17, qi_19, qi_26, qi_31, qi_32, qi_35, qi_40, qi_42, qi_48, qi_50, qi_57, qi_59, qi_63, qi_64, qi_97, qi_120, qi_122, qi_210, qi_255, qi_511, qi_512, qi_1000, qi_6000, qi_13312, qi_14337, qi_16383, qi_16384, qi_524287]
      rw [i_le (by omega) (by omega)]) (by
      intro L k τ hk ⟨h1, h2⟩
      refine ⟨sI τ 38 k (-nI 1), ⟨fun i hi => ?_, h2.sI (by decide)⟩, ?_⟩
      · by_cases e : i = k
        · rw [e, r_sI0]
        · rw [r_sIj e]; exact h1 i (by omega)
      · unfold f_J7_fill_53178_L5
        simp only [qi_0, qi_1, qi_2, qi_3, qi_4, qi_5, qi_6, qi_7, qi_8, qi_9, qi_10, qi_11, qi_12, qi_13, qi_14, qi_15, qi_16, qi_17, qi_19, qi_26, qi_31, qi_32, qi_35, qi_40, qi_42, qi_48, qi_50, qi_57, qi_59, qi_63, qi_64, qi_97, qi_120, qi_122, qi_210, qi_255, qi_511, qi_512, qi_1000, qi_6000, qi_13312, qi_14337, qi_16383, qi_16384, qi_524287]
        rw [i_nle (by omega) (by omega), p_ck _ (by omega) (by omega), p_ix (by omega), p_nm, p_nm, nI_add]) FU 0 σ (by omega) (by rw [FU_v]; omega) ⟨fun i hi => by omega, Fr.rf _ _⟩
  exact ⟨σ', e, a1, a2⟩
def plL : List Nat := [37, 38]
theorem through2_eq {P : Pg} {σ : Mm} {q n : Nat} (hP : PgV P) (hL : LdC P σ) (h0 : VS P (pF P)) (hq : q < 37 ∨ 38 < q) (hq1 : q + 1 < 37 ∨ 38 < q + 1) (hn : n ≤ 40) (hs : σ.1 q 1 = nI n) :
    ∃ σ', f_X2_through q σ = some ((), σ') ∧ σ'.2 37 1 = lN (ply P (σ.2 (q + 1)) n).1 ∧ σ'.1 37 2 = nI (ply P (σ.2 (q + 1)) n).2.2.2 ∧ σ'.1 37 3 = nI (ply P (σ.2 (q + 1)) n).2.2.1 ∧ Fr plL σ σ' := by
  obtain ⟨σ1, e1, m1, m2⟩ := fill38 σ
  have hok := ply_ok hP h0 (σ.2 (q + 1))
  have hqL : q ∉ plL := by unfold plL; simp only [List.mem_cons, List.not_mem_nil, or_false]; omega
  have hq1L : q + 1 ∉ plL := by unfold plL; simp only [List.mem_cons, List.not_mem_nil, or_false]; omega
  unfold f_X2_through
  simp only [qi_0, qi_1, qi_2, qi_3, qi_4, qi_5, qi_6, qi_7, qi_8, qi_9, qi_10, qi_11, qi_12, qi_13, qi_14, qi_15, qi_16, qi_17, qi_19, qi_26, qi_31, qi_32, qi_35, qi_40, qi_42, qi_48, qi_50, qi_57, qi_59, qi_63, qi_64, qi_97, qi_120, qi_122, qi_210, qi_255, qi_511, qi_512, qi_1000, qi_6000, qi_13312, qi_14337, qi_16383, qi_16384, qi_524287]
  rw [e1, p_bd, p_nm, p_nm, p_nm, m2.r2 13 (by decide), hL.2.2.1]
  refine lq1 (F := f_X2_through_L28 q) (fun a τ => ∃ i, i ≤ n ∧ a = nI i ∧ (ply P (σ.2 (q + 1)) i).2.2.2 = i ∧ τ.2 37 1 = lN (ply P (σ.2 (q + 1)) i).1 ∧ τ.1 37 2 = nI (ply P (σ.2 (q + 1)) i).2.2.2 ∧ τ.1 37 3 = nI (ply P (σ.2 (q + 1)) i).2.2.1 ∧ (∀ c, c < 3 → τ.1 38 c = tI ((ply P (σ.2 (q + 1)) i).2.1 c)) ∧ Fr plL σ τ) (fun a _ => 41 - ix a) (fun o => ∃ σ', o = some ((), σ') ∧ σ'.2 37 1 = lN (ply P (σ.2 (q + 1)) n).1 ∧ σ'.1 37 2 = nI (ply P (σ.2 (q + 1)) n).2.2.2 ∧ σ'.1 37 3 = nI (ply P (σ.2 (q + 1)) n).2.2.1 ∧ Fr plL σ σ') ?_ FU (nI 0) _ ?_ ⟨0, by omega, rfl, rfl, by rw [r_sI2, r_sI2, r_sL0]; rfl, by rw [r_sIj (by decide), r_sI0]; rfl, by rw [r_sI0]; rfl, fun c hc => by rw [r_sI1 (by decide), r_sI1 (by decide), r_sL1]; exact m1 c hc, (((m2.mo (by intro k hk; revert k; decide)).sL (by decide)).sI (by decide)).sI (by decide)⟩
  · rintro L a τ ⟨i, hi, rfl, hdi, t1, t2, t3, t4, tF⟩
    obtain ⟨o1, o2, o3, o4⟩ := hok i
    have hLt := LdC_of hL (tF.r1 13 (by decide)) (tF.r2 13 (by decide)) (tF.r1 14 (by decide)) (tF.r1 16 (by decide)) (tF.r1 17 (by decide))
    have hl1 := hP.2.1
    unfold f_X2_through_L28
    simp only [qi_0, qi_1, qi_2, qi_3, qi_4, qi_5, qi_6, qi_7, qi_8, qi_9, qi_10, qi_11, qi_12, qi_13, qi_14, qi_15, qi_16, qi_17, qi_19, qi_26, qi_31, qi_32, qi_35, qi_40, qi_42, qi_48, qi_50, qi_57, qi_59, qi_63, qi_64, qi_97, qi_120, qi_122, qi_210, qi_255, qi_511, qi_512, qi_1000, qi_6000, qi_13312, qi_14337, qi_16383, qi_16384, qi_524287]
    rw [tF.r1 q hqL, hs]
    by_cases c : n ≤ i
    · right
      have e : i = n := by omega
      subst e
      rw [i_le (by omega) c]
      exact ⟨τ, rfl, t1, t2, t3, tF⟩
    · rw [i_nle (by omega) (by omega), p_ck _ (by omega) (by omega), p_ix (a := i) (by omega), tF.r2 (q + 1) hq1L, moveFor_eq, p_bd]
      -- it ends here
      have stop : ply P (σ.2 (q + 1)) (i + 1) = ply P (σ.2 (q + 1)) i → ∃ σ', some ((), τ) = some ((), σ') ∧ σ'.2 37 1 = lN (ply P (σ.2 (q + 1)) n).1 ∧ σ'.1 37 2 = nI (ply P (σ.2 (q + 1)) n).2.2.2 ∧ σ'.1 37 3 = nI (ply P (σ.2 (q + 1)) n).2.2.1 ∧ Fr plL σ σ' := by
        intro he
        have hz := ply_frz (P := P) (num := σ.2 (q + 1)) (i := i + 1) (by rw [he]; omega) (n - (i + 1))
        rw [show i + 1 + (n - (i + 1)) = n by omega, he] at hz
        rw [hz]
        exact ⟨τ, rfl, t1, t2, t3, tF⟩
      have hst : ply P (σ.2 (q + 1)) (i + 1) = match mvN (σ.2 (q + 1) i) with
          | none => ply P (σ.2 (q + 1)) i
          | some k => match mv P (pL P) (ply P (σ.2 (q + 1)) i).1 k with
            | none => ply P (σ.2 (q + 1)) i
            | some y => plyX P (ply P (σ.2 (q + 1)) i) k y := by rw [ply, if_neg (by omega)]
      cases hmv : mvN (σ.2 (q + 1) i) with
      | none =>
        right
        rw [hmv] at hst
        rw [show iO none = -nI 1 from rfl, if_neg (show ¬ nI 0 ≤ -nI 1 by rw [p_m1le]; exact fun z => z)]
        unfold f_X2_through_72
        simp only [qi_0, qi_1, qi_2, qi_3, qi_4, qi_5, qi_6, qi_7, qi_8, qi_9, qi_10, qi_11, qi_12, qi_13, qi_14, qi_15, qi_16, qi_17, qi_19, qi_26, qi_31, qi_32, qi_35, qi_40, qi_42, qi_48, qi_50, qi_57, qi_59, qi_63, qi_64, qi_97, qi_120, qi_122, qi_210, qi_255, qi_511, qi_512, qi_1000, qi_6000, qi_13312, qi_14337, qi_16383, qi_16384, qi_524287, ql_0, ql_1, ql_3, ql_4, ql_10, ql_12, ql_13, ql_16, ql_42, ql_157, ql_256, ql_16383, ql_524287]
        rw [if_pos (show lg_cmp (-lN 1) (-lN 1) = nI 0 by rw [lc_eq])]
        exact stop hst
      | some k =>
        have hk6 := mvN_lt hmv
        rw [hmv] at hst
        simp only at hst
        have hno := lO_none (mv P (pL P) (ply P (σ.2 (q + 1)) i).1 k) (fun v hv => (mv_VS hP o1 hk6 hv).1)
        rw [show iO (some k) = nI k from rfl, i_le (by omega) (by omega), t1, hLt.2.1, moved_eq hP hLt o1 hk6 (by omega), p_bd]
        unfold f_X2_through_72
        simp only [qi_0, qi_1, qi_2, qi_3, qi_4, qi_5, qi_6, qi_7, qi_8, qi_9, qi_10, qi_11, qi_12, qi_13, qi_14, qi_15, qi_16, qi_17, qi_19, qi_26, qi_31, qi_32, qi_35, qi_40, qi_42, qi_48, qi_50, qi_57, qi_59, qi_63, qi_64, qi_97, qi_120, qi_122, qi_210, qi_255, qi_511, qi_512, qi_1000, qi_6000, qi_13312, qi_14337, qi_16383, qi_16384, qi_524287, ql_0, ql_1, ql_3, ql_4, ql_10, ql_12, ql_13, ql_16, ql_42, ql_157, ql_256, ql_16383, ql_524287]
        cases hm : mv P (pL P) (ply P (σ.2 (q + 1)) i).1 k with
        | none =>
          right
          rw [hm] at hst hno
          rw [if_pos (show lg_cmp (lO none) (-lN 1) = nI 0 by rw [lc_eq]; exact hno.mpr rfl)]
          exact stop hst
        | some y =>
          left
          rw [hm] at hst hno
          simp only at hst
          rw [if_neg (show ¬ lg_cmp (lO (some y)) (-lN 1) = nI 0 by rw [lc_eq, hno]; intro z; cases z), show lO (some y) = lN y from rfl, t1, touched_eq hP hLt o1 hk6 (by rw [hm]; intro z; cases z), p_bd]
          unfold plyX at hst
          cases ht : tch P (ply P (σ.2 (q + 1)) i).1 k with
          | none =>
            rw [ht] at hst
            simp only at hst
            rw [show iO none = -nI 1 from rfl, priceOf_m1, p_bd, t3, nI_add, p_nm, p_nm, p_nm, r_sL1, r_sIj (by decide), t2, nI_add, p_nm, nI_add]
            refine ⟨nI (i + 1), _, ⟨i + 1, by omega, rfl, ?_, ?_, ?_, ?_, ?_, ((tF.sI (by decide)).sL (by decide)).sI (by decide)⟩, ?_, rfl⟩
            · rw [hst]; show _ + 1 = _; rw [hdi]
            · rw [hst, r_sI2, r_sL0]
            · rw [hst, r_sI0]
            · rw [hst, r_sIj (by decide), r_sL1, r_sI0]
            · intro c hc
              rw [hst, r_sI1 (by decide), r_sL1, r_sI1 (by decide)]; exact t4 c hc
            · rw [p_ix (by omega)]; omega
          | some c =>
            have hc3 := tch_lt hP o1 hk6 (by rw [hm]; intro z; cases z) ht
            rw [ht] at hst
            simp only at hst
            rw [show iO (some c) = nI c from rfl, priceOf_eq (lat := (ply P (σ.2 (q + 1)) i).2.1) hk6 hc3 (o4 c) (t4 c hc3), p_bd, t3, nI_add, p_nm, p_nm, p_nm, r_sL1, r_sIj (by decide), r_sI1 (by decide), t2, nI_add, p_nm, nI_add]
            refine ⟨nI (i + 1), _, ⟨i + 1, by omega, rfl, ?_, ?_, ?_, ?_, ?_, (((tF.sI (by decide)).sI (by decide)).sL (by decide)).sI (by decide)⟩, ?_, rfl⟩
            · rw [hst]; show _ + 1 = _; rw [hdi]
            · rw [hst, r_sI2, r_sL0]
            · rw [hst, r_sI0]
            · rw [hst, r_sIj (by decide), r_sL1, r_sI0]
            · intro d hd3
              rw [hst, r_sI1 (by decide), r_sL1, r_sI1 (by decide)]
              show _ = tI (upq (ply P (σ.2 (q + 1)) i).2.1 c (k % 3 + 1) d)
              by_cases e : d = c
              · rw [e, r_sI0, upq_s]
                exact (if_neg (by omega)).symm
              · rw [r_sIj e, upq_n e]; exact t4 d hd3
            · rw [p_ix (by omega)]; omega
  · rw [p_ix (by omega), FU_v]; omega
