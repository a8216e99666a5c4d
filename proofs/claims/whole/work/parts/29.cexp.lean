/-! PURE: the class goes through all states: the whole of it -/
def nxP (P : Pg) (x k : Nat) : Option Nat := mv P (pL P) x k
def bfP (P : Pg) (e : Nat) : Bs := bfs (nxP P) (pF P) e
def bEnd (P : Pg) : Bs := bfP P 36006
theorem bf_BI (P : Pg) (e : Nat) : BI (nxP P) (pF P) e (bfP P e) := BI_all _ _ e
theorem bf_VS {P : Pg} (hP : PgV P) (h0 : VS P (pF P)) (e : Nat) : ∀ j, j < bN (bfP P e) → VS P (bF (bfP P e) j) := by
  obtain ⟨h1, h2, h3, h4, h5, h6, h7⟩ := bf_BI P e
  intro j
  induction j using Nat.strongRecOn with
  | _ j ih =>
    intro hj
    by_cases c : j = 0
    · subst c; rw [h6]; exact h0
    · obtain ⟨a1, a2, a3, a4, a5⟩ := h3 j (by omega) hj
      exact mv_VS hP (ih (bC (bfP P e) j / 6) (by omega) (by omega)) (Nat.mod_lt _ (by omega)) a4
theorem bEnd_of {P : Pg} {e : Nat} (h : bN (bfP P e) ≤ e / 6 ∨ 6000 < bN (bfP P e)) (he : e ≤ 36006) : bEnd P = bfP P e := by
  obtain ⟨m, hm⟩ : ∃ m, 36006 = e + m := ⟨36006 - e, by omega⟩
  unfold bEnd
  rw [hm]
  exact bfs_frz h m
theorem LdC_of {P : Pg} {σ τ : Mm} (h : LdC P σ) (e1 : τ.1 13 = σ.1 13) (e2 : τ.2 13 = σ.2 13) (e3 : τ.1 14 = σ.1 14) (e4 : τ.1 16 = σ.1 16) (e5 : τ.1 17 = σ.1 17) : LdC P τ := by
  unfold LdC CdC at *
  rw [e1, e2, e3, e4, e5]
  exact h
theorem TuC_of {n : Nat} {F : Nat → Nat} {σ τ : Mm} (h : TuC n F σ) (e7 : τ.1 18 7 = σ.1 18 7) (e19 : τ.2 19 = σ.2 19) (e20 : τ.1 20 = σ.1 20) (e21 : τ.1 21 = σ.1 21) : TuC n F τ := by
  have e : occC τ n = occC σ n := by
    funext s
    unfold occC
    rw [e20, e21]
  obtain ⟨t1, t2, t3, t4, t5⟩ := h
  refine ⟨t1, by rw [e7]; exact t2, fun j hj => by rw [e19]; exact t3 j hj, fun s hs => by rw [e20]; exact t4 s hs, by rw [e]; exact t5⟩
def xL : List Nat := [18, 19, 20, 21, 22, 23]
theorem LdC_xL {P : Pg} {σ τ : Mm} (h : LdC P σ) (hF : Fr xL σ τ) : LdC P τ := LdC_of h (hF.r1 13 (by decide)) (hF.r2 13 (by decide)) (hF.r1 14 (by decide)) (hF.r1 16 (by decide)) (hF.r1 17 (by decide))
def XI (P : Pg) (σ : Mm) (e : Nat) (τ : Mm) : Prop := TuC (bN (bfP P e)) (bF (bfP P e)) τ ∧ τ.1 18 8 = nI 0 ∧ (∀ d, d < e → τ.1 23 d = iO (bG (bfP P e) d)) ∧ τ.1 22 0 = -nI 1 ∧ (∀ j, 0 < j → j < bN (bfP P e) → τ.1 22 j = nI (bC (bfP P e) j)) ∧ Fr xL σ τ
def XB (P : Pg) (σ τ : Mm) : Prop := 6000 < bN (bEnd P) ∧ τ.1 18 8 = nI 1 ∧ τ.1 18 7 = nI 6000 ∧ (∃ F : Nat → Nat, ∀ j, j < 6000 → τ.2 19 j = lN (F j) ∧ VS P (F j)) ∧ SlR τ ∧ Fr xL σ τ
theorem expl_step {P : Pg} {σ τ : Mm} {i k : Nat} (hP : PgV P) (hL : LdC P σ) (h0 : VS P (pF P)) (hX : XI P σ (6 * i + k) τ) (hi : i < bN (bfP P (6 * i + k))) (hk : k < 6) (K : Mm → Option (Unit × Mm)) (L : Int32 → Mm → Option (Unit × Mm)) :
    ∃ τ', f_X9_explore_L46 K (nI i) L (nI k) τ = L (nI (k + 1)) τ' ∧ (XI P σ (6 * i + k + 1) τ' ∨ XB P σ τ') := by
  obtain ⟨hT, h8, hG, hC0, hC, hF⟩ := hX
  obtain ⟨b1, b2, b3, b4, b5, b6, b7⟩ := bf_BI P (6 * i + k)
  have hn := hT.1
  have hLt := LdC_xL hL hF
  have hVS := bf_VS hP h0 (6 * i + k)
  have h19 := hT.2.2.1 i hi
  have h13 := hLt.2.1
  have hl1 := hP.2.1
  have hst : bfP P (6 * i + k + 1) = bst (nxP P) (bfP P (6 * i + k)) (6 * i + k) := rfl
  have hd6 : (6 * i + k) / 6 = i := by omega
  have hm6 : (6 * i + k) % 6 = k := by omega
  generalize hbd : bfP P (6 * i + k) = b at *
  have hun : f_X9_explore_L46 K (nI i) L (nI k) τ = bd (f_X1_moved (lN (bF b i)) (nI k) (nI (pL P)) τ) (fun rq6 σ5 => nm (nI (i * 6 + k)) (fun vq7 => (if (lg_cmp rq6 (-lN 1)) = nI 0 then f_X9_explore_111 L (nI i) (nI k) vq7 (-nI 1) σ5 else bd (f_X9_indexOf rq6 vq7 σ5) (fun rq9 σ8 => f_X9_explore_111 L (nI i) (nI k) vq7 rq9 σ8)))) := by
    unfold f_X9_explore_L46
    simp only [qi_0, qi_1, qi_2, qi_3, qi_4, qi_5, qi_6, qi_7, qi_8, qi_9, qi_10, qi_11, qi_12, qi_13, qi_14, qi_15, qi_16, qi_17, qi_19, qi_26, qi_31, qi_32, qi_35, qi_40, qi_42, qi_48, qi_50, qi_57, qi_59, qi_63, qi_64, qi_97, qi_120, qi_122, qi_210, qi_255, qi_511, qi_512, qi_1000, qi_6000, qi_13312, qi_14337, qi_16383, qi_16384, qi_524287, ql_0, ql_1, ql_3, ql_4, ql_10, ql_12, ql_13, ql_16, ql_42, ql_157, ql_256, ql_16383, ql_524287, pk_mul, nI_add]
    rw [i_nle (by omega) (by omega), h8, i_eq rfl, p_ck _ (by omega) (by omega), p_ix (by omega), h19, h13]
  have h104 : ∀ v υ, f_X9_explore_111 L (nI i) (nI k) (nI (i * 6 + k)) v υ = L (nI (k + 1)) (sI υ 23 (6 * i + k) v) := by
    intro v υ
    unfold f_X9_explore_111
    simp only [qi_0, qi_1, qi_2, qi_3, qi_4, qi_5, qi_6, qi_7, qi_8, qi_9, qi_10, qi_11, qi_12, qi_13, qi_14, qi_15, qi_16, qi_17, qi_19, qi_26, qi_31, qi_32, qi_35, qi_40, qi_42, qi_48, qi_50, qi_57, qi_59, qi_63, qi_64, qi_97, qi_120, qi_122, qi_210, qi_255, qi_511, qi_512, qi_1000, qi_6000, qi_13312, qi_14337, qi_16383, qi_16384, qi_524287]
    rw [p_ck _ (by omega) (by omega), p_ix (by omega), p_nm, p_nm, nI_add, show i * 6 + k = 6 * i + k by omega]
  rw [hun, moved_eq hP hLt (hVS i hi) hk (by omega), p_bd, p_nm]
  have hbn : nxP P (bF b i) k = none → bst (nxP P) b (6 * i + k) = (bN b, bF b, upq (bG b) (6 * i + k) none, bC b, bD b) := by
    intro hz
    unfold bst
    rw [if_neg (by omega), hd6, hm6, hz]
  have hbs : ∀ y, nxP P (bF b i) k = some y → bst (nxP P) b (6 * i + k) = bput b (6 * i + k) y := by
    intro y hz
    unfold bst
    rw [if_neg (by omega), hd6, hm6, hz]
  have hno := lO_none (mv P (pL P) (bF b i) k) (fun v hv => (mv_VS hP (hVS i hi) hk hv).1)
  have hFb : ∀ j, j < bN b → bF b j < 9223372036854775808 := fun j hj => (hVS j hj).1
  cases hm : mv P (pL P) (bF b i) k with
  | none =>
    rw [hm] at hno
    rw [if_pos (show lg_cmp (lO none) (-lN 1) = nI 0 by rw [lc_eq, hno]), h104]
    refine ⟨_, rfl, Or.inl ?_⟩
    have hb' : bfP P (6 * i + k + 1) = (bN b, bF b, upq (bG b) (6 * i + k) none, bC b, bD b) := by
      rw [hst]; exact hbn hm
    unfold XI
    rw [hb']
    refine ⟨?_, ?_, ?_, ?_, ?_, hF.sI (by decide)⟩
    · exact TuC_of hT (by rw [r_sI1 (by decide)]) (by rw [r_sI2]) (r_sI1 (by decide)) (r_sI1 (by decide))
    · rw [r_sI1 (by decide)]; exact h8
    · intro d hd
      show (sI τ 23 (6 * i + k) (-nI 1)).1 23 d = iO (upq (bG b) (6 * i + k) none d)
      by_cases c : d = 6 * i + k
      · rw [c, r_sI0, upq_s]; rfl
      · rw [r_sIj c, upq_n c]; exact hG d (by omega)
    · rw [r_sI1 (by decide)]; exact hC0
    · intro j j0 jn
      rw [r_sI1 (by decide)]; exact hC j j0 jn
  | some y =>
    have hVy := mv_VS hP (hVS i hi) hk hm
    rw [hm] at hno
    rw [if_neg (show ¬ lg_cmp (lO (some y)) (-lN 1) = nI 0 by rw [lc_eq, hno]; intro q; cases q), show lO (some y) = lN y from rfl]
    have hb' : bfP P (6 * i + k + 1) = bput b (6 * i + k) y := by
      rw [hst]; exact hbs y hm
    rcases indexOf_eq (ed := nI (i * 6 + k)) hT hVy.1 hFb with ⟨j, hne, hj, hf, he⟩ | ⟨hid, hn6, t, ht, he, hT'⟩ | ⟨hid, hn6, he⟩
    · rw [he, p_bd, h104]
      refine ⟨_, rfl, Or.inl ?_⟩
      have hp : bput b (6 * i + k) y = (bN b, bF b, upq (bG b) (6 * i + k) (some j), bC b, bD b) := by
        unfold bput
        cases hid : idx (bF b) y (bN b) with
        | none => exact absurd hid hne
        | some j' =>
          obtain ⟨q1, q2⟩ := idx_some hid
          rw [b2 j' j q1 hj (by rw [q2, hf])]
      unfold XI
      rw [hb', hp]
      refine ⟨?_, ?_, ?_, ?_, ?_, hF.sI (by decide)⟩
      · exact TuC_of hT (by rw [r_sI1 (by decide)]) (by rw [r_sI2]) (r_sI1 (by decide)) (r_sI1 (by decide))
      · rw [r_sI1 (by decide)]; exact h8
      · intro d hd
        show (sI τ 23 (6 * i + k) (nI j)).1 23 d = iO (upq (bG b) (6 * i + k) (some j) d)
        by_cases c : d = 6 * i + k
        · rw [c, r_sI0, upq_s]; rfl
        · rw [r_sIj c, upq_n c]; exact hG d (by omega)
      · rw [r_sI1 (by decide)]; exact hC0
      · intro j2 j0 jn
        rw [r_sI1 (by decide)]; exact hC j2 j0 jn
    · rw [he, p_bd, h104]
      refine ⟨_, rfl, Or.inl ?_⟩
      have hp : bput b (6 * i + k) y = (bN b + 1, upq (bF b) (bN b) y, upq (bG b) (6 * i + k) (some (bN b)), upq (bC b) (bN b) (6 * i + k), upq (bD b) (bN b) (bD b ((6 * i + k) / 6) + 1)) := by
        unfold bput
        rw [hid]
      unfold XI
      rw [hb', hp]
      generalize hsd : (hsC y + t) % 16384 = s at *
      refine ⟨?_, ?_, ?_, ?_, ?_, ?_⟩
      · exact TuC_of hT' (by rw [r_sI1 (by decide)]) (by rw [r_sI2]) (r_sI1 (by decide)) (r_sI1 (by decide))
      · rw [r_sI1 (by decide)]
        unfold incC
        rw [r_sIj (by decide), r_sI1 (by decide), r_sI1 (by decide), r_sI1 (by decide), r_sL1]; exact h8
      · intro d hd
        show (sI (incC τ (bN b) s y (nI (i * 6 + k))) 23 (6 * i + k) (nI (bN b))).1 23 d = iO (upq (bG b) (6 * i + k) (some (bN b)) d)
        by_cases c : d = 6 * i + k
        · rw [c, r_sI0, upq_s]; rfl
        · rw [r_sIj c, upq_n c]
          unfold incC
          rw [r_sI1 (by decide), r_sI1 (by decide), r_sI1 (by decide), r_sI1 (by decide), r_sL1]
          exact hG d (by omega)
      · rw [r_sI1 (by decide)]
        unfold incC
        rw [r_sI1 (by decide), r_sIj (by omega), r_sI1 (by decide), r_sI1 (by decide), r_sL1]; exact hC0
      · intro j2 j0 (jn : j2 < bN b + 1)
        show (sI (incC τ (bN b) s y (nI (i * 6 + k))) 23 (6 * i + k) (nI (bN b))).1 22 j2 = nI (upq (bC b) (bN b) (6 * i + k) j2)
        rw [r_sI1 (by decide)]
        unfold incC
        rw [r_sI1 (by decide)]
        by_cases c : j2 = bN b
        · rw [c, r_sI0, upq_s, show i * 6 + k = 6 * i + k by omega]
        · rw [r_sIj c, upq_n c, r_sI1 (by decide), r_sI1 (by decide), r_sL1]
          exact hC j2 j0 (by omega)
      · unfold incC
        exact (((((hF.sL (by decide)).sI (by decide)).sI (by decide)).sI (by decide)).sI (by decide)).sI (by decide)
    · rw [he, p_bd, h104]
      refine ⟨_, rfl, Or.inr ?_⟩
      have hp : bN (bfP P (6 * i + k + 1)) = 6001 := by
        rw [hb']
        unfold bput
        rw [hid]
        show bN b + 1 = 6001
        omega
      have hend : bEnd P = bfP P (6 * i + k + 1) := bEnd_of (Or.inr (by omega)) (by omega)
      refine ⟨by rw [hend]; omega, ?_, ?_, ⟨bF b, ?_⟩, ?_, (hF.sI (by decide)).sI (by decide)⟩
      · rw [r_sI1 (by decide), r_sI0]
      · rw [r_sI1 (by decide), r_sIj (by decide), hT.2.1, hn6]
      · intro j hj
        exact ⟨hT.2.2.1 j (by omega), hVS j (by omega)⟩
      · intro s hs
        rw [r_sI1 (by decide), r_sI1 (by decide)]; exact hT.2.2.2.1 s hs
/-- what explore leaves -/
def XE (P : Pg) (σ τ : Mm) : Prop := (bN (bEnd P) ≤ 6000 ∧ TuC (bN (bEnd P)) (bF (bEnd P)) τ ∧ τ.1 18 8 = nI 0 ∧ (∀ d, d < 6 * bN (bEnd P) → τ.1 23 d = iO (bG (bEnd P) d)) ∧ τ.1 22 0 = -nI 1 ∧ (∀ j, 0 < j → j < bN (bEnd P) → τ.1 22 j = nI (bC (bEnd P) j)) ∧ Fr xL σ τ) ∨ XB P σ τ
theorem bN_pos (P : Pg) (e : Nat) : 1 ≤ bN (bfP P e) := (bf_BI P e).1.1
theorem bN_mono1 (P : Pg) (e : Nat) : bN (bfP P e) ≤ bN (bfP P (e + 1)) := by
  show bN (bfP P e) ≤ bN (bst (nxP P) (bfP P e) e)
  unfold bst
  split
  · exact Nat.le_refl _
  · split
    · exact Nat.le_refl _
    · unfold bput
      split
      · exact Nat.le_refl _
      · exact Nat.le_succ _
theorem explore_eq {P : Pg} {σ : Mm} (hP : PgV P) (hL : LdC P σ) (h0 : VS P (pF P)) (hS : SlR σ) : ∃ τ, f_X9_explore σ = some ((), τ) ∧ XE P σ τ := by
  have inner : ∀ (i : Nat) (τ : Mm), XI P σ (6 * i) τ → i < bN (bfP P (6 * i)) → ∀ K : Mm → Option (Unit × Mm), ∃ τ', fx (fun _ _ => none) FU (f_X9_explore_L46 K (nI i)) (nI 0) τ = K τ' ∧ (XI P σ (6 * (i + 1)) τ' ∨ XB P σ τ') := by
    intro i τ hX hi K
    refine lq1 (F := f_X9_explore_L46 K (nI i)) (fun a υ => ∃ k, k ≤ 6 ∧ a = nI k ∧ ((XI P σ (6 * i + k) υ ∧ i < bN (bfP P (6 * i + k))) ∨ XB P σ υ)) (fun a _ => 6 - ix a) (fun o => ∃ τ', o = K τ' ∧ (XI P σ (6 * (i + 1)) τ' ∨ XB P σ τ')) ?_ FU (nI 0) τ ?_ ⟨0, by omega, rfl, Or.inl ⟨hX, hi⟩⟩
    · rintro L a υ ⟨k, hk, rfl, hX⟩
      by_cases c : k = 6
      · right
        refine ⟨υ, ?_, ?_⟩
        · unfold f_X9_explore_L46
          simp only [qi_0, qi_1, qi_2, qi_3, qi_4, qi_5, qi_6, qi_7, qi_8, qi_9, qi_10, qi_11, qi_12, qi_13, qi_14, qi_15, qi_16, qi_17, qi_19, qi_26, qi_31, qi_32, qi_35, qi_40, qi_42, qi_48, qi_50, qi_57, qi_59, qi_63, qi_64, qi_97, qi_120, qi_122, qi_210, qi_255, qi_511, qi_512, qi_1000, qi_6000, qi_13312, qi_14337, qi_16383, qi_16384, qi_524287]
          rw [i_le (by omega) (by omega)]
        · rcases hX with ⟨h1, _⟩ | h1
          · left; rw [c] at h1; exact h1
          · right; exact h1
      · rcases hX with ⟨h1, h2⟩ | h1
        · left
          obtain ⟨τ', e1, e2⟩ := expl_step hP hL h0 h1 h2 (by omega) K L
          refine ⟨nI (k + 1), τ', ⟨k + 1, by omega, rfl, ?_⟩, ?_, e1⟩
          · rcases e2 with e2 | e2
            · left; exact ⟨e2, Nat.lt_of_lt_of_le h2 (bN_mono1 P _)⟩
            · right; exact e2
          · rw [p_ix (by omega), p_ix (by omega)]; omega
        · right
          refine ⟨υ, ?_, Or.inr h1⟩
          unfold f_X9_explore_L46
          simp only [qi_0, qi_1, qi_2, qi_3, qi_4, qi_5, qi_6, qi_7, qi_8, qi_9, qi_10, qi_11, qi_12, qi_13, qi_14, qi_15, qi_16, qi_17, qi_19, qi_26, qi_31, qi_32, qi_35, qi_40, qi_42, qi_48, qi_50, qi_57, qi_59, qi_63, qi_64, qi_97, qi_120, qi_122, qi_210, qi_255, qi_511, qi_512, qi_1000, qi_6000, qi_13312, qi_14337, qi_16383, qi_16384, qi_524287]
          rw [i_nle (by omega) (by omega), h1.2.1, i_ne (by omega) (by omega) (by omega)]
    · rw [p_ix (by omega), FU_v]; omega
  have outer : ∀ τ, XI P σ 0 τ → ∃ υ, fx (fun _ _ => none) FU f_X9_explore_L22 (nI 0) τ = some ((), υ) ∧ XE P σ υ := by
    intro τ hX
    refine lq1 (F := f_X9_explore_L22) (fun a υ => ∃ i, i ≤ 6000 ∧ a = nI i ∧ ((XI P σ (6 * i) υ ∧ i ≤ bN (bfP P (6 * i))) ∨ XB P σ υ)) (fun a _ => 6001 - ix a) (fun o => ∃ υ, o = some ((), υ) ∧ XE P σ υ) ?_ FU (nI 0) τ ?_ ⟨0, by omega, rfl, Or.inl ⟨hX, by omega⟩⟩
    · rintro L a υ ⟨i, hi, rfl, hX⟩
      unfold f_X9_explore_L22 f_X9_explore_118
      simp only [qi_0, qi_1, qi_2, qi_3, qi_4, qi_5, qi_6, qi_7, qi_8, qi_9, qi_10, qi_11, qi_12, qi_13, qi_14, qi_15, qi_16, qi_17, qi_19, qi_26, qi_31, qi_32, qi_35, qi_40, qi_42, qi_48, qi_50, qi_57, qi_59, qi_63, qi_64, qi_97, qi_120, qi_122, qi_210, qi_255, qi_511, qi_512, qi_1000, qi_6000, qi_13312, qi_14337, qi_16383, qi_16384, qi_524287]
      rcases hX with ⟨h1, h2⟩ | h1
      · have hn := h1.1.1
        rw [h1.1.2.1]
        by_cases c : bN (bfP P (6 * i)) ≤ i
        · right
          refine ⟨υ, ?_, Or.inl ?_⟩
          · by_cases c6 : 6000 ≤ i
            · rw [i_le (by omega) c6]
            · rw [i_nle (by omega) (by omega), i_le (by omega) c]
          have he : bEnd P = bfP P (6 * i) := bEnd_of (Or.inl (by omega)) (by omega)
          obtain ⟨x1, x2, x3, x4, x5, x6⟩ := h1
          rw [he]
          exact ⟨hn, x1, x2, fun d hd => x3 d (by omega), x4, x5, x6⟩
        · left
          obtain ⟨τ', e1, e2⟩ := inner i υ h1 (by omega) (fun σ => nm (nI i + nI 1) (fun vq12 => L vq12 σ))
          refine ⟨nI (i + 1), τ', ⟨i + 1, by omega, rfl, ?_⟩, ?_, ?_⟩
          · rcases e2 with e2 | e2
            · left
              refine ⟨e2, ?_⟩
              have m1 := bN_mono1 P (6 * i)
              have m2 := bN_mono1 P (6 * i + 1)
              have m3 := bN_mono1 P (6 * i + 1 + 1)
              have m4 := bN_mono1 P (6 * i + 1 + 1 + 1)
              have m5 := bN_mono1 P (6 * i + 1 + 1 + 1 + 1)
              have m6 := bN_mono1 P (6 * i + 1 + 1 + 1 + 1 + 1)
              rw [show 6 * i + 1 + 1 + 1 + 1 + 1 + 1 = 6 * (i + 1) by omega] at m6
              omega
            · right; exact e2
          · rw [p_ix (by omega), p_ix (by omega)]; omega
          · rw [i_nle (by omega) (by omega), i_nle (by omega) (by omega), h1.2.1, i_eq rfl, e1, p_nm, nI_add]
      · right
        refine ⟨υ, ?_, Or.inr h1⟩
        rw [h1.2.2.1, h1.2.1]
        by_cases c : 6000 ≤ i
        · rw [i_le (by omega) c]
        · rw [i_nle (by omega) (by omega), i_nle (by omega) (by omega), i_ne (by omega) (by omega) (by omega)]
    · rw [p_ix (by omega), FU_v]; omega
  unfold f_X9_explore
  simp only [qi_0, qi_1, qi_2, qi_3, qi_4, qi_5, qi_6, qi_7, qi_8, qi_9, qi_10, qi_11, qi_12, qi_13, qi_14, qi_15, qi_16, qi_17, qi_19, qi_26, qi_31, qi_32, qi_35, qi_40, qi_42, qi_48, qi_50, qi_57, qi_59, qi_63, qi_64, qi_97, qi_120, qi_122, qi_210, qi_255, qi_511, qi_512, qi_1000, qi_6000, qi_13312, qi_14337, qi_16383, qi_16384, qi_524287]
  rw [p_nm, p_cb0, p_nm, r_sI2, r_sI2, hL.2.2.1]
  have hT0 : TuC 0 (fun _ => pF P) (sI (sI σ 18 7 (nI 0)) 18 8 (nI 0)) := by
    refine ⟨by omega, by rw [r_sIj (by decide), r_sI0], fun j hj => by omega, fun s hs => by rw [r_sI1 (by decide), r_sI1 (by decide)]; exact hS s hs, HT_0 (fun s hs => ?_)⟩
    unfold occC
    rw [if_neg (fun q => by omega)]
  rcases indexOf_eq (ed := -nI 1) hT0 h0.1 (fun j hj => by omega) with ⟨j, _, hj, _⟩ | ⟨hid, hn6, t, ht, he, hT'⟩ | ⟨_, hn6, _⟩
  · omega
  · rw [he, p_bd]
    refine outer _ ?_
    refine ⟨?_, ?_, fun d hd => by omega, ?_, ?_, ?_⟩
    · have e : (upq (fun _ => pF P) 0 (pF P)) = (fun _ => pF P) := by
        funext z; unfold upq; split <;> rfl
      rw [e] at hT'
      exact hT'
    · unfold incC
      rw [r_sIj (by decide), r_sI1 (by decide), r_sI1 (by decide), r_sI1 (by decide), r_sL1, r_sI0]
    · unfold incC
      rw [r_sI1 (by decide), r_sI0]
    · intro j j0 jn
      have jn : j < 1 := jn
      omega
    · unfold incC
      exact (((((((Fr.rf xL σ).sI (by decide)).sI (by decide)).sL (by decide)).sI (by decide)).sI (by decide)).sI (by decide)).sI (by decide)
  · omega
/-- the results of ends -/
def er (P : Pg) (F : Nat → Nat) : Nat → List Nat
  | 0 => []
  | n + 1 => if iE P (F n) then ins (rslt P (F n)) (er P F n) else er P F n
theorem er_ok {P : Pg} (hP : PgV P) (F : Nat → Nat) : ∀ n, Srt (er P F n) ∧ Bnd (er P F n) ∧ (er P F n).length ≤ n := by
  intro n
  induction n with
  | zero => exact ⟨Srt_nil, fun i hi => by simp [er] at hi, Nat.le_refl _⟩
  | succ n ih =>
    rw [er]
    split
    · exact ⟨ins_srt ih.1, Bnd_ins ih.1 ih.2.1 (resf_lt3 _ hP.1), Nat.le_trans (ins_le _ _ ih.1) (by omega)⟩
    · exact ⟨ih.1, ih.2.1, by omega⟩
def gL : List Nat := [26, 27]
theorem gather_eq {P : Pg} {σ : Mm} {n : Nat} {F : Nat → Nat} (hP : PgV P) (hL : LdC P σ) (h7 : σ.1 18 7 = nI n) (hn : n ≤ 6000) (hF : ∀ j, j < n → σ.2 19 j = lN (F j) ∧ VS P (F j)) : ∃ τ, f_X9_gatherEnds σ = some ((), τ) ∧ RoC 26 (er P F n) τ ∧ Fr gL σ τ := by
  unfold f_X9_gatherEnds
  simp only [qi_0, qi_1, qi_2, qi_3, qi_4, qi_5, qi_6, qi_7, qi_8, qi_9, qi_10, qi_11, qi_12, qi_13, qi_14, qi_15, qi_16, qi_17, qi_19, qi_26, qi_31, qi_32, qi_35, qi_40, qi_42, qi_48, qi_50, qi_57, qi_59, qi_63, qi_64, qi_97, qi_120, qi_122, qi_210, qi_255, qi_511, qi_512, qi_1000, qi_6000, qi_13312, qi_14337, qi_16383, qi_16384, qi_524287]
  rw [p_nm]
  have hal : alen 27 = 6000 := rfl
  refine lq1 (F := f_X9_gatherEnds_L7) (fun a υ => ∃ i, i ≤ n ∧ a = nI i ∧ RoC 26 (er P F i) υ ∧ Fr gL σ υ) (fun a _ => n - ix a) (fun o => ∃ τ, o = some ((), τ) ∧ RoC 26 (er P F n) τ ∧ Fr gL σ τ) ?_ FU (nI 0) _ ?_ ⟨0, by omega, rfl, ⟨Srt_nil, fun i hi => by simp [er] at hi, Nat.zero_le _, Nat.le_refl _, by rw [r_sI0]; rfl, fun i hi => by simp [er] at hi⟩, (Fr.rf gL σ).sI (by decide)⟩
  · rintro L a υ ⟨i, hi, rfl, hR, hFr⟩
    have hLu : LdC P υ := LdC_of hL (hFr.r1 13 (by decide)) (hFr.r2 13 (by decide)) (hFr.r1 14 (by decide)) (hFr.r1 16 (by decide)) (hFr.r1 17 (by decide))
    unfold f_X9_gatherEnds_L7 f_X9_gatherEnds_42
    simp only [qi_0, qi_1, qi_2, qi_3, qi_4, qi_5, qi_6, qi_7, qi_8, qi_9, qi_10, qi_11, qi_12, qi_13, qi_14, qi_15, qi_16, qi_17, qi_19, qi_26, qi_31, qi_32, qi_35, qi_40, qi_42, qi_48, qi_50, qi_57, qi_59, qi_63, qi_64, qi_97, qi_120, qi_122, qi_210, qi_255, qi_511, qi_512, qi_1000, qi_6000, qi_13312, qi_14337, qi_16383, qi_16384, qi_524287]
    rw [hFr.r1 18 (by decide), h7]
    by_cases c : n ≤ i
    · right
      have e : i = n := by omega
      subst e
      exact ⟨υ, by rw [i_le (by omega) c], hR, hFr⟩
    · left
      obtain ⟨hf, hv⟩ := hF i (by omega)
      rw [i_nle (by omega) (by omega), p_ck _ (by omega) (by omega), p_ix (a := i) (by omega), hFr.r2 19 (by decide), hf, isEnd_eq hP hLu hv, p_bd]
      by_cases d : iE P (F i) = true
      · obtain ⟨υ', e1, e2, e3⟩ := rowInclude_eq (v := rslt P (F i)) hR (resf_lt3 _ hP.1) (by show _ < 6000; have := (er_ok hP F i).2.2; omega)
        refine ⟨nI (i + 1), υ', ⟨i + 1, by omega, rfl, by rw [er, if_pos d]; exact e2, hFr.tr e3⟩, ?_, ?_⟩
        · rw [p_ix (by omega)]; omega
        · rw [d, bI_t, i_ne (by omega) (by omega) (by omega), p_ck _ (by omega) (by omega), hFr.r2 19 (by decide), hf, resultOf_eq hP hLu hv, p_bd, e1, p_bd, p_nm, nI_add]
      · have d : iE P (F i) = false := by simpa using d
        refine ⟨nI (i + 1), υ, ⟨i + 1, by omega, rfl, by rw [er, d]; exact hR, hFr⟩, ?_, ?_⟩
        · rw [p_ix (by omega)]; omega
        · rw [d, bI_f, i_eq rfl, p_nm, nI_add]
  · rw [p_ix (by omega), FU_v]; omega
