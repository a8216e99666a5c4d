/-! PURE: look, status, tear -/
theorem op_look {A : Ob} {σ : Mm} (hc : AC A σ) (hm : AM A σ) (x : Int32) : Ans (f_X10_look x) (f_X11_look x) σ := by
  have c12 : ∀ c, c < 3 → σ.1 12 c = nI (sV (oS A) c) := hc.2.1.2.2.2.2.2.2
  by_cases x0 : x = nI 0
  · subst x0
    refine same (r := nI (sK (oS A))) hc hm ?_ (fun τ hm => ?_)
    · unfold f_X10_look
      rw [qi_0, i_eq rfl, hc.2.1.1]
    · unfold f_X11_look
      rw [qi_0, i_eq rfl, hm.2.1.1]
  by_cases x1 : x = nI 1
  · subst x1
    refine same (r := nI (sH (oS A))) hc hm ?_ (fun τ hm => ?_)
    · unfold f_X10_look
      rw [qi_0, qi_1, if_neg x0, i_eq rfl, hc.2.1.2.1]
    · unfold f_X11_look
      rw [qi_0, qi_1, if_neg x0, i_eq rfl, hm.2.1.2.1]
  by_cases x2 : x = nI 2
  · subst x2
    refine same (r := nI (sM (oS A))) hc hm ?_ (fun τ hm => ?_)
    · unfold f_X10_look
      rw [qi_0, qi_1, qi_2, if_neg x0, if_neg x1, i_eq rfl, hc.2.1.2.2.1]
    · unfold f_X11_look
      rw [qi_0, qi_1, qi_2, if_neg x0, if_neg x1, i_eq rfl, hm.2.1.2.2.1]
  by_cases x3 : x = nI 3
  · subst x3
    refine same (r := nI (sV (oS A) 0)) hc hm ?_ (fun τ hm => ?_)
    · unfold f_X10_look
      rw [qi_0, qi_1, qi_2, qi_3, if_neg x0, if_neg x1, if_neg x2, i_eq rfl, pk_sub (by omega), p_ck _ (by omega) (by omega), p_ix (by omega), c12 _ (by omega)]
    · unfold f_X11_look
      rw [qi_0, qi_1, qi_2, qi_3, if_neg x0, if_neg x1, if_neg x2, i_eq rfl, pk_sub (by omega), p_ck _ (by omega) (by omega), p_ix (by omega), hm.2.1.2.2.2.2.2.2 _ (by omega)]
  by_cases x4 : x = nI 4
  · subst x4
    refine same (r := nI (sV (oS A) 1)) hc hm ?_ (fun τ hm => ?_)
    · unfold f_X10_look
      rw [qi_0, qi_1, qi_2, qi_3, qi_4, if_neg x0, if_neg x1, if_neg x2, if_neg x3, i_eq rfl, pk_sub (by omega), p_ck _ (by omega) (by omega), p_ix (by omega), c12 _ (by omega)]
    · unfold f_X11_look
      rw [qi_0, qi_1, qi_2, qi_3, qi_4, if_neg x0, if_neg x1, if_neg x2, if_neg x3, i_eq rfl, pk_sub (by omega), p_ck _ (by omega) (by omega), p_ix (by omega), hm.2.1.2.2.2.2.2.2 _ (by omega)]
  by_cases x5 : x = nI 5
  · subst x5
    refine same (r := nI (sV (oS A) 2)) hc hm ?_ (fun τ hm => ?_)
    · unfold f_X10_look
      rw [qi_0, qi_1, qi_2, qi_3, qi_4, qi_5, if_neg x0, if_neg x1, if_neg x2, if_neg x3, if_neg x4, i_eq rfl, pk_sub (by omega), p_ck _ (by omega) (by omega), p_ix (by omega), c12 _ (by omega)]
    · unfold f_X11_look
      rw [qi_0, qi_1, qi_2, qi_3, qi_4, qi_5, if_neg x0, if_neg x1, if_neg x2, if_neg x3, if_neg x4, i_eq rfl, pk_sub (by omega), p_ck _ (by omega) (by omega), p_ix (by omega), hm.2.1.2.2.2.2.2.2 _ (by omega)]
  by_cases x6 : x = nI 6
  · subst x6
    refine same (r := nI (oN A)) hc hm ?_ (fun τ hm => ?_)
    · unfold f_X10_look
      rw [qi_0, qi_1, qi_2, qi_3, qi_4, qi_5, qi_6, if_neg x0, if_neg x1, if_neg x2, if_neg x3, if_neg x4, if_neg x5, i_eq rfl, hc.2.2.2.2.2.1.2.1]
    · unfold f_X11_look
      rw [qi_0, qi_1, qi_2, qi_3, qi_4, qi_5, qi_6, if_neg x0, if_neg x1, if_neg x2, if_neg x3, if_neg x4, if_neg x5, i_eq rfl, hm.2.2.2.2.2.1.2.1]
  · refine told (e := 0) hc hm (by omega) ?_ (fun τ hm => ?_)
    · unfold f_X10_look
      rw [qi_0, qi_1, qi_2, qi_3, qi_4, qi_5, qi_6, if_neg x0, if_neg x1, if_neg x2, if_neg x3, if_neg x4, if_neg x5, if_neg x6]
    · unfold f_X11_look
      rw [er_1, qi_0, qi_1, qi_2, qi_3, qi_4, qi_5, qi_6, if_neg x0, if_neg x1, if_neg x2, if_neg x3, if_neg x4, if_neg x5, if_neg x6]
/-- status -/
theorem i_z (v : Int32) : v + nI 0 = v := Int32.add_zero v
def sd (e : Nat → Int32) (i : Nat) : Nat → Int32
  | 0 => nI 0
  | k + 1 => if i = k then sd e i k + e k else sd e i k + nI 0
theorem sd_eq {e : Nat → Int32} {i : Nat} : ∀ k, sd e i k = if i < k then e i else nI 0 := by
  intro k
  induction k with
  | zero => rfl
  | succ k ih =>
    rw [sd, ih]
    by_cases c : i = k
    · rw [if_pos c, if_neg (by omega), if_pos (by omega), c, Int32.add_comm, i_z]
    · rw [if_neg c, i_z]
      by_cases d : i < k
      · rw [if_pos d, if_pos (by omega)]
      · rw [if_neg d, if_neg (by omega)]
theorem mstat_m1 {A : Ob} {σ : Mm} (hm : AM A σ) : fx (fun _ _ _ => none) FU (f_X11_status_L21 (-nI 1)) (nI 0) (nI 0) σ = some (s7 (oE A) 7, σ) := by
  refine lq2 (bot := fun _ _ _ => none) (F := f_X11_status_L21 (-nI 1)) (fun a b τ => ∃ k, k ≤ 7 ∧ a = s7 (oE A) k ∧ b = nI k ∧ τ = σ) (fun _ b _ => 8 - ix b) (fun o => o = some (s7 (oE A) 7, σ)) ?_ FU (nI 0) (nI 0) σ ?_ ⟨0, by omega, rfl, rfl, rfl⟩
  · rintro L a b τ ⟨k, hk, rfl, rfl, rfl⟩
    unfold f_X11_status_L21 f_X11_status_38 f_X11_status_48
    simp only [qi_0, qi_1, qi_2, qi_3, qi_4, qi_5, qi_6, qi_7, qi_8, qi_9, qi_10, qi_11, qi_12, qi_13, qi_14, qi_15, qi_16, qi_17, qi_19, qi_26, qi_31, qi_32, qi_35, qi_40, qi_42, qi_48, qi_50, qi_57, qi_59, qi_63, qi_64, qi_97, qi_120, qi_122, qi_210, qi_255, qi_511, qi_512, qi_1000, qi_6000, qi_13312, qi_14337, qi_16383, qi_16384, qi_524287]
    by_cases c : k = 7
    · right
      rw [c, i_le (by omega) (by omega)]
    · left
      rw [i_nle (by omega) (by omega), if_pos trivial, p_ck _ (by omega) (by omega), p_ix (a := k) (by omega), hm.2.2.2.2.2.2.2 k (by omega), p_nm, nI_add, p_nm]
      refine ⟨_, _, _, ⟨k + 1, by omega, rfl, rfl, rfl⟩, ?_, rfl⟩
      rw [p_ix (by omega)]; omega
  · rw [p_ix (by omega), FU_v]; omega
theorem mstat_i {A : Ob} {σ : Mm} {i : Nat} (hm : AM A σ) (hi : i < 7) : fx (fun _ _ _ => none) FU (f_X11_status_L21 (nI i)) (nI 0) (nI 0) σ = some (oE A i, σ) := by
  have e : oE A i = sd (oE A) i 7 := by rw [sd_eq, if_pos hi]
  rw [e]
  refine lq2 (bot := fun _ _ _ => none) (F := f_X11_status_L21 (nI i)) (fun a b τ => ∃ k, k ≤ 7 ∧ a = sd (oE A) i k ∧ b = nI k ∧ τ = σ) (fun _ b _ => 8 - ix b) (fun o => o = some (sd (oE A) i 7, σ)) ?_ FU (nI 0) (nI 0) σ ?_ ⟨0, by omega, rfl, rfl, rfl⟩
  · rintro L a b τ ⟨k, hk, rfl, rfl, rfl⟩
    unfold f_X11_status_L21 f_X11_status_38 f_X11_status_48
    simp only [qi_0, qi_1, qi_2, qi_3, qi_4, qi_5, qi_6, qi_7, qi_8, qi_9, qi_10, qi_11, qi_12, qi_13, qi_14, qi_15, qi_16, qi_17, qi_19, qi_26, qi_31, qi_32, qi_35, qi_40, qi_42, qi_48, qi_50, qi_57, qi_59, qi_63, qi_64, qi_97, qi_120, qi_122, qi_210, qi_255, qi_511, qi_512, qi_1000, qi_6000, qi_13312, qi_14337, qi_16383, qi_16384, qi_524287]
    by_cases c : k = 7
    · right
      rw [c, i_le (by omega) (by omega)]
    · left
      rw [i_nle (by omega) (by omega), i_m1eq (by omega), p_ix (a := k) (by omega)]
      by_cases ik : i = k
      · rw [i_eq ik, p_ck _ (by omega) (by omega), hm.2.2.2.2.2.2.2 k (by omega), p_nm, nI_add, p_nm]
        refine ⟨_, _, _, ⟨k + 1, by omega, by rw [sd, if_pos ik], rfl, rfl⟩, ?_, rfl⟩
        rw [p_ix (by omega)]; omega
      · rw [i_ne (by omega) (by omega) ik, p_nm, nI_add, p_nm]
        refine ⟨_, _, _, ⟨k + 1, by omega, by rw [sd, if_neg ik], rfl, rfl⟩, ?_, rfl⟩
        rw [p_ix (by omega)]; omega
  · rw [p_ix (by omega), FU_v]; omega
theorem op_status {A : Ob} {σ : Mm} (hc : AC A σ) (hm : AM A σ) (x : Int32) : Ans (f_X10_status x) (f_X11_status x) σ := by
  have bad : (x < -nI 1 ∨ nI 7 ≤ x) → Ans (f_X10_status x) (f_X11_status x) σ := by
    intro h
    refine told (e := 0) hc hm (by omega) ?_ (fun τ hm => ?_)
    · unfold f_X10_status
      rw [qi_0, qi_1, qi_6]
      by_cases h1 : x < -nI 1
      · rw [if_pos h1]
      · have h6 : ¬ x ≤ nI 6 := by
          rcases h with h | h
          · exact absurd h h1
          · rw [Int32.le_iff_toInt_le] at h ⊢
            rw [nI_toInt (by omega)] at h ⊢
            omega
        rw [if_neg h1, if_neg h6]
    · have hin : f_X11_in x (-nI 1) (nI 6) τ = some (nI 0, τ) := by
        unfold f_X11_in f_X11_in_14
        rw [qi_0, p_cb0]
        by_cases h1 : x < -nI 1
        · rw [if_pos h1]
        · have h6 : nI 6 < x := by
            rcases h with h | h
            · exact absurd h h1
            · rw [Int32.le_iff_toInt_le, nI_toInt (by omega)] at h
              rw [Int32.lt_iff_toInt_lt, nI_toInt (by omega)]
              omega
          rw [if_neg h1, if_pos h6]
      unfold f_X11_status
      rw [er_1, qi_1, qi_6, hin, p_bd, if_pos (show nI 0 = (0 : Int32) from rfl)]
  rcases rng (n := 7) x (by omega) with h | ⟨i, hi, rfl⟩
  · by_cases x1 : x = -nI 1
    · subst x1
      refine same (r := s7 (oE A) 7) hc hm ?_ (fun τ hm => ?_)
      · unfold f_X10_status
        rw [qi_1, qi_6, if_neg (show ¬ -nI 1 < -nI 1 by decide), if_pos (show -nI 1 ≤ nI 6 by decide), if_pos rfl, hc.2.2.2.2.2.2.2.2]
      · have hin : f_X11_in (-nI 1) (-nI 1) (nI 6) τ = some (nI 1, τ) := by
          unfold f_X11_in
          rw [if_neg (show ¬ -nI 1 < -nI 1 by decide), if_neg (show ¬ nI 6 < -nI 1 by decide), qi_1, p_cb1]
        unfold f_X11_status
        rw [qi_1, qi_6, hin, p_bd, if_neg (show ¬ nI 1 = (0 : Int32) by decide), qi_0, mstat_m1 hm]
    · refine bad ?_
      rcases h with h | h
      · left
        rw [qi_0, Int32.lt_iff_toInt_lt, nI_toInt (by omega)] at h
        rw [Int32.lt_iff_toInt_lt]
        have e1 : (-nI 1).toInt = -1 := by decide
        have : x.toInt ≠ (-nI 1).toInt := fun q => x1 (Int32.toInt_inj.mp q)
        omega
      · exact Or.inr h
  · refine same (r := oE A i) hc hm ?_ (fun τ hm => ?_)
    · unfold f_X10_status
      rw [qi_1, qi_6, i_m1gt (by omega), i_le (by omega) (by omega), i_m1eq (by omega), p_ck _ hi (by omega), p_ix (by omega), hc.2.2.2.2.2.2.2.1 i hi]
    · have hin : f_X11_in (nI i) (-nI 1) (nI 6) τ = some (nI 1, τ) := by
        unfold f_X11_in
        rw [i_m1gt (by omega), i_nlt (by omega) (by omega), qi_1, p_cb1]
      unfold f_X11_status
      rw [qi_1, qi_6, hin, p_bd, if_neg (show ¬ nI 1 = (0 : Int32) by decide), qi_0, mstat_i hm hi]
/-- tear -/
theorem AC_K {A : Ob} {σ τ : Mm} {b : Bool} {K : Su} (h : AC A σ) (hK : b = true → SuV K) (h0 : τ.1 0 6 = bI b) (hS : b = true → SeC K 31 τ) (hF : Fr [0, 31, 32, 33, 34, 35, 36] σ τ) : AC (uK A b K) τ := by
  obtain ⟨h1, h2, h3, h4, h5, h6, h7, h8⟩ := h
  have q : ∀ k, 40 ≤ k → k ∉ [0, 31, 32, 33, 34, 35, 36] := fun k a d => by
    simp only [List.mem_cons, List.not_mem_nil, or_false] at d
    omega
  refine ⟨⟨h1.1, hK, h1.2.2⟩, SeC_7 h2 hF (by decide) (by decide) (by decide) (by decide) (by decide) (by decide), ⟨SlR_of h3.1 (hF.r1 20 (by decide)), ?_, ?_⟩, h0, hS, TpC_of h6 (hF.r1 4 (by decide)) (hF.r1 5 (by decide)), ShC_of h7 (fun k a1 a2 => ⟨hF.r1 k (q k (by omega)), hF.r2 k (q k (by omega))⟩), CnC_of h8 (hF.r1 1 (by decide)) (hF.r1 2 (by decide))⟩
  · rw [hF.r1 6 (by decide)]
    rcases h3.2.1 with k | ⟨k, g⟩
    · exact Or.inl k
    · exact Or.inr ⟨k, TkC_fr g hF (by decide)⟩
  · rw [hF.r1 6 (by decide)]
    rcases h3.2.2 with k | ⟨k, g⟩
    · exact Or.inl k
    · exact Or.inr ⟨k, RoC_of g (by rw [hF.r1 28 (by decide)]) (hF.r1 29 (by decide))⟩
theorem AM_K {A : Ob} {σ τ : Mm} {b : Bool} {K : Su} (h : AM A σ) (hK : b = true → SuV K) (h15 : τ.1 48 15 = bI b) (hS : b = true → SeM K (rs6 τ)) (hF : Fr [48, 60] σ τ) (hJ : ∀ j, j ≠ 15 → j ≠ 16 → j ≠ 17 → j ≠ 18 → τ.1 48 j = σ.1 48 j) : AM (uK A b K) τ := by
  obtain ⟨h1, h2, h3, h4, h5, h6, h7, h8⟩ := h
  have k5 : ∀ j, j < 15 ∨ 18 < j → τ.1 48 j = σ.1 48 j := fun j hj => hJ j (by omega) (by omega) (by omega) (by omega)
  exact ⟨⟨h1.1, hK, h1.2.2⟩, SeM_of h2 (k5 0 (by omega)) (k5 7 (by omega)) (k5 11 (by omega)) (hF.r1 49 (by decide)) (hF.r1 50 (by decide)) (hF.r1 51 (by decide)) (hF.r1 52 (by decide)) (hF.r1 53 (by decide)) (hF.r1 54 (by decide)) (hF.r1 55 (by decide)) (hF.r1 56 (by decide)) (hF.r1 57 (by decide)), KnM_of h3 (k5 37 (by omega)) (k5 48 (by omega)) (k5 49 (by omega)) (k5 50 (by omega)) (k5 58 (by omega)) (k5 60 (by omega)) (hF.r1 72 (by decide)) (hF.r2 82 (by decide)) (hF.r1 83 (by decide)) (hF.r1 84 (by decide)) (hF.r1 85 (by decide)) (hF.r1 87 (by decide)) (hF.r1 88 (by decide)) (hF.r1 89 (by decide)), h15, hS, TpM_of h6 (k5 13 (by omega)) (hF.r1 58 (by decide)) (hF.r2 65 (by decide)), ShM_of h7 (hF.r1 61 (by decide)) (hF.r1 62 (by decide)) (hF.r2 63 (by decide)), fun d hd => by rw [hF.r1 59 (by decide)]; exact h8 d hd⟩
theorem op_tear {A : Ob} {σ : Mm} (hc : AC A σ) (hm : AM A σ) : Ans f_X10_tear f_X11_tear σ := by
  refine Ans_of (r := bI (oB A)) (A' := uK A false (oK A)) hm ?_ (fun τ hm => ?_)
  · have hF : Fr [0, 31, 32, 33, 34, 35, 36] σ (sI σ 0 6 (nI 0)) := (Fr.rf _ _).sI (by decide)
    unfold f_X10_tear
    rw [hc.2.2.2.1, qi_0, qi_1, p_cb0, p_nm, p_nm]
    refine ⟨sI σ 0 6 (nI 0), ?_, AC_K hc (fun q => by cases q) r_sI0 (fun q => by cases q) hF, FrC_of hF (by decide)⟩
    cases oB A with
    | false => rw [bI_f, i_eq rfl]
    | true => rw [bI_t, i_ne (by omega) (by omega) (by omega), p_cb0]
  · have hF : Fr [48, 60] τ (sI τ 48 15 (nI 0)) := (Fr.rf _ _).sI (by decide)
    unfold f_X11_tear
    rw [hm.2.2.2.1, qi_0, qi_1, p_cb0, p_nm, p_nm]
    refine ⟨sI τ 48 15 (nI 0), ?_, AM_K hm (fun q => by cases q) r_sI0 (fun q => by cases q) hF (fun j j1 _ _ _ => r_sIj j1), FrM_of hF (by decide)⟩
    cases oB A with
    | false => rw [bI_f, i_eq rfl]
    | true => rw [bI_t, i_ne (by omega) (by omega) (by omega), p_cb0]
