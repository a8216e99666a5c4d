/-! PURE: image, undo -/
theorem sI_id {σ : Mm} {k j : Nat} {v : Int32} (h : σ.1 k j = v) : sI σ k j v = σ := by
  obtain ⟨a, b⟩ := σ
  have e : (sI (a, b) k j v).1 = a := by
    funext c i
    by_cases hc : c = k
    · subst hc
      by_cases hi : i = j
      · subst hi; rw [r_sI0]; exact h.symm
      · rw [r_sIj hi]
    · rw [r_sI1 hc]
  have e2 : (sI (a, b) k j v).2 = b := by
    funext c
    rw [r_sI2]
  calc sI (a, b) k j v = ((sI (a, b) k j v).1, (sI (a, b) k j v).2) := rfl
    _ = (a, b) := by rw [e, e2]
theorem SeM_pt {S : Su} {σ τ : Mm} (hS : SuV S) (h : SeM S σ) (e0 : τ.1 48 0 = σ.1 48 0) (e7 : τ.1 48 7 = σ.1 48 7) (e11 : τ.1 48 11 = σ.1 48 11) (e49 : ∀ j, j < 6 → τ.1 49 j = σ.1 49 j) (e5 : ∀ c j, 50 ≤ c → c ≤ 54 → j < 42 → τ.1 c j = σ.1 c j) (e55 : ∀ j, j < 6 → τ.1 55 j = σ.1 55 j) (e56 : ∀ j, j < 3 → τ.1 56 j = σ.1 56 j) (e57 : ∀ j, j < 3 → τ.1 57 j = σ.1 57 j) : SeM S τ := by
  obtain ⟨c0, c7, c11, c49, cS, cH, cV⟩ := h
  have h6 := hS.1
  have h3 := hS.2.2.2.1
  refine ⟨by rw [e0]; exact c0, by rw [e7]; exact c7, by rw [e11]; exact c11, fun c hc => by rw [e49 c (by omega)]; exact c49 c hc, fun c s hc hs => ?_, fun g hg => ?_, fun c hc => by rw [e57 c hc]; exact cV c hc⟩
  · have := (hS.2.1 c hc).2
    exact CdS_5 (cS c s hc hs) (fun d d1 d2 => e5 d _ d1 d2 (by omega))
  · rw [e55 _ (by omega), e55 _ (by omega), e56 g (by omega)]; exact cH g hg
theorem pass_0 {p : Nat} {v : Int32} {σ : Mm} (hp : p < 234) : f_X11_passes (nI 0) (nI p) v σ = some (σ.1 60 p, σ) := by
  unfold f_X11_passes
  rw [if_pos (show nI 0 = (0 : Int32) from rfl), p_ck _ hp (by omega), p_ck _ hp (by omega), p_ix (by omega), sI_id rfl, p_nm, p_ck _ hp (by omega)]
theorem pass_1 {p : Nat} {v : Int32} {σ : Mm} (hp : p < 234) : f_X11_passes (nI 1) (nI p) v σ = some (v, sI σ 60 p v) := by
  unfold f_X11_passes
  rw [if_neg (show ¬ nI 1 = (0 : Int32) by decide), p_ck _ hp (by omega), p_ix (by omega), p_nm, p_ck _ hp (by omega), r_sI0]
/-- all is laid by -/
theorem passAll_1 {σ : Mm} : ∃ τ, f_X11_passAll (nI 1) σ = some ((), τ) ∧ (∀ c j, 50 ≤ c → c ≤ 54 → j < 42 → τ.1 60 (5 * j + (c - 50)) = σ.1 c j) ∧ (∀ j, j < 6 → τ.1 60 (210 + 2 * j) = σ.1 49 j ∧ τ.1 60 (211 + 2 * j) = σ.1 55 j) ∧ (∀ j, j < 3 → τ.1 60 (222 + 2 * j) = σ.1 56 j ∧ τ.1 60 (223 + 2 * j) = σ.1 57 j) ∧ Fr [60] σ τ := by
  -- the last rows
  have last : ∀ υ, Fr [60] σ υ → ∃ τ, f_X11_passAll_172 (nI 1) (nI 222) υ = some ((), τ) ∧ (∀ j, j < 222 → τ.1 60 j = υ.1 60 j) ∧ (∀ j, j < 3 → τ.1 60 (222 + 2 * j) = σ.1 56 j ∧ τ.1 60 (223 + 2 * j) = σ.1 57 j) ∧ Fr [60] σ τ := by
    intro υ hF
    unfold f_X11_passAll_172
    rw [qi_0]
    refine lq2 (bot := fun _ _ _ => none) (F := f_X11_passAll_L174 (nI 1)) (fun a b τ => ∃ k, k ≤ 3 ∧ a = nI (222 + 2 * k) ∧ b = nI k ∧ (∀ j, j < 222 → τ.1 60 j = υ.1 60 j) ∧ (∀ j, j < k → τ.1 60 (222 + 2 * j) = σ.1 56 j ∧ τ.1 60 (223 + 2 * j) = σ.1 57 j) ∧ Fr [60] σ τ) (fun _ b _ => 4 - ix b) (fun o => ∃ τ, o = some ((), τ) ∧ (∀ j, j < 222 → τ.1 60 j = υ.1 60 j) ∧ (∀ j, j < 3 → τ.1 60 (222 + 2 * j) = σ.1 56 j ∧ τ.1 60 (223 + 2 * j) = σ.1 57 j) ∧ Fr [60] σ τ) ?_ FU (nI 222) (nI 0) υ ?_ ⟨0, by omega, rfl, rfl, fun _ _ => rfl, fun j hj => by omega, hF⟩
    · rintro L a b τ ⟨k, hk, rfl, rfl, t1, t2, tF⟩
      unfold f_X11_passAll_L174
      simp only [qi_0, qi_1, qi_2, qi_3, qi_4, qi_5, qi_6, qi_7, qi_8, qi_9, qi_10, qi_11, qi_12, qi_13, qi_14, qi_15, qi_16, qi_17, qi_19, qi_26, qi_31, qi_32, qi_35, qi_40, qi_42, qi_48, qi_50, qi_57, qi_59, qi_63, qi_64, qi_97, qi_120, qi_122, qi_210, qi_255, qi_511, qi_512, qi_1000, qi_6000, qi_13312, qi_14337, qi_16383, qi_16384, qi_524287]
      by_cases c : k = 3
      · right
        subst c
        rw [i_le (by omega) (by omega)]
        exact ⟨τ, rfl, t1, t2, tF⟩
      · left
        have h56 : ∀ v w : Int32, ∀ p : Nat, (sI τ 60 p v).1 56 k = τ.1 56 k := fun v w p => by rw [r_sI1 (by decide)]
        have h57 : ∀ p q (v w : Int32), (sI (sI τ 60 p v) 60 q w).1 57 k = τ.1 57 k := fun p q v w => by rw [r_sI1 (by decide), r_sI1 (by decide)]
        rw [i_nle (by omega) (by omega), p_ck _ (by omega) (by omega), p_ix (a := k) (by omega), pass_1 (by omega), p_bd, p_ck _ (by omega) (by omega), sI_id (by rw [r_sI1 (by decide)]), p_nm, p_ck _ (by omega) (by omega), nI_add, pass_1 (by omega), p_bd, p_ck _ (by omega) (by omega), sI_id (by rw [r_sI1 (by decide)]), p_nm, nI_add, p_nm, nI_add, p_nm]
        refine ⟨_, _, _, ⟨k + 1, by omega, rfl, rfl, fun j hj => ?_, fun j hj => ?_, (tF.sI (by decide)).sI (by decide)⟩, ?_, rfl⟩
        · rw [r_sIj (by omega), r_sIj (by omega)]; exact t1 j hj
        · by_cases e : j = k
          · rw [e, r_sIj (by omega), r_sI0, show 223 + 2 * k = 222 + 2 * k + 1 by omega, r_sI0, r_sI1 (by decide), tF.r1 56 (by decide), tF.r1 57 (by decide)]
            exact ⟨rfl, rfl⟩
          · rw [r_sIj (by omega), r_sIj (by omega), r_sIj (by omega), r_sIj (by omega)]; exact t2 j (by omega)
        · rw [p_ix (by omega)]; omega
    · rw [p_ix (by omega), FU_v]; omega
  have mid : ∀ υ, Fr [60] σ υ → ∃ τ, f_X11_passAll_117 (nI 1) (nI 210) υ = some ((), τ) ∧ (∀ j, j < 210 → τ.1 60 j = υ.1 60 j) ∧ (∀ j, j < 6 → τ.1 60 (210 + 2 * j) = σ.1 49 j ∧ τ.1 60 (211 + 2 * j) = σ.1 55 j) ∧ (∀ j, j < 3 → τ.1 60 (222 + 2 * j) = σ.1 56 j ∧ τ.1 60 (223 + 2 * j) = σ.1 57 j) ∧ Fr [60] σ τ := by
    intro υ hF
    unfold f_X11_passAll_117
    rw [qi_0]
    refine lq2 (bot := fun _ _ _ => none) (F := f_X11_passAll_L119 (fun (xq2 : Int32) (σ : Mm) => f_X11_passAll_172 (nI 1) xq2 σ) (nI 1)) (fun a b τ => ∃ k, k ≤ 6 ∧ a = nI (210 + 2 * k) ∧ b = nI k ∧ (∀ j, j < 210 → τ.1 60 j = υ.1 60 j) ∧ (∀ j, j < k → τ.1 60 (210 + 2 * j) = σ.1 49 j ∧ τ.1 60 (211 + 2 * j) = σ.1 55 j) ∧ Fr [60] σ τ) (fun _ b _ => 7 - ix b) (fun o => ∃ τ, o = some ((), τ) ∧ (∀ j, j < 210 → τ.1 60 j = υ.1 60 j) ∧ (∀ j, j < 6 → τ.1 60 (210 + 2 * j) = σ.1 49 j ∧ τ.1 60 (211 + 2 * j) = σ.1 55 j) ∧ (∀ j, j < 3 → τ.1 60 (222 + 2 * j) = σ.1 56 j ∧ τ.1 60 (223 + 2 * j) = σ.1 57 j) ∧ Fr [60] σ τ) ?_ FU (nI 210) (nI 0) υ ?_ ⟨0, by omega, rfl, rfl, fun _ _ => rfl, fun j hj => by omega, hF⟩
    · rintro L a b τ ⟨k, hk, rfl, rfl, t1, t2, tF⟩
      unfold f_X11_passAll_L119
      simp only [qi_0, qi_1, qi_2, qi_3, qi_4, qi_5, qi_6, qi_7, qi_8, qi_9, qi_10, qi_11, qi_12, qi_13, qi_14, qi_15, qi_16, qi_17, qi_19, qi_26, qi_31, qi_32, qi_35, qi_40, qi_42, qi_48, qi_50, qi_57, qi_59, qi_63, qi_64, qi_97, qi_120, qi_122, qi_210, qi_255, qi_511, qi_512, qi_1000, qi_6000, qi_13312, qi_14337, qi_16383, qi_16384, qi_524287]
      by_cases c : k = 6
      · right
        subst c
        rw [i_le (by omega) (by omega)]
        obtain ⟨ρ, r1, r2, r3, r4⟩ := last τ tF
        exact ⟨ρ, r1, fun j hj => (r2 j (by omega)).trans (t1 j hj), fun j hj => by rw [r2 _ (by omega), r2 _ (by omega)]; exact t2 j hj, r3, r4⟩
      · left
        rw [i_nle (by omega) (by omega), p_ck _ (by omega) (by omega), p_ix (a := k) (by omega), pass_1 (by omega), p_bd, p_ck _ (by omega) (by omega), sI_id (by rw [r_sI1 (by decide)]), p_nm, p_ck _ (by omega) (by omega), nI_add, pass_1 (by omega), p_bd, p_ck _ (by omega) (by omega), sI_id (by rw [r_sI1 (by decide)]), p_nm, nI_add, p_nm, nI_add, p_nm]
        refine ⟨_, _, _, ⟨k + 1, by omega, rfl, rfl, fun j hj => ?_, fun j hj => ?_, (tF.sI (by decide)).sI (by decide)⟩, ?_, rfl⟩
        · rw [r_sIj (by omega), r_sIj (by omega)]; exact t1 j hj
        · by_cases e : j = k
          · rw [e, r_sIj (by omega), r_sI0, show 211 + 2 * k = 210 + 2 * k + 1 by omega, r_sI0, r_sI1 (by decide), tF.r1 49 (by decide), tF.r1 55 (by decide)]
            exact ⟨rfl, rfl⟩
          · rw [r_sIj (by omega), r_sIj (by omega), r_sIj (by omega), r_sIj (by omega)]; exact t2 j (by omega)
        · rw [p_ix (by omega)]; omega
    · rw [p_ix (by omega), FU_v]; omega
  unfold f_X11_passAll
  rw [qi_0]
  refine lq2 (bot := fun _ _ _ => none) (F := f_X11_passAll_L4 (fun (xq2 : Int32) (σ : Mm) => f_X11_passAll_117 (nI 1) xq2 σ) (nI 1)) (fun a b τ => ∃ k, k ≤ 42 ∧ a = nI (5 * k) ∧ b = nI k ∧ (∀ c j, 50 ≤ c → c ≤ 54 → j < k → τ.1 60 (5 * j + (c - 50)) = σ.1 c j) ∧ Fr [60] σ τ) (fun _ b _ => 43 - ix b) (fun o => ∃ τ, o = some ((), τ) ∧ (∀ c j, 50 ≤ c → c ≤ 54 → j < 42 → τ.1 60 (5 * j + (c - 50)) = σ.1 c j) ∧ (∀ j, j < 6 → τ.1 60 (210 + 2 * j) = σ.1 49 j ∧ τ.1 60 (211 + 2 * j) = σ.1 55 j) ∧ (∀ j, j < 3 → τ.1 60 (222 + 2 * j) = σ.1 56 j ∧ τ.1 60 (223 + 2 * j) = σ.1 57 j) ∧ Fr [60] σ τ) ?_ FU (nI 0) (nI 0) σ ?_ ⟨0, by omega, rfl, rfl, fun c j _ _ hj => by omega, Fr.rf _ _⟩
  · rintro L a b τ ⟨k, hk, rfl, rfl, t1, tF⟩
    unfold f_X11_passAll_L4
    simp only [qi_0, qi_1, qi_2, qi_3, qi_4, qi_5, qi_6, qi_7, qi_8, qi_9, qi_10, qi_11, qi_12, qi_13, qi_14, qi_15, qi_16, qi_17, qi_19, qi_26, qi_31, qi_32, qi_35, qi_40, qi_42, qi_48, qi_50, qi_57, qi_59, qi_63, qi_64, qi_97, qi_120, qi_122, qi_210, qi_255, qi_511, qi_512, qi_1000, qi_6000, qi_13312, qi_14337, qi_16383, qi_16384, qi_524287]
    by_cases c : k = 42
    · right
      subst c
      rw [i_le (by omega) (by omega)]
      obtain ⟨ρ, r1, r2, r3, r4, r5⟩ := mid τ tF
      exact ⟨ρ, r1, fun c j c1 c2 hj => (r2 _ (by omega)).trans (t1 c j c1 c2 hj), r3, r4, r5⟩
    · left
      rw [i_nle (by omega) (by omega), p_ck _ (by omega) (by omega), p_ix (a := k) (by omega), pass_1 (by omega), p_bd, p_ck _ (by omega) (by omega), sI_id (by rw [r_sI1 (by decide)]), p_nm, p_ck _ (by omega) (by omega), nI_add, pass_1 (by omega), p_bd, p_ck _ (by omega) (by omega), sI_id (by rw [r_sI1 (by decide)]), p_nm, p_ck _ (by omega) (by omega), nI_add, pass_1 (by omega), p_bd, p_ck _ (by omega) (by omega), sI_id (by rw [r_sI1 (by decide)]), p_nm, p_ck _ (by omega) (by omega), nI_add, pass_1 (by omega), p_bd, p_ck _ (by omega) (by omega), sI_id (by rw [r_sI1 (by decide)]), p_nm, p_ck _ (by omega) (by omega), nI_add, pass_1 (by omega), p_bd, p_ck _ (by omega) (by omega), sI_id (by rw [r_sI1 (by decide)]), p_nm, nI_add, p_nm, nI_add, p_nm]
      refine ⟨_, _, _, ⟨k + 1, by omega, rfl, rfl, fun c j c1 c2 hj => ?_, ((((tF.sI (by decide)).sI (by decide)).sI (by decide)).sI (by decide)).sI (by decide)⟩, ?_, rfl⟩
      · by_cases e : j = k
        · rw [e]
          rcases (show c = 50 ∨ c = 51 ∨ c = 52 ∨ c = 53 ∨ c = 54 by omega) with rfl | rfl | rfl | rfl | rfl
          · rw [r_sIj (by omega), r_sIj (by omega), r_sIj (by omega), r_sIj (by omega), show 5 * k + (50 - 50) = 5 * k by omega, r_sI0, tF.r1 50 (by decide)]
          · rw [r_sIj (by omega), r_sIj (by omega), r_sIj (by omega), show 5 * k + (51 - 50) = 5 * k + 1 by omega, r_sI0, r_sI1 (by decide), tF.r1 51 (by decide)]
          · rw [r_sIj (by omega), r_sIj (by omega), show 5 * k + (52 - 50) = 5 * k + 2 by omega, r_sI0, r_sI1 (by decide), r_sI1 (by decide), tF.r1 52 (by decide)]
          · rw [r_sIj (by omega), show 5 * k + (53 - 50) = 5 * k + 3 by omega, r_sI0, r_sI1 (by decide), r_sI1 (by decide), r_sI1 (by decide), tF.r1 53 (by decide)]
          · rw [show 5 * k + (54 - 50) = 5 * k + 4 by omega, r_sI0, r_sI1 (by decide), r_sI1 (by decide), r_sI1 (by decide), r_sI1 (by decide), tF.r1 54 (by decide)]
        · rw [r_sIj (by omega), r_sIj (by omega), r_sIj (by omega), r_sIj (by omega), r_sIj (by omega)]; exact t1 c j c1 c2 (by omega)
      · rw [p_ix (by omega)]; omega
  · rw [p_ix (by omega), FU_v]; omega
