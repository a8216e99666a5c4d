/-! PURE: image, undo: the whole -/
def psM : List Nat := [49, 50, 51, 52, 53, 54, 55, 56, 57]
theorem passAll_0 {σ : Mm} : ∃ τ, f_X11_passAll (nI 0) σ = some ((), τ) ∧ (∀ c j, 50 ≤ c → c ≤ 54 → j < 42 → τ.1 c j = σ.1 60 (5 * j + (c - 50))) ∧ (∀ j, j < 6 → τ.1 49 j = σ.1 60 (210 + 2 * j) ∧ τ.1 55 j = σ.1 60 (211 + 2 * j)) ∧ (∀ j, j < 3 → τ.1 56 j = σ.1 60 (222 + 2 * j) ∧ τ.1 57 j = σ.1 60 (223 + 2 * j)) ∧ Fr psM σ τ := by
  have last : ∀ υ, Fr psM σ υ → ∃ τ, f_X11_passAll_172 (nI 0) (nI 222) υ = some ((), τ) ∧ (∀ j, j < 3 → τ.1 56 j = σ.1 60 (222 + 2 * j) ∧ τ.1 57 j = σ.1 60 (223 + 2 * j)) ∧ Fr [56, 57] υ τ ∧ Fr psM σ τ := by
    intro υ hF
    unfold f_X11_passAll_172
    rw [qi_0]
    refine lq2 (bot := fun _ _ _ => none) (F := f_X11_passAll_L174 (nI 0)) (fun a b τ => ∃ k, k ≤ 3 ∧ a = nI (222 + 2 * k) ∧ b = nI k ∧ (∀ j, j < k → τ.1 56 j = σ.1 60 (222 + 2 * j) ∧ τ.1 57 j = σ.1 60 (223 + 2 * j)) ∧ Fr [56, 57] υ τ ∧ Fr psM σ τ) (fun _ b _ => 4 - ix b) (fun o => ∃ τ, o = some ((), τ) ∧ (∀ j, j < 3 → τ.1 56 j = σ.1 60 (222 + 2 * j) ∧ τ.1 57 j = σ.1 60 (223 + 2 * j)) ∧ Fr [56, 57] υ τ ∧ Fr psM σ τ) ?_ FU (nI 222) (nI 0) υ ?_ ⟨0, by omega, rfl, rfl, fun j hj => by omega, Fr.rf _ _, hF⟩
    · rintro L a b τ ⟨k, hk, rfl, rfl, t2, tE, tF⟩
      unfold f_X11_passAll_L174
      simp only [qi_0, qi_1, qi_2, qi_3, qi_4, qi_5, qi_6, qi_7, qi_8, qi_9, qi_10, qi_11, qi_12, qi_13, qi_14, qi_15, qi_16, qi_17, qi_19, qi_26, qi_31, qi_32, qi_35, qi_40, qi_42, qi_48, qi_50, qi_57, qi_59, qi_63, qi_64, qi_97, qi_120, qi_122, qi_210, qi_255, qi_511, qi_512, qi_1000, qi_6000, qi_13312, qi_14337, qi_16383, qi_16384, qi_524287]
      by_cases c : k = 3
      · right
        subst c
        rw [i_le (by omega) (by omega)]
        exact ⟨τ, rfl, t2, tE, tF⟩
      · left
        rw [i_nle (by omega) (by omega), p_ck _ (by omega) (by omega), p_ix (a := k) (by omega), pass_0 (by omega), p_bd, p_ck _ (by omega) (by omega), p_nm, p_ck _ (by omega) (by omega), nI_add, pass_0 (by omega), p_bd, p_ck _ (by omega) (by omega), p_nm, nI_add, p_nm, nI_add, p_nm, r_sI1 (by decide), tF.r1 60 (by decide)]
        refine ⟨_, _, _, ⟨k + 1, by omega, rfl, rfl, fun j hj => ?_, (tE.sI (by decide)).sI (by decide), (tF.sI (by decide)).sI (by decide)⟩, ?_, rfl⟩
        · by_cases e : j = k
          · rw [e, r_sI0, r_sI1 (by decide), r_sI0, show 223 + 2 * k = 222 + 2 * k + 1 by omega]
            exact ⟨rfl, rfl⟩
          · refine ⟨?_, ?_⟩
            · rw [r_sI1 (by decide), r_sIj e]; exact (t2 j (by omega)).1
            · rw [r_sIj e, r_sI1 (by decide)]; exact (t2 j (by omega)).2
        · rw [p_ix (by omega)]; omega
    · rw [p_ix (by omega), FU_v]; omega
  have mid : ∀ υ, Fr psM σ υ → ∃ τ, f_X11_passAll_117 (nI 0) (nI 210) υ = some ((), τ) ∧ (∀ j, j < 6 → τ.1 49 j = σ.1 60 (210 + 2 * j) ∧ τ.1 55 j = σ.1 60 (211 + 2 * j)) ∧ (∀ j, j < 3 → τ.1 56 j = σ.1 60 (222 + 2 * j) ∧ τ.1 57 j = σ.1 60 (223 + 2 * j)) ∧ Fr [49, 55, 56, 57] υ τ ∧ Fr psM σ τ := by
    intro υ hF
    unfold f_X11_passAll_117
    rw [qi_0]
    refine lq2 (bot := fun _ _ _ => none) (F := f_X11_passAll_L119 (fun (xq2 : Int32) (σ : Mm) => f_X11_passAll_172 (nI 0) xq2 σ) (nI 0)) (fun a b τ => ∃ k, k ≤ 6 ∧ a = nI (210 + 2 * k) ∧ b = nI k ∧ (∀ j, j < k → τ.1 49 j = σ.1 60 (210 + 2 * j) ∧ τ.1 55 j = σ.1 60 (211 + 2 * j)) ∧ Fr [49, 55, 56, 57] υ τ ∧ Fr psM σ τ) (fun _ b _ => 7 - ix b) (fun o => ∃ τ, o = some ((), τ) ∧ (∀ j, j < 6 → τ.1 49 j = σ.1 60 (210 + 2 * j) ∧ τ.1 55 j = σ.1 60 (211 + 2 * j)) ∧ (∀ j, j < 3 → τ.1 56 j = σ.1 60 (222 + 2 * j) ∧ τ.1 57 j = σ.1 60 (223 + 2 * j)) ∧ Fr [49, 55, 56, 57] υ τ ∧ Fr psM σ τ) ?_ FU (nI 210) (nI 0) υ ?_ ⟨0, by omega, rfl, rfl, fun j hj => by omega, Fr.rf _ _, hF⟩
    · rintro L a b τ ⟨k, hk, rfl, rfl, t2, tE, tF⟩
      unfold f_X11_passAll_L119
      simp only [qi_0, qi_1, qi_2, qi_3, qi_4, qi_5, qi_6, qi_7, qi_8, qi_9, qi_10, qi_11, qi_12, qi_13, qi_14, qi_15, qi_16, qi_17, qi_19, qi_26, qi_31, qi_32, qi_35, qi_40, qi_42, qi_48, qi_50, qi_57, qi_59, qi_63, qi_64, qi_97, qi_120, qi_122, qi_210, qi_255, qi_511, qi_512, qi_1000, qi_6000, qi_13312, qi_14337, qi_16383, qi_16384, qi_524287]
      by_cases c : k = 6
      · right
        subst c
        rw [i_le (by omega) (by omega)]
        obtain ⟨ρ, r1, r2, r3, r4⟩ := last τ tF
        exact ⟨ρ, r1, fun j hj => by rw [r3.r1 49 (by decide), r3.r1 55 (by decide)]; exact t2 j hj, r2, tE.tr (r3.mo (by intro k hk; revert k; decide)), r4⟩
      · left
        rw [i_nle (by omega) (by omega), p_ck _ (by omega) (by omega), p_ix (a := k) (by omega), pass_0 (by omega), p_bd, p_ck _ (by omega) (by omega), p_nm, p_ck _ (by omega) (by omega), nI_add, pass_0 (by omega), p_bd, p_ck _ (by omega) (by omega), p_nm, nI_add, p_nm, nI_add, p_nm, r_sI1 (by decide), tF.r1 60 (by decide)]
        refine ⟨_, _, _, ⟨k + 1, by omega, rfl, rfl, fun j hj => ?_, (tE.sI (by decide)).sI (by decide), (tF.sI (by decide)).sI (by decide)⟩, ?_, rfl⟩
        · by_cases e : j = k
          · rw [e, r_sI0, r_sI1 (by decide), r_sI0, show 211 + 2 * k = 210 + 2 * k + 1 by omega]
            exact ⟨rfl, rfl⟩
          · refine ⟨?_, ?_⟩
            · rw [r_sI1 (by decide), r_sIj e]; exact (t2 j (by omega)).1
            · rw [r_sIj e, r_sI1 (by decide)]; exact (t2 j (by omega)).2
        · rw [p_ix (by omega)]; omega
    · rw [p_ix (by omega), FU_v]; omega
  unfold f_X11_passAll
  rw [show (0 : Int32) = nI 0 from rfl]
  refine lq2 (bot := fun _ _ _ => none) (F := f_X11_passAll_L4 (fun (xq2 : Int32) (σ : Mm) => f_X11_passAll_117 (nI 0) xq2 σ) (nI 0)) (fun a b τ => ∃ k, k ≤ 42 ∧ a = nI (5 * k) ∧ b = nI k ∧ (∀ c j, 50 ≤ c → c ≤ 54 → j < k → τ.1 c j = σ.1 60 (5 * j + (c - 50))) ∧ Fr psM σ τ) (fun _ b _ => 43 - ix b) (fun o => ∃ τ, o = some ((), τ) ∧ (∀ c j, 50 ≤ c → c ≤ 54 → j < 42 → τ.1 c j = σ.1 60 (5 * j + (c - 50))) ∧ (∀ j, j < 6 → τ.1 49 j = σ.1 60 (210 + 2 * j) ∧ τ.1 55 j = σ.1 60 (211 + 2 * j)) ∧ (∀ j, j < 3 → τ.1 56 j = σ.1 60 (222 + 2 * j) ∧ τ.1 57 j = σ.1 60 (223 + 2 * j)) ∧ Fr psM σ τ) ?_ FU (nI 0) (nI 0) σ ?_ ⟨0, by omega, rfl, rfl, fun c j _ _ hj => by omega, Fr.rf _ _⟩
  · rintro L a b τ ⟨k, hk, rfl, rfl, t1, tF⟩
    unfold f_X11_passAll_L4
    simp only [qi_0, qi_1, qi_2, qi_3, qi_4, qi_5, qi_6, qi_7, qi_8, qi_9, qi_10, qi_11, qi_12, qi_13, qi_14, qi_15, qi_16, qi_17, qi_19, qi_26, qi_31, qi_32, qi_35, qi_40, qi_42, qi_48, qi_50, qi_57, qi_59, qi_63, qi_64, qi_97, qi_120, qi_122, qi_210, qi_255, qi_511, qi_512, qi_1000, qi_6000, qi_13312, qi_14337, qi_16383, qi_16384, qi_524287]
    by_cases c : k = 42
    · right
      subst c
      rw [i_le (by omega) (by omega)]
      obtain ⟨ρ, r1, r2, r3, r4, r5⟩ := mid τ tF
      have q : ∀ c, 50 ≤ c → c ≤ 54 → c ∉ [49, 55, 56, 57] := fun c c1 c2 d => by
        simp only [List.mem_cons, List.not_mem_nil, or_false] at d
        omega
      exact ⟨ρ, r1, fun c j c1 c2 hj => by rw [r4.r1 c (q c c1 c2)]; exact t1 c j c1 c2 hj, r2, r3, r5⟩
    · left
      rw [i_nle (by omega) (by omega), p_ck _ (by omega) (by omega), p_ix (a := k) (by omega), pass_0 (by omega), p_bd, p_ck _ (by omega) (by omega), p_nm, p_ck _ (by omega) (by omega), nI_add, pass_0 (by omega), p_bd, p_ck _ (by omega) (by omega), p_nm, p_ck _ (by omega) (by omega), nI_add, pass_0 (by omega), p_bd, p_ck _ (by omega) (by omega), p_nm, p_ck _ (by omega) (by omega), nI_add, pass_0 (by omega), p_bd, p_ck _ (by omega) (by omega), p_nm, p_ck _ (by omega) (by omega), nI_add, pass_0 (by omega), p_bd, p_ck _ (by omega) (by omega), p_nm, nI_add, p_nm, nI_add, p_nm]
      have e60 : ∀ υ : Mm, υ.1 60 = σ.1 60 → ∀ c j v, c ≠ 60 → (sI υ c j v).1 60 = σ.1 60 := fun υ h c j v hc => by rw [r_sI1 (fun q => hc q.symm)]; exact h
      have z0 : τ.1 60 = σ.1 60 := tF.r1 60 (by decide)
      have z1 := e60 _ z0 50 k (τ.1 60 (5 * k)) (by decide)
      have z2 := e60 _ z1 51 k ((sI τ 50 k (τ.1 60 (5 * k))).1 60 (5 * k + 1)) (by decide)
      have z3 := e60 _ z2 52 k ((sI (sI τ 50 k (τ.1 60 (5 * k))) 51 k ((sI τ 50 k (τ.1 60 (5 * k))).1 60 (5 * k + 1))).1 60 (5 * k + 2)) (by decide)
      have z4 := e60 _ z3 53 k ((sI (sI (sI τ 50 k (τ.1 60 (5 * k))) 51 k ((sI τ 50 k (τ.1 60 (5 * k))).1 60 (5 * k + 1))) 52 k ((sI (sI τ 50 k (τ.1 60 (5 * k))) 51 k ((sI τ 50 k (τ.1 60 (5 * k))).1 60 (5 * k + 1))).1 60 (5 * k + 2))).1 60 (5 * k + 3)) (by decide)
      rw [z4, z3, z2, z1, z0]
      refine ⟨_, _, _, ⟨k + 1, by omega, rfl, rfl, fun c j c1 c2 hj => ?_, ((((tF.sI (by decide)).sI (by decide)).sI (by decide)).sI (by decide)).sI (by decide)⟩, ?_, rfl⟩
      · by_cases e : j = k
        · rw [e]
          rcases (show c = 50 ∨ c = 51 ∨ c = 52 ∨ c = 53 ∨ c = 54 by omega) with rfl | rfl | rfl | rfl | rfl
          · rw [r_sI1 (by decide), r_sI1 (by decide), r_sI1 (by decide), r_sI1 (by decide), r_sI0, show 5 * k + (50 - 50) = 5 * k by omega]
          · rw [r_sI1 (by decide), r_sI1 (by decide), r_sI1 (by decide), r_sI0, show 5 * k + (51 - 50) = 5 * k + 1 by omega]
          · rw [r_sI1 (by decide), r_sI1 (by decide), r_sI0, show 5 * k + (52 - 50) = 5 * k + 2 by omega]
          · rw [r_sI1 (by decide), r_sI0, show 5 * k + (53 - 50) = 5 * k + 3 by omega]
          · rw [r_sI0, show 5 * k + (54 - 50) = 5 * k + 4 by omega]
        · have nj : ∀ (υ : Mm) (d : Nat) (v : Int32), (sI υ d k v).1 c j = υ.1 c j := fun υ d v => by
            by_cases q : c = d
            · rw [q, r_sIj e]
            · rw [r_sI1 q]
          rw [nj, nj, nj, nj, nj]
          exact t1 c j c1 c2 (by omega)
      · rw [p_ix (by omega)]; omega
  · rw [p_ix (by omega), FU_v]; omega
/-- the class copies -/
theorem cpy_ok {β : Type} {n : Nat} (o : Option β) (hn : n < 1000) : cpy n n (nI 0) (nI 0) (nI n) o = o := by
  unfold cpy
  refine if_neg ?_
  rintro (q | q | q | q | q)
  · exact absurd q (by decide)
  · exact absurd q (by decide)
  · exact absurd q (nI_nlt (Nat.zero_le _) (by omega))
  · have e0 : (nI 0).toNatClampNeg = 0 := by decide
    have e1 : (nI n).toNatClampNeg = n := p_ix (by omega)
    omega
  · have e0 : (nI 0).toNatClampNeg = 0 := by decide
    have e1 : (nI n).toNatClampNeg = n := p_ix (by omega)
    omega
theorem vc_lt {f g : Nat → Int32} {n k : Nat} (h : k < n) : va_cpy f g 0 0 n k = f k := by
  show (if 0 ≤ k ∧ k < 0 + n then f (0 + (k - 0)) else g k) = f k
  rw [if_pos ⟨Nat.zero_le _, by omega⟩]
  congr 1
  omega
