/-! PURE: a step's value is put in the reference -/
theorem put_3 {σ : Mm} {k : Nat} (x : Int32) (hk : k < 42) (h50 : σ.1 50 k = nI 3) : ∃ σ', f_X11_put (nI k) x σ = some (σ.1 53 k, σ') ∧ σ'.1 53 k = x ∧ (∀ j, j ≠ k → σ'.1 53 j = σ.1 53 j) ∧ (∀ j, σ'.1 52 j = σ.1 52 j) ∧ σ'.1 48 48 = nI 0 ∧ (∀ j, j ≠ 48 → σ'.1 48 j = σ.1 48 j) ∧ Fr [48, 52, 53] σ σ' := by
  unfold f_X11_put f_X11_put_25 f_X11_put_51
  simp only [qi_0, qi_1, qi_2, qi_3, qi_4, qi_5, qi_6, qi_7, qi_8, qi_9, qi_10, qi_11, qi_12, qi_13, qi_14, qi_15, qi_16, qi_17, qi_19, qi_26, qi_31, qi_32, qi_35, qi_40, qi_42, qi_48, qi_50, qi_57, qi_59, qi_63, qi_64, qi_97, qi_120, qi_122, qi_210, qi_255, qi_511, qi_512, qi_1000, qi_6000, qi_13312, qi_14337, qi_16383, qi_16384, qi_524287]
  rw [p_ck _ hk (by omega), p_ix (a := k) (by omega), h50, i_eq rfl, p_ck _ hk (by omega), p_ck _ hk (by omega), i_eq rfl, p_ck _ hk (by omega), p_nm, p_ck _ hk (by omega), r_sI1 (by decide), h50, i_eq rfl, p_ck _ hk (by omega), p_ck _ hk (by omega), p_nm, p_cb0, p_nm]
  refine ⟨_, rfl, ?_, fun j hj => ?_, fun j => ?_, r_sI0, fun j hj => ?_, (((Fr.rf _ _).sI (by decide)).sI (by decide)).sI (by decide)⟩
  · rw [r_sI1 (by decide), r_sI1 (by decide), r_sI0]
  · rw [r_sI1 (by decide), r_sI1 (by decide), r_sIj hj]
  · rw [r_sI1 (by decide)]
    by_cases e : j = k
    · rw [e, r_sI0, r_sI1 (by decide)]
    · rw [r_sIj e, r_sI1 (by decide)]
  · rw [r_sIj hj, r_sI1 (by decide), r_sI1 (by decide)]
theorem put_n {σ : Mm} {k t : Nat} (x : Int32) (hk : k < 42) (h50 : σ.1 50 k = nI t) (ht : t < 8) (h3 : t ≠ 3) : ∃ σ', f_X11_put (nI k) x σ = some (σ.1 52 k, σ') ∧ σ'.1 52 k = x ∧ (∀ j, j ≠ k → σ'.1 52 j = σ.1 52 j) ∧ (∀ j, σ'.1 53 j = σ.1 53 j) ∧ σ'.1 48 48 = nI 0 ∧ (∀ j, j ≠ 48 → σ'.1 48 j = σ.1 48 j) ∧ Fr [48, 52, 53] σ σ' := by
  unfold f_X11_put f_X11_put_25 f_X11_put_51
  simp only [qi_0, qi_1, qi_2, qi_3, qi_4, qi_5, qi_6, qi_7, qi_8, qi_9, qi_10, qi_11, qi_12, qi_13, qi_14, qi_15, qi_16, qi_17, qi_19, qi_26, qi_31, qi_32, qi_35, qi_40, qi_42, qi_48, qi_50, qi_57, qi_59, qi_63, qi_64, qi_97, qi_120, qi_122, qi_210, qi_255, qi_511, qi_512, qi_1000, qi_6000, qi_13312, qi_14337, qi_16383, qi_16384, qi_524287]
  rw [p_ck _ hk (by omega), p_ix (a := k) (by omega), h50, i_ne (by omega) (by omega) h3, p_ck _ hk (by omega), p_ck _ hk (by omega), i_ne (by omega) (by omega) h3, p_ck _ hk (by omega), p_ck _ hk (by omega), p_nm, p_ck _ hk (by omega), r_sI1 (by decide), h50, i_ne (by omega) (by omega) h3, p_ck _ hk (by omega), p_nm, p_cb0, p_nm]
  refine ⟨_, rfl, ?_, fun j hj => ?_, fun j => ?_, r_sI0, fun j hj => ?_, (((Fr.rf _ _).sI (by decide)).sI (by decide)).sI (by decide)⟩
  · rw [r_sI1 (by decide), r_sI0]
  · rw [r_sI1 (by decide), r_sIj hj, r_sI1 (by decide)]
  · rw [r_sI1 (by decide), r_sI1 (by decide)]
    by_cases e : j = k
    · rw [e, r_sI0]
    · rw [r_sIj e]
  · rw [r_sIj hj, r_sI1 (by decide), r_sI1 (by decide)]
