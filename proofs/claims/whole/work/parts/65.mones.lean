/-! PURE: the reference tells a fault; counts bits -/
def fd (σ : Mm) (e : Nat) : Mm := sI σ 59 e (σ.1 59 e + nI 1)
theorem finds_g {x : Int32} {e : Nat} {σ : Mm} (he : e < 7) (hx : (-1000000001 : Int32) - x = nI e) : f_X11_finds x σ = some (x, fd σ e) := by
  unfold f_X11_finds
  simp only [qi_0, qi_1, qi_2, qi_3, qi_4, qi_5, qi_6, qi_7, qi_8, qi_9, qi_10, qi_11, qi_12, qi_13, qi_14, qi_15, qi_16, qi_17, qi_19, qi_26, qi_31, qi_32, qi_35, qi_40, qi_42, qi_48, qi_50, qi_57, qi_59, qi_63, qi_64, qi_97, qi_120, qi_122, qi_210, qi_255, qi_511, qi_512, qi_1000, qi_6000, qi_13312, qi_14337, qi_16383, qi_16384, qi_524287]
  rw [hx, p_nm, p_ck _ he (by omega), p_ck _ he (by omega), p_ix (by omega), p_nm]
  rfl
theorem finds_1 (σ : Mm) : f_X11_finds (-1000000001) σ = some (-1000000001, fd σ 0) := finds_g (by omega) (by decide)
theorem finds_2 (σ : Mm) : f_X11_finds (-1000000002) σ = some (-1000000002, fd σ 1) := finds_g (by omega) (by decide)
theorem finds_3 (σ : Mm) : f_X11_finds (-1000000003) σ = some (-1000000003, fd σ 2) := finds_g (by omega) (by decide)
theorem finds_4 (σ : Mm) : f_X11_finds (-1000000004) σ = some (-1000000004, fd σ 3) := finds_g (by omega) (by decide)
theorem finds_5 (σ : Mm) : f_X11_finds (-1000000005) σ = some (-1000000005, fd σ 4) := finds_g (by omega) (by decide)
theorem finds_6 (σ : Mm) : f_X11_finds (-1000000006) σ = some (-1000000006, fd σ 5) := finds_g (by omega) (by decide)
theorem finds_7 (σ : Mm) : f_X11_finds (-1000000007) σ = some (-1000000007, fd σ 6) := finds_g (by omega) (by decide)
def onU (k : Nat) : Nat → Nat
  | 0 => 0
  | i + 1 => onU k i + k / 2 ^ i % 2
theorem onU_6 (k : Nat) : onU k 6 = ones k := by
  have e : onU k 6 = 0 + k / 1 % 2 + k / 2 % 2 + k / 4 % 2 + k / 8 % 2 + k / 16 % 2 + k / 32 % 2 := rfl
  rw [e, Nat.div_one, Nat.zero_add]
  rfl
theorem onU_le (k : Nat) : ∀ i, onU k i ≤ i := by
  intro i
  induction i with
  | zero => exact Nat.le_refl _
  | succ i ih => rw [onU]; omega
theorem mones_eq {k : Nat} (hk : k < 64) (σ : Mm) : f_X11_ones (nI k) σ = some (nI (ones k), σ) := by
  unfold f_X11_ones
  rw [← onU_6]
  refine lq2 (F := f_X11_ones_L4 (nI k)) (fun a b τ => ∃ i, i ≤ 6 ∧ a = nI (onU k i) ∧ b = nI i ∧ τ = σ) (fun _ b _ => 7 - ix b) (fun o => o = some (nI (onU k 6), σ)) ?_ FU (0 : Int32) (0 : Int32) σ ?_ ⟨0, by omega, rfl, rfl, rfl⟩
  · rintro L a b τ ⟨i, hi, rfl, rfl, rfl⟩
    unfold f_X11_ones_L4
    simp only [qi_0, qi_1, qi_2, qi_3, qi_4, qi_5, qi_6, qi_7, qi_8, qi_9, qi_10, qi_11, qi_12, qi_13, qi_14, qi_15, qi_16, qi_17, qi_19, qi_26, qi_31, qi_32, qi_35, qi_40, qi_42, qi_48, qi_50, qi_57, qi_59, qi_63, qi_64, qi_97, qi_120, qi_122, qi_210, qi_255, qi_511, qi_512, qi_1000, qi_6000, qi_13312, qi_14337, qi_16383, qi_16384, qi_524287]
    by_cases c : 6 ≤ i
    · right
      rw [i_le (by omega) c, show i = 6 by omega]
    · left
      rw [i_nle (by omega) (by omega), bit_i hk (by omega), nI_add (onU k i) (k / 2 ^ i % 2), p_nm, nI_add i 1, p_nm]
      refine ⟨nI (onU k (i + 1)), nI (i + 1), τ, ⟨i + 1, by omega, rfl, rfl, rfl⟩, ?_, rfl⟩
      rw [p_ix (by omega), p_ix (by omega)]; omega
  · show 7 - ix (nI 0) < FU
    rw [p_ix (by omega), FU_v]; omega
