/-! PURE: a step's value in the reference -/
def hvB (f : Nat → Nat) : Bool := decide (f 0 = 3 ∨ f 0 = 4 ∨ f 0 = 7 ∨ (f 0 = 2 ∧ f 2 ≠ 4))
theorem hasValue_eq {σ : Mm} {k p : Nat} {f : Nat → Nat} (hk : k < 42) (hf : CdS σ k f) (hV : CdV f p) : f_X11_hasValue (nI k) σ = some (bI (hvB f), σ) := by
  obtain ⟨v1, v2, v3, v4, v5, v6⟩ := hV
  unfold f_X11_hasValue f_X11_hasValue_54
  simp only [qi_0, qi_1, qi_2, qi_3, qi_4, qi_5, qi_6, qi_7, qi_8, qi_9, qi_10, qi_11, qi_12, qi_13, qi_14, qi_15, qi_16, qi_17, qi_19, qi_26, qi_31, qi_32, qi_35, qi_40, qi_42, qi_48, qi_50, qi_57, qi_59, qi_63, qi_64, qi_97, qi_120, qi_122, qi_210, qi_255, qi_511, qi_512, qi_1000, qi_6000, qi_13312, qi_14337, qi_16383, qi_16384, qi_524287]
  rw [p_ck _ hk (by omega), p_ix (a := k) (by omega), hf.1]
  by_cases k3 : f 0 = 3
  · rw [i_eq k3, p_cb1, show hvB f = true from decide_eq_true (Or.inl k3), bI_t]
  rw [i_ne (by omega) (by omega) k3, p_ck _ hk (by omega)]
  by_cases k4 : f 0 = 4
  · rw [i_eq k4, p_cb1, show hvB f = true from decide_eq_true (Or.inr (Or.inl k4)), bI_t]
  rw [i_ne (by omega) (by omega) k4, p_ck _ hk (by omega)]
  by_cases k7 : f 0 = 7
  · rw [i_eq k7, p_cb1, show hvB f = true from decide_eq_true (Or.inr (Or.inr (Or.inl k7))), bI_t]
  rw [i_ne (by omega) (by omega) k7, p_ck _ hk (by omega)]
  by_cases k2 : f 0 = 2
  · have h52 := hf.2.2.1 (Or.inl k2)
    have h4 := v3 k2
    rw [i_eq k2, p_ck _ hk (by omega), h52]
    by_cases e : f 2 = 4
    · have eb : hvB f = false := decide_eq_false (fun q => by omega)
      rw [show vI (f 2) = -nI 1 from if_pos e, i_m1lt (by omega), p_cb0, eb, bI_f]
    · have eb : hvB f = true := decide_eq_true (Or.inr (Or.inr (Or.inr ⟨k2, e⟩)))
      rw [show vI (f 2) = nI (f 2) from if_neg e, i_nlt (by omega) (by omega), p_cb1, eb, bI_t]
  · have eb : hvB f = false := decide_eq_false (fun q => by omega)
    rw [i_ne (by omega) (by omega) k2, p_cb0, eb, bI_f]
