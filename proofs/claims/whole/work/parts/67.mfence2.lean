/-! PURE: the fewest fences in the reference: the whole -/
def ffL : List Nat := [48, 66, 67, 68, 69, 70, 71, 72, 73, 74, 75, 76, 77, 78, 79, 80, 81, 82, 83, 84, 85, 87, 88, 89, 90]
theorem mfences_eq {S : Su} {σ : Mm} (hS : SuV S) (hC : SeM S σ) : ∃ τ, f_X11_fences σ = some (fcI (fcs S), fdO (fcs S) τ) ∧ WrM (wrs S) τ ∧ τ.1 48 48 = nI 0 ∧ (∀ j, j ≠ 37 → j ≠ 47 → j ≠ 48 → j ≠ 50 → j ≠ 58 → j ≠ 60 → τ.1 48 j = σ.1 48 j) ∧ Fr ffL σ τ := by
  have hW := wrs_ok hS
  have h6 := hW.1
  obtain ⟨σ1, e1, e2, e3, e4⟩ := findWrites_eq hS hC
  unfold f_X11_fences
  simp only [qi_0, qi_1, qi_2, qi_3, qi_4, qi_5, qi_6, qi_7, qi_8, qi_9, qi_10, qi_11, qi_12, qi_13, qi_14, qi_15, qi_16, qi_17, qi_19, qi_26, qi_31, qi_32, qi_35, qi_40, qi_42, qi_48, qi_50, qi_57, qi_59, qi_63, qi_64, qi_97, qi_120, qi_122, qi_210, qi_255, qi_511, qi_512, qi_1000, qi_6000, qi_13312, qi_14337, qi_16383, qi_16384, qi_524287]
  rw [e1, p_bd, p_cb0, p_nm]
  obtain ⟨ρ, hρ⟩ : ∃ ρ, ρ = sI σ1 48 48 (nI 0) := ⟨_, rfl⟩
  rw [← hρ]
  have hFr : Fr ffL σ ρ := by rw [hρ]; exact (e4.mo (by intro k hk; revert k; decide)).sI (by decide)
  have hMr : WrM (wrs S) ρ := by
    rw [hρ]
    exact ⟨by rw [r_sIj (by decide)]; exact e2.1, fun i hi => by rw [r_sI1 (by decide)]; exact e2.2 i hi⟩
  have hJr : ∀ j, j ≠ 37 → j ≠ 48 → ρ.1 48 j = σ.1 48 j := fun j j1 j2 => by rw [hρ, r_sIj j2]; exact e3 j j1
  have h48 : ρ.1 48 48 = nI 0 := by rw [hρ, r_sI0]
  have hCr : SeM S ρ := SeM_Fr hC hFr (hJr 0 (by decide) (by decide)) (hJr 7 (by decide) (by decide)) (hJr 11 (by decide) (by decide)) (by decide)
  have wrap : ∀ τ, K7 ρ τ → Fr laL ρ τ → WrM (wrs S) τ ∧ τ.1 48 48 = nI 0 ∧ (∀ j, j ≠ 37 → j ≠ 47 → j ≠ 48 → j ≠ 50 → j ≠ 58 → j ≠ 60 → τ.1 48 j = σ.1 48 j) ∧ Fr ffL σ τ := fun τ hK hF => ⟨WrM_la hMr hF hK, by rw [hK 48 (by decide) (by decide) (by decide) (by decide)]; exact h48, fun j j1 j2 j3 j4 j5 j6 => by rw [hK j j2 j4 j5 j6]; exact hJr j j1 j3, hFr.tr (hF.mo (by intro k hk; revert k; decide))⟩
  refine lq1 (F := f_X11_fences_L11 (fun (xq2 : Int32) (xq3 : Int32) (σ : Mm) => f_X11_fences_53 xq2 xq3 σ)) (fun a υ => ∃ n, n ≤ (wrs S).length + 1 ∧ a = nI n ∧ fot S (wrs S) n = none ∧ K7 ρ υ ∧ Fr laL ρ υ) (fun a _ => 8 - ix a) (fun o => ∃ τ, o = some (fcI (fcs S), fdO (fcs S) τ) ∧ WrM (wrs S) τ ∧ τ.1 48 48 = nI 0 ∧ (∀ j, j ≠ 37 → j ≠ 47 → j ≠ 48 → j ≠ 50 → j ≠ 58 → j ≠ 60 → τ.1 48 j = σ.1 48 j) ∧ Fr ffL σ τ) ?_ FU (nI 0) ρ ?_ ⟨0, by omega, rfl, by rw [fot], fun j _ _ _ _ => rfl, Fr.rf _ _⟩
  · rintro L a υ ⟨n, hn', rfl, hno, uK, uF⟩
    have hMu := WrM_la hMr uF uK
    unfold f_X11_fences_L11 f_X11_fences_78
    simp only [qi_0, qi_1, qi_2, qi_3, qi_4, qi_5, qi_6, qi_7, qi_8, qi_9, qi_10, qi_11, qi_12, qi_13, qi_14, qi_15, qi_16, qi_17, qi_19, qi_26, qi_31, qi_32, qi_35, qi_40, qi_42, qi_48, qi_50, qi_57, qi_59, qi_63, qi_64, qi_97, qi_120, qi_122, qi_210, qi_255, qi_511, qi_512, qi_1000, qi_6000, qi_13312, qi_14337, qi_16383, qi_16384, qi_524287]
    rw [hMu.1]
    by_cases c : (wrs S).length < n
    · right
      have e : fcs S = none := by unfold fcs; rw [show (wrs S).length + 1 = n by omega]; exact hno
      rw [i_lt (by omega) c, finds_4, p_bd, e, fcI_n]
      exact ⟨υ, by rw [fdO_n], wrap υ uK uF⟩
    · obtain ⟨τ', t1, t2, t3⟩ := mset_eq (n := n) (τ := υ) hS hCr hW hMr (by omega) uF uK (fun (σ : Mm) => nm (nI n + nI 1) (fun vq11 => L vq11 σ))
      rw [i_nlt (by omega) (by omega), t3]
      have hs := fot_s S (wrs S) n hno
      cases hr : fnn S (wrs S) n (2 ^ (wrs S).length) with
      | none =>
        left
        rw [hr] at hs
        refine ⟨nI (n + 1), τ', ⟨n + 1, by omega, rfl, hs, t1, t2⟩, ?_, ?_⟩
        · rw [p_ix (by omega), p_ix (by omega)]; omega
        · show nm (nI n + nI 1) (fun vq11 => L vq11 τ') = _
          rw [nI_add n 1, p_nm]
      | some r =>
        right
        rw [hr] at hs
        have e : fcs S = some r := by
          have := fot_frz hs ((wrs S).length + 1 - (n + 1))
          rw [show n + 1 + ((wrs S).length + 1 - (n + 1)) = (wrs S).length + 1 by omega] at this
          exact this
        rw [e]
        exact ⟨τ', rfl, wrap τ' t1 t2⟩
  · rw [p_ix (by omega), FU_v]; omega
