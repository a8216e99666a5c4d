/-! PURE: a value is put into a setup in the reference -/
theorem mput_eq {S : Su} {σ : Mm} {c s v : Nat} (hS : SuV S) (hC : SeM S σ) (hc : c < sK S) (hs : s < sN S c) (hv : v < 4) (hh : hvB (sC S c s) = true) : ∃ σ', f_X11_put (nI (7 * c + s)) (nI v) σ = some (nI (sC S c s (cpt S c s)), σ') ∧ SeM (chg S c s v) σ' ∧ σ'.1 48 48 = nI 0 ∧ (∀ j, j ≠ 48 → σ'.1 48 j = σ.1 48 j) ∧ Fr [48, 52, 53] σ σ' := by
  have h6 := hS.1
  have h7 := (hS.2.1 c hc).2
  obtain ⟨b0, b1, b2, b3, b4⟩ := hC.2.2.2.2.1 c s hc hs
  obtain ⟨v1, v2, v3, v4, v5, v6⟩ := hS.2.2.1 c s hc hs
  have hq := of_decide_eq_true hh
  by_cases k3 : sC S c s 0 = 3
  · obtain ⟨σ', e1, e2, e3, e4, e5, e6, e7⟩ := put_3 (nI v) (show 7 * c + s < 42 by omega) (by rw [b0, k3])
    have ec : cpt S c s = 3 := if_pos k3
    rw [b3 k3] at e1
    rw [ec]
    exact ⟨σ', e1, SeM_chg hS hC hc hs hv e7 e6 (fun j _ => e4 j) e3 (Or.inl ⟨k3, e2, e4 _⟩), e5, e6, e7⟩
  · obtain ⟨σ', e1, e2, e3, e4, e5, e6, e7⟩ := put_n (nI v) (show 7 * c + s < 42 by omega) b0 (by omega) k3
    have ec : cpt S c s = 2 := if_neg k3
    have h4 : sC S c s 2 ≠ 4 := by
      rcases hq with q | q | q | ⟨q, q'⟩
      · exact absurd q k3
      · have := v4 (by omega); omega
      · have := v4 (by omega); omega
      · exact q'
    rw [b2 (by omega), show vI (sC S c s 2) = nI (sC S c s 2) from if_neg h4] at e1
    rw [ec]
    exact ⟨σ', e1, SeM_chg hS hC hc hs hv e7 e6 e3 (fun j _ => e4 j) (Or.inr ⟨k3, e2, e4 _⟩), e5, e6, e7⟩
