/-! PURE: a changed setup in the reference -/
theorem chg_r (S : Su) (c s v c' s' r : Nat) : sC (chg S c s v) c' s' r = if c' = c ∧ s' = s ∧ r = cpt S c s then v else sC S c' s' r := rfl
theorem CdS_of {σ τ : Mm} {k : Nat} {f : Nat → Nat} (h : CdS σ k f) (e0 : τ.1 50 k = σ.1 50 k) (e1 : τ.1 51 k = σ.1 51 k) (e2 : τ.1 52 k = σ.1 52 k) (e3 : τ.1 53 k = σ.1 53 k) (e4 : τ.1 54 k = σ.1 54 k) : CdS τ k f := by
  unfold CdS at *
  rw [e0, e1, e2, e3, e4]
  exact h
theorem SeM_chg {S : Su} {σ τ : Mm} {c s v : Nat} (hS : SuV S) (hC : SeM S σ) (hc : c < sK S) (hs : s < sN S c) (hv : v < 4) (hF : Fr [48, 52, 53] σ τ) (hJ : ∀ j, j ≠ 48 → τ.1 48 j = σ.1 48 j) (h52 : ∀ j, j ≠ 7 * c + s → τ.1 52 j = σ.1 52 j) (h53 : ∀ j, j ≠ 7 * c + s → τ.1 53 j = σ.1 53 j) (hown : (sC S c s 0 = 3 ∧ τ.1 53 (7 * c + s) = nI v ∧ τ.1 52 (7 * c + s) = σ.1 52 (7 * c + s)) ∨ (sC S c s 0 ≠ 3 ∧ τ.1 52 (7 * c + s) = nI v ∧ τ.1 53 (7 * c + s) = σ.1 53 (7 * c + s))) : SeM (chg S c s v) τ := by
  obtain ⟨a1, a2, a3, a4, a5, a6, a7⟩ := hC
  refine ⟨by rw [hJ 0 (by decide)]; exact a1, by rw [hJ 7 (by decide)]; exact a2, by rw [hJ 11 (by decide)]; exact a3, fun d hd => by rw [hF.r1 49 (by decide)]; exact a4 d hd, fun d t hd ht => ?_, fun h hh => by rw [hF.r1 55 (by decide), hF.r1 56 (by decide)]; exact a6 h hh, fun d hd => by rw [hF.r1 57 (by decide)]; exact a7 d hd⟩
  have hd : d < sK S := hd
  have ht : t < sN S d := ht
  have h7 := (hS.2.1 c hc).2
  have h7' := (hS.2.1 d hd).2
  have hold := a5 d t hd ht
  by_cases e : d = c ∧ t = s
  · obtain ⟨rfl, rfl⟩ := e
    unfold CdS at *
    rw [chg_r, chg_r, chg_r, chg_r, chg_r, hF.r1 50 (by decide), hF.r1 51 (by decide), hF.r1 54 (by decide)]
    have c0 := cpt_23 S d t
    rw [if_neg (show ¬ (d = d ∧ t = t ∧ 0 = cpt S d t) from fun q => by omega), if_neg (show ¬ (d = d ∧ t = t ∧ 1 = cpt S d t) from fun q => by omega), if_neg (show ¬ (d = d ∧ t = t ∧ 4 = cpt S d t) from fun q => by omega)]
    obtain ⟨b0, b1, b2, b3, b4⟩ := hold
    rcases hown with ⟨k3, o1, o2⟩ | ⟨k3, o1, o2⟩
    · have ec : cpt S d t = 3 := if_pos k3
      rw [ec, if_neg (show ¬ (d = d ∧ t = t ∧ 2 = 3) from fun q => by omega), if_pos ⟨rfl, rfl, rfl⟩, o1, o2]
      exact ⟨b0, b1, b2, fun _ => rfl, b4⟩
    · have ec : cpt S d t = 2 := if_neg k3
      rw [ec, if_neg (show ¬ (d = d ∧ t = t ∧ 3 = 2) from fun q => by omega), if_pos ⟨rfl, rfl, rfl⟩, o1, o2]
      exact ⟨b0, b1, fun _ => (if_neg (by omega)).symm, b3, b4⟩
  · have ek : 7 * d + t ≠ 7 * c + s := fun q => e ⟨by omega, by omega⟩
    have ef : sC (chg S c s v) d t = sC S d t := by
      funext r
      rw [chg_r, if_neg (fun q => e ⟨q.1, q.2.1⟩)]
    rw [ef]
    exact CdS_of hold (by rw [hF.r1 50 (by decide)]) (by rw [hF.r1 51 (by decide)]) (h52 _ ek) (h53 _ ek) (by rw [hF.r1 54 (by decide)])
