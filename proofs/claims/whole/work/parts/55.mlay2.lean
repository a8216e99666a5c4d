/-! PURE: the reference lays its program out -/
theorem CdM_of {σ τ : Mm} {k o : Nat} {f : Nat → Nat} (h : CdM σ k o f) (e0 : τ.1 67 k = σ.1 67 k) (e1 : τ.1 68 k = σ.1 68 k) (e2 : τ.1 69 k = σ.1 69 k) (e3 : τ.1 70 k = σ.1 70 k) (e4 : τ.1 71 k = σ.1 71 k) : CdM τ k o f := by
  unfold CdM at *
  rw [e0, e1, e2, e3, e4]
  exact h
def loL : List Nat := [66, 67, 68, 69, 70, 71, 73]
theorem lays_eq {σ : Mm} {a b : Nat} (ha' : a < 84) (hb' : b < 42) : ∃ τ, f_X11_lays (nI a) (nI b) σ = some ((), τ) ∧ (∀ f, CdS σ b f → CdM τ a 0 f) ∧ (∀ k o f, k ≠ a → CdM σ k o f → CdM τ k o f) ∧ Fr [67, 68, 69, 70, 71] σ τ := by
  unfold f_X11_lays
  rw [p_ck _ (by omega) (by omega), p_ck _ (by omega) (by omega), p_ix (a := a) (by omega), p_ix (a := b) (by omega), p_nm, p_ck _ (by omega) (by omega), p_ck _ (by omega) (by omega), p_nm, p_ck _ (by omega) (by omega), p_ck _ (by omega) (by omega), p_nm, p_ck _ (by omega) (by omega), p_ck _ (by omega) (by omega), p_nm, p_ck _ (by omega) (by omega), p_ck _ (by omega) (by omega), p_nm]
  refine ⟨_, rfl, fun f hf => ?_, fun k o f hk hf => ?_, ?_⟩
  · obtain ⟨f0, f1, f2, f3, f4⟩ := hf
    refine ⟨?_, fun q1 q2 => ?_, fun q => ?_, fun q => ?_, fun q => ⟨by omega, ?_⟩⟩
    · rw [r_sI1 (by decide), r_sI1 (by decide), r_sI1 (by decide), r_sI1 (by decide), r_sI0]; exact f0
    · rw [r_sI1 (by decide), r_sI1 (by decide), r_sI1 (by decide), r_sI0, r_sI1 (by decide)]; exact f1 q1 q2
    · rw [r_sI1 (by decide), r_sI1 (by decide), r_sI0, r_sI1 (by decide), r_sI1 (by decide)]; exact f2 q
    · rw [r_sI1 (by decide), r_sI0, r_sI1 (by decide), r_sI1 (by decide), r_sI1 (by decide)]; exact f3 q
    · rw [r_sI0, r_sI1 (by decide), r_sI1 (by decide), r_sI1 (by decide), r_sI1 (by decide), Nat.sub_zero]; exact f4 q
  · refine CdM_of hf ?_ ?_ ?_ ?_ ?_
    · rw [r_sI1 (by decide), r_sI1 (by decide), r_sI1 (by decide), r_sI1 (by decide), r_sIj hk]
    · rw [r_sI1 (by decide), r_sI1 (by decide), r_sI1 (by decide), r_sIj hk, r_sI1 (by decide)]
    · rw [r_sI1 (by decide), r_sI1 (by decide), r_sIj hk, r_sI1 (by decide), r_sI1 (by decide)]
    · rw [r_sI1 (by decide), r_sIj hk, r_sI1 (by decide), r_sI1 (by decide), r_sI1 (by decide)]
    · rw [r_sIj hk, r_sI1 (by decide), r_sI1 (by decide), r_sI1 (by decide), r_sI1 (by decide)]
  · exact (((((Fr.rf _ _).sI (by decide)).sI (by decide)).sI (by decide)).sI (by decide)).sI (by decide)
/-- a call with its fences, jumps as they were set up -/
def rcf (S : Su) (X : Nat → Bool) (c : Nat) : Nat → Nat → Nat → Nat
  | 0 => fun _ _ => 0
  | n + 1 => fun q r => if q = fps X c n then sC S c n r else if q = fps X c n + 1 then (if r = 0 then 5 else 0) else rcf S X c n q r
theorem rcf_s (S : Su) (X : Nat → Bool) (c n q r : Nat) : rcf S X c (n + 1) q r = if q = fps X c n then sC S c n r else if q = fps X c n + 1 then (if r = 0 then 5 else 0) else rcf S X c n q r := rfl
theorem lcf_s (S : Su) (X : Nat → Bool) (c n q r : Nat) : lcf S X c (n + 1) q r = if q = fps X c n then stf S X c n r else if q = fps X c n + 1 then (if r = 0 then 5 else 0) else lcf S X c n q r := rfl
theorem rcf_lt {S : Su} {X : Nat → Bool} {c n q : Nat} (h : q < fps X c n) : rcf S X c (n + 1) q = rcf S X c n q := by
  funext r
  rw [rcf_s, if_neg (by omega), if_neg (by omega)]
theorem rcf_at (S : Su) (X : Nat → Bool) (c n : Nat) : rcf S X c (n + 1) (fps X c n) = sC S c n := by
  funext r
  rw [rcf_s, if_pos rfl]
theorem rcf_fe (S : Su) (X : Nat → Bool) (c n : Nat) : rcf S X c (n + 1) (fps X c n + 1) = fun r => if r = 0 then 5 else 0 := by
  funext r
  rw [rcf_s, if_neg (by omega), if_pos rfl]
theorem rcf_lc {S : Su} {X : Nat → Bool} {c : Nat} (hS : SuV S) (hc : c < sK S) : ∀ n, n ≤ sN S c → ∀ q, q < fps X c n → (∀ r, r ≠ 4 → lcf S X c n q r = rcf S X c n q r) ∧ (rcf S X c n q 0 = 6 → rcf S X c n q 4 < n ∧ lcf S X c n q 4 = fps X c (rcf S X c n q 4)) := by
  intro n
  induction n with
  | zero => intro _ q hq; exact absurd hq (Nat.not_lt_zero _)
  | succ n ih =>
    intro hn q hq
    rw [fps] at hq
    by_cases e : q = fps X c n
    · subst e
      have el : ∀ r, lcf S X c (n + 1) (fps X c n) r = stf S X c n r := fun r => by rw [lcf_s, if_pos rfl]
      rw [rcf_at]
      refine ⟨fun r hr => ?_, fun h6 => ⟨?_, ?_⟩⟩
      · rw [el, stf, if_neg hr]
      · have := (hS.2.2.1 c n hc (by omega)).2.2.2.2.2 h6; omega
      · rw [el, stf, if_pos rfl]
    · by_cases e2 : q = fps X c n + 1
      · subst e2
        have el : ∀ r, lcf S X c (n + 1) (fps X c n + 1) r = if r = 0 then 5 else 0 := fun r => by rw [lcf_s, if_neg (by omega), if_pos rfl]
        rw [rcf_fe]
        refine ⟨fun r _ => el r, fun h6 => ?_⟩
        have h6 : (if (0 : Nat) = 0 then (5 : Nat) else 0) = 6 := h6
        rw [if_pos rfl] at h6
        omega
      · have hq' : q < fps X c n := by
          by_cases hx : X (7 * c + n) = true
          · rw [if_pos hx] at hq; omega
          · rw [if_neg hx] at hq; omega
        obtain ⟨i1, i2⟩ := ih (by omega) q hq'
        rw [rcf_lt hq', lcf_keep S X c n (n + 1) q (by omega) hq']
        exact ⟨i1, fun h6 => ⟨by have := (i2 h6).1; omega, (i2 h6).2⟩⟩
theorem CdM_lc {S : Su} {X : Nat → Bool} {c q k : Nat} {σ : Mm} (hS : SuV S) (hc : c < sK S) (hq : q < fl S X c) (h : CdM σ k 0 (rcf S X c (sN S c) q)) (h6 : ¬ rcf S X c (sN S c) q 0 = 6) : CdM σ k 0 (lc S X c q) := by
  obtain ⟨e1, _⟩ := rcf_lc (X := X) hS hc (sN S c) (Nat.le_refl _) q hq
  have a0 : lc S X c q 0 = rcf S X c (sN S c) q 0 := e1 0 (by omega)
  have a1 : lc S X c q 1 = rcf S X c (sN S c) q 1 := e1 1 (by omega)
  have a2 : lc S X c q 2 = rcf S X c (sN S c) q 2 := e1 2 (by omega)
  have a3 : lc S X c q 3 = rcf S X c (sN S c) q 3 := e1 3 (by omega)
  unfold CdM at *
  rw [a0, a1, a2, a3]
  exact ⟨h.1, h.2.1, h.2.2.1, h.2.2.2.1, fun q6 => absurd q6 h6⟩
theorem CdM_lc6 {S : Su} {X : Nat → Bool} {c q k : Nat} {σ : Mm} (hS : SuV S) (hc : c < sK S) (hq : q < fl S X c) (h : CdM σ k 0 (rcf S X c (sN S c) q)) (h6 : rcf S X c (sN S c) q 0 = 6) (τ : Mm) (et : τ = sI σ 71 k (nI (fps X c (rcf S X c (sN S c) q 4)))) : CdM τ k 0 (lc S X c q) := by
  obtain ⟨e1, e2⟩ := rcf_lc (X := X) hS hc (sN S c) (Nat.le_refl _) q hq
  have a0 : lc S X c q 0 = 6 := by rw [← h6]; exact e1 0 (by omega)
  have a4 : lc S X c q 4 = fps X c (rcf S X c (sN S c) q 4) := (e2 h6).2
  subst et
  unfold CdM
  rw [a0, a4]
  refine ⟨?_, fun _ q => by omega, fun q => by omega, fun q => by omega, fun _ => ⟨by omega, ?_⟩⟩
  · rw [r_sI1 (by decide), h.1, h6]
  · rw [r_sI0, Nat.sub_zero]
