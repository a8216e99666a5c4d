/-! PURE: the class's setup; healing -/
theorem hasCall_no {S : Su} {σ : Mm} {x : Int32} (hS : SuV S) (hC : SeC S 7 σ) (h : x < 0 ∨ nI (sK S) ≤ x) : f_X5_hasCall x σ = some (nI 0, σ) := by
  unfold f_X5_hasCall f_X5_hasCall_16
  rw [hC.1]
  simp only [qi_0, qi_1, qi_2, qi_3, qi_4, qi_5, qi_6, qi_7, qi_8, qi_9, qi_10, qi_11, qi_12, qi_13, qi_14, qi_15, qi_16, qi_17, qi_19, qi_26, qi_31, qi_32, qi_35, qi_40, qi_42, qi_48, qi_50, qi_57, qi_59, qi_63, qi_64, qi_97, qi_120, qi_122, qi_210, qi_255, qi_511, qi_512, qi_1000, qi_6000, qi_13312, qi_14337, qi_16383, qi_16384, qi_524287]
  by_cases h0 : x < nI 0
  · rw [if_pos h0, p_cb0]
  · rw [if_neg h0, if_pos (by rcases h with h | h; exact absurd h h0; exact h), p_cb0]
theorem hasCall_yes {S : Su} {σ : Mm} {c : Nat} (hS : SuV S) (hC : SeC S 7 σ) (h : c < sK S) : f_X5_hasCall (nI c) σ = some (nI 1, σ) := by
  have := hS.1
  unfold f_X5_hasCall f_X5_hasCall_16
  rw [hC.1]
  simp only [qi_0, qi_1, qi_2, qi_3, qi_4, qi_5, qi_6, qi_7, qi_8, qi_9, qi_10, qi_11, qi_12, qi_13, qi_14, qi_15, qi_16, qi_17, qi_19, qi_26, qi_31, qi_32, qi_35, qi_40, qi_42, qi_48, qi_50, qi_57, qi_59, qi_63, qi_64, qi_97, qi_120, qi_122, qi_210, qi_255, qi_511, qi_512, qi_1000, qi_6000, qi_13312, qi_14337, qi_16383, qi_16384, qi_524287]
  rw [i_nlt (by omega) (by omega), i_nle (by omega) (by omega), p_cb1]
/-- a call's number, or none -/
theorem call_or {S : Su} (hS : SuV S) (x : Int32) : (x < 0 ∨ nI (sK S) ≤ x) ∨ ∃ c, c < sK S ∧ x = nI c := by
  have := hS.1
  rcases pk_ix x (n := sK S) (by omega) with h | h | h
  · exact Or.inl (Or.inl h)
  · exact Or.inl (Or.inr h)
  · exact Or.inr h
def noStep (S : Su) (x y : Int32) : Prop := (x < 0 ∨ nI (sK S) ≤ x) ∨ ∃ c, c < sK S ∧ x = nI c ∧ (y < 0 ∨ nI (sN S c) ≤ y)
theorem step_or {S : Su} (hS : SuV S) (x y : Int32) : noStep S x y ∨ ∃ c s, c < sK S ∧ s < sN S c ∧ x = nI c ∧ y = nI s := by
  rcases call_or hS x with h | ⟨c, hc, rfl⟩
  · exact Or.inl (Or.inl h)
  · have := (hS.2.1 c hc).2
    rcases pk_ix y (n := sN S c) (by omega) with h | h | ⟨s, hs, rfl⟩
    · exact Or.inl (Or.inr ⟨c, hc, rfl, Or.inl h⟩)
    · exact Or.inl (Or.inr ⟨c, hc, rfl, Or.inr h⟩)
    · exact Or.inr ⟨c, s, hc, hs, rfl, rfl⟩
theorem hasStep_no {S : Su} {σ : Mm} {x y : Int32} (hS : SuV S) (hC : SeC S 7 σ) (h : noStep S x y) : f_X5_hasStep x y σ = some (nI 0, σ) := by
  have h6 := hS.1
  unfold f_X5_hasStep f_X5_hasStep_26
  simp only [qi_0, qi_1, qi_2, qi_3, qi_4, qi_5, qi_6, qi_7, qi_8, qi_9, qi_10, qi_11, qi_12, qi_13, qi_14, qi_15, qi_16, qi_17, qi_19, qi_26, qi_31, qi_32, qi_35, qi_40, qi_42, qi_48, qi_50, qi_57, qi_59, qi_63, qi_64, qi_97, qi_120, qi_122, qi_210, qi_255, qi_511, qi_512, qi_1000, qi_6000, qi_13312, qi_14337, qi_16383, qi_16384, qi_524287]
  rcases h with h | ⟨c, hc, rfl, h⟩
  · rw [hasCall_no hS hC h, p_bd, i_eq rfl, p_cb0]
  · have h8 : σ.1 8 c = nI (sN S c) := hC.2.2.2.1 c hc
    rw [hasCall_yes hS hC hc, p_bd, i_ne (by omega) (by omega) (by omega), p_ck _ (by omega) (by omega), p_ix (by omega), h8]
    by_cases h0 : y < nI 0
    · rw [if_pos h0, p_cb0]
    · rw [if_neg h0, if_pos (by rcases h with h | h; exact absurd h h0; exact h), p_cb0]
theorem hasStep_yes {S : Su} {σ : Mm} {c s : Nat} (hS : SuV S) (hC : SeC S 7 σ) (hc : c < sK S) (hs : s < sN S c) : f_X5_hasStep (nI c) (nI s) σ = some (nI 1, σ) := by
  have h6 := hS.1
  have h7 := (hS.2.1 c hc).2
  have h8 : σ.1 8 c = nI (sN S c) := hC.2.2.2.1 c hc
  unfold f_X5_hasStep f_X5_hasStep_26
  simp only [qi_0, qi_1, qi_2, qi_3, qi_4, qi_5, qi_6, qi_7, qi_8, qi_9, qi_10, qi_11, qi_12, qi_13, qi_14, qi_15, qi_16, qi_17, qi_19, qi_26, qi_31, qi_32, qi_35, qi_40, qi_42, qi_48, qi_50, qi_57, qi_59, qi_63, qi_64, qi_97, qi_120, qi_122, qi_210, qi_255, qi_511, qi_512, qi_1000, qi_6000, qi_13312, qi_14337, qi_16383, qi_16384, qi_524287]
  rw [hasCall_yes hS hC hc, p_bd, i_ne (by omega) (by omega) (by omega), i_nlt (by omega) (by omega), p_ck _ (by omega) (by omega), p_ix (by omega), h8, i_nle (by omega) (by omega), p_cb1]
/-- the part of a step that can be changed -/
def chp (S : Su) (c s : Nat) : Option Nat := if sC S c s 0 = 3 then some 3 else if sC S c s 0 = 4 ∨ sC S c s 0 = 7 then some 2 else if sC S c s 0 = 2 then (if sC S c s 2 = 4 then none else some 2) else none
theorem idx_lt {S : Su} (hS : SuV S) {c s : Nat} (hc : c < sK S) (hs : s < sN S c) : (c * 7 + s) * 5 + 4 < 210 := by
  have := hS.1
  have := (hS.2.1 c hc).2
  omega
theorem changeable_eq {S : Su} {σ : Mm} {c s : Nat} (hS : SuV S) (hC : SeC S 7 σ) (hc : c < sK S) (hs : s < sN S c) : f_X5_changeablePart (nI c) (nI s) σ = some (iO (chp S c s), σ) := by
  have hi := idx_lt hS hc hs
  have hcd : CdC σ 9 ((c * 7 + s) * 5) (sC S c s) := hC.2.2.2.2.1 c s hc hs
  obtain ⟨v1, v2, v3, v4, v5, v6⟩ := hS.2.2.1 c s hc hs
  obtain ⟨c1, c2, c3, c4, c5⟩ := hcd
  unfold f_X5_changeablePart chp
  simp only [qi_0, qi_1, qi_2, qi_3, qi_4, qi_5, qi_6, qi_7, qi_8, qi_9, qi_10, qi_11, qi_12, qi_13, qi_14, qi_15, qi_16, qi_17, qi_19, qi_26, qi_31, qi_32, qi_35, qi_40, qi_42, qi_48, qi_50, qi_57, qi_59, qi_63, qi_64, qi_97, qi_120, qi_122, qi_210, qi_255, qi_511, qi_512, qi_1000, qi_6000, qi_13312, qi_14337, qi_16383, qi_16384, qi_524287]
  rw [partOf_eq (by omega), p_bd, Nat.add_zero, c1]
  generalize sC S c s = f at *
  clear v2 v5 v6 c2 c4 c5
  rcases le7 v1 with hk | hk | hk | hk | hk | hk | hk | hk
  · rw [hk]
    rw [i_ne (by omega) (by omega) (by omega), i_ne (by omega) (by omega) (by omega), i_ne (by omega) (by omega) (by omega), i_ne (by omega) (by omega) (by omega), i_ne (by omega) (by omega) (by omega), i_ne (by omega) (by omega) (by omega)]
    rfl
  · rw [hk]
    rw [i_ne (by omega) (by omega) (by omega), i_ne (by omega) (by omega) (by omega), i_ne (by omega) (by omega) (by omega), i_ne (by omega) (by omega) (by omega), i_ne (by omega) (by omega) (by omega), i_ne (by omega) (by omega) (by omega)]
    rfl
  · have g2 := v3 hk
    rw [i_eq hk, partOf_eq (by omega), p_bd, c3 (by omega), if_neg (show ¬ f 0 = 3 by omega), if_neg (show ¬ (f 0 = 4 ∨ f 0 = 7) by omega), if_pos hk]
    by_cases h4 : f 2 = 4
    · rw [show vI (f 2) = -nI 1 from if_pos h4, if_neg (show ¬ nI 0 ≤ -nI 1 by rw [p_m1le]; exact fun q => q), if_pos h4]
      rfl
    · rw [show vI (f 2) = nI (f 2) from if_neg h4, i_le (by omega) (by omega), if_neg h4]
      rfl
  · rw [hk, i_ne (by omega) (by omega) (by omega), i_eq rfl]; rfl
  · rw [hk, i_ne (by omega) (by omega) (by omega), i_ne (by omega) (by omega) (by omega), i_eq rfl]; rfl
  · rw [hk, i_ne (by omega) (by omega) (by omega), i_ne (by omega) (by omega) (by omega), i_ne (by omega) (by omega) (by omega), i_eq rfl]; rfl
  · rw [hk, i_ne (by omega) (by omega) (by omega), i_ne (by omega) (by omega) (by omega), i_ne (by omega) (by omega) (by omega), i_ne (by omega) (by omega) (by omega), i_eq rfl]; rfl
  · rw [hk, i_ne (by omega) (by omega) (by omega), i_ne (by omega) (by omega) (by omega), i_ne (by omega) (by omega) (by omega), i_ne (by omega) (by omega) (by omega), i_ne (by omega) (by omega) (by omega), i_eq rfl]; rfl
/-- a setup with another value in a step -/
def cpt (S : Su) (c s : Nat) : Nat := if sC S c s 0 = 3 then 3 else 2
def chg (S : Su) (c s v : Nat) : Su := (S.1, S.2.1, (fun c' s' r => if c' = c ∧ s' = s ∧ r = cpt S c s then v else sC S c' s' r), S.2.2.2)
theorem chp_cpt {S : Su} {c s p : Nat} (h : chp S c s = some p) : p = cpt S c s ∧ (p = 2 ∨ p = 3) ∧ (p = 3 ↔ sC S c s 0 = 3) := by
  unfold chp at h
  unfold cpt
  split at h
  · rename_i hk
    simp only [Option.some.injEq] at h
    rw [if_pos hk, ← h]; exact ⟨rfl, Or.inr rfl, fun _ => hk, fun _ => rfl⟩
  · rename_i hk
    rw [if_neg hk]
    split at h
    · simp only [Option.some.injEq] at h
      rw [← h]; exact ⟨rfl, Or.inl rfl, fun q => by omega, fun q => absurd q hk⟩
    · split at h
      · split at h
        · cases h
        · simp only [Option.some.injEq] at h
          rw [← h]; exact ⟨rfl, Or.inl rfl, fun q => by omega, fun q => absurd q hk⟩
      · cases h
theorem cpt_23 (S : Su) (c s : Nat) : cpt S c s = 2 ∨ cpt S c s = 3 := by unfold cpt; split <;> omega
theorem chg_0 (S : Su) (c s v c' s' : Nat) : sC (chg S c s v) c' s' 0 = sC S c' s' 0 := by
  show (if c' = c ∧ s' = s ∧ 0 = cpt S c s then v else sC S c' s' 0) = _
  rw [if_neg (fun q => by have := cpt_23 S c s; omega)]
theorem cpt_chg (S : Su) (c s v : Nat) : cpt (chg S c s v) c s = cpt S c s := by unfold cpt; rw [chg_0]
theorem chg_chg (S : Su) (c s v w : Nat) : chg (chg S c s w) c s v = chg S c s v := by
  unfold chg
  have e : (fun c' s' r => if c' = c ∧ s' = s ∧ r = cpt (S.1, S.2.1, (fun c' s' r => if c' = c ∧ s' = s ∧ r = cpt S c s then w else sC S c' s' r), S.2.2.2) c s then v else sC (S.1, S.2.1, (fun c' s' r => if c' = c ∧ s' = s ∧ r = cpt S c s then w else sC S c' s' r), S.2.2.2) c' s' r) = (fun c' s' r => if c' = c ∧ s' = s ∧ r = cpt S c s then v else sC S c' s' r) := by
    funext c' s' r
    rw [show cpt (S.1, S.2.1, (fun c' s' r => if c' = c ∧ s' = s ∧ r = cpt S c s then w else sC S c' s' r), S.2.2.2) c s = cpt S c s from cpt_chg S c s w]
    by_cases h : c' = c ∧ s' = s ∧ r = cpt S c s
    · rw [if_pos h, if_pos h]
    · rw [if_neg h, if_neg h]
      show (if c' = c ∧ s' = s ∧ r = cpt S c s then w else sC S c' s' r) = _
      rw [if_neg h]
  rw [e]
theorem chg_own (S : Su) (c s : Nat) : chg S c s (sC S c s (cpt S c s)) = S := by
  unfold chg
  have e : (fun c' s' r => if c' = c ∧ s' = s ∧ r = cpt S c s then sC S c s (cpt S c s) else sC S c' s' r) = S.2.2.1 := by
    funext c' s' r
    by_cases h : c' = c ∧ s' = s ∧ r = cpt S c s
    · rw [if_pos h, h.1, h.2.1, h.2.2]; rfl
    · rw [if_neg h]; rfl
  rw [e]
theorem chg_V {S : Su} {c s v : Nat} (hS : SuV S) (hv : v < 4) : SuV (chg S c s v) := by
  obtain ⟨a1, a2, a3, a4, a5, a6, a7⟩ := hS
  refine ⟨a1, a2, fun c' s' hc hs => ?_, a4, a5, a6, a7⟩
  obtain ⟨v1, v2, v3, v4, v5, v6⟩ := a3 c' s' hc hs
  have h0 := chg_0 S c s v c' s'
  have h23 := cpt_23 S c s
  have h1 : sC (chg S c s v) c' s' 1 = sC S c' s' 1 := if_neg (fun q => by omega)
  have h4 : sC (chg S c s v) c' s' 4 = sC S c' s' 4 := if_neg (fun q => by omega)
  have h2 : sC (chg S c s v) c' s' 2 = v ∨ sC (chg S c s v) c' s' 2 = sC S c' s' 2 := by
    show (if c' = c ∧ s' = s ∧ 2 = cpt S c s then v else sC S c' s' 2) = v ∨ (if c' = c ∧ s' = s ∧ 2 = cpt S c s then v else sC S c' s' 2) = _
    split
    · exact Or.inl rfl
    · exact Or.inr rfl
  have h3 : sC (chg S c s v) c' s' 3 = v ∨ sC (chg S c s v) c' s' 3 = sC S c' s' 3 := by
    show (if c' = c ∧ s' = s ∧ 3 = cpt S c s then v else sC S c' s' 3) = v ∨ (if c' = c ∧ s' = s ∧ 3 = cpt S c s then v else sC S c' s' 3) = _
    split
    · exact Or.inl rfl
    · exact Or.inr rfl
  unfold CdV
  rw [h0, h1, h4]
  refine ⟨v1, v2, fun q => ?_, fun q => ?_, fun q => ?_, v6⟩
  · rcases h2 with h2 | h2
    · rw [h2]; omega
    · rw [h2]; exact v3 q
  · rcases h2 with h2 | h2
    · rw [h2]; exact hv
    · rw [h2]; exact v4 q
  · rcases h3 with h3 | h3
    · rw [h3]; exact hv
    · rw [h3]; exact v5 q
theorem putPart_eq {c s r : Nat} {v : Int32} {σ : Mm} (hb : (c * 7 + s) * 5 + r < 210) : f_X5_putPart (nI c) (nI s) (nI r) v σ = some ((), sI σ 9 ((c * 7 + s) * 5 + r) v) := by
  unfold f_X5_putPart
  simp only [qi_0, qi_1, qi_2, qi_3, qi_4, qi_5, qi_6, qi_7, qi_8, qi_9, qi_10, qi_11, qi_12, qi_13, qi_14, qi_15, qi_16, qi_17, qi_19, qi_26, qi_31, qi_32, qi_35, qi_40, qi_42, qi_48, qi_50, qi_57, qi_59, qi_63, qi_64, qi_97, qi_120, qi_122, qi_210, qi_255, qi_511, qi_512, qi_1000, qi_6000, qi_13312, qi_14337, qi_16383, qi_16384, qi_524287, pk_mul, nI_add]
  rw [p_ck _ hb (by omega), p_ix (by omega), p_nm]
theorem SeC_chg {S : Su} {σ : Mm} {c s v : Nat} (hS : SuV S) (hC : SeC S 7 σ) (hc : c < sK S) (hs : s < sN S c) (hv : v < 4) : SeC (chg S c s v) 7 (sI σ 9 ((c * 7 + s) * 5 + cpt S c s) (nI v)) := by
  obtain ⟨a1, a2, a3, a4, a5, a6, a7⟩ := hC
  have h23 := cpt_23 S c s
  have hk : (cpt S c s = 3 ↔ sC S c s 0 = 3) := by unfold cpt; split <;> omega
  refine ⟨by rw [r_sI1 (by decide)]; exact a1, by rw [r_sI1 (by decide)]; exact a2, by rw [r_sI1 (by decide)]; exact a3, fun c' hc' => by rw [r_sI1 (by decide)]; exact a4 c' hc', fun c' s' hc' hs' => ?_, fun h hh => by rw [r_sI1 (by decide), r_sI1 (by decide)]; exact a6 h hh, fun d hd => by rw [r_sI1 (by decide)]; exact a7 d hd⟩
  have hs7 := (hS.2.1 c hc).2
  have hs7' := (hS.2.1 c' hc').2
  have hs' : s' < sN S c' := hs'
  by_cases e : c' = c ∧ s' = s
  · obtain ⟨rfl, rfl⟩ := e
    obtain ⟨c1, c2, c3, c4, c5⟩ := a5 c' s' hc' hs'
    have c1 : σ.1 9 ((c' * 7 + s') * 5) = nI (sC S c' s' 0) := c1
    have c2 : 1 ≤ sC S c' s' 0 → sC S c' s' 0 ≤ 4 → σ.1 9 ((c' * 7 + s') * 5 + 1) = nI (sC S c' s' 1) := c2
    have c3 : sC S c' s' 0 = 2 ∨ sC S c' s' 0 = 3 ∨ sC S c' s' 0 = 4 ∨ sC S c' s' 0 = 7 → σ.1 9 ((c' * 7 + s') * 5 + 2) = vI (sC S c' s' 2) := c3
    have c4 : sC S c' s' 0 = 3 → σ.1 9 ((c' * 7 + s') * 5 + 3) = nI (sC S c' s' 3) := c4
    have c5 : sC S c' s' 0 = 6 → σ.1 9 ((c' * 7 + s') * 5 + 4) = nI (sC S c' s' 4) := c5
    have h1 : sC (chg S c' s' v) c' s' 1 = sC S c' s' 1 := if_neg (fun q => by omega)
    have h4 : sC (chg S c' s' v) c' s' 4 = sC S c' s' 4 := if_neg (fun q => by omega)
    show CdC (sI σ 9 ((c' * 7 + s') * 5 + cpt S c' s') (nI v)) 9 ((c' * 7 + s') * 5) (sC (chg S c' s' v) c' s')
    unfold CdC
    rw [chg_0, h1, h4]
    refine ⟨by rw [r_sIj (by omega)]; exact c1, fun x y => by rw [r_sIj (by omega)]; exact c2 x y, fun x => ?_, fun x => ?_, fun x => by rw [r_sIj (by omega)]; exact c5 x⟩
    · by_cases ec : cpt S c' s' = 2
      · have h2 : sC (chg S c' s' v) c' s' 2 = v := if_pos ⟨rfl, rfl, ec.symm⟩
        rw [h2, ec, r_sI0]
        exact (if_neg (by omega)).symm
      · have h2 : sC (chg S c' s' v) c' s' 2 = sC S c' s' 2 := if_neg (fun q => ec q.2.2.symm)
        rw [h2, r_sIj (by omega)]; exact c3 x
    · have ec : cpt S c' s' = 3 := hk.mpr x
      have h3 : sC (chg S c' s' v) c' s' 3 = v := if_pos ⟨rfl, rfl, ec.symm⟩
      rw [h3, ec, r_sI0]
  · have hf : sC (chg S c s v) c' s' = sC S c' s' := by
      funext r
      show (if c' = c ∧ s' = s ∧ r = cpt S c s then v else sC S c' s' r) = _
      rw [if_neg (fun q => e ⟨q.1, q.2.1⟩)]
    rw [hf]
    refine CdC_of (a5 c' s' hc' hs') (fun r hr => ?_)
    show (sI σ 9 ((c * 7 + s) * 5 + cpt S c s) (nI v)).1 9 ((c' * 7 + s') * 5 + r) = σ.1 9 ((c' * 7 + s') * 5 + r)
    refine r_sIj (fun q => e ?_)
    constructor <;> omega
/-- values that heal -/
def hlv (S : Su) (c s : Nat) : Nat → Option Nat
  | 0 => some 0
  | v + 1 => match hlv S c s v with
    | none => none
    | some a => if big (PgOf (chg S c s v) noX) then none else some (a + (if lbd (ords (chg S c s v) noX) (ends (PgOf (chg S c s v) noX)) = none then 2 ^ v else 0))
theorem hlv_lt {S : Su} {c s : Nat} : ∀ v a, hlv S c s v = some a → a < 2 ^ v := by
  intro v
  induction v with
  | zero => intro a h; simp only [hlv, Option.some.injEq] at h; rw [← h]; exact Nat.one_pos
  | succ v ih =>
    intro a h
    rw [hlv] at h
    cases h1 : hlv S c s v with
    | none => rw [h1] at h; cases h
    | some a' =>
      rw [h1] at h
      simp only at h
      have := ih a' h1
      split at h
      · cases h
      · simp only [Option.some.injEq] at h
        rw [← h, Nat.pow_succ]
        split <;> omega
theorem forget_eq (σ : Mm) : f_X7_forget σ = some ((), sI (sI σ 6 6 (nI 0)) 6 7 (nI 0)) := by
  unfold f_X7_forget
  simp only [qi_0, qi_1, qi_2, qi_3, qi_4, qi_5, qi_6, qi_7, qi_8, qi_9, qi_10, qi_11, qi_12, qi_13, qi_14, qi_15, qi_16, qi_17, qi_19, qi_26, qi_31, qi_32, qi_35, qi_40, qi_42, qi_48, qi_50, qi_57, qi_59, qi_63, qi_64, qi_97, qi_120, qi_122, qi_210, qi_255, qi_511, qi_512, qi_1000, qi_6000, qi_13312, qi_14337, qi_16383, qi_16384, qi_524287]
  rw [p_cb0, p_nm, p_cb0, p_nm]
def hI (o : Option Nat) : Int32 := match o with
  | none => -2
  | some a => nI a
theorem hI_n : hI none = -2 := (rfl)
theorem hI_s (a : Nat) : hI (some a) = nI a := (rfl)
def heL : List Nat := [6, 9, 13, 14, 15, 16, 17, 18, 19, 20, 21, 22, 23, 26, 27, 28, 29]
theorem healing_eq {S : Su} {σ : Mm} {c s p : Nat} (hS : SuV S) (hC : SeC S 7 σ) (hSl : SlR σ) (hc : c < sK S) (hs : s < sN S c) (hp : chp S c s = some p) :
    ∃ σ', f_X7_healingValues (nI c) (nI s) (nI p) σ = some (hI (hlv S c s 4), σ') ∧ SeC S 7 σ' ∧ SlR σ' ∧ σ'.1 6 6 = nI 0 ∧ σ'.1 6 7 = nI 0 ∧ Fr heL σ σ' := by
  have hi := idx_lt hS hc hs
  obtain ⟨ep, hp23, hp3⟩ := chp_cpt hp
  subst ep
  obtain ⟨v1, v2, v3, v4, v5, v6⟩ := hS.2.2.1 c s hc hs
  have hcd : CdC σ 9 ((c * 7 + s) * 5) (sC S c s) := hC.2.2.2.2.1 c s hc hs
  have hown : sC S c s (cpt S c s) < 4 ∧ σ.1 9 ((c * 7 + s) * 5 + cpt S c s) = nI (sC S c s (cpt S c s)) := by
    rcases hp23 with h2 | h3
    · rw [h2]
      unfold chp at hp
      rw [h2] at hp
      split at hp
      · cases hp
      · split at hp
        · rename_i hk
          have := v4 (by omega)
          exact ⟨this, (hcd.2.2.1 (by omega)).trans (if_neg (by omega))⟩
        · split at hp
          · rename_i hk
            split at hp
            · cases hp
            · rename_i h4
              have := v3 hk
              exact ⟨by omega, (hcd.2.2.1 (by omega)).trans (if_neg h4)⟩
          · cases hp
    · rw [h3]
      have hk := hp3.mp h3
      exact ⟨v5 hk, hcd.2.2.2.1 hk⟩
  have hcl : (c * 7 + s) * 5 + cpt S c s < 210 := by omega
  unfold f_X7_healingValues
  simp only [qi_0, qi_1, qi_2, qi_3, qi_4, qi_5, qi_6, qi_7, qi_8, qi_9, qi_10, qi_11, qi_12, qi_13, qi_14, qi_15, qi_16, qi_17, qi_19, qi_26, qi_31, qi_32, qi_35, qi_40, qi_42, qi_48, qi_50, qi_57, qi_59, qi_63, qi_64, qi_97, qi_120, qi_122, qi_210, qi_255, qi_511, qi_512, qi_1000, qi_6000, qi_13312, qi_14337, qi_16383, qi_16384, qi_524287]
  rw [partOf_eq hcl, p_bd, hown.2]
  refine lq2 (F := f_X7_healingValues_L18 (fun (xq5 : Int32) (σ : Mm) => f_X7_healingValues_85 (nI c) (nI s) (nI (cpt S c s)) (nI (sC S c s (cpt S c s))) xq5 σ) (nI c) (nI s) (nI (cpt S c s)) (nI (sC S c s (cpt S c s)))) (fun a b τ => ∃ v w, v ≤ 4 ∧ w < 4 ∧ a = hI (hlv S c s v) ∧ b = nI v ∧ SeC (chg S c s w) 7 τ ∧ SlR τ ∧ Fr heL σ τ) (fun _ b _ => 5 - ix b) (fun o => ∃ σ', o = some (hI (hlv S c s 4), σ') ∧ SeC S 7 σ' ∧ SlR σ' ∧ σ'.1 6 6 = nI 0 ∧ σ'.1 6 7 = nI 0 ∧ Fr heL σ σ') ?_ FU (nI 0) (nI 0) σ ?_ ⟨0, sC S c s (cpt S c s), by omega, hown.1, by rw [hlv, hI_s], rfl, by rw [chg_own]; exact hC, hSl, Fr.rf _ _⟩
  · rintro L a b τ ⟨v, w, hv, hw, rfl, rfl, hCt, hSlt, hF⟩
    have hSw := chg_V (c := c) (s := s) hS hw
    -- the end
    have fin : ∀ x : Int32, ∃ σ', f_X7_healingValues_85 (nI c) (nI s) (nI (cpt S c s)) (nI (sC S c s (cpt S c s))) x τ = some (x, σ') ∧ SeC S 7 σ' ∧ SlR σ' ∧ σ'.1 6 6 = nI 0 ∧ σ'.1 6 7 = nI 0 ∧ Fr heL σ σ' := by
      intro x
      unfold f_X7_healingValues_85
      rw [putPart_eq hcl, p_bd, forget_eq, p_bd]
      have h2 := SeC_chg hSw hCt hc hs hown.1
      rw [chg_chg, chg_own, cpt_chg] at h2
      refine ⟨_, rfl, SeC_of h2 (by rw [r_sI1 (by decide), r_sI1 (by decide)]) (by rw [r_sI1 (by decide), r_sI1 (by decide)]) (by rw [r_sI1 (by decide), r_sI1 (by decide)]) (by rw [r_sI1 (by decide), r_sI1 (by decide)]) (by rw [r_sI1 (by decide), r_sI1 (by decide)]) (by rw [r_sI1 (by decide), r_sI1 (by decide)]), SlR_of hSlt (by rw [r_sI1 (by decide), r_sI1 (by decide), r_sI1 (by decide)]), by rw [r_sIj (by decide), r_sI0], r_sI0, ((hF.sI (by decide)).sI (by decide)).sI (by decide)⟩
    unfold f_X7_healingValues_L18 f_X7_healingValues_79
    simp only [qi_0, qi_1, qi_2, qi_3, qi_4, qi_5, qi_6, qi_7, qi_8, qi_9, qi_10, qi_11, qi_12, qi_13, qi_14, qi_15, qi_16, qi_17, qi_19, qi_26, qi_31, qi_32, qi_35, qi_40, qi_42, qi_48, qi_50, qi_57, qi_59, qi_63, qi_64, qi_97, qi_120, qi_122, qi_210, qi_255, qi_511, qi_512, qi_1000, qi_6000, qi_13312, qi_14337, qi_16383, qi_16384, qi_524287]
    by_cases c4 : v = 4
    · right
      subst c4
      rw [i_le (by omega) (by omega)]
      exact fin _
    · rw [i_nle (by omega) (by omega)]
      cases hh : hlv S c s v with
      | none =>
        right
        have hn4 : hlv S c s 4 = none := by
          have key : ∀ k, hlv S c s (v + k) = none := by
            intro k
            induction k with
            | zero => exact hh
            | succ k ih => rw [show v + (k + 1) = v + k + 1 by omega, hlv, ih]
          have := key (4 - v)
          rw [show v + (4 - v) = 4 by omega] at this
          exact this
        rw [hn4, hI_n, if_pos (show (-2 : Int32) < nI 0 by decide)]
        exact fin _
      | some a =>
        left
        have ha := hlv_lt v a hh
        have ha16 : a < 16 := Nat.lt_of_lt_of_le ha (by have : 2 ^ v ≤ 2 ^ 4 := Nat.pow_le_pow_right (by omega) hv; omega)
        rw [hI_s, i_nlt (show a < 2147483648 by omega) (by omega), putPart_eq hcl, p_bd, forget_eq, p_bd]
        have h2 := SeC_chg hSw hCt hc hs (show v < 4 by omega)
        rw [chg_chg, cpt_chg] at h2
        have hSv := chg_V (c := c) (s := s) hS (show v < 4 by omega)
        have hC2 : SeC (chg S c s v) 7 (sI (sI (sI τ 9 ((c * 7 + s) * 5 + cpt S c s) (nI v)) 6 6 (nI 0)) 6 7 (nI 0)) := SeC_of h2 (by rw [r_sI1 (by decide), r_sI1 (by decide)]) (by rw [r_sI1 (by decide), r_sI1 (by decide)]) (by rw [r_sI1 (by decide), r_sI1 (by decide)]) (by rw [r_sI1 (by decide), r_sI1 (by decide)]) (by rw [r_sI1 (by decide), r_sI1 (by decide)]) (by rw [r_sI1 (by decide), r_sI1 (by decide)])
        obtain ⟨τ1, e1, m1, m2, m3, m4, m5⟩ := tooLarge_eq hSv hC2 (SlR_of hSlt (by rw [r_sI1 (by decide), r_sI1 (by decide), r_sI1 (by decide)])) (Or.inl (by rw [r_sIj (by decide), r_sI0]))
        have hF1 : Fr heL σ τ1 := (((hF.sI (by decide)).sI (by decide)).sI (by decide)).tr (m5.mo (by intro k hk; revert k; decide))
        have hC3 := SeC_7 hC2 m5 (by decide) (by decide) (by decide) (by decide) (by decide) (by decide)
        rw [e1, p_bd]
        have hst : hlv S c s (v + 1) = if big (PgOf (chg S c s v) noX) then none else some (a + (if lbd (ords (chg S c s v) noX) (ends (PgOf (chg S c s v) noX)) = none then 2 ^ v else 0)) := by rw [hlv, hh]
        cases hbg : big (PgOf (chg S c s v) noX) with
        | true =>
          rw [bI_t, i_ne (by omega) (by omega) (by omega), p_nm, nI_add]
          refine ⟨-2, nI (v + 1), τ1, ⟨v + 1, v, by omega, by omega, by rw [hst, hbg]; exact hI_n.symm, rfl, hC3, m2, hF1⟩, ?_, rfl⟩
          rw [p_ix (by omega), p_ix (by omega)]; omega
        | false =>
          have hbn : bN (bEnd (PgOf (chg S c s v) noX)) ≤ 6000 := by
            unfold big at hbg
            have := of_decide_eq_false hbg
            omega
          obtain ⟨τ2, e2, n1, n2, n3, n4⟩ := ordered_eq hSv hC3 (Or.inl (by rw [m4 7 (by decide), r_sI0]))
          have hRe : RoC 26 (ends (PgOf (chg S c s v) noX)) τ2 := by
            rcases m1 with ⟨_, _, _, _, _, _, h7⟩ | ⟨h1, _⟩
            · exact RoC_of h7 (by rw [n4.r1 26 (by decide)]) (n4.r1 27 (by decide))
            · omega
          have hF2 : Fr heL σ τ2 := hF1.tr (n4.mo (by intro k hk; revert k; decide))
          have hC4 := SeC_7 hC3 n4 (by decide) (by decide) (by decide) (by decide) (by decide) (by decide)
          rw [bI_f, i_eq rfl, e2, p_bd, leastBad_eq hRe n1, p_bd]
          rw [hbg] at hst
          cases hlb : lbd (ords (chg S c s v) noX) (ends (PgOf (chg S c s v) noX)) with
          | none =>
            rw [hlb] at hst
            have e2 := i_or (b := 1) ha
            rw [Nat.one_mul] at e2
            rw [show iO none = -nI 1 from rfl, if_neg (show ¬ nI 0 ≤ -nI 1 by rw [p_m1le]; exact fun q => q), shl1 (by omega), e2, p_nm, p_nm, nI_add]
            refine ⟨nI (a + 2 ^ v), nI (v + 1), τ2, ⟨v + 1, v, by omega, by omega, by rw [hst, if_neg (by decide), if_pos rfl, hI_s], rfl, hC4, SlR_of m2 (n4.r1 20 (by decide)), hF2⟩, ?_, rfl⟩
            rw [p_ix (by omega), p_ix (by omega)]; omega
          | some r =>
            rw [hlb] at hst
            have hrl := lbd_lt hRe.2.1 hlb
            rw [show iO (some r) = nI r from rfl, i_le (by omega) (by omega), p_nm, nI_add]
            refine ⟨nI a, nI (v + 1), τ2, ⟨v + 1, v, by omega, by omega, by rw [hst, if_neg (by decide), if_neg (fun q => by cases q), hI_s, Nat.add_zero], rfl, hC4, SlR_of m2 (n4.r1 20 (by decide)), hF2⟩, ?_, rfl⟩
            rw [p_ix (by omega), p_ix (by omega)]; omega
  · rw [p_ix (by omega), FU_v]; omega
