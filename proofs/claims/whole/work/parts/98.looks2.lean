/-! PURE: result, stuck, round, turn, fences -/
theorem KnC_F {S : Su} {L : List Nat} {σ τ : Mm} (h : KnC S σ) (hF : Fr L σ τ) (hL : ∀ k ∈ [6, 18, 19, 20, 21, 22, 23, 26, 27, 28, 29], k ∉ L) : KnC S τ := by
  refine ⟨SlR_of h.1 (hF.r1 20 (hL 20 (by decide))), ?_, ?_⟩
  · rw [hF.r1 6 (hL 6 (by decide))]
    rcases h.2.1 with k | ⟨k, g⟩
    · exact Or.inl k
    · exact Or.inr ⟨k, TkC_fr g hF (fun k hk => hL k (by revert k; decide))⟩
  · rw [hF.r1 6 (hL 6 (by decide))]
    rcases h.2.2 with k | ⟨k, g⟩
    · exact Or.inl k
    · exact Or.inr ⟨k, RoC_of g (by rw [hF.r1 28 (hL 28 (by decide))]) (hF.r1 29 (hL 29 (by decide)))⟩
theorem AM_F {A : Ob} {L : List Nat} {σ τ : Mm} (h : AM A σ) (hF : Fr L σ τ) (hL : ∀ k, k ∈ L → k = 48 ∨ k = 86 ∨ 90 ≤ k) (hJ : ∀ j, j ≠ 63 → τ.1 48 j = σ.1 48 j) : AM A τ := by
  have q : ∀ k, k ≠ 48 → k ≠ 86 → k < 90 → k ∉ L := fun k a b c d => by have := hL k d; omega
  exact AM_ch h ⟨fun j hj => hJ j (by omega), fun k a b => ⟨hF.r1 k (q k (by omega) (by omega) (by omega)), hF.r2 k (q k (by omega) (by omega) (by omega))⟩⟩ (KnM_of h.2.2.1 (hJ 37 (by decide)) (hJ 48 (by decide)) (hJ 49 (by decide)) (hJ 50 (by decide)) (hJ 58 (by decide)) (hJ 60 (by decide)) (hF.r1 72 (q 72 (by decide) (by decide) (by decide))) (hF.r2 82 (q 82 (by decide) (by decide) (by decide))) (hF.r1 83 (q 83 (by decide) (by decide) (by decide))) (hF.r1 84 (q 84 (by decide) (by decide) (by decide))) (hF.r1 85 (q 85 (by decide) (by decide) (by decide))) (hF.r1 87 (q 87 (by decide) (by decide) (by decide))) (hF.r1 88 (q 88 (by decide) (by decide) (by decide))) (hF.r1 89 (q 89 (by decide) (by decide) (by decide))))
theorem oP_V {A : Ob} (h : OV A) : PgV (oP A) ∧ VS (oP A) (pF (oP A)) := ⟨PgOf_V h.1 (FX_no h.1), VS_small (pF_small h.1)⟩
theorem op_stuck {A : Ob} {σ : Mm} (hc : AC A σ) (hm : AM A σ) : Ans f_X10_stuck f_X11_stuck σ := by
  obtain ⟨hP, h0⟩ := oP_V hc.1
  refine looks hc hm (F := fun σ1 => bd (f_X9_countStuck σ1) (fun rq6 σ5 => some (rq6, σ5))) (G := fun τ1 => fx (fun _ _ => none) FU (f_X11_stuck_L21 (fun (σ : Mm) => f_X11_stuck_55 σ)) (0 : Int32) τ1) (fun σ1 h => ?_) (fun τ τ1 hm h h1 h0 => ?_) (fun hb => ⟨nI (stk (oP A)), A, fun σ1 a1 a2 => ?_, fun τ1 b1 b2 b3 => ?_⟩)
  · unfold f_X10_stuck
    rw [h, p_bd, qi_0, qi_6]
    cases big (oP A) with
    | false => rw [bI_f, i_eq rfl, if_pos rfl]
    | true => rw [bI_t, i_ne (by omega) (by omega) (by omega), if_neg (by decide)]
  · unfold f_X11_stuck
    rw [h, p_bd, er_7]
    cases hb : big (oP A) with
    | false => rw [h0 hb, if_pos (show nI 0 = (0 : Int32) from rfl), if_pos rfl]
    | true => rw [h1 hb, if_neg (show ¬ nI 1 = (0 : Int32) by decide), if_neg (show ¬ true = false by decide)]
  · obtain ⟨σ2, c1, c2⟩ := countStuck_eq hP h0 a2 (big_C a2 hb).1
    have hF : Fr chL σ1 σ2 := c2.mo (by intro k hk; revert k; decide)
    exact ⟨σ2, by rw [c1, p_bd], AC_ch a1 hF (KnC_F a1.2.2.1 c2 (by decide)), FrC_of hF chL_48⟩
  · obtain ⟨τ2, c1, c2⟩ := mstuck_eq hP h0 (by have := of_decide_eq_false hb; omega) b2
    exact ⟨τ2, c1, AM_F b1 c2 (by decide) (fun j _ => by rw [c2.r1 48 (by decide)]), FrM_of c2 (by decide)⟩
theorem op_round {A : Ob} {σ : Mm} (hc : AC A σ) (hm : AM A σ) : Ans f_X10_round f_X11_round σ := by
  refine looks hc hm (F := fun σ1 => bd (f_X9_hasRound σ1) (fun rq4 σ3 => (if rq4 = nI 0 then some (nI 0, σ3) else some (nI 1, σ3)))) (G := fun τ1 => fx (fun _ _ => none) FU (f_X11_round_L21 (fun (σ : Mm) => f_X11_round_42 σ)) (0 : Int32) τ1) (fun σ1 h => ?_) (fun τ τ1 hm h h1 h0 => ?_) (fun hb => ⟨bI (rnd (oP A)), A, fun σ1 a1 a2 => ?_, fun τ1 b1 b2 b3 => ?_⟩)
  · unfold f_X10_round
    rw [h, p_bd, qi_0, qi_6, qi_1]
    cases big (oP A) with
    | false => rw [bI_f, i_eq rfl, if_pos rfl]
    | true => rw [bI_t, i_ne (by omega) (by omega) (by omega), if_neg (by decide)]
  · unfold f_X11_round
    rw [h, p_bd, er_7]
    cases hb : big (oP A) with
    | false => rw [h0 hb, if_pos (show nI 0 = (0 : Int32) from rfl), if_pos rfl]
    | true => rw [h1 hb, if_neg (show ¬ nI 1 = (0 : Int32) by decide), if_neg (show ¬ true = false by decide)]
  · obtain ⟨σ2, c1, c2⟩ := hasRound_eq a2 (big_C a2 hb).1
    have hF : Fr chL σ1 σ2 := c2.mo (by intro k hk; revert k; decide)
    refine ⟨σ2, ?_, AC_ch a1 hF (KnC_F a1.2.2.1 c2 (by decide)), FrC_of hF chL_48⟩
    rw [c1, p_bd]
    cases rnd (oP A) with
    | false => rw [bI_f, i_eq rfl]
    | true => rw [bI_t, i_ne (by omega) (by omega) (by omega)]
  · obtain ⟨τ2, c1, c2⟩ := mround_eq (by have := of_decide_eq_false hb; omega) b2
    exact ⟨τ2, c1, AM_F b1 c2 (by decide) (fun j _ => by rw [c2.r1 48 (by decide)]), FrM_of c2 (by decide)⟩
theorem op_result {A : Ob} {σ : Mm} (hc : AC A σ) (hm : AM A σ) (x : Int32) : Ans (f_X10_result x) (f_X11_result x) σ := by
  by_cases x0 : nI 0 ≤ x
  · refine looks hc hm (F := fun σ1 => (if (σ1.1 26 1) ≤ x then bd (f_X0_tell (nI 3) σ1) (fun rq4 σ3 => some (rq4, σ3)) else ck x 6000 (some ((σ1.1 27 (ix x)), σ1)))) (G := fun τ1 => (if (τ1.1 48 58) ≤ x then bd (f_X11_finds (er7 3) τ1) (fun rq4 σ3 => some (rq4, σ3)) else ck x 6001 (some ((τ1.1 88 (ix x)), τ1)))) (fun σ1 h => ?_) (fun τ τ1 hm h h1 h0 => ?_) (fun hb => ?_)
    · unfold f_X10_result
      rw [qi_0, if_pos x0, h, p_bd, qi_6, qi_3]
      cases big (oP A) with
      | false => rw [bI_f, i_eq rfl, if_pos rfl]
      | true => rw [bI_t, i_ne (by omega) (by omega) (by omega), if_neg (by decide)]
    · unfold f_X11_result
      rw [qi_0, if_pos x0, h, p_bd, er_7, er_4]
      cases hb : big (oP A) with
      | false => rw [h0 hb, i_eq rfl, if_pos rfl]
      | true => rw [h1 hb, i_ne (by omega) (by omega) (by omega), if_neg (by decide)]
    · have hl := (er_ok (oP_V hc.1).1 (bF (bEnd (oP A))) (bN (bEnd (oP A)))).2.2
      have hb6 := of_decide_eq_false hb
      have hl : (ends (oP A)).length ≤ bN (bEnd (oP A)) := hl
      rcases rng (n := (ends (oP A)).length) x (by omega) with h | ⟨i, hi, rfl⟩
      · have hx : nI (ends (oP A)).length ≤ x := by
          rcases h with h | h
          · rw [qi_0, Int32.lt_iff_toInt_lt] at h
            rw [Int32.le_iff_toInt_le] at x0
            omega
          · exact h
        refine ⟨er7 3, tel A 3, fun σ1 a1 a2 => ?_, fun τ1 b1 b2 b3 => ?_⟩
        · obtain ⟨σ2, d1, d2, d3⟩ := tellC (e := 3) a1 (by omega)
          exact ⟨σ2, by rw [(big_C a2 hb).2.2.2.2.2.2.1, if_pos hx]; exact d1, d2, d3⟩
        · obtain ⟨τ2, d1, d2, d3⟩ := tellM (e := 3) b1 (by omega)
          exact ⟨τ2, by rw [(big_M b2 hb).2.2.2.1, if_pos hx]; exact d1, d2, d3⟩
      · refine ⟨nI ((ends (oP A)).getD i 0), A, fun σ1 a1 a2 => ⟨σ1, ?_, a1, FrC_rf _⟩, fun τ1 b1 b2 b3 => ⟨τ1, ?_, b1, FrM_rf _⟩⟩
        · have hR := (big_C a2 hb).2.2
          show (if (σ1.1 26 1) ≤ nI i then bd (f_X0_tell (nI 3) σ1) (fun rq4 σ3 => some (rq4, σ3)) else ck (nI i) 6000 (some ((σ1.1 27 (ix (nI i))), σ1))) = _
          rw [hR.2.2.2.2.1, i_nle (by omega) (by omega), p_ck _ (by omega) (by omega), p_ix (by omega), hR.2.2.2.2.2 i hi]
        · have hR := (big_M b2 hb).2.2
          show (if (τ1.1 48 58) ≤ nI i then bd (f_X11_finds (er7 3) τ1) (fun rq4 σ3 => some (rq4, σ3)) else ck (nI i) 6001 (some ((τ1.1 88 (ix (nI i))), τ1))) = _
          rw [hR.2.1, i_nle (by omega) (by omega), p_ck _ (by omega) (by omega), p_ix (by omega), hR.1.2.2 i hi]
  · refine told (e := 0) hc hm (by omega) ?_ (fun τ hm => ?_)
    · unfold f_X10_result
      rw [qi_0, if_neg x0]
    · unfold f_X11_result
      rw [qi_0, if_neg x0, er_1]
theorem AC_ww {A : Ob} {σ τ : Mm} (h : AC A σ) (hF : Fr wwL σ τ) (hT : TkC (oP A) σ) (h66 : σ.1 6 6 = nI 1) (h67 : τ.1 6 7 = nI 1 ∧ RoC 28 (ords (oS A) noX) τ) (hJ : ∀ j, j ≠ 7 → τ.1 6 j = σ.1 6 j) : AC A τ := AC_ch h (hF.mo (by intro k hk; revert k; decide)) ⟨SlR_of h.2.2.1.1 (hF.r1 20 (by decide)), Or.inr ⟨by rw [hJ 6 (by decide)]; exact h66, TkC_fr hT hF (by decide)⟩, Or.inr h67⟩
/-- the way to the worst on both sides -/
theorem ww_C {A : Ob} {σ : Mm} (hc : AC A σ) (hT : TkC (oP A) σ) (hb : big (oP A) = false) : ∃ σ1, AC A σ1 ∧ FrC σ σ1 ∧ ((wst (oS A) = none ∧ lbd (ords (oS A) noX) (ends (oP A)) = none ∧ f_X7_walkToWorst σ = some (-nI 1, σ1)) ∨ ∃ w, wst (oS A) = some w ∧ bD (bEnd (oP A)) w < 6000 ∧ f_X7_walkToWorst σ = some (nI (bD (bEnd (oP A)) w), σ1) ∧ ∀ i, i < bD (bEnd (oP A)) w → σ1.1 25 i = nI (mvp (bEnd (oP A)) w i)) := by
  have hb6 : bN (bEnd (oP A)) ≤ 6000 := (big_C hT hb).1
  obtain ⟨σ1, a1, a2, a3, a4⟩ := worst_eq hc.1.1 hc.2.1 hT hb6 hc.2.2.1.2.2
  have hF : Fr chL σ σ1 := a4.mo (by intro k hk; revert k; decide)
  have hA : AC A σ1 := by
    refine AC_ch hc hF ⟨SlR_of hc.2.2.1.1 (a4.r1 20 (by decide)), ?_, Or.inr a2⟩
    rw [a3 6 (by decide)]
    rcases hc.2.2.1.2.1 with k | ⟨k, g⟩
    · exact Or.inl k
    · exact Or.inr ⟨k, TkC_fr g a4 (by decide)⟩
  refine ⟨σ1, hA, FrC_of hF chL_48, ?_⟩
  rcases a1 with h | ⟨w, w1, w2, w3, w4⟩
  · exact Or.inl h
  · have w2 : w < bN (bEnd (oP A)) := w2
    have hd := (BI_D0 (bE_BI (oP A)) w2).2
    exact Or.inr ⟨w, w1, by omega, w3, w4⟩
theorem mvp_6 (b : Bs) (w i : Nat) : mvp b w i < 6 := Nat.mod_lt _ (by decide)
theorem onPath_eq {b : Bs} {w i : Nat} {σ : Mm} (hi : i < 6000) (h : σ.1 25 i = nI (mvp b w i)) : f_X9_moveOnPath (nI i) σ = some (nI (mOf (mvp b w i)), σ) := by
  have hk := mvp_6 b w i
  unfold f_X9_moveOnPath mOf
  rw [p_ck _ hi (by omega), p_ix (by omega), h, qi_3, qi_10]
  generalize mvp b w i = k at *
  by_cases c : k < 3
  · rw [i_nle (by omega) c, p_ck _ hi (by omega), if_pos c]
  · rw [i_le (by omega) (by omega), p_ck _ hi (by omega), pk_sub (by omega), nI_add, if_neg c, show k - 3 + 10 = 7 + k by omega]
theorem leads_M {A : Ob} {σ : Mm} (hm : AM A σ) : ∃ σ1, AM A σ1 ∧ FrM σ σ1 ∧ ((big (oP A) = true ∧ f_X11_leads σ = some (er7 6, σ1)) ∨ (big (oP A) = false ∧ wst (oS A) = none ∧ f_X11_leads σ = some (er7 3, σ1)) ∨ (big (oP A) = false ∧ ∃ w, wst (oS A) = some w ∧ bD (bEnd (oP A)) w < 6000 ∧ f_X11_leads σ = some (nI 0, σ1) ∧ σ1.1 48 63 = nI (bD (bEnd (oP A)) w) ∧ ∀ i, i < bD (bEnd (oP A)) w → σ1.1 91 i = nI (mOf (mvp (bEnd (oP A)) w i)))) := by
  obtain ⟨τ1, c1, c2, c3, c4, c5⟩ := la_M hm
  obtain ⟨hP, h0⟩ := oP_V hm.1
  unfold f_X11_leads
  rw [c1, p_bd]
  cases hb : big (oP A) with
  | true =>
    rw [big_Mt c4 hb, if_neg (show ¬ nI 1 = (0 : Int32) by decide), er_7]
    exact ⟨τ1, c2, c3, Or.inl ⟨rfl, rfl⟩⟩
  | false =>
    obtain ⟨e1, e2, e3⟩ := big_M c4 hb
    have hb6 := of_decide_eq_false hb
    rw [e1, if_pos (show nI 0 = (0 : Int32) from rfl), mleast_eq e3 c5, p_bd]
    cases hl : lbd (ords (oS A) noX) (ends (oP A)) with
    | none =>
      rw [show iO none = -nI 1 from rfl, qi_0, noM1, er_4]
      exact ⟨τ1, c2, c3, Or.inr (Or.inl ⟨rfl, wst_n hl, rfl⟩)⟩
    | some r =>
      have hr := lbd_lt e3.1.2.1 hl
      obtain ⟨w, hw⟩ := fe_ex (P := oP A) (F := bF (bEnd (oP A))) (bN (bEnd (oP A))) (lbd_mem hl)
      obtain ⟨τ2, d1, d2, d3, d4, d5⟩ := findWay_eq hP h0 (by omega) c4 hr hw
      have hw1 := (fe_some hw).1
      have hd := (BI_D0 (bE_BI (oP A)) hw1).2
      rw [show iO (some r) = nI r from rfl, qi_0, i_le (by omega) (by omega), d1, p_bd]
      exact ⟨τ2, AM_F c2 d5 (by decide) d4, FrM_tr c3 (FrM_of d5 (by decide)), Or.inr (Or.inr ⟨rfl, w, wst_s hl hw, by omega, rfl, d2, d3⟩)⟩
