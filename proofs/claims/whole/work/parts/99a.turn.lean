/-! PURE: turn, fences -/
theorem op_turn {A : Ob} {σ : Mm} (hc : AC A σ) (hm : AM A σ) (x : Int32) : Ans (f_X10_turn x) (f_X11_turn x) σ := by
  by_cases x1 : -nI 1 ≤ x
  · obtain ⟨σ1, a1, a2, a3, a4, _⟩ := tl_C hc
    cases hb : big (oP A) with
    | true =>
      refine Ans_of (r := er7 6) (A' := tel A 6) hm ?_ (fun τ hm => ?_)
      · obtain ⟨σ2, b1, b2, b3⟩ := tellC (e := 6) a2 (by omega)
        unfold f_X10_turn
        rw [qi_0, qi_1, qi_6, if_pos x1, a1, p_bd, hb, bI_t, i_ne (by omega) (by omega) (by omega)]
        exact ⟨σ2, b1, b2, FrC_tr a3 b3⟩
      · obtain ⟨τ1, c1, c2, c3⟩ := leads_M hm
        rcases c3 with ⟨_, e⟩ | ⟨e, _⟩ | ⟨e, _⟩
        · obtain ⟨τ2, b1, b2, b3⟩ := tellM (e := 6) c1 (by omega)
          unfold f_X11_turn
          rw [qi_1, if_pos x1, e, p_bd, if_neg (show ¬ er7 6 = (0 : Int32) by decide)]
          exact ⟨τ2, b1, b2, FrM_tr c2 b3⟩
        · rw [hb] at e; cases e
        · rw [hb] at e; cases e
    | false =>
      obtain ⟨σ2, d1, d2, d3⟩ := ww_C a2 a4 hb
      rcases d3 with ⟨w1, w2, w3⟩ | ⟨w, w1, w2, w3, w4⟩
      · refine Ans_of (r := er7 3) (A' := tel A 3) hm ?_ (fun τ hm => ?_)
        · obtain ⟨σ3, b1, b2, b3⟩ := tellC (e := 3) d1 (by omega)
          unfold f_X10_turn
          rw [qi_0, qi_1, qi_3, if_pos x1, a1, p_bd, hb, bI_f, i_eq rfl, w3, p_bd, i_m1lt (by omega)]
          exact ⟨σ3, b1, b2, FrC_tr a3 (FrC_tr d2 b3)⟩
        · obtain ⟨τ1, c1, c2, c3⟩ := leads_M hm
          rcases c3 with ⟨e, _⟩ | ⟨_, _, e⟩ | ⟨_, w, e, _⟩
          · rw [hb] at e; cases e
          · obtain ⟨τ2, b1, b2, b3⟩ := tellM (e := 3) c1 (by omega)
            unfold f_X11_turn
            rw [qi_1, if_pos x1, e, p_bd, if_neg (show ¬ er7 3 = (0 : Int32) by decide)]
            exact ⟨τ2, b1, b2, FrM_tr c2 b3⟩
          · rw [w1] at e; cases e
      · have lead : ∀ τ, AM A τ → ∃ τ1, AM A τ1 ∧ FrM τ τ1 ∧ f_X11_leads τ = some (nI 0, τ1) ∧ τ1.1 48 63 = nI (bD (bEnd (oP A)) w) ∧ ∀ i, i < bD (bEnd (oP A)) w → τ1.1 91 i = nI (mOf (mvp (bEnd (oP A)) w i)) := by
          intro τ hm
          obtain ⟨τ1, c1, c2, c3⟩ := leads_M hm
          rcases c3 with ⟨e, _⟩ | ⟨_, e, _⟩ | ⟨_, w', e, e2, e3, e4, e5⟩
          · rw [hb] at e; cases e
          · rw [w1] at e; cases e
          · rw [w1] at e
            rw [Option.some.inj e]
            exact ⟨τ1, c1, c2, e3, e4, e5⟩
        generalize hD : bD (bEnd (oP A)) w = D at *
        by_cases xm : x = -nI 1
        · subst xm
          refine Ans_of (r := nI D) (A' := A) hm ?_ (fun τ hm => ?_)
          · unfold f_X10_turn
            rw [qi_0, qi_1, qi_3, if_pos x1, a1, p_bd, hb, bI_f, i_eq rfl, w3, p_bd, i_nlt (by omega) (by omega), i_m1lt (by omega), if_pos rfl]
            exact ⟨σ2, rfl, d1, FrC_tr a3 d2⟩
          · obtain ⟨τ1, c1, c2, c3, c4, c5⟩ := lead τ hm
            unfold f_X11_turn
            rw [qi_0, qi_1, if_pos x1, c3, p_bd, i_eq rfl, if_pos rfl, c4]
            exact ⟨τ1, rfl, c1, c2⟩
        · rcases rng (n := D) x (by omega) with h | ⟨i, hi, rfl⟩
          · have hx : nI D ≤ x := by
              rcases h with h | h
              · rw [qi_0, Int32.lt_iff_toInt_lt, nI_toInt (by omega)] at h
                rw [Int32.le_iff_toInt_le] at x1
                have e1 : (-nI 1).toInt = -1 := by decide
                have : x.toInt ≠ (-nI 1).toInt := fun q => xm (Int32.toInt_inj.mp q)
                omega
              · exact h
            have hx2 : ¬ x < nI D := by
              rw [Int32.lt_iff_toInt_lt]
              rw [Int32.le_iff_toInt_le] at hx
              omega
            refine Ans_of (r := er7 3) (A' := tel A 3) hm ?_ (fun τ hm => ?_)
            · obtain ⟨σ3, b1, b2, b3⟩ := tellC (e := 3) d1 (by omega)
              unfold f_X10_turn
              rw [qi_0, qi_1, qi_3, if_pos x1, a1, p_bd, hb, bI_f, i_eq rfl, w3, p_bd, i_nlt (by omega) (by omega), if_neg hx2]
              exact ⟨σ3, b1, b2, FrC_tr a3 (FrC_tr d2 b3)⟩
            · obtain ⟨τ1, c1, c2, c3, c4, c5⟩ := lead τ hm
              obtain ⟨τ2, b1, b2, b3⟩ := tellM (e := 3) c1 (by omega)
              unfold f_X11_turn
              rw [qi_0, qi_1, if_pos x1, c3, p_bd, i_eq rfl, if_neg xm, c4, if_pos hx, er_4]
              exact ⟨τ2, b1, b2, FrM_tr c2 b3⟩
          · refine Ans_of (r := nI (mOf (mvp (bEnd (oP A)) w i))) (A' := A) hm ?_ (fun τ hm => ?_)
            · unfold f_X10_turn
              rw [qi_0, qi_1, qi_3, if_pos x1, a1, p_bd, hb, bI_f, i_eq rfl, w3, p_bd, i_nlt (by omega) (by omega), i_lt (by omega) hi, if_neg xm, onPath_eq (by omega) (w4 i hi), p_bd]
              exact ⟨σ2, rfl, d1, FrC_tr a3 d2⟩
            · obtain ⟨τ1, c1, c2, c3, c4, c5⟩ := lead τ hm
              unfold f_X11_turn
              rw [qi_0, qi_1, if_pos x1, c3, p_bd, i_eq rfl, if_neg xm, c4, i_nle (by omega) (by omega), p_ck _ (by omega) (by omega), p_ix (by omega), c5 i hi]
              exact ⟨τ1, rfl, c1, c2⟩
  · refine told (e := 0) hc hm (by omega) ?_ (fun τ hm => ?_)
    · unfold f_X10_turn
      rw [qi_1, if_neg x1, qi_0]
    · unfold f_X11_turn
      rw [qi_1, if_neg x1, er_1]
def fenR (o : Option (Option Nat)) : Int32 := match o with
  | none => er7 3
  | some none => er7 6
  | some (some k) => nI k
def fenA (A : Ob) (o : Option (Option Nat)) : Ob := match o with
  | none => tel A 3
  | some none => tel A 6
  | some (some _) => A
theorem op_fences {A : Ob} {σ : Mm} (hc : AC A σ) (hm : AM A σ) : Ans f_X10_fences f_X11_fences σ := by
  have h64 : f64 (fcs (oS A)) := fot_64 (wrs_ok hc.1.1).1 _
  refine Ans_of (r := fenR (fcs (oS A))) (A' := fenA A (fcs (oS A))) hm ?_ (fun τ hm => ?_)
  · obtain ⟨σ1, a1, a2, a3, a4, a5⟩ := few_eq hc.1.1 hc.2.1 hc.2.2.1.1 hc.2.2.1.2.1 hc.2.2.1.2.2
    have hF : Fr chL σ σ1 := a5.mo (by intro k hk; revert k; decide)
    have hA : AC A σ1 := AC_ch hc hF ⟨a2, a3, Or.inr a4⟩
    unfold f_X10_fences
    rw [a1, p_bd]
    cases hf : fcs (oS A) with
    | none =>
      rw [fI_n, if_neg (show ¬ -nI 1 = (-2 : Int32) by decide), if_pos (show -nI 1 < (0 : Int32) by decide), qi_3]
      obtain ⟨σ2, b1, b2, b3⟩ := tellC (e := 3) hA (by omega)
      exact ⟨σ2, b1, b2, FrC_tr (FrC_of hF chL_48) b3⟩
    | some r =>
      cases r with
      | none =>
        rw [fI_sn, if_pos rfl, qi_6]
        obtain ⟨σ2, b1, b2, b3⟩ := tellC (e := 6) hA (by omega)
        exact ⟨σ2, b1, b2, FrC_tr (FrC_of hF chL_48) b3⟩
      | some k =>
        have hk := h64 k hf
        have hne : ¬ nI k = (-2 : Int32) := co_dec (N := 64) (P := fun k => ¬ nI k = (-2 : Int32)) (by decide +kernel) hk
        rw [fI_ss, if_neg hne, qi_0, i_nlt (by omega) (by omega)]
        exact ⟨σ1, rfl, hA, FrC_of hF chL_48⟩
  · obtain ⟨τ1, b1, b2, b3, b4, b5⟩ := mfences_eq hm.1.1 hm.2.1
    have q : ∀ k, 49 ≤ k → k ≤ 65 → k ∉ ffL := fun k k1 k2 d => by
      simp only [ffL, List.mem_cons, List.not_mem_nil, or_false] at d
      omega
    have hA : AM A τ1 := AM_ch hm ⟨fun j hj => b4 j (by omega) (by omega) (by omega) (by omega) (by omega) (by omega), fun k k1 k2 => ⟨b5.r1 k (q k k1 k2), b5.r2 k (q k k1 k2)⟩⟩ ⟨⟨wrs (oS A), wrs_ok hm.1.1, b2⟩, Or.inl b3⟩
    have hF : FrM τ τ1 := FrM_of b5 (by decide)
    rw [b1]
    cases hf : fcs (oS A) with
    | none =>
      rw [fcI_n, fdO_n, er_4]
      exact ⟨_, rfl, AM_fd hA (by omega), FrM_tr hF (FrM_of ((Fr.rf [59] τ1).sI (by decide)) (by decide))⟩
    | some r =>
      cases r with
      | none =>
        rw [fcI_sn, fdO_sn, er_7]
        exact ⟨_, rfl, AM_fd hA (by omega), FrM_tr hF (FrM_of ((Fr.rf [59] τ1).sI (by decide)) (by decide))⟩
      | some k =>
        rw [fcI_ss, fdO_ss]
        exact ⟨τ1, rfl, hA, hF⟩
