/-! PURE: calls that look at all turns -/
def oP (A : Ob) : Pg := PgOf (oS A) noX
theorem noM1 {α : Type} {t e : α} : (if nI 0 ≤ -nI 1 then t else e) = e := if_neg (show ¬ nI 0 ≤ -nI 1 by rw [p_m1le]; exact fun q => q)
theorem tl_C {A : Ob} {σ : Mm} (hc : AC A σ) : ∃ σ1, f_X7_isTooLarge σ = some (bI (big (oP A)), σ1) ∧ AC A σ1 ∧ FrC σ σ1 ∧ TkC (oP A) σ1 ∧ Fr chL σ σ1 := by
  obtain ⟨σ1, a1, a2, a3, a4, a5, a6⟩ := tooLarge_eq hc.1.1 hc.2.1 hc.2.2.1.1 hc.2.2.1.2.1
  have hF : Fr chL σ σ1 := a6.mo (by intro k hk; revert k; decide)
  refine ⟨σ1, a1, AC_ch hc hF ⟨a3, Or.inr ⟨a4, a2⟩, ?_⟩, FrC_of hF chL_48, a2, hF⟩
  rw [a5 7 (by decide)]
  rcases hc.2.2.1.2.2 with k | ⟨k, g⟩
  · exact Or.inl k
  · exact Or.inr ⟨k, RoC_of g (by rw [a6.r1 28 (by decide)]) (a6.r1 29 (by decide))⟩
theorem or_C {A : Ob} {σ : Mm} (hc : AC A σ) : ∃ σ1, f_X7_orderedResults σ = some ((), σ1) ∧ AC A σ1 ∧ FrC σ σ1 ∧ RoC 28 (ords (oS A) noX) σ1 ∧ Fr orL σ σ1 := by
  obtain ⟨σ1, a1, a2, a3, a4, a5⟩ := ordered_eq hc.1.1 hc.2.1 hc.2.2.1.2.2
  have hF : Fr chL σ σ1 := a5.mo (by intro k hk; revert k; decide)
  refine ⟨σ1, a1, AC_ch hc hF ⟨SlR_of hc.2.2.1.1 (a5.r1 20 (by decide)), ?_, Or.inr ⟨a3, a2⟩⟩, FrC_of hF chL_48, a2, a5⟩
  rw [a4 6 (by decide)]
  rcases hc.2.2.1.2.1 with k | ⟨k, g⟩
  · exact Or.inl k
  · exact Or.inr ⟨k, TkC_fr g a5 (by decide)⟩
theorem la_M {A : Ob} {σ : Mm} (hm : AM A σ) : ∃ σ1, f_X11_lookAll σ = some ((), σ1) ∧ AM A σ1 ∧ FrM σ σ1 ∧ TkM (oP A) σ1 ∧ GdM (ords (oS A) noX) σ1 := by
  obtain ⟨⟨W, w1, w2⟩, h48⟩ := hm.2.2.1
  obtain ⟨σ1, a1, a2, a3, a4, a5, a6⟩ := lookAll_eq hm.1.1 hm.2.1 w1 w2 h48
  have q : ∀ k, 49 ≤ k → k ≤ 65 → k ∉ laL := fun k k1 k2 d => by
    simp only [laL, List.mem_cons, List.not_mem_nil, or_false] at d
    omega
  exact ⟨σ1, a1, AM_ch hm ⟨fun j hj => a5 j (by omega) (by omega) (by omega) (by omega) (by omega) (by omega), fun k k1 k2 => ⟨a6.r1 k (q k k1 k2), a6.r2 k (q k k1 k2)⟩⟩ ⟨⟨W, w1, WrM_of w2 (a5 37 (by decide) (by decide) (by decide) (by decide) (by decide) (by decide)) (a6.r1 72 (by decide))⟩, Or.inr ⟨a2, a3, a4⟩⟩, FrM_of a6 (by decide), a3, a4⟩
theorem big_C {P : Pg} {σ : Mm} (h : TkC P σ) (hb : big P = false) : bN (bEnd P) ≤ 6000 ∧ σ.1 18 7 = nI (bN (bEnd P)) ∧ RoC 26 (ends P) σ := by
  have hb := of_decide_eq_false hb
  rcases h with ⟨h1, h2, _, _, _, _, h7⟩ | ⟨h1, _⟩
  · exact ⟨h1, h2.2.1, h7⟩
  · omega
theorem big_M {P : Pg} {σ : Mm} (h : TkM P σ) (hb : big P = false) : σ.1 48 49 = nI 0 ∧ σ.1 48 50 = nI (bN (bEnd P)) ∧ EdM (ends P) σ := by
  have hb := of_decide_eq_false hb
  rcases h with ⟨h1, h2, _, _, h5, h6⟩ | ⟨h1, _⟩
  · exact ⟨h5, h2.2.1, h6⟩
  · omega
theorem big_Mt {P : Pg} {σ : Mm} (h : TkM P σ) (hb : big P = true) : σ.1 48 49 = nI 1 := by
  have hb := of_decide_eq_true hb
  rcases h with ⟨h1, _⟩ | ⟨_, h2⟩
  · omega
  · exact h2
/-- too large on both sides, or small on both -/
theorem looks {A : Ob} {σ : Mm} {f g : Mm → Option (Int32 × Mm)} (hc : AC A σ) (hm : AM A σ) {F G : Mm → Option (Int32 × Mm)}
    (hf : ∀ σ1, f_X7_isTooLarge σ = some (bI (big (oP A)), σ1) → f σ = if big (oP A) = false then F σ1 else bd (f_X0_tell (nI 6) σ1) (fun r σ2 => some (r, σ2)))
    (hg : ∀ τ τ1, AM A τ → f_X11_lookAll τ = some ((), τ1) → (big (oP A) = true → τ1.1 48 49 = nI 1) → (big (oP A) = false → τ1.1 48 49 = nI 0) → g τ = if big (oP A) = false then G τ1 else bd (f_X11_finds (er7 6) τ1) (fun r σ2 => some (r, σ2)))
    (h : big (oP A) = false → ∃ r A', (∀ σ1, AC A σ1 → TkC (oP A) σ1 → ∃ σ2, F σ1 = some (r, σ2) ∧ AC A' σ2 ∧ FrC σ1 σ2) ∧ (∀ τ1, AM A τ1 → TkM (oP A) τ1 → GdM (ords (oS A) noX) τ1 → ∃ τ2, G τ1 = some (r, τ2) ∧ AM A' τ2 ∧ FrM τ1 τ2)) : Ans f g σ := by
  obtain ⟨σ1, a1, a2, a3, a4, _⟩ := tl_C hc
  cases hb : big (oP A) with
  | true =>
    refine Ans_of (r := er7 6) (A' := tel A 6) hm ?_ (fun τ hm => ?_)
    · obtain ⟨σ2, b1, b2, b3⟩ := tellC (e := 6) a2 (by omega)
      exact ⟨σ2, by rw [hf σ1 a1, hb, if_neg (by decide)]; exact b1, b2, FrC_tr a3 b3⟩
    · obtain ⟨τ1, c1, c2, c3, c4, c5⟩ := la_M hm
      obtain ⟨τ2, b1, b2, b3⟩ := tellM (e := 6) c2 (by omega)
      exact ⟨τ2, by rw [hg τ τ1 hm c1 (big_Mt c4) (fun q => (big_M c4 q).1), hb, if_neg (by decide)]; exact b1, b2, FrM_tr c3 b3⟩
  | false =>
    obtain ⟨r, A', h1, h2⟩ := h hb
    refine Ans_of (r := r) (A' := A') hm ?_ (fun τ hm => ?_)
    · obtain ⟨σ2, b1, b2, b3⟩ := h1 σ1 a2 a4
      exact ⟨σ2, by rw [hf σ1 a1, hb, if_pos rfl]; exact b1, b2, FrC_tr a3 b3⟩
    · obtain ⟨τ1, c1, c2, c3, c4, c5⟩ := la_M hm
      obtain ⟨τ2, b1, b2, b3⟩ := h2 τ1 c2 c4 c5
      exact ⟨τ2, by rw [hg τ τ1 hm c1 (big_Mt c4) (fun q => (big_M c4 q).1), hb, if_pos rfl]; exact b1, b2, FrM_tr c3 b3⟩
theorem op_states {A : Ob} {σ : Mm} (hc : AC A σ) (hm : AM A σ) : Ans f_X10_states f_X11_states σ := by
  refine looks hc hm (F := fun σ1 => some (σ1.1 18 7, σ1)) (G := fun τ1 => some (τ1.1 48 50, τ1)) (fun σ1 h => ?_) (fun τ τ1 hm h h1 h0 => ?_) (fun hb => ⟨nI (bN (bEnd (oP A))), A, fun σ1 a1 a2 => ⟨σ1, by rw [(big_C a2 hb).2.1], a1, FrC_rf _⟩, fun τ1 b1 b2 b3 => ⟨τ1, by rw [(big_M b2 hb).2.1], b1, FrM_rf _⟩⟩)
  · unfold f_X10_states
    rw [h, p_bd, qi_0, qi_6]
    cases big (oP A) with
    | false => rw [bI_f, i_eq rfl, if_pos rfl]
    | true => rw [bI_t, i_ne (by omega) (by omega) (by omega), if_neg (by decide)]
  · unfold f_X11_states
    rw [h, p_bd, qi_0, er_7]
    cases hb : big (oP A) with
    | false => rw [h0 hb, i_eq rfl, if_pos rfl]
    | true => rw [h1 hb, i_ne (by omega) (by omega) (by omega), if_neg (by decide)]
theorem op_ends {A : Ob} {σ : Mm} (hc : AC A σ) (hm : AM A σ) : Ans f_X10_ends f_X11_ends σ := by
  refine looks hc hm (F := fun σ1 => some (σ1.1 26 1, σ1)) (G := fun τ1 => some (τ1.1 48 58, τ1)) (fun σ1 h => ?_) (fun τ τ1 hm h h1 h0 => ?_) (fun hb => ⟨nI (ends (oP A)).length, A, fun σ1 a1 a2 => ⟨σ1, by rw [(big_C a2 hb).2.2.2.2.2.2.1], a1, FrC_rf _⟩, fun τ1 b1 b2 b3 => ⟨τ1, by rw [(big_M b2 hb).2.2.2.1], b1, FrM_rf _⟩⟩)
  · unfold f_X10_ends
    rw [h, p_bd, qi_0, qi_6]
    cases big (oP A) with
    | false => rw [bI_f, i_eq rfl, if_pos rfl]
    | true => rw [bI_t, i_ne (by omega) (by omega) (by omega), if_neg (by decide)]
  · unfold f_X11_ends
    rw [h, p_bd, qi_0, er_7]
    cases hb : big (oP A) with
    | false => rw [h0 hb, i_eq rfl, if_pos rfl]
    | true => rw [h1 hb, i_ne (by omega) (by omega) (by omega), if_neg (by decide)]
theorem op_bad {A : Ob} {σ : Mm} (hc : AC A σ) (hm : AM A σ) : Ans f_X10_bad f_X11_bad σ := by
  refine looks hc hm (F := fun σ1 => bd (f_X7_orderedResults σ1) (fun _ σ3 => bd (f_X7_countBad σ3) (fun rq6 σ5 => some (rq6, σ5)))) (G := fun τ1 => bd (f_X11_badMany τ1) (fun rq4 σ3 => some (rq4, σ3))) (fun σ1 h => ?_) (fun τ τ1 hm h h1 h0 => ?_) (fun hb => ⟨nI (cbd (ords (oS A) noX) (ends (oP A))), A, fun σ1 a1 a2 => ?_, fun τ1 b1 b2 b3 => ⟨τ1, by rw [badMany_eq (big_M b2 hb).2.2 b3, p_bd], b1, FrM_rf _⟩⟩)
  · unfold f_X10_bad
    rw [h, p_bd, qi_0, qi_6]
    cases big (oP A) with
    | false => rw [bI_f, i_eq rfl, if_pos rfl]
    | true => rw [bI_t, i_ne (by omega) (by omega) (by omega), if_neg (by decide)]
  · unfold f_X11_bad
    rw [h, p_bd, qi_0, er_7]
    cases hb : big (oP A) with
    | false => rw [h0 hb, i_eq rfl, if_pos rfl]
    | true => rw [h1 hb, i_ne (by omega) (by omega) (by omega), if_neg (by decide)]
  · obtain ⟨σ2, c1, c2, c3, c4, c5⟩ := or_C a1
    have hR : RoC 26 (ends (oP A)) σ2 := RoC_of (big_C a2 hb).2.2 (by rw [c5.r1 26 (by decide)]) (c5.r1 27 (by decide))
    exact ⟨σ2, by rw [c1, p_bd, countBad_eq hR c4, p_bd], c2, c3⟩
def wstR (o : Option Nat) : Int32 := match o with
  | none => er7 3
  | some r => nI r
def wstA (A : Ob) (o : Option Nat) : Ob := match o with
  | none => tel A 3
  | some _ => A
theorem op_worst {A : Ob} {σ : Mm} (hc : AC A σ) (hm : AM A σ) : Ans f_X10_worst f_X11_worst σ := by
  refine looks hc hm (F := fun σ1 => bd (f_X7_orderedResults σ1) (fun _ σ3 => bd (f_X7_leastBad σ3) (fun rq6 σ5 => (if rq6 < nI 0 then bd (f_X0_tell (nI 3) σ5) (fun rq8 σ7 => some (rq8, σ7)) else some (rq6, σ5))))) (G := fun τ1 => bd (f_X11_leastBad τ1) (fun rq4 σ3 => (if nI 0 ≤ rq4 then some (rq4, σ3) else bd (f_X11_finds (er7 3) σ3) (fun rq6 σ5 => some (rq6, σ5))))) (fun σ1 h => ?_) (fun τ τ1 hm h h1 h0 => ?_) (fun hb => ⟨wstR (lbd (ords (oS A) noX) (ends (oP A))), wstA A (lbd (ords (oS A) noX) (ends (oP A))), fun σ1 a1 a2 => ?_, fun τ1 b1 b2 b3 => ?_⟩)
  · unfold f_X10_worst
    rw [h, p_bd, qi_0, qi_6, qi_3]
    cases big (oP A) with
    | false => rw [bI_f, i_eq rfl, if_pos rfl]
    | true => rw [bI_t, i_ne (by omega) (by omega) (by omega), if_neg (by decide)]
  · unfold f_X11_worst
    rw [h, p_bd, qi_0, er_7, er_4]
    cases hb : big (oP A) with
    | false => rw [h0 hb, i_eq rfl, if_pos rfl]
    | true => rw [h1 hb, i_ne (by omega) (by omega) (by omega), if_neg (by decide)]
  · obtain ⟨σ2, c1, c2, c3, c4, c5⟩ := or_C a1
    have hR : RoC 26 (ends (oP A)) σ2 := RoC_of (big_C a2 hb).2.2 (by rw [c5.r1 26 (by decide)]) (c5.r1 27 (by decide))
    show ∃ σ3, bd (f_X7_orderedResults σ1) _ = _ ∧ _
    rw [c1, p_bd, leastBad_eq hR c4, p_bd]
    cases hl : lbd (ords (oS A) noX) (ends (oP A)) with
    | none =>
      rw [show iO none = -nI 1 from rfl, i_m1lt (by omega)]
      obtain ⟨σ3, d1, d2, d3⟩ := tellC (e := 3) c2 (by omega)
      exact ⟨σ3, d1, d2, FrC_tr c3 d3⟩
    | some r =>
      have hr := lbd_lt hR.2.1 hl
      rw [show iO (some r) = nI r from rfl, i_nlt (by omega) (by omega)]
      exact ⟨σ2, rfl, c2, c3⟩
  · show ∃ σ3, bd (f_X11_leastBad τ1) _ = _ ∧ _
    rw [mleast_eq (big_M b2 hb).2.2 b3, p_bd]
    cases hl : lbd (ords (oS A) noX) (ends (oP A)) with
    | none =>
      rw [show iO none = -nI 1 from rfl, noM1]
      exact tellM b1 (by omega)
    | some r =>
      have hr := lbd_lt (big_M b2 hb).2.2.1.2.1 hl
      rw [show iO (some r) = nI r from rfl, i_le (by omega) (by omega)]
      exact ⟨τ1, rfl, b1, FrM_rf _⟩
theorem op_orders {A : Ob} {σ : Mm} (hc : AC A σ) (hm : AM A σ) : Ans f_X10_orders f_X11_orders σ := by
  refine Ans_of (r := nI (ords (oS A) noX).length) (A' := A) hm ?_ (fun τ hm => ?_)
  · obtain ⟨σ1, a1, a2, a3, a4, _⟩ := or_C hc
    unfold f_X10_orders
    rw [a1, p_bd, a4.2.2.2.2.1]
    exact ⟨σ1, rfl, a2, a3⟩
  · obtain ⟨τ1, c1, c2, c3, c4, c5⟩ := la_M hm
    unfold f_X11_orders
    rw [c1, p_bd, c5.2.1]
    exact ⟨τ1, rfl, c2, c3⟩
theorem op_inOrder {A : Ob} {σ : Mm} (hc : AC A σ) (hm : AM A σ) (x : Int32) : Ans (f_X10_inOrder x) (f_X11_inOrder x) σ := by
  have h90 := ords_90 hc.1.1
  by_cases x0 : nI 0 ≤ x
  · rcases rng (n := (ords (oS A) noX).length) x (by omega) with h | ⟨i, hi, rfl⟩
    · have hx : nI (ords (oS A) noX).length ≤ x := by
        rcases h with h | h
        · rw [qi_0, Int32.lt_iff_toInt_lt] at h
          rw [Int32.le_iff_toInt_le] at x0
          omega
        · exact h
      refine Ans_of (r := er7 3) (A' := tel A 3) hm ?_ (fun τ hm => ?_)
      · obtain ⟨σ1, a1, a2, a3, a4, _⟩ := or_C hc
        obtain ⟨σ2, b1, b2, b3⟩ := tellC (e := 3) a2 (by omega)
        unfold f_X10_inOrder
        rw [qi_0, if_pos x0, a1, p_bd, a4.2.2.2.2.1, if_pos hx, qi_3]
        exact ⟨σ2, b1, b2, FrC_tr a3 b3⟩
      · obtain ⟨τ1, c1, c2, c3, c4, c5⟩ := la_M hm
        obtain ⟨τ2, b1, b2, b3⟩ := tellM (e := 3) c2 (by omega)
        unfold f_X11_inOrder
        rw [qi_0, if_pos x0, c1, p_bd, c5.2.1, if_pos hx, er_4]
        exact ⟨τ2, b1, b2, FrM_tr c3 b3⟩
    · refine Ans_of (r := nI ((ords (oS A) noX).getD i 0)) (A' := A) hm ?_ (fun τ hm => ?_)
      · obtain ⟨σ1, a1, a2, a3, a4, _⟩ := or_C hc
        unfold f_X10_inOrder
        rw [qi_0, if_pos x0, a1, p_bd, a4.2.2.2.2.1, i_nle (by omega) (by omega), p_ck _ (by omega) (by omega), p_ix (by omega), a4.2.2.2.2.2 i hi]
        exact ⟨σ1, rfl, a2, a3⟩
      · obtain ⟨τ1, c1, c2, c3, c4, c5⟩ := la_M hm
        unfold f_X11_inOrder
        rw [qi_0, if_pos x0, c1, p_bd, c5.2.1, i_nle (by omega) (by omega), p_ck _ (by omega) (by omega), p_ix (by omega), c5.1.2.2 i hi]
        exact ⟨τ1, rfl, c2, c3⟩
  · refine told (e := 0) hc hm (by omega) ?_ (fun τ hm => ?_)
    · unfold f_X10_inOrder
      rw [qi_0, if_neg x0]
    · unfold f_X11_inOrder
      rw [qi_0, if_neg x0, er_1]
