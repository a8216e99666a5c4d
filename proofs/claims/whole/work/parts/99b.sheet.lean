/-! PURE: sheets -/
theorem shI_n {s : Nat} (h : s < 4) : shI (nI s) = 40 + 2 * s := by
  rcases (show s = 0 ∨ s = 1 ∨ s = 2 ∨ s = 3 by omega) with rfl | rfl | rfl | rfl <;> decide
theorem isSheet_no {x : Int32} {σ : Mm} (h : x < 0 ∨ nI 4 ≤ x) : f_X10_isSheet x σ = some (nI 0, σ) := by
  unfold f_X10_isSheet f_X10_isSheet_13
  simp only [qi_0, qi_1, qi_2, qi_3, qi_4, qi_5, qi_6, qi_7, qi_8, qi_9, qi_10, qi_11, qi_12, qi_13, qi_14, qi_15, qi_16, qi_17, qi_19, qi_26, qi_31, qi_32, qi_35, qi_40, qi_42, qi_48, qi_50, qi_57, qi_59, qi_63, qi_64, qi_97, qi_120, qi_122, qi_210, qi_255, qi_511, qi_512, qi_1000, qi_6000, qi_13312, qi_14337, qi_16383, qi_16384, qi_524287]
  by_cases h0 : x < nI 0
  · rw [if_pos h0, p_cb0]
  · rw [if_neg h0, if_pos (by rcases h with h | h; exact absurd h h0; exact h), p_cb0]
theorem isSheet_yes {s : Nat} {σ : Mm} (h : s < 4) : f_X10_isSheet (nI s) σ = some (nI 1, σ) := by
  unfold f_X10_isSheet f_X10_isSheet_13
  simp only [qi_0, qi_1, qi_2, qi_3, qi_4, qi_5, qi_6, qi_7, qi_8, qi_9, qi_10, qi_11, qi_12, qi_13, qi_14, qi_15, qi_16, qi_17, qi_19, qi_26, qi_31, qi_32, qi_35, qi_40, qi_42, qi_48, qi_50, qi_57, qi_59, qi_63, qi_64, qi_97, qi_120, qi_122, qi_210, qi_255, qi_511, qi_512, qi_1000, qi_6000, qi_13312, qi_14337, qi_16383, qi_16384, qi_524287]
  rw [i_nlt (by omega) (by omega), i_nle (by omega) (by omega), p_cb1]
theorem misSheet_no {x : Int32} {σ : Mm} (h : x < 0 ∨ nI 4 ≤ x) : f_X11_isSheet x σ = some (nI 0, σ) := by
  unfold f_X11_isSheet
  rw [qi_0, qi_3, in_n (by omega) h, p_bd, p_cb0]
theorem misSheet_yes {s : Nat} {σ : Mm} (h : s < 4) : f_X11_isSheet (nI s) σ = some (nI 1, σ) := by
  unfold f_X11_isSheet
  rw [qi_0, qi_3, in_y (by omega) h, p_bd, p_cb1]
def xcL : List Nat := [40, 41, 42, 43, 44, 45, 46, 47]
theorem AC_X {A : Ob} {σ τ : Mm} {q z : Nat → Nat} {v : Nat → Nat → Int64} (h : AC A σ) (hV : ∀ s, s < 4 → z s ≤ 40 ∧ (q s = 0 ∨ q s = 8 ∨ q s = 16 ∨ q s = 64)) (hX : ShC (uX A q z v) τ) (hF : Fr xcL σ τ) : AC (uX A q z v) τ := by
  obtain ⟨h1, h2, h3, h4, h5, h6, h7, h8⟩ := h
  have q' : ∀ k, k < 40 → k ∉ xcL := fun k a d => by
    simp only [xcL, List.mem_cons, List.not_mem_nil, or_false] at d
    omega
  exact ⟨⟨h1.1, h1.2.1, h1.2.2.1, hV⟩, SeC_7 h2 hF (by decide) (by decide) (by decide) (by decide) (by decide) (by decide), KnC_F h3 hF (by decide), by rw [hF.r1 0 (by decide)]; exact h4, fun b => SeC_31 (h5 b) (fun k a1 a2 => hF.r1 k (q' k (by omega))), TpC_of h6 (hF.r1 4 (by decide)) (hF.r1 5 (by decide)), hX, CnC_of h8 (hF.r1 1 (by decide)) (hF.r1 2 (by decide))⟩
theorem AM_X {A : Ob} {σ τ : Mm} {q z : Nat → Nat} {v : Nat → Nat → Int64} (h : AM A σ) (hV : ∀ s, s < 4 → z s ≤ 40 ∧ (q s = 0 ∨ q s = 8 ∨ q s = 16 ∨ q s = 64)) (hX : ShM (uX A q z v) τ) (hF : Fr [61, 62, 63, 64] σ τ) : AM (uX A q z v) τ := by
  obtain ⟨h1, h2, h3, h4, h5, h6, h7, h8⟩ := h
  have e8 : τ.1 48 = σ.1 48 := hF.r1 48 (by decide)
  exact ⟨⟨h1.1, h1.2.1, h1.2.2.1, hV⟩, SeM_Fr h2 hF (by rw [e8]) (by rw [e8]) (by rw [e8]) (by decide), KnM_of h3 (by rw [e8]) (by rw [e8]) (by rw [e8]) (by rw [e8]) (by rw [e8]) (by rw [e8]) (hF.r1 72 (by decide)) (hF.r2 82 (by decide)) (hF.r1 83 (by decide)) (hF.r1 84 (by decide)) (hF.r1 85 (by decide)) (hF.r1 87 (by decide)) (hF.r1 88 (by decide)) (hF.r1 89 (by decide)), by rw [e8]; exact h4, fun b => SeM_rs6 (h5 b) (hF.r1 60 (by decide)) (by rw [e8]) (by rw [e8]) (by rw [e8]), TpM_of h6 (by rw [e8]) (hF.r1 58 (by decide)) (hF.r2 65 (by decide)), hX, fun d hd => by rw [hF.r1 59 (by decide)]; exact h8 d hd⟩
/-- a sheet is begun -/
def bgX (A : Ob) (s y w : Nat) : Ob := uX A (upq (oQ A) s y) (upq (oZ A) s w) (upq (oV A) s (fun _ => lN 0))
theorem bgX_V {A : Ob} {s y w : Nat} (h : OV A) (hw : w ≤ 40) (hy : y = 0 ∨ y = 8 ∨ y = 16 ∨ y = 64) : ∀ d, d < 4 → upq (oZ A) s w d ≤ 40 ∧ (upq (oQ A) s y d = 0 ∨ upq (oQ A) s y d = 8 ∨ upq (oQ A) s y d = 16 ∨ upq (oQ A) s y d = 64) := by
  intro d hd
  by_cases e : d = s
  · rw [e, upq_s, upq_s]; exact ⟨hw, hy⟩
  · rw [upq_n e, upq_n e]; exact h.2.2.2 d hd
theorem begin_C {A : Ob} {σ : Mm} {s y w : Nat} (hc : AC A σ) (hs : s < 4) (hw : w ≤ 40) (hy : y = 0 ∨ y = 8 ∨ y = 16 ∨ y = 64) : ∃ σ1, f_X6_begin (40 + 2 * s) (nI y) (nI w) σ = some ((), σ1) ∧ AC (bgX A s y w) σ1 ∧ FrC σ σ1 ∧ σ1.1 (40 + 2 * s) 1 = nI w ∧ Fr xcL σ σ1 := by
  have m0 : 40 + 2 * s ∈ xcL := by rcases (show s = 0 ∨ s = 1 ∨ s = 2 ∨ s = 3 by omega) with rfl | rfl | rfl | rfl <;> decide
  have m1 : 40 + 2 * s + 1 ∈ xcL := by rcases (show s = 0 ∨ s = 1 ∨ s = 2 ∨ s = 3 by omega) with rfl | rfl | rfl | rfl <;> decide
  unfold f_X6_begin f_J7_fill_d0a16
  rw [p_nm, p_nm, qi_0, qi_40, ql_0]
  obtain ⟨τ, ⟨t1, t2, t3⟩, e⟩ := lqU (F := f_J7_fill_d0a16_L6 (40 + 2 * s) (lN 0) (nI 40)) (bot := fun _ _ => none) (fun τ => some ((), τ)) 40 (fun k τ => (∀ i, i < k → τ.2 (40 + 2 * s + 1) i = lN 0) ∧ τ.1 = (sI (sI σ (40 + 2 * s) 0 (nI y)) (40 + 2 * s) 1 (nI w)).1 ∧ ∀ k, k ≠ 40 + 2 * s + 1 → τ.2 k = σ.2 k) (by
      intro L τ _
      unfold f_J7_fill_d0a16_L6
      rw [i_le (by omega) (by omega)]) (by
      rintro L k τ hk ⟨u1, u2, u3⟩
      unfold f_J7_fill_d0a16_L6
      rw [i_nle (by omega) (by omega), p_ck _ (by omega) (by omega), p_ix (a := k) (by omega), p_nm, qi_1, nI_add, p_nm]
      refine ⟨_, ⟨fun i hi => ?_, by rw [r_sL1]; exact u2, fun j hj => by rw [r_sL2 hj]; exact u3 j hj⟩, rfl⟩
      by_cases q : i = k
      · rw [q, r_sL0]
      · rw [r_sLj q]; exact u1 i (by omega)) FU 0 (sI (sI σ (40 + 2 * s) 0 (nI y)) (40 + 2 * s) 1 (nI w)) (by omega) (by rw [FU_v]; omega) ⟨fun i hi => by omega, rfl, fun k _ => by rw [r_sI2, r_sI2]⟩
  rw [e, p_bd]
  have hF : Fr xcL σ τ := fun k hk => by
    have k0 : k ≠ 40 + 2 * s := fun q => hk (by rw [q]; exact m0)
    have k1 : k ≠ 40 + 2 * s + 1 := fun q => hk (by rw [q]; exact m1)
    exact ⟨by rw [t2, r_sI1 k0, r_sI1 k0], t3 k k1⟩
  have hz : τ.1 (40 + 2 * s) 1 = nI w := by rw [t2, r_sI0]
  refine ⟨τ, rfl, AC_X hc (bgX_V hc.1 hw hy) (fun d hd => ?_) hF, FrC_of hF (by decide), hz, hF⟩
  show τ.1 (40 + 2 * d) 0 = nI (upq (oQ A) s y d) ∧ τ.1 (40 + 2 * d) 1 = nI (upq (oZ A) s w d) ∧ ∀ i, i < upq (oZ A) s w d → τ.2 (41 + 2 * d) i = upq (oV A) s (fun _ => lN 0) d i
  by_cases c : d = s
  · rw [c, upq_s, upq_s, upq_s]
    exact ⟨by rw [t2, r_sIj (by decide), r_sI0], hz, fun i hi => by rw [show 41 + 2 * s = 40 + 2 * s + 1 by omega]; exact t1 i (by omega)⟩
  · rw [upq_n c, upq_n c, upq_n c, t2, r_sI1 (by omega), r_sI1 (by omega), t3 _ (by omega)]
    exact hc.2.2.2.2.2.2.1 d hd
theorem layRow_M {A : Ob} {σ : Mm} {s y w : Nat} (hm : AM A σ) (hs : s < 4) (hw : w ≤ 40) (hy : y = 0 ∨ y = 8 ∨ y = 16 ∨ y = 64) : ∃ σ1, f_X11_layRow (nI s) (nI y) (nI w) σ = some ((), σ1) ∧ AM (bgX A s y (if y = 0 then 0 else w)) σ1 ∧ FrM σ σ1 ∧ σ1.1 62 s = nI (if y = 0 then 0 else w) ∧ Fr [61, 62, 63, 64] σ σ1 := by
  have key : ∀ z, z ≤ 40 → ∃ σ1, f_X11_layRow_21 (nI s) (nI s) (nI z) (sI σ 61 s (nI y)) = some ((), σ1) ∧ AM (bgX A s y z) σ1 ∧ FrM σ σ1 ∧ σ1.1 62 s = nI z ∧ Fr [61, 62, 63, 64] σ σ1 := by
    intro z hz
    unfold f_X11_layRow_21
    rw [p_ck _ hs (by omega), p_ix (a := s) (by omega), p_nm, qi_0]
    obtain ⟨τ, ⟨t1, t2, t3, t4⟩, e⟩ := lqU (F := f_X11_layRow_L25 (nI s)) (bot := fun _ _ => none) (fun τ => some ((), τ)) 40 (fun k τ => (∀ i, i < k → τ.2 63 (40 * s + i) = lN 0) ∧ (∀ i, i < 40 * s ∨ 40 * s + 40 ≤ i → τ.2 63 i = σ.2 63 i) ∧ τ.1 = (sI (sI σ 61 s (nI y)) 62 s (nI z)).1 ∧ ∀ k, k ≠ 63 → τ.2 k = σ.2 k) (by
        intro L τ _
        unfold f_X11_layRow_L25
        rw [qi_40, i_le (by omega) (by omega)]) (by
        rintro L k τ hk ⟨u1, u2, u3, u4⟩
        unfold f_X11_layRow_L25
        rw [qi_40, i_nle (by omega) (by omega), pk_mul, nI_add, p_ck _ (by omega) (by omega), p_ix (a := 40 * s + k) (by omega), ql_0, p_nm, qi_1, nI_add, p_nm]
        refine ⟨_, ⟨fun i hi => ?_, fun i hi => by rw [r_sLj (by omega)]; exact u2 i hi, by rw [r_sL1]; exact u3, fun j hj => by rw [r_sL2 hj]; exact u4 j hj⟩, rfl⟩
        by_cases q : i = k
        · rw [q, r_sL0]
        · rw [r_sLj (by omega)]; exact u1 i (by omega)) FU 0 (sI (sI σ 61 s (nI y)) 62 s (nI z)) (by omega) (by rw [FU_v]; omega) ⟨fun i hi => by omega, fun i _ => by rw [r_sI2, r_sI2], rfl, fun k _ => by rw [r_sI2, r_sI2]⟩
    rw [e]
    have hF : Fr [61, 62, 63, 64] σ τ := fun k hk => by
      have k1 : k ≠ 61 := fun q => hk (by rw [q]; decide)
      have k2 : k ≠ 62 := fun q => hk (by rw [q]; decide)
      have k3 : k ≠ 63 := fun q => hk (by rw [q]; decide)
      exact ⟨by rw [t3, r_sI1 k2, r_sI1 k1], t4 k k3⟩
    have hzz : τ.1 62 s = nI z := by rw [t3, r_sI0]
    refine ⟨τ, rfl, AM_X hm (bgX_V hm.1 hz hy) (fun d hd => ?_) hF, FrM_of hF (by decide), hzz, hF⟩
    show τ.1 61 d = nI (upq (oQ A) s y d) ∧ τ.1 62 d = nI (upq (oZ A) s z d) ∧ ∀ i, i < upq (oZ A) s z d → τ.2 63 (40 * d + i) = upq (oV A) s (fun _ => lN 0) d i
    obtain ⟨g1, g2, g3⟩ := hm.2.2.2.2.2.2.1 d hd
    have hz40 := (hm.1.2.2.2 d hd).1
    by_cases c : d = s
    · rw [c, upq_s, upq_s, upq_s]
      exact ⟨by rw [t3, r_sI1 (by decide), r_sI0], hzz, fun i hi => t1 i (by omega)⟩
    · rw [upq_n c, upq_n c, upq_n c]
      exact ⟨by rw [t3, r_sI1 (by decide), r_sIj c]; exact g1, by rw [t3, r_sIj c, r_sI1 (by decide)]; exact g2, fun i hi => by rw [t2 _ (by omega)]; exact g3 i hi⟩
  unfold f_X11_layRow
  rw [p_ck _ hs (by omega), p_ix (a := s) (by omega), p_nm, qi_0]
  by_cases y0 : y = 0
  · rw [i_eq y0, if_pos y0]
    exact key 0 (by omega)
  · rw [i_ne (by omega) (by omega) y0, if_neg y0]
    exact key w hw
theorem op_sheet {A : Ob} {σ : Mm} (hc : AC A σ) (hm : AM A σ) (x y w : Int32) : Ans (f_X10_sheet x y w) (f_X11_sheet x y w) σ := by
  rcases rng (n := 4) x (by omega) with h | ⟨s, hs, rfl⟩
  · refine told (e := 0) hc hm (by omega) ?_ (fun τ hm => ?_)
    · unfold f_X10_sheet
      rw [isSheet_no h, p_bd, qi_0, i_eq rfl]
    · unfold f_X11_sheet
      rw [misSheet_no h, p_bd, qi_0, i_eq rfl, er_1]
  · -- a good width
    have good : ∀ yn, (yn = 0 ∨ yn = 8 ∨ yn = 16 ∨ yn = 64) → Ans (f_X10_sheet_38 (nI s) (nI yn) w) (f_X11_sheet_36 (nI s) (nI yn) w) σ := by
      intro yn hy
      by_cases w0 : nI 0 ≤ w
      · rcases rng (n := 41) w (by omega) with h | ⟨z, hz, rfl⟩
        · have hw : ¬ w ≤ nI 40 := by
            rcases h with h | h
            · rw [qi_0, Int32.lt_iff_toInt_lt] at h
              rw [Int32.le_iff_toInt_le] at w0
              omega
            · rw [Int32.le_iff_toInt_le] at h ⊢
              rw [nI_toInt (by omega)] at h ⊢
              omega
          refine told (e := 0) hc hm (by omega) ?_ (fun τ hm => ?_)
          · unfold f_X10_sheet_38
            rw [qi_0, qi_40, if_pos w0, if_neg hw]
          · unfold f_X11_sheet_36
            rw [qi_0, qi_40, if_pos w0, if_neg hw, er_1]
        · refine Ans_of (r := nI (if yn = 0 then 0 else z)) (A' := bgX A s yn (if yn = 0 then 0 else z)) hm ?_ (fun τ hm => ?_)
          · obtain ⟨σ1, a1, a2, a3, a4, _⟩ := begin_C (s := s) (y := yn) (w := if yn = 0 then 0 else z) hc hs (by split <;> omega) hy
            unfold f_X10_sheet_38
            rw [qi_0, qi_40, if_pos w0, i_le (by omega) (by omega), p_ck _ hs (by omega), shI_n hs]
            by_cases y0 : yn = 0
            · rw [if_pos y0] at a1 a2 a4
              rw [i_eq y0, a1, p_bd, p_ck _ hs (by omega), a4, if_pos y0]
              exact ⟨σ1, rfl, a2, a3⟩
            · rw [if_neg y0] at a1 a2 a4
              rw [i_ne (by omega) (by omega) y0, a1, p_bd, p_ck _ hs (by omega), a4, if_neg y0]
              exact ⟨σ1, rfl, a2, a3⟩
          · obtain ⟨τ1, b1, b2, b3, b4, _⟩ := layRow_M (s := s) (y := yn) (w := z) hm hs (by omega) hy
            unfold f_X11_sheet_36
            rw [qi_0, qi_40, if_pos w0, i_le (by omega) (by omega), b1, p_bd, p_ck _ hs (by omega), p_ix (by omega), b4]
            exact ⟨τ1, rfl, b2, b3⟩
      · refine told (e := 6) hc hm (by omega) ?_ (fun τ hm => ?_)
        · unfold f_X10_sheet_38
          rw [qi_0, if_neg w0, qi_6]
        · unfold f_X11_sheet_36
          rw [qi_0, if_neg w0, er_7]
    have via : ∀ yn, (yn = 0 ∨ yn = 8 ∨ yn = 16 ∨ yn = 64) → y = nI yn → Ans (f_X10_sheet (nI s) y w) (f_X11_sheet (nI s) y w) σ := by
      intro yn hy e
      subst e
      have e1 : f_X10_sheet (nI s) (nI yn) w = f_X10_sheet_38 (nI s) (nI yn) w := by
        funext τ
        unfold f_X10_sheet
        rw [isSheet_yes hs, p_bd, qi_0, qi_8, qi_16, qi_64, i_ne (by omega) (by omega) (by omega)]
        rcases hy with rfl | rfl | rfl | rfl
        · rw [i_eq rfl]
        · rw [i_ne (by omega) (by omega) (by omega), i_eq rfl]
        · rw [i_ne (by omega) (by omega) (by omega), i_ne (by omega) (by omega) (by omega), i_eq rfl]
        · rw [i_ne (by omega) (by omega) (by omega), i_ne (by omega) (by omega) (by omega), i_ne (by omega) (by omega) (by omega), i_eq rfl]
      have e2 : f_X11_sheet (nI s) (nI yn) w = f_X11_sheet_36 (nI s) (nI yn) w := by
        funext τ
        unfold f_X11_sheet
        rw [misSheet_yes hs, p_bd, qi_0, qi_8, qi_16, qi_64, i_ne (by omega) (by omega) (by omega)]
        rcases hy with rfl | rfl | rfl | rfl
        · rw [i_eq rfl]
        · rw [i_ne (by omega) (by omega) (by omega), i_eq rfl]
        · rw [i_ne (by omega) (by omega) (by omega), i_ne (by omega) (by omega) (by omega), i_eq rfl]
        · rw [i_ne (by omega) (by omega) (by omega), i_ne (by omega) (by omega) (by omega), i_ne (by omega) (by omega) (by omega), i_eq rfl]
      rw [e1, e2]
      exact good yn hy
    by_cases y0 : y = nI 0
    · exact via 0 (by omega) y0
    by_cases y8 : y = nI 8
    · exact via 8 (by omega) y8
    by_cases y16 : y = nI 16
    · exact via 16 (by omega) y16
    by_cases y64 : y = nI 64
    · exact via 64 (by omega) y64
    refine told (e := 0) hc hm (by omega) ?_ (fun τ hm => ?_)
    · unfold f_X10_sheet
      rw [isSheet_yes hs, p_bd, qi_0, qi_8, qi_16, qi_64, i_ne (by omega) (by omega) (by omega), if_neg y0, if_neg y8, if_neg y16, if_neg y64]
    · unfold f_X11_sheet
      rw [misSheet_yes hs, p_bd, er_1, qi_0, qi_8, qi_16, qi_64, i_ne (by omega) (by omega) (by omega), if_neg y0, if_neg y8, if_neg y16, if_neg y64]
