/-! PURE: calls that play a told turn -/
theorem ply_congr {P : Pg} {f g : Nat → Int64} : ∀ n, (∀ i, i < n → f i = g i) → ply P f n = ply P g n := by
  intro n
  induction n with
  | zero => intro _; rfl
  | succ n ih =>
    intro h
    rw [ply, ply, ih (fun i hi => h i (by omega)), h n (by omega)]
def oR (A : Ob) (s : Nat) : Ply := ply (oP A) (oV A s) (oZ A s)
def PlC (A : Ob) (s : Nat) (σ : Mm) : Prop := LdC (oP A) σ ∧ σ.2 37 1 = lN (oR A s).1 ∧ σ.1 37 2 = nI (oR A s).2.2.2 ∧ σ.1 37 3 = nI (oR A s).2.2.1
theorem oR_ok {A : Ob} (h : OV A) {s : Nat} (hs : s < 4) : VS (oP A) (oR A s).1 ∧ (oR A s).2.2.1 ≤ 200 ∧ (oR A s).2.2.2 ≤ 40 := by
  obtain ⟨hP, h0⟩ := oP_V h
  obtain ⟨a, b, c, _⟩ := ply_ok hP h0 (oV A s) (oZ A s)
  have := (h.2.2.2 s hs).1
  have b : (oR A s).2.2.1 ≤ 5 * oZ A s := b
  have c : (oR A s).2.2.2 ≤ oZ A s := c
  exact ⟨a, by omega, by omega⟩
theorem fin_C {A : Ob} {σ : Mm} {s : Nat} (hc : AC A σ) (hs : s < 4) (hq : oQ A s ≠ 0) : ∃ σ1, f_X10_findingOfTurn (nI s) σ = some (if oZ A s ≤ (oR A s).2.2.2 then -nI 1 else nI 4, σ1) ∧ AC A σ1 ∧ FrC σ σ1 ∧ PlC A s σ1 := by
  obtain ⟨g1, g2, g3⟩ := hc.2.2.2.2.2.2.1 s hs
  obtain ⟨hz, hqq⟩ := hc.1.2.2.2 s hs
  obtain ⟨hP, h0⟩ := oP_V hc.1
  obtain ⟨_, _, hcn⟩ := oR_ok hc.1 hs
  obtain ⟨σ1, a1, a2, a3⟩ := load_eq (fz := 0) hc.1.1 (FX_no hc.1.1) hc.2.1 (by omega) noX_0
  have h1 : σ1.1 (40 + 2 * s) 1 = nI (oZ A s) := by
    have : 40 + 2 * s ∉ ldL := by unfold ldL; simp only [List.mem_cons, List.not_mem_nil, or_false]; omega
    rw [a3.r1 _ this]; exact g2
  have h2 : ∀ i, i < oZ A s → σ1.2 (40 + 2 * s + 1) i = oV A s i := fun i hi => by
    have : 40 + 2 * s + 1 ∉ ldL := by unfold ldL; simp only [List.mem_cons, List.not_mem_nil, or_false]; omega
    rw [a3.r2 _ this, show 40 + 2 * s + 1 = 41 + 2 * s by omega]; exact g3 i hi
  obtain ⟨σ2, b1, b2, b3, b4, b5⟩ := through2_eq (q := 40 + 2 * s) hP a2 h0 (by omega) (by omega) hz h1
  have hR : ply (oP A) (σ1.2 (40 + 2 * s + 1)) (oZ A s) = oR A s := ply_congr _ h2
  have b2 : σ2.2 37 1 = lN (ply (oP A) (σ1.2 (40 + 2 * s + 1)) (oZ A s)).1 := b2
  have b3 : σ2.1 37 2 = nI (ply (oP A) (σ1.2 (40 + 2 * s + 1)) (oZ A s)).2.2.2 := b3
  have b4 : σ2.1 37 3 = nI (ply (oP A) (σ1.2 (40 + 2 * s + 1)) (oZ A s)).2.2.1 := b4
  rw [hR] at b2 b3 b4
  have hF : Fr chL σ σ2 := (a3.mo (by intro k hk; revert k; decide)).tr (b5.mo (by intro k hk; revert k; decide))
  have hA : AC A σ2 := AC_ch hc hF (KnC_F (KnC_F hc.2.2.1 a3 (by decide)) b5 (by decide))
  have hL2 : LdC (oP A) σ2 := LdC_of a2 (b5.r1 13 (by decide)) (b5.r2 13 (by decide)) (b5.r1 14 (by decide)) (b5.r1 16 (by decide)) (b5.r1 17 (by decide))
  refine ⟨σ2, ?_, hA, FrC_of hF chL_48, hL2, b2, b3, b4⟩
  unfold f_X10_findingOfTurn
  rw [isSheet_yes hs, p_bd, qi_0, qi_1, qi_4, qi_5, ql_0, i_ne (by omega) (by omega) (by omega), p_ck _ hs (by omega), shI_n hs, g1, i_ne (by omega) (by omega) hq, a1, p_bd, p_ck _ hs (by omega), b1, p_bd, p_ck _ hs (by omega), (hA.2.2.2.2.2.2.1 s hs).2.1, b3]
  by_cases c : oZ A s ≤ (oR A s).2.2.2
  · rw [i_le (by omega) c, if_pos c]
  · rw [i_nle (by omega) (by omega), if_neg c]
theorem fin_n {x : Int32} {σ : Mm} (h : x < 0 ∨ nI 4 ≤ x) : f_X10_findingOfTurn x σ = some (nI 0, σ) := by
  unfold f_X10_findingOfTurn
  rw [isSheet_no h, p_bd, qi_0, i_eq rfl]
theorem fin_0 {A : Ob} {σ : Mm} {s : Nat} (hc : AC A σ) (hs : s < 4) (hq : oQ A s = 0) : f_X10_findingOfTurn (nI s) σ = some (nI 5, σ) := by
  unfold f_X10_findingOfTurn
  rw [isSheet_yes hs, p_bd, qi_0, qi_5, i_ne (by omega) (by omega) (by omega), p_ck _ hs (by omega), shI_n hs, (hc.2.2.2.2.2.2.1 s hs).1, i_eq hq]
theorem pl_M {A : Ob} {σ : Mm} {s : Nat} (hm : AM A σ) (hs : s < 4) : ∃ σ1, f_X11_plays (nI s) σ = some (nI (oR A s).2.2.2, σ1) ∧ AM A σ1 ∧ FrM σ σ1 ∧ PlM (oS A) (oR A s).1 (oR A s).2.2.1 σ1 := by
  obtain ⟨g1, g2, g3⟩ := hm.2.2.2.2.2.2.1 s hs
  obtain ⟨hz, _⟩ := hm.1.2.2.2 s hs
  obtain ⟨⟨W, w1, w2⟩, _⟩ := hm.2.2.1
  obtain ⟨σ1, a1, a2, a3, a4⟩ := mplays_eq hm.1.1 hm.2.1 w1 w2 hs hz g2 (oV A s) g3
  have q : ∀ k, 49 ≤ k → k ≤ 65 → k ∉ p2M := fun k k1 k2 d => by
    simp only [p2M, List.mem_cons, List.not_mem_nil, or_false] at d
    omega
  have J : ∀ j, j ≠ 47 → j ≠ 66 → σ1.1 48 j = σ.1 48 j := a3
  exact ⟨σ1, a1, AM_ch hm ⟨fun j hj => J j (by omega) (by omega), fun k k1 k2 => ⟨a4.r1 k (q k k1 k2), a4.r2 k (q k k1 k2)⟩⟩ (KnM_of hm.2.2.1 (J 37 (by decide) (by decide)) (J 48 (by decide) (by decide)) (J 49 (by decide) (by decide)) (J 50 (by decide) (by decide)) (J 58 (by decide) (by decide)) (J 60 (by decide) (by decide)) (a4.r1 72 (by decide)) (a4.r2 82 (by decide)) (a4.r1 83 (by decide)) (a4.r1 84 (by decide)) (a4.r1 85 (by decide)) (a4.r1 87 (by decide)) (a4.r1 88 (by decide)) (a4.r1 89 (by decide))), FrM_of a4 (by decide), a2⟩
theorem pw_M {A : Ob} {σ : Mm} {s : Nat} (hm : AM A σ) (hs : s < 4) (hq : oQ A s ≠ 0) : ∃ σ1, f_X11_playedWhole (nI s) σ = some (if oZ A s ≤ (oR A s).2.2.2 then nI 0 else er7 4, σ1) ∧ AM A σ1 ∧ FrM σ σ1 ∧ PlM (oS A) (oR A s).1 (oR A s).2.2.1 σ1 := by
  obtain ⟨hz, hqq⟩ := hm.1.2.2.2 s hs
  obtain ⟨_, _, hcn⟩ := oR_ok hm.1 hs
  obtain ⟨σ1, a1, a2, a3, a4⟩ := pl_M hm hs
  refine ⟨σ1, ?_, a2, a3, a4⟩
  unfold f_X11_playedWhole
  rw [misSheet_yes hs, p_bd, if_neg (show ¬ nI 1 = (0 : Int32) by decide), p_ck _ hs (by omega), p_ix (a := s) (by omega), (hm.2.2.2.2.2.2.1 s hs).1, if_neg (show ¬ nI (oQ A s) = (0 : Int32) from fun z => hq ((nI_eq (by omega) (by omega)).mp (z.trans qi_0))), a1, p_bd, p_ck _ hs (by omega), (a2.2.2.2.2.2.2.1 s hs).2.1, er_5]
  by_cases c : oZ A s ≤ (oR A s).2.2.2
  · rw [i_le (by omega) c, if_pos c]; rfl
  · rw [i_nle (by omega) (by omega), if_neg c]
theorem pw_n {x : Int32} {σ : Mm} (h : x < 0 ∨ nI 4 ≤ x) : f_X11_playedWhole x σ = some (er7 0, σ) := by
  unfold f_X11_playedWhole
  rw [misSheet_no h, p_bd, if_pos (show nI 0 = (0 : Int32) from rfl), er_1]
theorem pw_0 {A : Ob} {σ : Mm} {s : Nat} (hm : AM A σ) (hs : s < 4) (hq : oQ A s = 0) : f_X11_playedWhole (nI s) σ = some (er7 5, σ) := by
  unfold f_X11_playedWhole
  rw [misSheet_yes hs, p_bd, if_neg (show ¬ nI 1 = (0 : Int32) by decide), p_ck _ hs (by omega), p_ix (a := s) (by omega), (hm.2.2.2.2.2.2.1 s hs).1, hq, if_pos (show nI 0 = (0 : Int32) from rfl), er_6]
theorem plays_op {A : Ob} {σ : Mm} {x : Int32} {f g F G : Mm → Option (Int32 × Mm)} (hc : AC A σ) (hm : AM A σ)
    (hf : ∀ r σ1, f_X10_findingOfTurn x σ = some (r, σ1) → f σ = if r < nI 0 then F σ1 else bd (f_X0_tell r σ1) (fun r σ2 => some (r, σ2)))
    (hg : ∀ τ r τ1, AM A τ → f_X11_playedWhole x τ = some (r, τ1) → g τ = if r = nI 0 then G τ1 else bd (f_X11_finds r τ1) (fun r σ2 => some (r, σ2)))
    (h : ∀ s, s < 4 → ∃ r A', (∀ σ1, AC A σ1 → PlC A s σ1 → ∃ σ2, F σ1 = some (r, σ2) ∧ AC A' σ2 ∧ FrC σ1 σ2) ∧ (∀ τ1, AM A τ1 → PlM (oS A) (oR A s).1 (oR A s).2.2.1 τ1 → ∃ τ2, G τ1 = some (r, τ2) ∧ AM A' τ2 ∧ FrM τ1 τ2)) : Ans f g σ := by
  rcases rng (n := 4) x (by omega) with h' | ⟨s, hs, rfl⟩
  · exact told (e := 0) hc hm (by omega) (by rw [hf _ _ (fin_n h'), i_nlt (by omega) (by omega)]) (fun τ hm => by rw [hg _ _ _ hm (pw_n h'), if_neg (by decide)])
  · by_cases hq : oQ A s = 0
    · exact told (e := 5) hc hm (by omega) (by rw [hf _ _ (fin_0 hc hs hq), i_nlt (by omega) (by omega)]) (fun τ hm => by rw [hg _ _ _ hm (pw_0 hm hs hq), if_neg (by decide)])
    · obtain ⟨σ1, a1, a2, a3, a4⟩ := fin_C hc hs hq
      by_cases c : oZ A s ≤ (oR A s).2.2.2
      · rw [if_pos c] at a1
        obtain ⟨r, A', h1, h2⟩ := h s hs
        refine Ans_of (r := r) (A' := A') hm ?_ (fun τ hm => ?_)
        · obtain ⟨σ2, b1, b2, b3⟩ := h1 σ1 a2 a4
          exact ⟨σ2, by rw [hf _ _ a1, i_m1lt (by omega)]; exact b1, b2, FrC_tr a3 b3⟩
        · obtain ⟨τ1, c1, c2, c3, c4⟩ := pw_M hm hs hq
          rw [if_pos c] at c1
          obtain ⟨τ2, b1, b2, b3⟩ := h2 τ1 c2 c4
          exact ⟨τ2, by rw [hg _ _ _ hm c1, i_eq rfl]; exact b1, b2, FrM_tr c3 b3⟩
      · rw [if_neg c] at a1
        refine Ans_of (r := er7 4) (A' := tel A 4) hm ?_ (fun τ hm => ?_)
        · obtain ⟨σ2, b1, b2, b3⟩ := tellC (e := 4) a2 (by omega)
          exact ⟨σ2, by rw [hf _ _ a1, i_nlt (by omega) (by omega)]; exact b1, b2, FrC_tr a3 b3⟩
        · obtain ⟨τ1, c1, c2, c3, c4⟩ := pw_M hm hs hq
          rw [if_neg c] at c1
          obtain ⟨τ2, b1, b2, b3⟩ := tellM (e := 4) c2 (by omega)
          exact ⟨τ2, by rw [hg _ _ _ hm c1, if_neg (show ¬ er7 4 = nI 0 by decide)]; exact b1, b2, FrM_tr c3 b3⟩
theorem lt_or (r : Int32) {α : Type} {t e : α} : (if (0 : Int32) ≤ r then e else t) = if r < nI 0 then t else e := by
  by_cases c : r < nI 0
  · have : ¬ (0 : Int32) ≤ r := by
      rw [qi_0, Int32.le_iff_toInt_le]
      rw [Int32.lt_iff_toInt_lt] at c
      omega
    rw [if_neg this, if_pos c]
  · have : (0 : Int32) ≤ r := by
      rw [qi_0, Int32.le_iff_toInt_le]
      rw [Int32.lt_iff_toInt_lt] at c
      omega
    rw [if_pos this, if_neg c]
theorem op_cost {A : Ob} {σ : Mm} (hc : AC A σ) (hm : AM A σ) (x : Int32) : Ans (f_X10_cost x) (f_X11_cost x) σ := by
  refine plays_op (x := x) (F := fun σ1 => some (σ1.1 37 3, σ1)) (G := fun τ1 => some (τ1.1 48 66, τ1)) hc hm (fun r σ1 h => ?_) (fun τ r τ1 _ h => ?_) (fun s hs => ⟨nI (oR A s).2.2.1, A, fun σ1 a1 a2 => ⟨σ1, by rw [a2.2.2.2], a1, FrC_rf _⟩, fun τ1 b1 b2 => ⟨τ1, by rw [b2.2.2.2], b1, FrM_rf _⟩⟩)
  · unfold f_X10_cost
    rw [h, p_bd, lt_or]
  · unfold f_X11_cost
    rw [h, p_bd, qi_0]
theorem op_played {A : Ob} {σ : Mm} (hc : AC A σ) (hm : AM A σ) (x : Int32) : Ans (f_X10_played x) (f_X11_played x) σ := by
  rcases rng (n := 4) x (by omega) with h' | ⟨s, hs, rfl⟩
  · refine told (e := 0) hc hm (by omega) ?_ (fun τ hm => ?_)
    · unfold f_X10_played
      rw [fin_n h', p_bd, qi_0, qi_4, i_nlt (by omega) (by omega), i_ne (by omega) (by omega) (by omega)]
    · unfold f_X11_played
      rw [misSheet_no h', p_bd, if_pos (show nI 0 = (0 : Int32) from rfl), er_1]
  · by_cases hq : oQ A s = 0
    · refine told (e := 5) hc hm (by omega) ?_ (fun τ hm => ?_)
      · unfold f_X10_played
        rw [fin_0 hc hs hq, p_bd, qi_0, qi_4, i_nlt (by omega) (by omega), i_ne (by omega) (by omega) (by omega)]
      · unfold f_X11_played
        rw [misSheet_yes hs, p_bd, if_neg (show ¬ nI 1 = (0 : Int32) by decide), p_ck _ hs (by omega), p_ix (a := s) (by omega), (hm.2.2.2.2.2.2.1 s hs).1, hq, if_pos (show nI 0 = (0 : Int32) from rfl), er_6]
    · obtain ⟨_, hqq⟩ := hc.1.2.2.2 s hs
      refine Ans_of (r := nI (oR A s).2.2.2) (A' := A) hm ?_ (fun τ hm => ?_)
      · obtain ⟨σ1, a1, a2, a3, a4⟩ := fin_C hc hs hq
        refine ⟨σ1, ?_, a2, a3⟩
        unfold f_X10_played
        rw [a1, p_bd, qi_0, qi_4, a4.2.2.1]
        by_cases c : oZ A s ≤ (oR A s).2.2.2
        · rw [if_pos c, i_m1lt (by omega)]
        · rw [if_neg c, i_nlt (by omega) (by omega), i_eq rfl]
      · obtain ⟨σ1, a1, a2, a3, a4⟩ := pl_M hm hs
        refine ⟨σ1, ?_, a2, a3⟩
        unfold f_X11_played
        rw [misSheet_yes hs, p_bd, if_neg (show ¬ nI 1 = (0 : Int32) by decide), p_ck _ hs (by omega), p_ix (a := s) (by omega), (hm.2.2.2.2.2.2.1 s hs).1, if_neg (show ¬ nI (oQ A s) = (0 : Int32) from fun z => hq ((nI_eq (by omega) (by omega)).mp (z.trans qi_0))), a1, p_bd]
/-- the orders leave the program loaded -/
theorem ord_LdC {A : Ob} {σ : Mm} (hc : AC A σ) (hL : LdC (oP A) σ) : ∃ σ1, f_X7_orderedResults σ = some ((), σ1) ∧ AC A σ1 ∧ FrC σ σ1 ∧ RoC 28 (ords (oS A) noX) σ1 ∧ LdC (oP A) σ1 ∧ Fr orL σ σ1 := by
  obtain ⟨σ1, c1, c2, c3, c4, c5⟩ := or_C hc
  refine ⟨σ1, c1, c2, c3, c4, ?_, c5⟩
  have hS := hc.1.1
  unfold f_X7_orderedResults at c1
  simp only [qi_0, qi_1, qi_2, qi_3, qi_4, qi_5, qi_6, qi_7, qi_8, qi_9, qi_10, qi_11, qi_12, qi_13, qi_14, qi_15, qi_16, qi_17, qi_19, qi_26, qi_31, qi_32, qi_35, qi_40, qi_42, qi_48, qi_50, qi_57, qi_59, qi_63, qi_64, qi_97, qi_120, qi_122, qi_210, qi_255, qi_511, qi_512, qi_1000, qi_6000, qi_13312, qi_14337, qi_16383, qi_16384, qi_524287, ql_0, ql_1, ql_3, ql_4, ql_10, ql_12, ql_13, ql_16, ql_42, ql_157, ql_256, ql_16383, ql_524287] at c1
  rcases hc.2.2.1.2.2 with h | ⟨h, hR⟩
  · obtain ⟨σa, e1, m1, m2⟩ := load_eq (fz := 0) hS (FX_no hS) hc.2.1 (by omega) noX_0
    have hr := x0_rmt hS
    rw [h, i_eq rfl, e1, p_bd, p_nm, r_sI2, m1.2.2.1, ← x0_emb (X := noX) hS] at c1
    have hL2 : LdC (PgOf (oS A) noX) (sI σa 28 1 (nI 0)) := LdC_of m1 (r_sI1 (by decide)) (by rw [r_sI2]) (r_sI1 (by decide)) (r_sI1 (by decide)) (r_sI1 (by decide))
    obtain ⟨σ2, e2, n1, n2⟩ := follow_eq (X := noX) hS (FX_no hS) 8 (x0S (oS A)) 0 [] (sI σa 28 1 (nI 0)) (x0_BV hS) (by omega) (by omega) hL2 ⟨Srt_nil, fun i hi => by simp at hi, Nat.zero_le _, by decide, by rw [r_sI0]; rfl, fun i hi => by simp at hi⟩ (by show 0 + _ ≤ 90; omega)
    rw [e2, p_bd, p_cb1, p_nm] at c1
    have e := congrArg Prod.snd (Option.some.inj c1)
    have e : sI σ2 6 7 (nI 1) = σ1 := e
    rw [← e]
    exact LdC_of hL2 (by rw [r_sI1 (by decide), n2.r1 13 (by decide)]) (by rw [r_sI2, n2.r2 13 (by decide)]) (by rw [r_sI1 (by decide), n2.r1 14 (by decide)]) (by rw [r_sI1 (by decide), n2.r1 16 (by decide)]) (by rw [r_sI1 (by decide), n2.r1 17 (by decide)])
  · rw [h, i_ne (by omega) (by omega) (by omega)] at c1
    have e := congrArg Prod.snd (Option.some.inj c1)
    have e : σ = σ1 := e
    rw [← e]; exact hL
/-- judge -/
theorem op_judge {A : Ob} {σ : Mm} (hc : AC A σ) (hm : AM A σ) (x : Int32) : Ans (f_X10_judge x) (f_X11_judge x) σ := by
  obtain ⟨hP, h0⟩ := oP_V hc.1
  refine plays_op (x := x) (F := fun σ1 => bd (f_X1_isEnd (σ1.2 37 1) σ1) (fun rq4 σ3 => (if rq4 = nI 0 then some (nI 2, σ3) else bd (f_X7_orderedResults σ3) (fun _ σ5 => bd (f_X1_resultOf (σ5.2 37 1) σ5) (fun rq8 σ7 => bd (f_X4_holds rq8 σ7) (fun rq10 σ9 => (if rq10 = nI 0 then some (nI 1, σ9) else some (nI 0, σ9)))))))) (G := fun τ1 => bd (f_X11_isEnd τ1) (fun rq4 σ3 => (if rq4 = nI 0 then some (nI 2, σ3) else bd (f_X11_resultNow σ3) (fun rq6 σ5 => bd (f_X11_findGoods σ5) (fun _ σ7 => bd (f_X11_isGood rq6 σ7) (fun rq10 σ9 => (if rq10 = nI 0 then some (nI 1, σ9) else some (nI 0, σ9)))))))) hc hm (fun r σ1 h => ?_) (fun τ r τ1 _ h => ?_) (fun s hs => ?_)
  · unfold f_X10_judge
    rw [h, p_bd, qi_0, qi_1, qi_2]
  · unfold f_X11_judge
    rw [h, p_bd, qi_0, qi_1, qi_2]
  · obtain ⟨hV, _, _⟩ := oR_ok hc.1 hs
    have hr : rslt (oP A) (oR A s).1 < 262144 := resf_lt3 _ hP.1
    cases hE : iE (oP A) (oR A s).1 with
    | false =>
      refine ⟨nI 2, A, fun σ1 a1 a2 => ⟨σ1, ?_, a1, FrC_rf _⟩, fun τ1 b1 b2 => ⟨τ1, ?_, b1, FrM_rf _⟩⟩
      · show bd (f_X1_isEnd (σ1.2 37 1) σ1) _ = _
        rw [a2.2.1, isEnd_eq hP a2.1 hV, p_bd, hE, bI_f, i_eq rfl]
      · show bd (f_X11_isEnd τ1) _ = _
        rw [mEnd_eq hP b2.2.1 hV b2.1, p_bd]
        show (if bI (iE (oP A) (oR A s).1) = nI 0 then some (nI 2, τ1) else _) = _
        rw [hE, bI_f, i_eq rfl]
    | true =>
      refine ⟨bI (!decide (rslt (oP A) (oR A s).1 ∈ ords (oS A) noX)), A, fun σ1 a1 a2 => ?_, fun τ1 b1 b2 => ?_⟩
      · obtain ⟨σ2, c1, c2, c3, c4, c5, c6⟩ := ord_LdC a1 a2.1
        have h37 : σ2.2 37 1 = lN (oR A s).1 := by rw [c6.r2 37 (by decide)]; exact a2.2.1
        refine ⟨σ2, ?_, c2, c3⟩
        show bd (f_X1_isEnd (σ1.2 37 1) σ1) _ = _
        rw [a2.2.1, isEnd_eq hP a2.1 hV, p_bd, hE, bI_t, i_ne (by omega) (by omega) (by omega), c1, p_bd, h37, resultOf_eq hP c5 hV, p_bd, holds_eq c4 hr, p_bd]
        cases decide (rslt (oP A) (oR A s).1 ∈ ords (oS A) noX) with
        | true => rw [bI_t, i_ne (by omega) (by omega) (by omega)]; rfl
        | false => rw [bI_f, i_eq rfl]; rfl
      · obtain ⟨b21, b22, b23, b24⟩ := b2
        obtain ⟨τ2, g1, g2, g3, g4, g5⟩ := findGoods_eq b1.1.1 (FX_no b1.1.1) b1.2.1 b23
        have h90 := ords_90 b1.1.1
        have q : ∀ k, 49 ≤ k → k ≤ 65 → k ∉ oM := fun k k1 k2 d => by
          simp only [oM, List.mem_cons, List.not_mem_nil, or_false] at d
          omega
        have hGd : GdM (ords (oS A) noX) τ2 := ⟨g2, g3, h90⟩
        have hK : KnM (oS A) τ2 := by
          obtain ⟨⟨W, w1, w2⟩, h48⟩ := b1.2.2.1
          refine ⟨⟨W, w1, WrM_of w2 (g4 37 (by decide) (by decide)) (g5.r1 72 (by decide))⟩, ?_⟩
          rcases h48 with h | ⟨h, t1, t2⟩
          · exact Or.inl (by rw [g4 48 (by decide) (by decide)]; exact h)
          · exact Or.inr ⟨by rw [g4 48 (by decide) (by decide)]; exact h, TkM_of t1 (g4 49 (by decide) (by decide)) (g4 50 (by decide) (by decide)) (g4 58 (by decide) (by decide)) (g5.r2 82 (by decide)) (g5.r1 83 (by decide)) (g5.r1 84 (by decide)) (g5.r1 85 (by decide)) (g5.r1 87 (by decide)) (g5.r1 88 (by decide)), hGd⟩
        have hA : AM A τ2 := AM_ch b1 ⟨fun j hj => g4 j (by omega) (by omega), fun k k1 k2 => ⟨g5.r1 k (q k k1 k2), g5.r2 k (q k k1 k2)⟩⟩ hK
        refine ⟨τ2, ?_, hA, FrM_of g5 (by decide)⟩
        have e1 : f_X11_isEnd τ1 = some (bI (iE (oP A) (oR A s).1), τ1) := mEnd_eq hP b22 hV b21
        have e2 : f_X11_resultNow τ1 = some (nI (rslt (oP A) (oR A s).1), τ1) := mRes_eq hP b22.1 b21
        show bd (f_X11_isEnd τ1) _ = _
        rw [e1, p_bd, hE, bI_t, i_ne (by omega) (by omega) (by omega), e2, p_bd, g1, p_bd, isGood_eq hGd hr, p_bd]
        cases decide (rslt (oP A) (oR A s).1 ∈ ords (oS A) noX) with
        | true => rw [bI_t, i_ne (by omega) (by omega) (by omega)]; rfl
        | false => rw [bI_f, i_eq rfl]; rfl
