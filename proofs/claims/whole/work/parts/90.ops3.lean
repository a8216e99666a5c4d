/-! PURE: change, heal, text, wipe -/
theorem isStep_V {S : Su} {x y : Int32} (hS : SuV S) : noStep S x y ∨ ∃ c s, c < sK S ∧ s < sN S c ∧ x = nI c ∧ y = nI s := step_or hS x y
theorem chp_own {S : Su} {σ : Mm} {c s p : Nat} (hS : SuV S) (hC : SeC S 7 σ) (hc : c < sK S) (hs : s < sN S c) (hp : chp S c s = some p) : p = cpt S c s ∧ (c * 7 + s) * 5 + cpt S c s < 210 ∧ σ.1 9 ((c * 7 + s) * 5 + cpt S c s) = nI (sC S c s (cpt S c s)) := by
  have hi := idx_lt hS hc hs
  obtain ⟨ep, hp23, hp3⟩ := chp_cpt hp
  subst ep
  have hcd : CdC σ 9 ((c * 7 + s) * 5) (sC S c s) := hC.2.2.2.2.1 c s hc hs
  obtain ⟨v1, v2, v3, v4, v5, v6⟩ := hS.2.2.1 c s hc hs
  refine ⟨rfl, by omega, ?_⟩
  rcases hp23 with h2 | h3
  · rw [h2]
    unfold chp at hp
    rw [h2] at hp
    split at hp
    · cases hp
    · split at hp
      · rename_i hk
        have := v4 (by omega)
        exact (hcd.2.2.1 (by omega)).trans (if_neg (by omega))
      · split at hp
        · rename_i hk
          split at hp
          · cases hp
          · rename_i h4
            exact (hcd.2.2.1 (by omega)).trans (if_neg h4)
        · cases hp
  · rw [h3]
    exact hcd.2.2.2.1 (hp3.mp h3)
theorem op_change {A : Ob} {σ : Mm} (hc : AC A σ) (hm : AM A σ) (x y z : Int32) : Ans (f_X10_change x y z) (f_X11_change x y z) σ := by
  have hS := hc.1.1
  have h6 := hS.1
  rcases step_or hS x y with h | ⟨c, s, hk, hs, rfl, rfl⟩
  · refine Ans_of (r := er7 0) (A' := tel A 0) hm ?_ (fun τ hm => ?_)
    · unfold f_X10_change
      rw [qi_0, hasStep_no hS hc.2.1 h, p_bd, i_eq rfl]; exact tellC hc (by omega)
    · unfold f_X11_change
      rw [qi_0, er_1, misStep_no hS hm.2.1 h, p_bd, i_eq rfl]; exact tellM hm (by omega)
  · have h7 := (hS.2.1 c hk).2
    rcases rng (n := 4) z (by omega) with h' | ⟨v, h', rfl⟩
    · refine Ans_of (r := er7 0) (A' := tel A 0) hm ?_ (fun τ hm => ?_)
      · unfold f_X10_change
        rw [qi_0, hasStep_yes hS hc.2.1 hk hs, p_bd, i_ne (by omega) (by omega) (by omega), isValue_no h', p_bd, i_eq rfl]; exact tellC hc (by omega)
      · unfold f_X11_change
        rw [qi_0, qi_3, er_1, misStep_yes hS hm.2.1 hk hs, p_bd, i_ne (by omega) (by omega) (by omega), in_n (by omega) h', p_bd, i_eq rfl]; exact tellM hm (by omega)
    · cases hp : chp (oS A) c s with
      | none =>
        have hv : hvB (sC (oS A) c s) = false := by rw [hvB_chp, hp]; rfl
        refine Ans_of (r := er7 2) (A' := tel A 2) hm ?_ (fun τ hm => ?_)
        · unfold f_X10_change
          rw [qi_0, qi_2, hasStep_yes hS hc.2.1 hk hs, p_bd, i_ne (by omega) (by omega) (by omega), isValue_yes h', p_bd, i_ne (by omega) (by omega) (by omega), changeable_eq hS hc.2.1 hk hs, p_bd, hp, show iO none = -nI 1 from rfl, if_neg (show ¬ nI 0 ≤ -nI 1 by rw [p_m1le]; exact fun q => q)]
          exact tellC hc (by omega)
        · unfold f_X11_change
          rw [qi_0, qi_3, qi_7, er_3, misStep_yes hS hm.2.1 hk hs, p_bd, i_ne (by omega) (by omega) (by omega), in_y (by omega) h', p_bd, i_ne (by omega) (by omega) (by omega), pk_mul, nI_add, p_nm, hasValue_eq (by omega) (hm.2.1.2.2.2.2.1 c s hk hs) (hS.2.2.1 c s hk hs), hv, p_bd, bI_f, i_eq rfl]
          exact tellM hm (by omega)
      | some p =>
        have hv : hvB (sC (oS A) c s) = true := by rw [hvB_chp, hp]; rfl
        refine Ans_of (r := nI (sC (oS A) c s (cpt (oS A) c s))) (A' := uS A (chg (oS A) c s v)) hm ?_ (fun τ hm => ?_)
        · obtain ⟨ep, p2, p3⟩ := chp_own hS hc.2.1 hk hs hp
          subst ep
          obtain ⟨τ', a1, a2, a3, _⟩ := forget_S (τ := sI σ 9 ((c * 7 + s) * 5 + cpt (oS A) c s) (nI v)) hc (chg_V hS h') (SeC_chg hS hc.2.1 hk hs h') ((Fr.rf _ _).sI (by decide))
          have hc23 := cpt_23 (oS A) c s
          unfold f_X10_change
          rw [qi_0, hasStep_yes hS hc.2.1 hk hs, p_bd, i_ne (by omega) (by omega) (by omega), isValue_yes h', p_bd, i_ne (by omega) (by omega) (by omega), changeable_eq hS hc.2.1 hk hs, p_bd, hp, show iO (some (cpt (oS A) c s)) = nI (cpt (oS A) c s) from rfl, i_le (by omega) (by omega), partOf_eq p2, p_bd, p3, putPart_eq p2, p_bd, a1, p_bd]
          exact ⟨τ', rfl, a2, a3⟩
        · obtain ⟨τ', b1, b2, b3, b4, b5⟩ := mput_eq hS hm.2.1 hk hs h' hv
          unfold f_X11_change
          rw [qi_0, qi_3, qi_7, misStep_yes hS hm.2.1 hk hs, p_bd, i_ne (by omega) (by omega) (by omega), in_y (by omega) h', p_bd, i_ne (by omega) (by omega) (by omega), pk_mul, nI_add, p_nm, hasValue_eq (by omega) (hm.2.1.2.2.2.2.1 c s hk hs) (hS.2.2.1 c s hk hs), hv, p_bd, bI_t, i_ne (by omega) (by omega) (by omega), b1, p_bd]
          exact ⟨τ', rfl, AM_S hm (chg_V hS h') b2 (b5.mo (by intro k hk; revert k; decide)) (fun j hj => b4 j (by omega)) b3, FrM_of b5 (by decide)⟩
/-- heal -/
def helR (A : Ob) (o : Option Nat) : Int32 := match o with
  | none => er7 6
  | some m => nI m
def helA (A : Ob) (o : Option Nat) : Ob := match o with
  | none => tel A 6
  | some _ => A
theorem KnC_0 {S : Su} {σ : Mm} (h : SlR σ) (h6 : σ.1 6 6 = nI 0) (h7 : σ.1 6 7 = nI 0) : KnC S σ := ⟨h, Or.inl h6, Or.inl h7⟩
theorem op_heal {A : Ob} {σ : Mm} (hc : AC A σ) (hm : AM A σ) (x y : Int32) : Ans (f_X10_heal x y) (f_X11_heal x y) σ := by
  have hS := hc.1.1
  have h6 := hS.1
  rcases step_or hS x y with h | ⟨c, s, hk, hs, rfl, rfl⟩
  · refine Ans_of (r := er7 0) (A' := tel A 0) hm ?_ (fun τ hm => ?_)
    · unfold f_X10_heal
      rw [qi_0, hasStep_no hS hc.2.1 h, p_bd, i_eq rfl]; exact tellC hc (by omega)
    · unfold f_X11_heal
      rw [misStep_no hS hm.2.1 h, p_bd, if_pos (show nI 0 = (0 : Int32) from rfl), er_1]; exact tellM hm (by omega)
  · have h7 := (hS.2.1 c hk).2
    cases hp : chp (oS A) c s with
    | none =>
      have hv : hvB (sC (oS A) c s) = false := by rw [hvB_chp, hp]; rfl
      refine Ans_of (r := er7 2) (A' := tel A 2) hm ?_ (fun τ hm => ?_)
      · unfold f_X10_heal
        rw [qi_0, qi_2, hasStep_yes hS hc.2.1 hk hs, p_bd, i_ne (by omega) (by omega) (by omega), changeable_eq hS hc.2.1 hk hs, p_bd, hp, show iO none = -nI 1 from rfl, if_neg (show ¬ nI 0 ≤ -nI 1 by rw [p_m1le]; exact fun q => q)]
        exact tellC hc (by omega)
      · unfold f_X11_heal
        rw [misStep_yes hS hm.2.1 hk hs, p_bd, if_neg (show ¬ nI 1 = (0 : Int32) by decide), qi_7, pk_mul, nI_add, p_nm, hasValue_eq (by omega) (hm.2.1.2.2.2.2.1 c s hk hs) (hS.2.2.1 c s hk hs), hv, p_bd, bI_f, if_pos (show nI 0 = (0 : Int32) from rfl), er_3]
        exact tellM hm (by omega)
    | some p =>
      have hv : hvB (sC (oS A) c s) = true := by rw [hvB_chp, hp]; rfl
      refine Ans_of (r := helR A (hlv (oS A) c s 4)) (A' := helA A (hlv (oS A) c s 4)) hm ?_ (fun τ hm => ?_)
      · obtain ⟨ep, _, _⟩ := chp_own hS hc.2.1 hk hs hp
        have hc23 := cpt_23 (oS A) c s
        obtain ⟨σ', a1, a2, a3, a4, a5, a6⟩ := healing_eq hS hc.2.1 hc.2.2.1.1 hk hs hp
        have hF : Fr (9 :: chL) σ σ' := a6.mo (by intro k hk; revert k; decide)
        have hA : AC A σ' := by
          obtain ⟨h1, h2, h3, h4, h5, h6, h7, h8⟩ := hc
          have q : ∀ k, 31 ≤ k → k ≠ 37 → k ≠ 38 → k ∉ 9 :: chL := fun k a b c d => by
            simp only [chL, List.mem_cons, List.not_mem_nil, or_false] at d
            omega
          exact ⟨h1, a2, KnC_0 a3 a4 a5, by rw [hF.r1 0 (by decide)]; exact h4, fun b => SeC_31 (h5 b) (fun k a1 a2 => hF.r1 k (q k a1 (by omega) (by omega))), TpC_of h6 (hF.r1 4 (by decide)) (hF.r1 5 (by decide)), ShC_of h7 (fun k a1 a2 => ⟨hF.r1 k (q k (by omega) (by omega) (by omega)), hF.r2 k (q k (by omega) (by omega) (by omega))⟩), CnC_of h8 (hF.r1 1 (by decide)) (hF.r1 2 (by decide))⟩
        have hFC : FrC σ σ' := FrC_of hF (by decide)
        unfold f_X10_heal
        rw [qi_0, qi_6, hasStep_yes hS hc.2.1 hk hs, p_bd, i_ne (by omega) (by omega) (by omega), changeable_eq hS hc.2.1 hk hs, p_bd, hp, show iO (some p) = nI p from rfl, i_le (by omega) (by omega), a1, p_bd]
        cases hh : hlv (oS A) c s 4 with
        | none =>
          rw [hI_n, if_pos (show (-2 : Int32) < nI 0 by decide)]
          obtain ⟨σ'', b1, b2, b3⟩ := tellC (e := 6) hA (by omega)
          exact ⟨σ'', b1, b2, FrC_tr hFC b3⟩
        | some m =>
          have hm2 := hlv_lt 4 m hh
          have : (2 : Nat) ^ 4 = 16 := rfl
          rw [hI_s, i_nlt (by omega) (by omega)]
          exact ⟨σ', rfl, hA, hFC⟩
      · obtain ⟨⟨W, w1, w2⟩, _⟩ := hm.2.2.1
        obtain ⟨τ', b1, b2, b3, b4, b5, b6⟩ := mheal_eq hS hm.2.1 w1 w2 hk hs hv
        have hA : AM A τ' := by
          obtain ⟨h1, h2, h3, h4, h5, h6, h7, h8⟩ := hm
          have e : ∀ j, j = 13 ∨ j = 15 ∨ j = 16 ∨ j = 17 ∨ j = 18 → τ'.1 48 j = τ.1 48 j := fun j hj => b5 j (by omega) (by omega) (by omega) (by omega) (by omega)
          exact ⟨h1, b2, ⟨⟨W, w1, b3⟩, Or.inl b4⟩, by rw [e 15 (by omega)]; exact h4, fun b => SeM_rs6 (h5 b) (b6.r1 60 (by decide)) (e 16 (by omega)) (e 17 (by omega)) (e 18 (by omega)), TpM_of h6 (e 13 (by omega)) (b6.r1 58 (by decide)) (b6.r2 65 (by decide)), ShM_of h7 (b6.r1 61 (by decide)) (b6.r1 62 (by decide)) (b6.r2 63 (by decide)), fun d hd => by rw [b6.r1 59 (by decide)]; exact h8 d hd⟩
        have hFM : FrM τ τ' := FrM_of b6 (by decide)
        rw [b1]
        cases hh : hlv (oS A) c s 4 with
        | none =>
          rw [hmI_n, hmO_n, er_7]
          exact ⟨_, rfl, AM_fd hA (by omega), FrM_tr hFM (FrM_of ((Fr.rf [59] τ').sI (by decide)) (by decide))⟩
        | some m =>
          rw [hmI_s, hmO_s]
          exact ⟨τ', rfl, hA, hFM⟩
/-- text -/
theorem op_text {A : Ob} {σ : Mm} (hc : AC A σ) (hm : AM A σ) : Ans f_X10_text f_X11_text σ := by
  have hS := hc.1.1
  have h6 := hS.1
  by_cases hK : sK (oS A) < 6
  · cases hp : prl (oT A) (oN A) 8 with
    | inl f =>
      refine Ans_of (r := -nI 1 - nI f) (A' := A) hm ?_ (fun τ hm => ?_)
      · obtain ⟨σ', h1, h2⟩ := faultOf_eq hS hc.2.1 hc.2.2.2.2.2.1 hK
        rcases h1 with ⟨f', g1, g2, g3, g4⟩ | ⟨l, g, g1, _⟩
        · rw [hp] at g1
          have e := Sum.inl.inj g1
          have hn := hc.2.2.2.2.2.1.1
          have hF : Fr [3, 7, 8, 9] σ σ' := h2
          unfold f_X10_text
          rw [hc.2.1.1, qi_6, i_lt (by omega) hK, g3, p_bd, ← e, qi_0, i_nlt (by omega) (by omega), qi_1]
          refine ⟨σ', rfl, ?_, FrC_of hF (by decide)⟩
          obtain ⟨h1, h2, h3, h4, h5, h6, h7, h8⟩ := hc
          have q : ∀ k, 10 ≤ k → k ∉ [3, 7, 8, 9] := fun k a d => by
            simp only [List.mem_cons, List.not_mem_nil, or_false] at d
            omega
          refine ⟨h1, g4, ⟨SlR_of h3.1 (hF.r1 20 (by decide)), ?_, ?_⟩, by rw [hF.r1 0 (by decide)]; exact h4, fun b => SeC_31 (h5 b) (fun k a1 a2 => hF.r1 k (q k (by omega))), TpC_of h6 (hF.r1 4 (by decide)) (hF.r1 5 (by decide)), ShC_of h7 (fun k a1 a2 => ⟨hF.r1 k (q k (by omega)), hF.r2 k (q k (by omega))⟩), CnC_of h8 (hF.r1 1 (by decide)) (hF.r1 2 (by decide))⟩
          · rw [hF.r1 6 (by decide)]
            rcases h3.2.1 with k | ⟨k, g⟩
            · exact Or.inl k
            · exact Or.inr ⟨k, TkC_fr g hF (by decide)⟩
          · rw [hF.r1 6 (by decide)]
            rcases h3.2.2 with k | ⟨k, g⟩
            · exact Or.inl k
            · exact Or.inr ⟨k, RoC_of g (by rw [hF.r1 28 (by decide)]) (hF.r1 29 (by decide))⟩
        · rw [hp] at g1; cases g1
      · obtain ⟨τ', h1⟩ := mtext_eq hS hm.2.1 hm.2.2.2.2.2.1 hK
        rcases h1 with ⟨f', g1, g2, g3, g4, g5, g6⟩ | ⟨l, g, g1, _⟩
        · rw [hp] at g1
          have e := Sum.inl.inj g1
          rw [← e] at g3
          refine ⟨τ', g3, ?_, FrM_of g6 (by decide)⟩
          obtain ⟨h1, h2, h3, h4, h5, h6, h7, h8⟩ := hm
          have k5 : ∀ j, j < 24 ∨ 28 < j → τ'.1 48 j = τ.1 48 j := fun j hj => g5 j (by omega) (by omega) (by omega) (by omega) (by omega)
          exact ⟨h1, g4, KnM_of h3 (k5 37 (by omega)) (k5 48 (by omega)) (k5 49 (by omega)) (k5 50 (by omega)) (k5 58 (by omega)) (k5 60 (by omega)) (g6.r1 72 (by decide)) (g6.r2 82 (by decide)) (g6.r1 83 (by decide)) (g6.r1 84 (by decide)) (g6.r1 85 (by decide)) (g6.r1 87 (by decide)) (g6.r1 88 (by decide)) (g6.r1 89 (by decide)), by rw [k5 15 (by omega)]; exact h4, fun b => SeM_rs6 (h5 b) (g6.r1 60 (by decide)) (k5 16 (by omega)) (k5 17 (by omega)) (k5 18 (by omega)), TpM_of h6 (k5 13 (by omega)) (g6.r1 58 (by decide)) (g6.r2 65 (by decide)), ShM_of h7 (g6.r1 61 (by decide)) (g6.r1 62 (by decide)) (g6.r2 63 (by decide)), fun d hd => by rw [g6.r1 59 (by decide)]; exact h8 d hd⟩
        · rw [hp] at g1; cases g1
    | inr y =>
      obtain ⟨b, l, g⟩ := y
      have hb : b = true := prl_8 _ hp
      subst hb
      have hV := newC_V hS hK hp
      refine Ans_of (r := nI (sK (oS A))) (A' := uT (uS A (newC (oS A) l g)) 0 (oT A)) hm ?_ (fun τ hm => ?_)
      · obtain ⟨σ', h1, h2⟩ := faultOf_eq hS hc.2.1 hc.2.2.2.2.2.1 hK
        rcases h1 with ⟨f', g1, _⟩ | ⟨l', g', g1, g2, g3⟩
        · rw [hp] at g1; cases g1
        · rw [hp] at g1
          have e := Sum.inr.inj g1
          have e1 : l = l' := congrArg (fun z => z.2.1) e
          have e2 : g = g' := congrArg (fun z => z.2.2) e
          subst e1 e2
          unfold f_X10_text
          rw [hc.2.1.1, qi_6, i_lt (by omega) hK, g2, p_bd, qi_0, qi_1, if_pos (show -nI 1 < nI 0 by decide), p_nm, forget_eq, p_bd]
          have hF : Fr [3, 4, 6, 7, 8, 9] σ (sI (sI (sI σ' 4 1 (nI 0)) 6 6 (nI 0)) 6 7 (nI 0)) := (((h2.mo (by intro k hk; revert k; decide)).sI (by decide)).sI (by decide)).sI (by decide)
          have e3 : ∀ k, k ≠ 4 → k ≠ 6 → (sI (sI (sI σ' 4 1 (nI 0)) 6 6 (nI 0)) 6 7 (nI 0)).1 k = σ'.1 k := fun k a b => by rw [r_sI1 b, r_sI1 b, r_sI1 a]
          have e7 : σ'.1 7 0 = nI (sK (oS A) + 1) := g3.1
          rw [e3 7 (by decide) (by decide), e7, pk_sub (by omega), show sK (oS A) + 1 - 1 = sK (oS A) by omega]
          refine ⟨_, rfl, ?_, FrC_of hF (by decide)⟩
          obtain ⟨h1, h2, h3, h4, h5, h6, h7, h8⟩ := hc
          have q : ∀ k, 10 ≤ k → k ∉ [3, 4, 6, 7, 8, 9] := fun k a d => by
            simp only [List.mem_cons, List.not_mem_nil, or_false] at d
            omega
          exact ⟨⟨hV, h1.2.1, ⟨Nat.zero_le _, fun i (hi : i < 0) => by omega⟩, h1.2.2.2⟩, SeC_of g3 (e3 7 (by decide) (by decide)) (e3 8 (by decide) (by decide)) (e3 9 (by decide) (by decide)) (e3 10 (by decide) (by decide)) (e3 11 (by decide) (by decide)) (e3 12 (by decide) (by decide)), KnC_0 (SlR_of h3.1 (hF.r1 20 (by decide))) (by rw [r_sIj (by decide), r_sI0]) r_sI0, by rw [hF.r1 0 (by decide)]; exact h4, fun b => SeC_31 (h5 b) (fun k a1 a2 => hF.r1 k (q k (by omega))), ⟨Nat.zero_le _, by rw [r_sI1 (by decide), r_sI1 (by decide), r_sI0]; rfl, fun i (hi : i < 0) => by omega⟩, ShC_of h7 (fun k a1 a2 => ⟨hF.r1 k (q k (by omega)), hF.r2 k (q k (by omega))⟩), CnC_of h8 (hF.r1 1 (by decide)) (hF.r1 2 (by decide))⟩
      · obtain ⟨τ', h1⟩ := mtext_eq hS hm.2.1 hm.2.2.2.2.2.1 hK
        rcases h1 with ⟨f', g1, _⟩ | ⟨l', g', g1, g2, g3, g4, g5, g6, g7⟩
        · rw [hp] at g1; cases g1
        · rw [hp] at g1
          have e := Sum.inr.inj g1
          have e1 : l = l' := congrArg (fun z => z.2.1) e
          have e2 : g = g' := congrArg (fun z => z.2.2) e
          subst e1 e2
          refine ⟨τ', g2, ?_, FrM_of g7 (by decide)⟩
          obtain ⟨h1, h2, h3, h4, h5, h6, h7, h8⟩ := hm
          obtain ⟨⟨W, w1, w2⟩, _⟩ := h3
          have k5 : ∀ j, j = 15 ∨ j = 16 ∨ j = 17 ∨ j = 18 ∨ j = 37 → τ'.1 48 j = τ.1 48 j := fun j hj => g6 j (by omega) (by omega) (by omega) (by omega) (by omega) (by omega) (by omega) (by omega)
          exact ⟨⟨hV, h1.2.1, ⟨Nat.zero_le _, fun i (hi : i < 0) => by omega⟩, h1.2.2.2⟩, g3, ⟨⟨W, w1, WrM_of w2 (k5 37 (by omega)) (g7.r1 72 (by decide))⟩, Or.inl g5⟩, by rw [k5 15 (by omega)]; exact h4, fun b => SeM_rs6 (h5 b) (g7.r1 60 (by decide)) (k5 16 (by omega)) (k5 17 (by omega)) (k5 18 (by omega)), ⟨Nat.zero_le _, g4, fun i (hi : i < 0) => by omega, fun w hw => by rw [g7.r2 65 (by decide)]; exact h6.2.2.2 w hw⟩, ShM_of h7 (g7.r1 61 (by decide)) (g7.r1 62 (by decide)) (g7.r2 63 (by decide)), fun d hd => by rw [g7.r1 59 (by decide)]; exact h8 d hd⟩
  · refine Ans_of (r := er7 1) (A' := tel A 1) hm ?_ (fun τ hm => ?_)
    · unfold f_X10_text
      rw [hc.2.1.1, qi_6, i_nlt (by omega) (by omega), qi_1]; exact tellC hc (by omega)
    · unfold f_X11_text
      rw [hm.2.1.1, qi_6, i_eq (by omega), er_2]; exact tellM hm (by omega)
