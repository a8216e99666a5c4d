/-! PURE: the reference does a step -/
theorem MRh_of {P : Pg} {σ τ : Mm} {g w : Nat} (h : MRh P σ g w) (e75 : τ.1 75 g = σ.1 75 g) (e76 : τ.1 76 g = σ.1 76 g) (e77 : τ.1 77 g = σ.1 77 g) (e78 : τ.1 78 g = σ.1 78 g) (e79 : τ.1 79 g = σ.1 79 g) (e80 : τ.1 80 (2 * g) = σ.1 80 (2 * g)) (e81 : τ.1 81 (2 * g) = σ.1 81 (2 * g)) (e82 : τ.1 80 (2 * g + 1) = σ.1 80 (2 * g + 1)) (e83 : τ.1 81 (2 * g + 1) = σ.1 81 (2 * g + 1)) : MRh P τ g w := by
  unfold MRh at *
  rw [e75, e76, e77, e78, e79, e80, e81, e82, e83]
  exact h
theorem fin_eq {P : Pg} {σ1 : Mm} {x y h p q a b n o l : Nat} (hP : PgV P) (hX : PgX P) (hh : h < pH P) (hp : p < pN P h) (h75 : σ1.1 75 h = nI (cO P h p)) (hL : ∃ c, c < 6 ∧ σ1.1 55 (2 * h + cO P h p) = nI c ∧ σ1.1 66 c = nI (bl P h p)) (h1 : of0 P h p ≤ q) (h2 : q ≤ of0 P h p + bl P h p)
    (ha4 : a < 4) (hb4 : b < 4) (hn4 : n < 4) (ho4 : o < 16) (hl4 : l < 16) (hy : hd y h = mkw q a b n o l) (hyg : ∀ g, g < 3 → g ≠ h → hd y g = hd x g) (hc : ∀ c, c < 3 → σ1.1 74 c = nI (cv y c)) (r77 : σ1.1 77 h = nI a) (r78 : σ1.1 78 h = nI b) (r79 : σ1.1 79 h = nI n) (r80 : 1 ≤ n → σ1.1 80 (2 * h) = nI (o / 4) ∧ σ1.1 81 (2 * h) = nI (o % 4)) (r81 : n = 2 → σ1.1 80 (2 * h + 1) = nI (l / 4) ∧ σ1.1 81 (2 * h + 1) = nI (l % 4)) (hg : ∀ g, g < pH P → g ≠ h → MRh P σ1 g (hd x g)) :
    ∃ σ2, bd (f_X11_goesOn (nI h) (nI (q - of0 P h p)) σ1) (fun _ σ => some ((), σ)) = some ((), σ2) ∧ MR P σ2 y ∧ Fr [75, 76] σ1 σ2 := by
  have hH := hP.1
  have hN := (hP.2.2.1 h (by omega)).2
  obtain ⟨q1, q2, q3, q4, q5⟩ := pO_lt hX hh hp
  have hbl : of0 P h p + bl P h p ≤ 26 := by
    have hS := (hP.2.2.1 h (by omega)).1
    have := hX h hh
    unfold of0 bl
    split <;> omega
  have hq32 : q < 32 := by omega
  obtain ⟨σ2, e, g1, g2, g3, g4⟩ := goesOn_eq hP hX hh hp h75 hL h1 h2
  refine ⟨σ2, by rw [e, p_bd], ⟨fun c hc3 => by rw [g4.r1 74 (by decide)]; exact hc c hc3, fun g hgl => ?_⟩, g4⟩
  have k77 : σ2.1 77 = σ1.1 77 := g4.r1 77 (by decide)
  have k78 : σ2.1 78 = σ1.1 78 := g4.r1 78 (by decide)
  have k79 : σ2.1 79 = σ1.1 79 := g4.r1 79 (by decide)
  have k80 : σ2.1 80 = σ1.1 80 := g4.r1 80 (by decide)
  have k81 : σ2.1 81 = σ1.1 81 := g4.r1 81 (by decide)
  by_cases eg : g = h
  · subst eg
    rw [hy]
    unfold MRh
    rw [pl_mkw hq32, ha_mkw hq32 ha4, hb_mkw hq32 ha4 hb4, hn_mkw hq32 ha4 hb4 hn4, ho_mkw hq32 ha4 hb4 hn4 ho4, hl_mkw hq32 ha4 hb4 hn4 ho4 hl4, k77, k78, k79, k80, k81]
    exact ⟨g1, g2, r77, r78, r79, r80, r81⟩
  · rw [hyg g (by omega) eg]
    exact MRh_of (hg g hgl eg) (g3 g eg).1 (g3 g eg).2 (by rw [k77]) (by rw [k78]) (by rw [k79]) (by rw [k80]) (by rw [k81]) (by rw [k80]) (by rw [k81])
/-- which cell a step touches -/
theorem stepsOn_eq {P : Pg} {σ : Mm} {x y h lt : Nat} (hP : PgV P) (hX : PgX P) (hL : LdM P σ) (hV : VS P x) (hM : MR P σ x) (hh : h < pH P) (hlt : lt < 2) (hs : stp P lt x h = some y) :
    ∃ σ', f_X11_stepsOn (nI h) (nI lt) σ = some ((), σ') ∧ MR P σ' y ∧ (σ.1 48 47 = -nI 1 → lt = pL P → σ'.1 48 47 = iO (tch P x h)) ∧ (∀ j, j ≠ 47 → σ'.1 48 j = σ.1 48 j) ∧ Fr mL σ σ' := by
  have hH := hP.1
  have hS := (hP.2.2.1 h (by omega)).1
  have hp : pl (hd x h) < pN P h := by
    apply Classical.byContradiction
    intro q
    unfold stp stpf at hs
    rw [if_pos (by omega)] at hs
    cases hs
  obtain ⟨c, hc, h55, h66, hcd, hsn⟩ := stepNow_eq hP hX hL (hM.2 h hh) hh hp
  obtain ⟨q1, q2, q3, q4, q5⟩ := pO_lt hX hh hp
  have hVd := hP.2.2.2.2 h (pl (hd x h)) (by omega) hp
  obtain ⟨m1, m2, m3, m4, m5, m6, m7⟩ := hM.2 h hh
  have hWV := (hV.2 h (by omega)).1
  have hwf := fun d hd3 => waiting_eq (c := d) hH hh (hM.2 h hh) hWV hd3
  have htch : tch P x h = (if pC P h (pl (hd x h)) 0 = 1 then (if wf (hd x h) (pC P h (pl (hd x h)) 1) = none then some (pC P h (pl (hd x h)) 1) else none) else if pC P h (pl (hd x h)) 0 = 2 then (if pL P = 0 then some (pC P h (pl (hd x h)) 1) else none) else if pC P h (pl (hd x h)) 0 = 3 ∨ pC P h (pl (hd x h)) 0 = 4 then some (pC P h (pl (hd x h)) 1) else none) := by unfold tch; rw [if_pos (by omega)]
  have hhd : ∀ g, g < 3 → g ≠ h → ∀ z w', w' < 524288 → (∀ k, k < 3 → hd z k = hd x k) → hd (setH z h w') g = hd x g := fun g hg hne z w' hw' hz => by rw [hd_setHn (by omega) hg hw' hne]; exact hz g hg
  have ew : hd x h = hd x h := rfl
  unfold stp at hs
  have hw := hd_lt x h
  have hown := ha_lt (hd x h)
  have hbwn := hb_lt (hd x h)
  have hnwn := hn_lt (hd x h)
  have hown2 := ho_lt (hd x h)
  have hlwn := hl_lt (hd x h)
  have hcg : ∀ g, g < pH P → g ≠ h → MRh P σ g (hd x g) := fun g hg _ => hM.2 g hg
  have hcl := hM.1
  have hxv : ∀ k, k < 3 → hd x k = hd x k := fun _ _ => rfl
  have hLL : ∃ c, c < 6 ∧ σ.1 55 (2 * h + cO P h (pl (hd x h))) = nI c ∧ σ.1 66 c = nI (bl P h (pl (hd x h))) := ⟨c, hc, h55, h66⟩
  obtain ⟨w1, w2, w3, w4, w5⟩ := hWV
  generalize hwd : hd x h = w at *
  generalize hpd : pl w = p at *
  generalize hfd : pC P h p = f at *
  obtain ⟨c1, c2, c3, c4, c5⟩ := hcd
  obtain ⟨v1, v2, v3, v4, v5, v6⟩ := hVd
  have hk84 : 14 * c + pO P h p < 84 := by omega
  have hqn : p + 1 - of0 P h p = pO P h p + 1 := by omega
  have hp26 : p < 26 := by have := (hP.2.2.1 h (by omega)).2; omega
  -- putting a hand's word and cells together
  have hy0 : ∀ q a b n o l, q < 32 → a < 4 → b < 4 → n < 4 → o < 16 → l < 16 → hd (setH x h (mkw q a b n o l)) h = mkw q a b n o l ∧ (∀ g, g < 3 → g ≠ h → hd (setH x h (mkw q a b n o l)) g = hd x g) ∧ ∀ d, d < 3 → cv (setH x h (mkw q a b n o l)) d = cv x d := fun q a b n o l z1 z2 z3 z4 z5 z6 => ⟨hd_setH (by omega) (mkw_lt z1 z2 z3 z4 z5 z6), fun g hg hne => hd_setHn (by omega) hg (mkw_lt z1 z2 z3 z4 z5 z6) hne, fun d hd3 => cv_setH hd3 (by omega) (mkw_lt z1 z2 z3 z4 z5 z6)⟩
  have hy1 : ∀ e v q a b n o l, e < 3 → v < 4 → q < 32 → a < 4 → b < 4 → n < 4 → o < 16 → l < 16 → hd (setH (setV x e v) h (mkw q a b n o l)) h = mkw q a b n o l ∧ (∀ g, g < 3 → g ≠ h → hd (setH (setV x e v) h (mkw q a b n o l)) g = hd x g) ∧ (∀ d, d < 3 → cv (setH (setV x e v) h (mkw q a b n o l)) d = if d = e then v else cv x d) := fun e v q a b n o l y1 y2 z1 z2 z3 z4 z5 z6 => ⟨hd_setH (by omega) (mkw_lt z1 z2 z3 z4 z5 z6), fun g hg hne => by rw [hd_setHn (by omega) hg (mkw_lt z1 z2 z3 z4 z5 z6) hne, hd_setV y1 hg y2], fun d hd3 => by
    rw [cv_setH hd3 (by omega) (mkw_lt z1 z2 z3 z4 z5 z6)]
    by_cases ed : d = e
    · rw [if_pos ed, ed, cv_setV y1 y2]
    · rw [if_neg ed, cv_setVn y1 hd3 y2 ed]⟩
  unfold stpf at hs
  rw [hpd, if_neg (show ¬ pN P h ≤ p by omega)] at hs
  unfold f_X11_stepsOn f_X11_stepsOn_112 f_X11_stepsOn_208
  simp only [qi_0, qi_1, qi_2, qi_3, qi_4, qi_5, qi_6, qi_7, qi_8, qi_9, qi_10, qi_11, qi_12, qi_13, qi_14, qi_15, qi_16, qi_17, qi_19, qi_26, qi_31, qi_32, qi_35, qi_40, qi_42, qi_48, qi_50, qi_57, qi_59, qi_63, qi_64, qi_97, qi_120, qi_122, qi_210, qi_255, qi_511, qi_512, qi_1000, qi_6000, qi_13312, qi_14337, qi_16383, qi_16384, qi_524287]
  rw [hsn, p_bd, p_ck _ hk84 (by omega), p_ix (a := 14 * c + pO P h p) (by omega), p_nm, p_ck _ (by omega) (by omega), p_ix (a := h) (by omega), m2, nI_add, p_nm, p_ck _ hk84 (by omega), c1, p_nm, ← hqn]
  rcases le7 v1 with hk | hk | hk | hk | hk | hk | hk | hk
  · -- keep
    rw [if_neg (show ¬ f 0 = 1 by omega), if_neg (show ¬ f 0 = 2 by omega), if_neg (show ¬ f 0 = 3 by omega), if_neg (show ¬ f 0 = 4 by omega), if_neg (show ¬ f 0 = 5 by omega), if_neg (show ¬ f 0 = 6 by omega), if_neg (show ¬ f 0 = 7 by omega)] at hs
    simp only [Option.some.injEq] at hs
    obtain ⟨y1, y2, y3⟩ := hy0 (p + 1) (ha w) (ha w) (hn w) (ho w) (hl w) (by omega) hown hown hnwn hown2 hlwn
    rw [hs] at y1 y2 y3
    rw [i_eq hk, p_ck _ (by omega) (by omega), p_ck _ (by omega) (by omega), m3, p_nm]
    obtain ⟨σ2, e1, e2, e3⟩ := fin_eq (σ1 := sI σ 78 h (nI (ha w))) (q := p + 1) hP hX hh hp (by rw [r_sI1 (by decide)]; exact m1) (by obtain ⟨d, d1, d2, d3⟩ := hLL; exact ⟨d, d1, by rw [r_sI1 (by decide)]; exact d2, by rw [r_sI1 (by decide)]; exact d3⟩) (by omega) (by omega) hown hown hnwn hown2 hlwn y1 y2 (fun d hd3 => by rw [r_sI1 (by decide), y3 d hd3]; exact hcl d hd3) (by rw [r_sI1 (by decide)]; exact m3) r_sI0 (by rw [r_sI1 (by decide)]; exact m5) (fun z => by rw [r_sI1 (by decide), r_sI1 (by decide)]; exact m6 z) (fun z => by rw [r_sI1 (by decide), r_sI1 (by decide)]; exact m7 z) (fun g hg hne => MRh_of (hcg g hg hne) (by rw [r_sI1 (by decide)]) (by rw [r_sI1 (by decide)]) (by rw [r_sI1 (by decide)]) (r_sIj hne) (by rw [r_sI1 (by decide)]) (by rw [r_sI1 (by decide)]) (by rw [r_sI1 (by decide)]) (by rw [r_sI1 (by decide)]) (by rw [r_sI1 (by decide)]))
    refine ⟨σ2, e1, e2, fun z1 z2 => ?_, fun j hj => by rw [e3.r1 48 (by decide), r_sI1 (by decide)], ((Fr.rf _ _).sI (by decide)).tr (e3.mo (by intro k hk; revert k; decide))⟩
    rw [e3.r1 48 (by decide), r_sI1 (by decide), z1, htch, if_neg (by omega), if_neg (by omega), if_neg (by omega)]; rfl
  · -- read
    have g1 := v2 (by omega) (by omega)
    have c2 := c2 (by omega) (by omega)
    rw [if_pos hk] at hs
    simp only [Option.some.injEq] at hs
    have hsl := see_lt w x (f 1)
    obtain ⟨y1, y2, y3⟩ := hy0 (p + 1) (see w x (f 1)) (hb w) (hn w) (ho w) (hl w) (by omega) hsl hbwn hnwn hown2 hlwn
    rw [hs] at y1 y2 y3
    rw [i_ne (by omega) (by omega) (by omega), i_eq hk, c2, hwf _ g1, p_bd]
    have key : ∀ t47 : Int32, ∃ σ', bd (f_X11_goesOn (nI h) (nI (p + 1 - of0 P h p)) (sI (sI σ 48 47 t47) 77 h (nI (see w x (f 1))))) (fun _ σ => some ((), σ)) = some ((), σ') ∧ MR P σ' y ∧ σ'.1 48 47 = t47 ∧ (∀ j, j ≠ 47 → σ'.1 48 j = σ.1 48 j) ∧ Fr mL σ σ' := by
      intro t47
      obtain ⟨σ2, e1, e2, e3⟩ := fin_eq (σ1 := sI (sI σ 48 47 t47) 77 h (nI (see w x (f 1)))) (q := p + 1) hP hX hh hp (by rw [r_sI1 (by decide), r_sI1 (by decide)]; exact m1) (by obtain ⟨d, d1, d2, d3⟩ := hLL; exact ⟨d, d1, by rw [r_sI1 (by decide), r_sI1 (by decide)]; exact d2, by rw [r_sI1 (by decide), r_sI1 (by decide)]; exact d3⟩) (by omega) (by omega) hsl hbwn hnwn hown2 hlwn y1 y2 (fun d hd3 => by rw [r_sI1 (by decide), r_sI1 (by decide), y3 d hd3]; exact hcl d hd3) r_sI0 (by rw [r_sI1 (by decide), r_sI1 (by decide)]; exact m4) (by rw [r_sI1 (by decide), r_sI1 (by decide)]; exact m5) (fun z => by rw [r_sI1 (by decide), r_sI1 (by decide), r_sI1 (by decide), r_sI1 (by decide)]; exact m6 z) (fun z => by rw [r_sI1 (by decide), r_sI1 (by decide), r_sI1 (by decide), r_sI1 (by decide)]; exact m7 z) (fun g hg hne => MRh_of (hcg g hg hne) (by rw [r_sI1 (by decide), r_sI1 (by decide)]) (by rw [r_sI1 (by decide), r_sI1 (by decide)]) (by rw [r_sIj hne, r_sI1 (by decide)]) (by rw [r_sI1 (by decide), r_sI1 (by decide)]) (by rw [r_sI1 (by decide), r_sI1 (by decide)]) (by rw [r_sI1 (by decide), r_sI1 (by decide)]) (by rw [r_sI1 (by decide), r_sI1 (by decide)]) (by rw [r_sI1 (by decide), r_sI1 (by decide)]) (by rw [r_sI1 (by decide), r_sI1 (by decide)]))
      exact ⟨σ2, e1, e2, by rw [e3.r1 48 (by decide), r_sI1 (by decide), r_sI0], fun j hj => by rw [e3.r1 48 (by decide), r_sI1 (by decide), r_sIj hj], (((Fr.rf _ _).sI (by decide)).sI (by decide)).tr (e3.mo (by intro k hk; revert k; decide))⟩
    have htc : tch P x h = if wf w (f 1) = none then some (f 1) else none := by rw [htch, if_pos hk]
    cases hwfv : wf w (f 1) with
    | none =>
      have hse : see w x (f 1) = cv x (f 1) := by unfold see; rw [hwfv]; rfl
      obtain ⟨σ', k1, k2, k3, k4, k5⟩ := key (nI (f 1))
      rw [show iO none = -nI 1 from rfl, if_neg (show ¬ nI 0 ≤ -nI 1 by rw [p_m1le]; exact fun q => q), p_nm, if_neg (show ¬ nI 0 ≤ -nI 1 by rw [p_m1le]; exact fun q => q), p_ck _ g1 (by omega), p_ck _ (by omega) (by omega), p_ix (a := f 1) (by omega), r_sI1 (by decide), hcl _ g1, p_nm, ← hse]
      exact ⟨σ', k1, k2, fun _ _ => by rw [k3, htc, hwfv, if_pos rfl]; rfl, k4, k5⟩
    | some v =>
      have hv4 := wf_lt hwfv
      have hse : see w x (f 1) = v := by unfold see; rw [hwfv]; rfl
      obtain ⟨σ', k1, k2, k3, k4, k5⟩ := key (-nI 1)
      rw [show iO (some v) = nI v from rfl, i_le (by omega) (by omega), p_nm, i_le (by omega) (by omega), p_ck _ (by omega) (by omega), p_nm, ← hse]
      exact ⟨σ', k1, k2, fun _ _ => by rw [k3, htc, hwfv, if_neg (fun q => by cases q)]; rfl, k4, k5⟩
  · -- write
    have g1 := v2 (by omega) (by omega)
    have g2 := v3 hk
    have c2 := c2 (by omega) (by omega)
    have c3 := c3 (by omega)
    rw [if_neg (show ¬ f 0 = 1 by omega), if_pos hk] at hs
    have htc : tch P x h = if pL P = 0 then some (f 1) else none := by rw [htch, if_neg (by omega), if_pos hk]
    obtain ⟨u, hu⟩ : ∃ u, u = (if f 2 = 4 then hb w else f 2) := ⟨_, rfl⟩
    rw [← hu] at hs
    have hu4 : u < 4 := by rw [hu]; split <;> omega
    have key : ∃ σ', bd (f_X11_writesTo (nI h) (nI (f 1)) (nI u) (nI lt) σ) (fun _ σ21 => bd (f_X11_goesOn (nI h) (nI (p + 1 - of0 P h p)) σ21) (fun _ σ23 => some ((), σ23))) = some ((), σ') ∧ MR P σ' y ∧ (σ.1 48 47 = -nI 1 → lt = pL P → σ'.1 48 47 = iO (tch P x h)) ∧ (∀ j, j ≠ 47 → σ'.1 48 j = σ.1 48 j) ∧ Fr mL σ σ' := by
      unfold f_X11_writesTo
      simp only [qi_0, qi_1, qi_2, qi_3, qi_4, qi_5, qi_6, qi_7, qi_8, qi_9, qi_10, qi_11, qi_12, qi_13, qi_14, qi_15, qi_16, qi_17, qi_19, qi_26, qi_31, qi_32, qi_35, qi_40, qi_42, qi_48, qi_50, qi_57, qi_59, qi_63, qi_64, qi_97, qi_120, qi_122, qi_210, qi_255, qi_511, qi_512, qi_1000, qi_6000, qi_13312, qi_14337, qi_16383, qi_16384, qi_524287]
      by_cases l0 : lt = 0
      · rw [if_pos l0] at hs
        simp only [Option.some.injEq] at hs
        obtain ⟨y1, y2, y3⟩ := hy1 (f 1) u (p + 1) (ha w) (hb w) (hn w) (ho w) (hl w) g1 hu4 (by omega) hown hbwn hnwn hown2 hlwn
        rw [hs] at y1 y2 y3
        rw [i_eq l0, p_ck _ g1 (by omega), p_ix (a := f 1) (by omega), p_nm, p_nm, p_bd]
        obtain ⟨σ2, e1, e2, e3⟩ := fin_eq (σ1 := sI (sI σ 74 (f 1) (nI u)) 48 47 (nI (f 1))) (q := p + 1) hP hX hh hp (by rw [r_sI1 (by decide), r_sI1 (by decide)]; exact m1) (by obtain ⟨d, d1, d2, d3⟩ := hLL; exact ⟨d, d1, by rw [r_sI1 (by decide), r_sI1 (by decide)]; exact d2, by rw [r_sI1 (by decide), r_sI1 (by decide)]; exact d3⟩) (by omega) (by omega) hown hbwn hnwn hown2 hlwn y1 y2 (fun d hd3 => by
          rw [r_sI1 (by decide), y3 d hd3]
          by_cases ed : d = f 1
          · rw [if_pos ed, ed, r_sI0]
          · rw [if_neg ed, r_sIj ed]; exact hcl d hd3) (by rw [r_sI1 (by decide), r_sI1 (by decide)]; exact m3) (by rw [r_sI1 (by decide), r_sI1 (by decide)]; exact m4) (by rw [r_sI1 (by decide), r_sI1 (by decide)]; exact m5) (fun z => by rw [r_sI1 (by decide), r_sI1 (by decide), r_sI1 (by decide), r_sI1 (by decide)]; exact m6 z) (fun z => by rw [r_sI1 (by decide), r_sI1 (by decide), r_sI1 (by decide), r_sI1 (by decide)]; exact m7 z) (fun g hg hne => MRh_of (hcg g hg hne) (by rw [r_sI1 (by decide), r_sI1 (by decide)]) (by rw [r_sI1 (by decide), r_sI1 (by decide)]) (by rw [r_sI1 (by decide), r_sI1 (by decide)]) (by rw [r_sI1 (by decide), r_sI1 (by decide)]) (by rw [r_sI1 (by decide), r_sI1 (by decide)]) (by rw [r_sI1 (by decide), r_sI1 (by decide)]) (by rw [r_sI1 (by decide), r_sI1 (by decide)]) (by rw [r_sI1 (by decide), r_sI1 (by decide)]) (by rw [r_sI1 (by decide), r_sI1 (by decide)]))
        exact ⟨σ2, e1, e2, fun _ z2 => by rw [e3.r1 48 (by decide), r_sI0, htc, if_pos (by omega)]; rfl, fun j hj => by rw [e3.r1 48 (by decide), r_sIj hj, r_sI1 (by decide)], (((Fr.rf _ _).sI (by decide)).sI (by decide)).tr (e3.mo (by intro k hk; revert k; decide))⟩
      · rw [if_neg l0] at hs
        split at hs
        · cases hs
        · rename_i hn2
          have e01 : ∀ g, g < 3 → g ≠ h → 2 * g ≠ 2 * h + hn w ∧ 2 * g + 1 ≠ 2 * h + hn w := fun g _ hne => by omega
          rw [i_ne (by omega) (by omega) l0, p_ck _ (by omega) (by omega), p_ix (a := h) (by omega), m5, pk_mul, nI_add, p_ck _ (by omega) (by omega), p_ix (a := 2 * h + hn w) (by omega), p_nm, p_ck _ (by omega) (by omega), r_sI1 (by decide), m5, nI_add, p_ck _ (by omega) (by omega), p_ix (a := 2 * h + hn w) (by omega), p_nm, p_ck _ (by omega) (by omega), p_ck _ (by omega) (by omega), r_sI1 (by decide), r_sI1 (by decide), m5, nI_add, p_nm, p_bd]
          have base := fun (o l : Nat) (ho' : o < 16) (hl' : l < 16) (y1 : hd y h = mkw (p + 1) (ha w) (hb w) (hn w + 1) o l) (y2 : ∀ g, g < 3 → g ≠ h → hd y g = hd x g) (y3 : ∀ d, d < 3 → cv y d = cv x d) (r80 : 1 ≤ hn w + 1 → (sI (sI (sI σ 80 (2 * h + hn w) (nI (f 1))) 81 (2 * h + hn w) (nI u)) 79 h (nI (hn w + 1))).1 80 (2 * h) = nI (o / 4) ∧ (sI (sI (sI σ 80 (2 * h + hn w) (nI (f 1))) 81 (2 * h + hn w) (nI u)) 79 h (nI (hn w + 1))).1 81 (2 * h) = nI (o % 4)) (r81 : hn w + 1 = 2 → (sI (sI (sI σ 80 (2 * h + hn w) (nI (f 1))) 81 (2 * h + hn w) (nI u)) 79 h (nI (hn w + 1))).1 80 (2 * h + 1) = nI (l / 4) ∧ (sI (sI (sI σ 80 (2 * h + hn w) (nI (f 1))) 81 (2 * h + hn w) (nI u)) 79 h (nI (hn w + 1))).1 81 (2 * h + 1) = nI (l % 4)) => fin_eq (x := x) (σ1 := sI (sI (sI σ 80 (2 * h + hn w) (nI (f 1))) 81 (2 * h + hn w) (nI u)) 79 h (nI (hn w + 1))) (q := p + 1) hP hX hh hp (by rw [r_sI1 (by decide), r_sI1 (by decide), r_sI1 (by decide)]; exact m1) (by obtain ⟨d, d1, d2, d3⟩ := hLL; exact ⟨d, d1, by rw [r_sI1 (by decide), r_sI1 (by decide), r_sI1 (by decide)]; exact d2, by rw [r_sI1 (by decide), r_sI1 (by decide), r_sI1 (by decide)]; exact d3⟩) (by omega) (by omega) hown hbwn (by omega) ho' hl' y1 y2 (fun d hd3 => by rw [r_sI1 (by decide), r_sI1 (by decide), r_sI1 (by decide), y3 d hd3]; exact hcl d hd3) (by rw [r_sI1 (by decide), r_sI1 (by decide), r_sI1 (by decide)]; exact m3) (by rw [r_sI1 (by decide), r_sI1 (by decide), r_sI1 (by decide)]; exact m4) r_sI0 r80 r81 (fun g hg hne => MRh_of (hcg g hg hne) (by rw [r_sI1 (by decide), r_sI1 (by decide), r_sI1 (by decide)]) (by rw [r_sI1 (by decide), r_sI1 (by decide), r_sI1 (by decide)]) (by rw [r_sI1 (by decide), r_sI1 (by decide), r_sI1 (by decide)]) (by rw [r_sI1 (by decide), r_sI1 (by decide), r_sI1 (by decide)]) (by rw [r_sIj hne, r_sI1 (by decide), r_sI1 (by decide)]) (by rw [r_sI1 (by decide), r_sI1 (by decide), r_sIj (e01 g (by omega) hne).1]) (by rw [r_sI1 (by decide), r_sIj (e01 g (by omega) hne).1, r_sI1 (by decide)]) (by rw [r_sI1 (by decide), r_sI1 (by decide), r_sIj (e01 g (by omega) hne).2]) (by rw [r_sI1 (by decide), r_sIj (e01 g (by omega) hne).2, r_sI1 (by decide)]))
          have fin2 : (∃ σ2, bd (f_X11_goesOn (nI h) (nI (p + 1 - of0 P h p)) (sI (sI (sI σ 80 (2 * h + hn w) (nI (f 1))) 81 (2 * h + hn w) (nI u)) 79 h (nI (hn w + 1)))) (fun _ σ => some ((), σ)) = some ((), σ2) ∧ MR P σ2 y ∧ Fr [75, 76] (sI (sI (sI σ 80 (2 * h + hn w) (nI (f 1))) 81 (2 * h + hn w) (nI u)) 79 h (nI (hn w + 1))) σ2) → ∃ σ', bd (f_X11_goesOn (nI h) (nI (p + 1 - of0 P h p)) (sI (sI (sI σ 80 (2 * h + hn w) (nI (f 1))) 81 (2 * h + hn w) (nI u)) 79 h (nI (hn w + 1)))) (fun _ σ23 => some ((), σ23)) = some ((), σ') ∧ MR P σ' y ∧ (σ.1 48 47 = -nI 1 → lt = pL P → σ'.1 48 47 = iO (tch P x h)) ∧ (∀ j, j ≠ 47 → σ'.1 48 j = σ.1 48 j) ∧ Fr mL σ σ' := by
            rintro ⟨σ2, e1, e2, e3⟩
            exact ⟨σ2, e1, e2, fun z1 z2 => by rw [e3.r1 48 (by decide), r_sI1 (by decide), r_sI1 (by decide), r_sI1 (by decide), z1, htc, if_neg (by omega)]; rfl, fun j hj => by rw [e3.r1 48 (by decide), r_sI1 (by decide), r_sI1 (by decide), r_sI1 (by decide)], ((((Fr.rf _ _).sI (by decide)).sI (by decide)).sI (by decide)).tr (e3.mo (by intro k hk; revert k; decide))⟩
          have hdm : (4 * f 1 + u) / 4 = f 1 ∧ (4 * f 1 + u) % 4 = u := by omega
          split at hs
          · rename_i h0
            simp only [Option.some.injEq] at hs
            obtain ⟨y1, y2, y3⟩ := hy0 (p + 1) (ha w) (hb w) 1 (4 * f 1 + u) 0 (by omega) hown hbwn (by omega) (by omega) (by omega)
            rw [hs] at y1 y2 y3
            exact fin2 (base (4 * f 1 + u) 0 (by omega) (by omega) (by rw [h0]; exact y1) y2 y3 (fun _ => ⟨by rw [r_sI1 (by decide), r_sI1 (by decide), h0, Nat.add_zero, r_sI0, hdm.1], by rw [r_sI1 (by decide), h0, Nat.add_zero, r_sI0, hdm.2]⟩) (fun z => by omega))
          · rename_i h0
            have h1n : hn w = 1 := by omega
            simp only [Option.some.injEq] at hs
            obtain ⟨y1, y2, y3⟩ := hy0 (p + 1) (ha w) (hb w) 2 (ho w) (4 * f 1 + u) (by omega) hown hbwn (by omega) hown2 (by omega)
            rw [hs] at y1 y2 y3
            exact fin2 (base (ho w) (4 * f 1 + u) hown2 (by omega) (by rw [h1n]; exact y1) y2 y3 (fun _ => ⟨by rw [r_sI1 (by decide), r_sI1 (by decide), r_sIj (by omega)]; exact (m6 (by omega)).1, by rw [r_sI1 (by decide), r_sIj (by omega), r_sI1 (by decide)]; exact (m6 (by omega)).2⟩) (fun _ => ⟨by rw [r_sI1 (by decide), r_sI1 (by decide), h1n, r_sI0, hdm.1], by rw [r_sI1 (by decide), h1n, r_sI0, hdm.2]⟩))
    rw [i_ne (by omega) (by omega) (by omega), i_ne (by omega) (by omega) (by omega), i_eq hk, p_ck _ hk84 (by omega), c3, c2]
    by_cases h4 : f 2 = 4
    · rw [if_pos h4] at hu
      rw [show vI (f 2) = -nI 1 from if_pos h4, if_neg (show ¬ nI 0 ≤ -nI 1 by rw [p_m1le]; exact fun q => q), p_ck _ (by omega) (by omega), m4, ← hu]
      exact key
    · rw [if_neg h4] at hu
      rw [show vI (f 2) = nI (f 2) from if_neg h4, i_le (by omega) (by omega), p_ck _ hk84 (by omega), ← hu]
      exact key
  · -- swap
    have g1 := v2 (by omega) (by omega)
    have g2 := v4 (by omega)
    have g3 := v5 hk
    have c2 := c2 (by omega) (by omega)
    have c3 : σ.1 69 (14 * c + pO P h p) = nI (f 2) := (c3 (by omega)).trans (if_neg (by omega))
    have c4 := c4 hk
    have hcv := cv_lt x (f 1)
    rw [if_neg (show ¬ f 0 = 1 by omega), if_neg (show ¬ f 0 = 2 by omega), if_pos hk] at hs
    have htc : tch P x h = some (f 1) := by rw [htch, if_neg (by omega), if_neg (by omega), if_pos (Or.inl hk)]
    split at hs
    · rename_i h0
      have z1 := w2 h0
      have z2 := w3 (by omega)
      rw [i_ne (by omega) (by omega) (by omega), i_ne (by omega) (by omega) (by omega), i_ne (by omega) (by omega) (by omega), i_eq hk, c2, p_nm, p_ck _ g1 (by omega), p_ck _ hk84 (by omega), p_ix (a := f 1) (by omega), r_sI1 (by decide), r_sI1 (by decide), hcl _ g1, c3]
      by_cases e : cv x (f 1) = f 2
      · rw [if_pos e] at hs
        simp only [Option.some.injEq] at hs
        obtain ⟨y1, y2, y3⟩ := hy1 (f 1) (f 3) (p + 1) 1 (hb w) 0 0 0 g1 g3 (by omega) (by omega) hbwn (by omega) (by omega) (by omega)
        rw [hs] at y1 y2 y3
        rw [i_eq e, p_ck _ (by omega) (by omega), p_nm, p_ck _ (by omega) (by omega), r_sI0, i_eq rfl, p_ck _ hk84 (by omega), p_ck _ g1 (by omega), r_sI1 (by decide), r_sI1 (by decide), c4, p_nm]
        obtain ⟨σ2, e1, e2, e3⟩ := fin_eq (σ1 := sI (sI (sI σ 48 47 (nI (f 1))) 77 h (nI 1)) 74 (f 1) (nI (f 3))) (q := p + 1) hP hX hh hp (by rw [r_sI1 (by decide), r_sI1 (by decide), r_sI1 (by decide)]; exact m1) (by obtain ⟨d, d1, d2, d3⟩ := hLL; exact ⟨d, d1, by rw [r_sI1 (by decide), r_sI1 (by decide), r_sI1 (by decide)]; exact d2, by rw [r_sI1 (by decide), r_sI1 (by decide), r_sI1 (by decide)]; exact d3⟩) (by omega) (by omega) (by omega) hbwn (by omega) (by omega) (by omega) y1 y2 (fun d hd3 => by
          rw [y3 d hd3]
          by_cases ed : d = f 1
          · rw [if_pos ed, ed, r_sI0]
          · rw [if_neg ed, r_sIj ed, r_sI1 (by decide), r_sI1 (by decide)]; exact hcl d hd3) (by rw [r_sI1 (by decide), r_sI0]) (by rw [r_sI1 (by decide), r_sI1 (by decide), r_sI1 (by decide)]; exact m4) (by rw [r_sI1 (by decide), r_sI1 (by decide), r_sI1 (by decide)]; rw [m5, h0]) (fun z => by omega) (fun z => by omega) (fun g hg hne => MRh_of (hcg g hg hne) (by rw [r_sI1 (by decide), r_sI1 (by decide), r_sI1 (by decide)]) (by rw [r_sI1 (by decide), r_sI1 (by decide), r_sI1 (by decide)]) (by rw [r_sI1 (by decide), r_sIj hne, r_sI1 (by decide)]) (by rw [r_sI1 (by decide), r_sI1 (by decide), r_sI1 (by decide)]) (by rw [r_sI1 (by decide), r_sI1 (by decide), r_sI1 (by decide)]) (by rw [r_sI1 (by decide), r_sI1 (by decide), r_sI1 (by decide)]) (by rw [r_sI1 (by decide), r_sI1 (by decide), r_sI1 (by decide)]) (by rw [r_sI1 (by decide), r_sI1 (by decide), r_sI1 (by decide)]) (by rw [r_sI1 (by decide), r_sI1 (by decide), r_sI1 (by decide)]))
        exact ⟨σ2, e1, e2, fun _ _ => by rw [e3.r1 48 (by decide), r_sI1 (by decide), r_sI1 (by decide), r_sI0, htc]; rfl, fun j hj => by rw [e3.r1 48 (by decide), r_sI1 (by decide), r_sI1 (by decide), r_sIj hj], ((((Fr.rf _ _).sI (by decide)).sI (by decide)).sI (by decide)).tr (e3.mo (by intro k hk; revert k; decide))⟩
      · rw [if_neg e] at hs
        simp only [Option.some.injEq] at hs
        obtain ⟨y1, y2, y3⟩ := hy0 (p + 1) 0 (hb w) 0 0 0 (by omega) (by omega) hbwn (by omega) (by omega) (by omega)
        rw [hs] at y1 y2 y3
        rw [i_ne (by omega) (by omega) e, p_ck _ (by omega) (by omega), p_nm, p_ck _ (by omega) (by omega), r_sI0, i_ne (by omega) (by omega) (by omega), p_ck _ g1 (by omega), p_ck _ g1 (by omega), r_sI1 (by decide), r_sI1 (by decide), hcl _ g1, p_nm]
        obtain ⟨σ2, e1, e2, e3⟩ := fin_eq (σ1 := sI (sI (sI σ 48 47 (nI (f 1))) 77 h (nI 0)) 74 (f 1) (nI (cv x (f 1)))) (q := p + 1) hP hX hh hp (by rw [r_sI1 (by decide), r_sI1 (by decide), r_sI1 (by decide)]; exact m1) (by obtain ⟨d, d1, d2, d3⟩ := hLL; exact ⟨d, d1, by rw [r_sI1 (by decide), r_sI1 (by decide), r_sI1 (by decide)]; exact d2, by rw [r_sI1 (by decide), r_sI1 (by decide), r_sI1 (by decide)]; exact d3⟩) (by omega) (by omega) (by omega) hbwn (by omega) (by omega) (by omega) y1 y2 (fun d hd3 => by
          rw [y3 d hd3]
          by_cases ed : d = f 1
          · rw [ed, r_sI0]
          · rw [r_sIj ed, r_sI1 (by decide), r_sI1 (by decide)]; exact hcl d hd3) (by rw [r_sI1 (by decide), r_sI0]) (by rw [r_sI1 (by decide), r_sI1 (by decide), r_sI1 (by decide)]; exact m4) (by rw [r_sI1 (by decide), r_sI1 (by decide), r_sI1 (by decide)]; rw [m5, h0]) (fun z => by omega) (fun z => by omega) (fun g hg hne => MRh_of (hcg g hg hne) (by rw [r_sI1 (by decide), r_sI1 (by decide), r_sI1 (by decide)]) (by rw [r_sI1 (by decide), r_sI1 (by decide), r_sI1 (by decide)]) (by rw [r_sI1 (by decide), r_sIj hne, r_sI1 (by decide)]) (by rw [r_sI1 (by decide), r_sI1 (by decide), r_sI1 (by decide)]) (by rw [r_sI1 (by decide), r_sI1 (by decide), r_sI1 (by decide)]) (by rw [r_sI1 (by decide), r_sI1 (by decide), r_sI1 (by decide)]) (by rw [r_sI1 (by decide), r_sI1 (by decide), r_sI1 (by decide)]) (by rw [r_sI1 (by decide), r_sI1 (by decide), r_sI1 (by decide)]) (by rw [r_sI1 (by decide), r_sI1 (by decide), r_sI1 (by decide)]))
        exact ⟨σ2, e1, e2, fun _ _ => by rw [e3.r1 48 (by decide), r_sI1 (by decide), r_sI1 (by decide), r_sI0, htc]; rfl, fun j hj => by rw [e3.r1 48 (by decide), r_sI1 (by decide), r_sI1 (by decide), r_sIj hj], ((((Fr.rf _ _).sI (by decide)).sI (by decide)).sI (by decide)).tr (e3.mo (by intro k hk; revert k; decide))⟩
    · cases hs
  · -- add
    have g1 := v2 (by omega) (by omega)
    have g2 := v4 (by omega)
    have c2 := c2 (by omega) (by omega)
    have c3 : σ.1 69 (14 * c + pO P h p) = nI (f 2) := (c3 (by omega)).trans (if_neg (by omega))
    have hcv := cv_lt x (f 1)
    have hmd : (cv x (f 1) + f 2) % 4 < 4 := Nat.mod_lt _ (by omega)
    rw [if_neg (show ¬ f 0 = 1 by omega), if_neg (show ¬ f 0 = 2 by omega), if_neg (show ¬ f 0 = 3 by omega), if_pos hk] at hs
    have htc : tch P x h = some (f 1) := by rw [htch, if_neg (by omega), if_neg (by omega), if_pos (Or.inr hk)]
    split at hs
    · rename_i h0
      simp only [Option.some.injEq] at hs
      obtain ⟨y1, y2, y3⟩ := hy1 (f 1) ((cv x (f 1) + f 2) % 4) (p + 1) (cv x (f 1)) (hb w) 0 0 0 g1 hmd (by omega) hcv hbwn (by omega) (by omega) (by omega)
      rw [hs] at y1 y2 y3
      rw [i_ne (by omega) (by omega) (by omega), i_ne (by omega) (by omega) (by omega), i_ne (by omega) (by omega) (by omega), i_ne (by omega) (by omega) (by omega), i_eq hk, c2, p_nm, p_ck _ g1 (by omega), p_ck _ (by omega) (by omega), p_ix (a := f 1) (by omega), r_sI1 (by decide), hcl _ g1, p_nm, p_ck _ g1 (by omega), p_ck _ hk84 (by omega), p_ck _ g1 (by omega), r_sI1 (by decide), r_sI1 (by decide), r_sI1 (by decide), r_sI1 (by decide), hcl _ g1, c3, nI_add, p_irm (by omega) (by omega) (by omega), p_nm]
      obtain ⟨σ2, e1, e2, e3⟩ := fin_eq (σ1 := sI (sI (sI σ 48 47 (nI (f 1))) 77 h (nI (cv x (f 1)))) 74 (f 1) (nI ((cv x (f 1) + f 2) % 4))) (q := p + 1) hP hX hh hp (by rw [r_sI1 (by decide), r_sI1 (by decide), r_sI1 (by decide)]; exact m1) (by obtain ⟨d, d1, d2, d3⟩ := hLL; exact ⟨d, d1, by rw [r_sI1 (by decide), r_sI1 (by decide), r_sI1 (by decide)]; exact d2, by rw [r_sI1 (by decide), r_sI1 (by decide), r_sI1 (by decide)]; exact d3⟩) (by omega) (by omega) hcv hbwn (by omega) (by omega) (by omega) y1 y2 (fun d hd3 => by
        rw [y3 d hd3]
        by_cases ed : d = f 1
        · rw [if_pos ed, ed, r_sI0]
        · rw [if_neg ed, r_sIj ed, r_sI1 (by decide), r_sI1 (by decide)]; exact hcl d hd3) (by rw [r_sI1 (by decide), r_sI0]) (by rw [r_sI1 (by decide), r_sI1 (by decide), r_sI1 (by decide)]; exact m4) (by rw [r_sI1 (by decide), r_sI1 (by decide), r_sI1 (by decide)]; rw [m5, h0]) (fun z => by omega) (fun z => by omega) (fun g hg hne => MRh_of (hcg g hg hne) (by rw [r_sI1 (by decide), r_sI1 (by decide), r_sI1 (by decide)]) (by rw [r_sI1 (by decide), r_sI1 (by decide), r_sI1 (by decide)]) (by rw [r_sI1 (by decide), r_sIj hne, r_sI1 (by decide)]) (by rw [r_sI1 (by decide), r_sI1 (by decide), r_sI1 (by decide)]) (by rw [r_sI1 (by decide), r_sI1 (by decide), r_sI1 (by decide)]) (by rw [r_sI1 (by decide), r_sI1 (by decide), r_sI1 (by decide)]) (by rw [r_sI1 (by decide), r_sI1 (by decide), r_sI1 (by decide)]) (by rw [r_sI1 (by decide), r_sI1 (by decide), r_sI1 (by decide)]) (by rw [r_sI1 (by decide), r_sI1 (by decide), r_sI1 (by decide)]))
      exact ⟨σ2, e1, e2, fun _ _ => by rw [e3.r1 48 (by decide), r_sI1 (by decide), r_sI1 (by decide), r_sI0, htc]; rfl, fun j hj => by rw [e3.r1 48 (by decide), r_sI1 (by decide), r_sI1 (by decide), r_sIj hj], ((((Fr.rf _ _).sI (by decide)).sI (by decide)).sI (by decide)).tr (e3.mo (by intro k hk; revert k; decide))⟩
    · cases hs
  · -- fence
    rw [if_neg (show ¬ f 0 = 1 by omega), if_neg (show ¬ f 0 = 2 by omega), if_neg (show ¬ f 0 = 3 by omega), if_neg (show ¬ f 0 = 4 by omega), if_pos hk] at hs
    have htc : tch P x h = none := by rw [htch, if_neg (by omega), if_neg (by omega), if_neg (by omega)]
    split at hs
    · rename_i h0
      simp only [Option.some.injEq] at hs
      obtain ⟨y1, y2, y3⟩ := hy0 (p + 1) (ha w) (hb w) 0 0 0 (by omega) hown hbwn (by omega) (by omega) (by omega)
      rw [hs] at y1 y2 y3
      rw [i_ne (by omega) (by omega) (by omega), i_ne (by omega) (by omega) (by omega), i_ne (by omega) (by omega) (by omega), i_ne (by omega) (by omega) (by omega), i_ne (by omega) (by omega) (by omega), i_eq hk]
      obtain ⟨σ2, e1, e2, e3⟩ := fin_eq (σ1 := σ) (q := p + 1) hP hX hh hp m1 hLL (by omega) (by omega) hown hbwn (by omega) (by omega) (by omega) y1 y2 (fun d hd3 => by rw [y3 d hd3]; exact hcl d hd3) m3 m4 (by rw [m5, h0]) (fun z => by omega) (fun z => by omega) hcg
      exact ⟨σ2, e1, e2, fun z1 _ => by rw [e3.r1 48 (by decide), z1, htc]; rfl, fun j hj => by rw [e3.r1 48 (by decide)], e3.mo (by intro k hk; revert k; decide)⟩
    · cases hs
  · -- again
    have g6 := v6 hk
    obtain ⟨c51, c52⟩ := c5 hk
    rw [if_neg (show ¬ f 0 = 1 by omega), if_neg (show ¬ f 0 = 2 by omega), if_neg (show ¬ f 0 = 3 by omega), if_neg (show ¬ f 0 = 4 by omega), if_neg (show ¬ f 0 = 5 by omega), if_pos hk] at hs
    have htc : tch P x h = none := by rw [htch, if_neg (by omega), if_neg (by omega), if_neg (by omega)]
    rw [i_ne (by omega) (by omega) (by omega), i_ne (by omega) (by omega) (by omega), i_ne (by omega) (by omega) (by omega), i_ne (by omega) (by omega) (by omega), i_ne (by omega) (by omega) (by omega), i_ne (by omega) (by omega) (by omega), i_eq hk, p_ck _ (by omega) (by omega), m3]
    split at hs
    · rename_i a0
      simp only [Option.some.injEq] at hs
      obtain ⟨y1, y2, y3⟩ := hy0 (f 4) (ha w) (hb w) (hn w) (ho w) (hl w) (by omega) hown hbwn hnwn hown2 hlwn
      rw [hs] at y1 y2 y3
      rw [i_eq a0, p_ck _ hk84 (by omega), c52, p_nm]
      obtain ⟨σ2, e1, e2, e3⟩ := fin_eq (σ1 := σ) (q := f 4) hP hX hh hp m1 hLL (by omega) (by omega) hown hbwn hnwn hown2 hlwn y1 y2 (fun d hd3 => by rw [y3 d hd3]; exact hcl d hd3) m3 m4 m5 m6 m7 hcg
      exact ⟨σ2, e1, e2, fun z1 _ => by rw [e3.r1 48 (by decide), z1, htc]; rfl, fun j hj => by rw [e3.r1 48 (by decide)], e3.mo (by intro k hk; revert k; decide)⟩
    · rename_i a0
      simp only [Option.some.injEq] at hs
      obtain ⟨y1, y2, y3⟩ := hy0 (p + 1) (ha w) (hb w) (hn w) (ho w) (hl w) (by omega) hown hbwn hnwn hown2 hlwn
      rw [hs] at y1 y2 y3
      rw [i_ne (by omega) (by omega) a0]
      obtain ⟨σ2, e1, e2, e3⟩ := fin_eq (σ1 := σ) (q := p + 1) hP hX hh hp m1 hLL (by omega) (by omega) hown hbwn hnwn hown2 hlwn y1 y2 (fun d hd3 => by rw [y3 d hd3]; exact hcl d hd3) m3 m4 m5 m6 m7 hcg
      exact ⟨σ2, e1, e2, fun z1 _ => by rw [e3.r1 48 (by decide), z1, htc]; rfl, fun j hj => by rw [e3.r1 48 (by decide)], e3.mo (by intro k hk; revert k; decide)⟩
  · -- set
    have g2 := v4 (by omega)
    have c3 : σ.1 69 (14 * c + pO P h p) = nI (f 2) := (c3 (by omega)).trans (if_neg (by omega))
    rw [if_neg (show ¬ f 0 = 1 by omega), if_neg (show ¬ f 0 = 2 by omega), if_neg (show ¬ f 0 = 3 by omega), if_neg (show ¬ f 0 = 4 by omega), if_neg (show ¬ f 0 = 5 by omega), if_neg (show ¬ f 0 = 6 by omega), if_pos hk] at hs
    have htc : tch P x h = none := by rw [htch, if_neg (by omega), if_neg (by omega), if_neg (by omega)]
    simp only [Option.some.injEq] at hs
    obtain ⟨y1, y2, y3⟩ := hy0 (p + 1) (f 2) (hb w) (hn w) (ho w) (hl w) (by omega) g2 hbwn hnwn hown2 hlwn
    rw [hs] at y1 y2 y3
    rw [i_ne (by omega) (by omega) (by omega), i_ne (by omega) (by omega) (by omega), i_ne (by omega) (by omega) (by omega), i_ne (by omega) (by omega) (by omega), i_ne (by omega) (by omega) (by omega), i_ne (by omega) (by omega) (by omega), i_ne (by omega) (by omega) (by omega), i_eq hk, p_ck _ hk84 (by omega), p_ck _ (by omega) (by omega), c3, p_nm]
    obtain ⟨σ2, e1, e2, e3⟩ := fin_eq (σ1 := sI σ 77 h (nI (f 2))) (q := p + 1) hP hX hh hp (by rw [r_sI1 (by decide)]; exact m1) (by obtain ⟨d, d1, d2, d3⟩ := hLL; exact ⟨d, d1, by rw [r_sI1 (by decide)]; exact d2, by rw [r_sI1 (by decide)]; exact d3⟩) (by omega) (by omega) g2 hbwn hnwn hown2 hlwn y1 y2 (fun d hd3 => by rw [r_sI1 (by decide), y3 d hd3]; exact hcl d hd3) r_sI0 (by rw [r_sI1 (by decide)]; exact m4) (by rw [r_sI1 (by decide)]; exact m5) (fun z => by rw [r_sI1 (by decide), r_sI1 (by decide)]; exact m6 z) (fun z => by rw [r_sI1 (by decide), r_sI1 (by decide)]; exact m7 z) (fun g hg hne => MRh_of (hcg g hg hne) (by rw [r_sI1 (by decide)]) (by rw [r_sI1 (by decide)]) (r_sIj hne) (by rw [r_sI1 (by decide)]) (by rw [r_sI1 (by decide)]) (by rw [r_sI1 (by decide)]) (by rw [r_sI1 (by decide)]) (by rw [r_sI1 (by decide)]) (by rw [r_sI1 (by decide)]))
    exact ⟨σ2, e1, e2, fun z1 _ => by rw [e3.r1 48 (by decide), r_sI1 (by decide), z1, htc]; rfl, fun j hj => by rw [e3.r1 48 (by decide), r_sI1 (by decide)], ((Fr.rf _ _).sI (by decide)).tr (e3.mo (by intro k hk; revert k; decide))⟩
