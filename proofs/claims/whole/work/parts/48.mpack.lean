/-! PURE: the reference's moves, packed states -/
def mOf (k : Nat) : Nat := if k < 3 then k else 7 + k
theorem moveOf_eq {k : Nat} (hk : k < 6) (σ : Mm) : f_X11_moveOf (nI k) σ = some (nI (mOf k), σ) := by
  unfold f_X11_moveOf mOf
  simp only [qi_0, qi_1, qi_2, qi_3, qi_4, qi_5, qi_6, qi_7, qi_8, qi_9, qi_10, qi_11, qi_12, qi_13, qi_14, qi_15, qi_16, qi_17, qi_19, qi_26, qi_31, qi_32, qi_35, qi_40, qi_42, qi_48, qi_50, qi_57, qi_59, qi_63, qi_64, qi_97, qi_120, qi_122, qi_210, qi_255, qi_511, qi_512, qi_1000, qi_6000, qi_13312, qi_14337, qi_16383, qi_16384, qi_524287]
  by_cases c : k < 3
  · rw [i_nle (by omega) c, if_pos c]
  · rw [i_le (by omega) (by omega), if_neg c, nI_add]
theorem does_eq {P : Pg} {σ : Mm} {x y k : Nat} (hP : PgV P) (hX : PgX P) (hL : LdM P σ) (hV : VS P x) (hM : MR P σ x) (hk : k < 6) (hs : mv P (pL P) x k = some y) :
    ∃ σ', f_X11_does (nI (mOf k)) (nI (pL P)) σ = some ((), σ') ∧ MR P σ' y ∧ σ'.1 48 47 = iO (tch P x k) ∧ (∀ j, j ≠ 47 → σ'.1 48 j = σ.1 48 j) ∧ Fr mL σ σ' := by
  have hH := hP.1
  have hl1 := hP.2.1
  unfold mv at hs
  unfold f_X11_does
  simp only [qi_0, qi_1, qi_2, qi_3, qi_4, qi_5, qi_6, qi_7, qi_8, qi_9, qi_10, qi_11, qi_12, qi_13, qi_14, qi_15, qi_16, qi_17, qi_19, qi_26, qi_31, qi_32, qi_35, qi_40, qi_42, qi_48, qi_50, qi_57, qi_59, qi_63, qi_64, qi_97, qi_120, qi_122, qi_210, qi_255, qi_511, qi_512, qi_1000, qi_6000, qi_13312, qi_14337, qi_16383, qi_16384, qi_524287]
  rw [p_nm]
  by_cases c : k < 3
  · rw [if_pos c] at hs
    have em : mOf k = k := if_pos c
    have hh : k < pH P := by
      apply Classical.byContradiction
      intro q
      unfold stp stpf at hs
      rw [if_pos (by rw [hP.2.2.2.1 k (by omega)]; exact Nat.zero_le _)] at hs
      cases hs
    have hM1 : MR P (sI σ 48 47 (-nI 1)) x := ⟨fun d hd3 => by rw [r_sI1 (by decide)]; exact hM.1 d hd3, fun g hg => MRh_of (hM.2 g hg) (by rw [r_sI1 (by decide)]) (by rw [r_sI1 (by decide)]) (by rw [r_sI1 (by decide)]) (by rw [r_sI1 (by decide)]) (by rw [r_sI1 (by decide)]) (by rw [r_sI1 (by decide)]) (by rw [r_sI1 (by decide)]) (by rw [r_sI1 (by decide)]) (by rw [r_sI1 (by decide)])⟩
    have hL1 : LdM P (sI σ 48 47 (-nI 1)) := by
      obtain ⟨l1, l2, l3⟩ := hL
      unfold CdM at l3
      refine ⟨by rw [r_sIj (by decide)]; exact l1, fun h hh => by rw [r_sI1 (by decide)]; exact l2 h hh, fun h p hh hp => ?_⟩
      obtain ⟨d, d1, d2, d3, d4⟩ := l3 h p hh hp
      refine ⟨d, d1, by rw [r_sI1 (by decide)]; exact d2, by rw [r_sI1 (by decide)]; exact d3, ?_⟩
      unfold CdM
      rw [r_sI1 (by decide), r_sI1 (by decide), r_sI1 (by decide), r_sI1 (by decide), r_sI1 (by decide)]
      exact d4
    obtain ⟨σ', e1, e2, e3, e4, e5⟩ := stepsOn_eq (lt := pL P) hP hX hL1 hV hM1 hh (by omega) hs
    rw [em, i_nle (by omega) (by omega), e1, p_bd]
    exact ⟨σ', rfl, e2, e3 r_sI0 rfl, fun j hj => by rw [e4 j hj, r_sIj hj], ((Fr.rf _ _).sI (by decide)).tr e5⟩
  · rw [if_neg c] at hs
    have em : mOf k = k - 3 + 10 := by unfold mOf; rw [if_neg c]; omega
    have htc : tch P x k = some (ho (hd x (k - 3)) / 4) := by unfold tch; rw [if_neg c]
    obtain ⟨h, hk3⟩ : ∃ h, h = k - 3 := ⟨_, rfl⟩
    rw [← hk3] at hs em htc
    unfold arr arrf at hs
    split at hs
    · cases hs
    · rename_i h0
      have hh3 : h < 3 := by omega
      obtain ⟨⟨w1, w2, w3, w4, w5⟩, hpl, hz⟩ := hV.2 h hh3
      have hh : h < pH P := by
        apply Classical.byContradiction
        intro q
        rw [hz (by omega)] at h0
        exact h0 rfl
      obtain ⟨m1, m2, m3, m4, m5, m6, m7⟩ := hM.2 h hh
      obtain ⟨a1, a2⟩ := m6 (by omega)
      simp only [Option.some.injEq] at hs
      have hpl32 := pl_lt (hd x h)
      have hap := ha_lt (hd x h)
      have hbp := hb_lt (hd x h)
      have hlp := hl_lt (hd x h)
      have hwl := mkw_lt (p := pl (hd x h)) (a := ha (hd x h)) (b := hb (hd x h)) (n := hn (hd x h) - 1) (o := hl (hd x h)) (l := 0) hpl32 hap hbp (by omega) hlp (by omega)
      have y1 : hd y h = mkw (pl (hd x h)) (ha (hd x h)) (hb (hd x h)) (hn (hd x h) - 1) (hl (hd x h)) 0 := by rw [← hs]; exact hd_setH hh3 hwl
      have y2 : ∀ g, g < 3 → g ≠ h → hd y g = hd x g := fun g hg hne => by rw [← hs, hd_setHn hh3 hg hwl hne, hd_setV (by omega) hg (by omega)]
      have y3 : ∀ d, d < 3 → cv y d = if d = ho (hd x h) / 4 then ho (hd x h) % 4 else cv x d := fun d hd3 => by
        rw [← hs, cv_setH hd3 hh3 hwl]
        by_cases ed : d = ho (hd x h) / 4
        · rw [if_pos ed, ed, cv_setV (by omega) (by omega)]
        · rw [if_neg ed, cv_setVn (by omega) hd3 (by omega) ed]
      rw [em, i_le (by omega) (by omega), pk_sub (by omega), p_nm, show h + 10 - 10 = h by omega, pk_mul, p_ck _ (by omega) (by omega), p_ix (a := 2 * h) (by omega), r_sI1 (by decide), a1, p_nm, p_ck _ (by omega) (by omega), r_sI0, p_ck _ (show ho (hd x h) / 4 < 3 by omega) (by omega), p_ix (a := ho (hd x h) / 4) (by omega), r_sI1 (by decide), r_sI1 (by decide), a2, p_nm, nI_add, p_ck _ (by omega) (by omega), p_ck _ (by omega) (by omega), p_ix (a := 2 * h + 1) (by omega), r_sI1 (by decide), r_sI1 (by decide), r_sI1 (by decide), p_nm, p_ck _ (by omega) (by omega), p_ck _ (by omega) (by omega), r_sI1 (by decide), r_sI1 (by decide), r_sI1 (by decide), r_sI1 (by decide), p_nm, p_ck _ (by omega) (by omega), p_ck _ (by omega) (by omega), p_ix (a := h) (by omega), r_sI1 (by decide), r_sI1 (by decide), r_sI1 (by decide), r_sI1 (by decide), r_sI1 (by decide), m5, pk_sub (by omega), p_nm]
      refine ⟨_, rfl, ⟨fun d hd3 => ?_, fun g hg => ?_⟩, ?_, fun j hj => ?_, ((((((Fr.rf _ _).sI (by decide)).sI (by decide)).sI (by decide)).sI (by decide)).sI (by decide)).sI (by decide)⟩
      · rw [r_sI1 (by decide), r_sI1 (by decide), r_sI1 (by decide), y3 d hd3]
        by_cases ed : d = ho (hd x h) / 4
        · rw [if_pos ed, ed, r_sI0]
        · rw [if_neg ed, r_sIj ed, r_sI1 (by decide), r_sI1 (by decide)]; exact hM.1 d hd3
      · by_cases eg : g = h
        · subst eg
          rw [y1]
          unfold MRh
          rw [pl_mkw hpl32, ha_mkw hpl32 hap, hb_mkw hpl32 hap hbp, hn_mkw hpl32 hap hbp (by omega), ho_mkw hpl32 hap hbp (by omega) hlp, hl_mkw hpl32 hap hbp (by omega) hlp (by omega)]
          refine ⟨?_, ?_, ?_, ?_, r_sI0, fun z => ?_, fun z => by omega⟩
          · rw [r_sI1 (by decide), r_sI1 (by decide), r_sI1 (by decide), r_sI1 (by decide), r_sI1 (by decide), r_sI1 (by decide)]; exact m1
          · rw [r_sI1 (by decide), r_sI1 (by decide), r_sI1 (by decide), r_sI1 (by decide), r_sI1 (by decide), r_sI1 (by decide)]; exact m2
          · rw [r_sI1 (by decide), r_sI1 (by decide), r_sI1 (by decide), r_sI1 (by decide), r_sI1 (by decide), r_sI1 (by decide)]; exact m3
          · rw [r_sI1 (by decide), r_sI1 (by decide), r_sI1 (by decide), r_sI1 (by decide), r_sI1 (by decide), r_sI1 (by decide)]; exact m4
          · obtain ⟨b1, b2⟩ := m7 (by omega)
            exact ⟨by rw [r_sI1 (by decide), r_sI1 (by decide), r_sI0]; exact b1, by rw [r_sI1 (by decide), r_sI0]; exact b2⟩
        · rw [y2 g (by omega) eg]
          refine MRh_of (hM.2 g hg) ?_ ?_ ?_ ?_ ?_ ?_ ?_ ?_ ?_
          · rw [r_sI1 (by decide), r_sI1 (by decide), r_sI1 (by decide), r_sI1 (by decide), r_sI1 (by decide), r_sI1 (by decide)]
          · rw [r_sI1 (by decide), r_sI1 (by decide), r_sI1 (by decide), r_sI1 (by decide), r_sI1 (by decide), r_sI1 (by decide)]
          · rw [r_sI1 (by decide), r_sI1 (by decide), r_sI1 (by decide), r_sI1 (by decide), r_sI1 (by decide), r_sI1 (by decide)]
          · rw [r_sI1 (by decide), r_sI1 (by decide), r_sI1 (by decide), r_sI1 (by decide), r_sI1 (by decide), r_sI1 (by decide)]
          · rw [r_sIj eg, r_sI1 (by decide), r_sI1 (by decide), r_sI1 (by decide), r_sI1 (by decide), r_sI1 (by decide)]
          · rw [r_sI1 (by decide), r_sI1 (by decide), r_sIj (by omega), r_sI1 (by decide), r_sI1 (by decide), r_sI1 (by decide)]
          · rw [r_sI1 (by decide), r_sIj (by omega), r_sI1 (by decide), r_sI1 (by decide), r_sI1 (by decide), r_sI1 (by decide)]
          · rw [r_sI1 (by decide), r_sI1 (by decide), r_sIj (by omega), r_sI1 (by decide), r_sI1 (by decide), r_sI1 (by decide)]
          · rw [r_sI1 (by decide), r_sIj (by omega), r_sI1 (by decide), r_sI1 (by decide), r_sI1 (by decide), r_sI1 (by decide)]
      · rw [r_sI1 (by decide), r_sI1 (by decide), r_sI1 (by decide), r_sI1 (by decide), r_sI0, htc]; rfl
      · rw [r_sI1 (by decide), r_sI1 (by decide), r_sI1 (by decide), r_sI1 (by decide), r_sIj hj, r_sIj hj]
theorem cO_ne {P : Pg} {h p : Nat} (hp : p < pN P h) : cO P h p ≠ cM P h := by
  unfold cO cM
  repeat' split
  all_goals omega
theorem can_eq {P : Pg} {σ : Mm} {x k lt : Nat} (hP : PgV P) (hX : PgX P) (hL : LdM P σ) (hV : VS P x) (hM : MR P σ x) (hk : k < 6) (hlt : lt < 2) :
    f_X11_can (nI (mOf k)) (nI lt) σ = some (bI (decide (mv P lt x k ≠ none)), σ) := by
  have hH := hP.1
  unfold f_X11_can f_X11_can_115 f_X11_can_33
  simp only [qi_0, qi_1, qi_2, qi_3, qi_4, qi_5, qi_6, qi_7, qi_8, qi_9, qi_10, qi_11, qi_12, qi_13, qi_14, qi_15, qi_16, qi_17, qi_19, qi_26, qi_31, qi_32, qi_35, qi_40, qi_42, qi_48, qi_50, qi_57, qi_59, qi_63, qi_64, qi_97, qi_120, qi_122, qi_210, qi_255, qi_511, qi_512, qi_1000, qi_6000, qi_13312, qi_14337, qi_16383, qi_16384, qi_524287]
  by_cases c : k < 3
  · have em : mOf k = k := if_pos c
    have emv : mv P lt x k = stp P lt x k := by unfold mv; rw [if_pos c]
    rw [em, emv, i_lt (by omega) (by omega), i_nlt (by omega) (by omega), hL.1]
    by_cases hh : k < pH P
    · obtain ⟨m1, m2, m3, m4, m5, m6, m7⟩ := hM.2 k hh
      have hS := (hP.2.2.1 k (by omega)).1
      have hc2 : cO P k (pl (hd x k)) ≤ 2 := cO_le k _
      have hcm : cM P k ≤ 2 := by unfold cM; split <;> omega
      rw [i_nle (by omega) hh, p_ck _ (by omega) (by omega), p_ck _ (by omega) (by omega), p_ix (a := k) (by omega), m1, hL.2.1 k hh]
      by_cases hp : pN P k ≤ pl (hd x k)
      · have hst : stp P lt x k = none := by unfold stp stpf; rw [if_pos hp]
        rw [i_eq (cO_end hp hS).1, p_cb0, hst, decide_eq_false (fun q => q rfl), bI_f]
      · obtain ⟨d, hd6, h55, h66, hcd, hsn⟩ := stepNow_eq hP hX hL (hM.2 k hh) hh (by omega)
        obtain ⟨q1, q2, q3, q4, q5⟩ := pO_lt hX hh (show pl (hd x k) < pN P k by omega)
        have v1 := (hP.2.2.2.2 k (pl (hd x k)) (by omega) (by omega)).1
        have hnn := (hV.2 k (by omega)).1.1
        rw [i_ne (by omega) (by omega) (cO_ne (by omega)), hsn, p_bd, p_ck _ (by omega) (by omega), p_ix (a := 14 * d + pO P k (pl (hd x k))) (by omega), hcd.1, p_nm]
        have key : ∀ b : Bool, (b = true ↔ stp P lt x k ≠ none) → bI (decide (stp P lt x k ≠ none)) = bI b := by
          intro b hb
          cases b with
          | true => rw [decide_eq_true (hb.mp rfl)]
          | false => rw [decide_eq_false (fun q => by have := hb.mpr q; cases this)]
        have hstp : stp P lt x k = stpf (pN P k) (pC P k (pl (hd x k))) lt x k (hd x k) := rfl
        have hsome : hn (hd x k) = 0 → stp P lt x k ≠ none := fun h0 q => stp_none (by omega) q h0
        generalize pC P k (pl (hd x k)) = f at *
        by_cases k2 : f 0 = 2
        · rw [i_eq k2]
          by_cases l0 : lt = 0
          · rw [i_eq l0, p_cb1, key true (by
              refine ⟨fun _ q => ?_, fun _ => rfl⟩
              rw [hstp] at q
              unfold stpf at q
              rw [if_neg hp, if_neg (by omega), if_pos k2, if_pos l0] at q
              cases q), bI_t]
          · rw [i_ne (by omega) (by omega) l0, p_ck _ (by omega) (by omega), m5]
            by_cases n2 : 2 ≤ hn (hd x k)
            · rw [i_le (by omega) n2, p_cb0, key false (by
                refine ⟨(fun q => by cases q), fun q => ?_⟩
                rw [hstp] at q
                unfold stpf at q
                rw [if_neg hp, if_neg (by omega), if_pos k2, if_neg l0, if_pos n2] at q
                exact absurd rfl q), bI_f]
            · rw [i_nle (by omega) (by omega), p_cb1, key true (by
                refine ⟨fun _ q => ?_, fun _ => rfl⟩
                rw [hstp] at q
                unfold stpf at q
                rw [if_neg hp, if_neg (by omega), if_pos k2, if_neg l0, if_neg n2] at q
                split at q <;> cases q), bI_t]
        · rw [i_ne (by omega) (by omega) k2]
          by_cases k345 : f 0 = 3 ∨ f 0 = 4 ∨ f 0 = 5
          · have tail : ck (nI k) 3 (if σ.1 79 (ix (nI k)) = nI 0 then cb (nI 1) (some (nI 1, σ)) else cb (nI 0) (some (nI 0, σ))) = some (bI (decide (stp P lt x k ≠ none)), σ) := by
              rw [p_ck _ (by omega) (by omega), p_ix (a := k) (by omega), m5]
              by_cases n0 : hn (hd x k) = 0
              · rw [i_eq n0, p_cb1, key true ⟨fun _ => hsome n0, fun _ => rfl⟩, bI_t]
              · rw [i_ne (by omega) (by omega) n0, p_cb0, key false (by
                  refine ⟨(fun q => by cases q), fun q => ?_⟩
                  rw [hstp] at q
                  unfold stpf at q
                  rw [if_neg hp, if_neg (by omega), if_neg k2] at q
                  rcases k345 with k3 | k4 | k5
                  · rw [if_pos k3, if_neg n0] at q; exact absurd rfl q
                  · rw [if_neg (by omega), if_pos k4, if_neg n0] at q; exact absurd rfl q
                  · rw [if_neg (by omega), if_neg (by omega), if_pos k5, if_neg n0] at q; exact absurd rfl q), bI_f]
            rw [p_ix (a := k) (by omega)] at tail
            rcases k345 with k3 | k4 | k5
            · rw [i_eq k3]; exact tail
            · rw [i_ne (by omega) (by omega) (by omega), i_eq k4]; exact tail
            · rw [i_ne (by omega) (by omega) (by omega), i_ne (by omega) (by omega) (by omega), i_eq k5]; exact tail
          · rw [i_ne (by omega) (by omega) (by omega), i_ne (by omega) (by omega) (by omega), i_ne (by omega) (by omega) (by omega), p_cb1, key true (by
              refine ⟨fun _ q => ?_, fun _ => rfl⟩
              rw [hstp] at q
              unfold stpf at q
              rw [if_neg hp] at q
              split at q
              · cases q
              · rw [if_neg (by omega), if_neg (by omega), if_neg (by omega)] at q
                split at q
                · split at q <;> cases q
                · split at q <;> cases q), bI_t]
    · have hst : stp P lt x k = none := by
        unfold stp stpf
        rw [if_pos (by rw [hP.2.2.2.1 k (by omega)]; exact Nat.zero_le _)]
      rw [i_le (by omega) (by omega), p_cb0, hst, decide_eq_false (fun q => q rfl), bI_f]
  · have em : mOf k = k - 3 + 10 := by unfold mOf; rw [if_neg c]; omega
    have emv : mv P lt x k = arr x (k - 3) := by unfold mv; rw [if_neg c]
    rw [em, emv, i_nlt (by omega) (by omega), pk_sub (by omega), show k - 3 + 10 - 10 = k - 3 by omega, hL.1]
    by_cases hh : k - 3 < pH P
    · obtain ⟨m1, m2, m3, m4, m5, m6, m7⟩ := hM.2 (k - 3) hh
      have hnn := hn_lt (hd x (k - 3))
      rw [i_nle (by omega) hh, p_ck _ (by omega) (by omega), p_ix (by omega), m5]
      by_cases n0 : hn (hd x (k - 3)) = 0
      · have ha0 : arr x (k - 3) = none := by unfold arr arrf; rw [if_pos n0]
        rw [i_le (by omega) (by omega), p_cb0, ha0, decide_eq_false (fun q => q rfl), bI_f]
      · have ha0 : arr x (k - 3) ≠ none := by unfold arr arrf; rw [if_neg n0]; intro q; cases q
        rw [i_nle (by omega) (by omega), p_cb1, decide_eq_true ha0, bI_t]
    · have ha0 : arr x (k - 3) = none := by
        unfold arr arrf
        rw [if_pos]
        rw [(hV.2 (k - 3) (by omega)).2.2 (by omega)]; rfl
      rw [i_le (by omega) (by omega), p_cb0, ha0, decide_eq_false (fun q => q rfl), bI_f]
