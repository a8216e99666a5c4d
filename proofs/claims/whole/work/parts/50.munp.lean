/-! PURE: the reference takes states out again; ends, results -/
def uL : List Nat := [74, 75, 76, 77, 78, 79, 80, 81]
theorem unpack_eq {P : Pg} {σ : Mm} {x : Nat} (hX : PgX P) (hP : PgV P) (h487 : σ.1 48 7 = nI (pH P)) (hV : VS P x) : ∃ σ', f_X11_unpack (lN (pm P x (pH P))) σ = some ((), σ') ∧ MR P σ' x ∧ Fr uL σ σ' := by
  have hH := hP.1
  unfold f_X11_unpack
  simp only [qi_0, qi_1, qi_2, qi_3, qi_4, qi_5, qi_6, qi_7, qi_8, qi_9, qi_10, qi_11, qi_12, qi_13, qi_14, qi_15, qi_16, qi_17, qi_19, qi_26, qi_31, qi_32, qi_35, qi_40, qi_42, qi_48, qi_50, qi_57, qi_59, qi_63, qi_64, qi_97, qi_120, qi_122, qi_210, qi_255, qi_511, qi_512, qi_1000, qi_6000, qi_13312, qi_14337, qi_16383, qi_16384, qi_524287]
  rw [p_nm, h487]
  refine lq2 (F := f_X11_unpack_L10 (fun (xq3 : Int64) (σ : Mm) => f_X11_unpack_247 xq3 σ)) (fun a b τ => ∃ j, j ≤ pH P ∧ a = lN (pm P x j) ∧ b = nI j - nI 1 ∧ (∀ g, j ≤ g → g < pH P → MRh P τ g (hd x g)) ∧ Fr uL σ τ) (fun _ b _ => ix (b + nI 1)) (fun o => ∃ σ', o = some ((), σ') ∧ MR P σ' x ∧ Fr uL σ σ') ?_ FU _ _ σ ?_ ⟨pH P, by omega, rfl, rfl, fun g h1 h2 => by omega, Fr.rf _ _⟩
  · rintro L a b τ ⟨j, hj, rfl, rfl, hall, hF⟩
    unfold f_X11_unpack_L10
    simp only [qi_0, qi_1, qi_2, qi_3, qi_4, qi_5, qi_6, qi_7, qi_8, qi_9, qi_10, qi_11, qi_12, qi_13, qi_14, qi_15, qi_16, qi_17, qi_19, qi_26, qi_31, qi_32, qi_35, qi_40, qi_42, qi_48, qi_50, qi_57, qi_59, qi_63, qi_64, qi_97, qi_120, qi_122, qi_210, qi_255, qi_511, qi_512, qi_1000, qi_6000, qi_13312, qi_14337, qi_16383, qi_16384, qi_524287, ql_0, ql_1, ql_3, ql_4, ql_10, ql_12, ql_13, ql_16, ql_42, ql_157, ql_256, ql_16383, ql_524287]
    by_cases c : j = 0
    · right
      subst c
      rw [dn_0, i_m1lt (by omega)]
      have c0 := cv_lt x 0
      have c1 := cv_lt x 1
      have c2 := cv_lt x 2
      have e0 : pm P x 0 = 16 * cv x 0 + 4 * cv x 1 + cv x 2 := rfl
      unfold f_X11_unpack_247
      simp only [qi_0, qi_1, qi_2, qi_3, qi_4, qi_5, qi_6, qi_7, qi_8, qi_9, qi_10, qi_11, qi_12, qi_13, qi_14, qi_15, qi_16, qi_17, qi_19, qi_26, qi_31, qi_32, qi_35, qi_40, qi_42, qi_48, qi_50, qi_57, qi_59, qi_63, qi_64, qi_97, qi_120, qi_122, qi_210, qi_255, qi_511, qi_512, qi_1000, qi_6000, qi_13312, qi_14337, qi_16383, qi_16384, qi_524287, ql_0, ql_1, ql_3, ql_4, ql_10, ql_12, ql_13, ql_16, ql_42, ql_157, ql_256, ql_16383, ql_524287]
      rw [e0, p_ck _ (by omega) (by omega), p_ix (a := 0) (by omega), p_ldv (by omega) (by omega) (by omega), lN_i, p_nm, p_ck _ (by omega) (by omega), p_ix (a := 1) (by omega), p_ldv (by omega) (by omega) (by omega), p_lrm (by omega) (by omega) (by omega), lN_i, p_nm, p_ck _ (by omega) (by omega), p_ix (a := 2) (by omega), p_lrm (by omega) (by omega) (by omega), lN_i, p_nm]
      rw [show (16 * cv x 0 + 4 * cv x 1 + cv x 2) / 16 = cv x 0 by omega, show (16 * cv x 0 + 4 * cv x 1 + cv x 2) / 4 % 4 = cv x 1 by omega, show (16 * cv x 0 + 4 * cv x 1 + cv x 2) % 4 = cv x 2 by omega]
      refine ⟨_, rfl, ⟨fun d hd3 => ?_, fun g hg => MRh_of (hall g (by omega) hg) ?_ ?_ ?_ ?_ ?_ ?_ ?_ ?_ ?_⟩, ((hF.sI (by decide)).sI (by decide)).sI (by decide)⟩
      · rcases lt3 hd3 with rfl | rfl | rfl
        · rw [r_sIj (by decide), r_sIj (by decide), r_sI0]
        · rw [r_sIj (by decide), r_sI0]
        · rw [r_sI0]
      all_goals rw [r_sI1 (by decide), r_sI1 (by decide), r_sI1 (by decide)]
    · left
      obtain ⟨h, rfl⟩ : ∃ h, j = h + 1 := ⟨j - 1, by omega⟩
      have hh : h < pH P := by omega
      have a1 := ha_lt (hd x h)
      have b1 := hb_lt (hd x h)
      obtain ⟨q1, q2⟩ := qd_lt hX hP hV hh
      have hWV := (hV.2 h (by omega)).1
      have w1 := wc_lt hWV
      have p63 := pm_63 hX hP hV (show h + 1 ≤ pH P by omega)
      have p63' := pm_63 hX hP hV (show h ≤ pH P by omega)
      have epm : pm P x (h + 1) = 157 * (16 * (42 * pm P x h + qd P x h) + (4 * ha (hd x h) + hb (hd x h))) + wc (hd x h) := rfl
      have hc2 : cO P h (pl (hd x h)) ≤ 2 := cO_le h _
      have eq1 : qd P x h / 14 = cO P h (pl (hd x h)) := by unfold qd; omega
      have eq2 : qd P x h % 14 = pO P h (pl (hd x h)) := by unfold qd; omega
      obtain ⟨v1, v2, v3, v4, v5⟩ := hWV
      have ewc : wc (hd x h) = if hn (hd x h) = 0 then 0 else if hn (hd x h) = 1 then 1 + ho (hd x h) else 13 + 12 * ho (hd x h) + hl (hd x h) := rfl
      rw [dn_s (by omega), show h + 1 - 1 = h by omega, i_nlt (by omega) (by omega)]
      rw [p_lrm (a := pm P x (h + 1)) (by omega) (by omega) (by omega), p_ldv (a := pm P x (h + 1)) (by omega) (by omega) (by omega), lN_i, p_nm, p_nm]
      rw [show pm P x (h + 1) % 157 = wc (hd x h) by omega, show pm P x (h + 1) / 157 = 16 * (42 * pm P x h + qd P x h) + (4 * ha (hd x h) + hb (hd x h)) by omega]
      rw [p_lrm (by omega) (by omega) (by omega), p_ldv (by omega) (by omega) (by omega), lN_i, p_nm, p_nm]
      rw [show (16 * (42 * pm P x h + qd P x h) + (4 * ha (hd x h) + hb (hd x h))) % 16 = 4 * ha (hd x h) + hb (hd x h) by omega, show (16 * (42 * pm P x h + qd P x h) + (4 * ha (hd x h) + hb (hd x h))) / 16 = 42 * pm P x h + qd P x h by omega]
      rw [p_lrm (by omega) (by omega) (by omega), p_ldv (by omega) (by omega) (by omega), lN_i, p_nm, p_nm]
      rw [show (42 * pm P x h + qd P x h) % 42 = qd P x h by omega, show (42 * pm P x h + qd P x h) / 42 = pm P x h by omega]
      rw [p_ck _ (by omega) (by omega), p_ix (a := h) (by omega), p_idv (by omega) (by omega) (by omega), p_nm, p_ck _ (by omega) (by omega), p_irm (by omega) (by omega) (by omega), p_nm, p_ck _ (by omega) (by omega), p_idv (by omega) (by omega) (by omega), p_nm, p_ck _ (by omega) (by omega), p_irm (by omega) (by omega) (by omega), p_nm, eq1, eq2]
      rw [show (4 * ha (hd x h) + hb (hd x h)) / 4 = ha (hd x h) by omega, show (4 * ha (hd x h) + hb (hd x h)) % 4 = hb (hd x h) by omega]
      obtain ⟨τ4, hτ4⟩ : ∃ τ4, τ4 = sI (sI (sI (sI τ 75 h (nI (cO P h (pl (hd x h))))) 76 h (nI (pO P h (pl (hd x h))))) 77 h (nI (ha (hd x h)))) 78 h (nI (hb (hd x h))) := ⟨_, rfl⟩
      rw [← hτ4]
      have tail : ∀ n1 one two, n1 < 3 → one < 16 → two < 16 → n1 = hn (hd x h) → (1 ≤ hn (hd x h) → one = ho (hd x h)) → (hn (hd x h) = 2 → two = hl (hd x h)) → ∃ a' b' σ', (∃ j, j ≤ pH P ∧ a' = lN (pm P x j) ∧ b' = nI j - nI 1 ∧ (∀ g, j ≤ g → g < pH P → MRh P σ' g (hd x g)) ∧ Fr uL σ σ') ∧ ix (b' + nI 1) < ix (nI h + nI 1) ∧ f_X11_unpack_183 L (lN (pm P x h)) (nI h) (nI one) (nI two) (sI τ4 79 h (nI n1)) = L a' b' σ' := by
        intro n1 one two z1 z2 z3 z4 z5 z6
        unfold f_X11_unpack_183
        simp only [qi_0, qi_1, qi_2, qi_3, qi_4, qi_5, qi_6, qi_7, qi_8, qi_9, qi_10, qi_11, qi_12, qi_13, qi_14, qi_15, qi_16, qi_17, qi_19, qi_26, qi_31, qi_32, qi_35, qi_40, qi_42, qi_48, qi_50, qi_57, qi_59, qi_63, qi_64, qi_97, qi_120, qi_122, qi_210, qi_255, qi_511, qi_512, qi_1000, qi_6000, qi_13312, qi_14337, qi_16383, qi_16384, qi_524287]
        rw [pk_mul, nI_add (2 * h) 1, p_ck _ (by omega) (by omega), p_ix (a := 2 * h) (by omega), p_idv (by omega) (by omega) (by omega), p_nm, p_ck _ (by omega) (by omega), p_irm (by omega) (by omega) (by omega), p_nm, p_ck _ (by omega) (by omega), p_ix (a := 2 * h + 1) (by omega), p_idv (by omega) (by omega) (by omega), p_nm, p_ck _ (by omega) (by omega), p_irm (by omega) (by omega) (by omega), p_nm, dn_n, p_nm]
        refine ⟨lN (pm P x h), nI h - nI 1, _, ⟨h, by omega, rfl, rfl, fun g hg1 hg2 => ?_, ?_⟩, ?_, rfl⟩
        · by_cases eg : g = h
          · subst eg
            unfold MRh
            refine ⟨?_, ?_, ?_, ?_, ?_, fun y1 => ⟨?_, ?_⟩, fun y1 => ⟨?_, ?_⟩⟩
            · rw [r_sI1 (by decide), r_sI1 (by decide), r_sI1 (by decide), r_sI1 (by decide), r_sI1 (by decide), hτ4, r_sI1 (by decide), r_sI1 (by decide), r_sI1 (by decide), r_sI0]
            · rw [r_sI1 (by decide), r_sI1 (by decide), r_sI1 (by decide), r_sI1 (by decide), r_sI1 (by decide), hτ4, r_sI1 (by decide), r_sI1 (by decide), r_sI0]
            · rw [r_sI1 (by decide), r_sI1 (by decide), r_sI1 (by decide), r_sI1 (by decide), r_sI1 (by decide), hτ4, r_sI1 (by decide), r_sI0]
            · rw [r_sI1 (by decide), r_sI1 (by decide), r_sI1 (by decide), r_sI1 (by decide), r_sI1 (by decide), hτ4, r_sI0]
            · rw [r_sI1 (by decide), r_sI1 (by decide), r_sI1 (by decide), r_sI1 (by decide), r_sI0, z4]
            · rw [r_sI1 (by decide), r_sIj (by omega), r_sI1 (by decide), r_sI0, z5 y1]
            · rw [r_sIj (by omega), r_sI1 (by decide), r_sI0, z5 y1]
            · rw [r_sI1 (by decide), r_sI0, z6 y1]
            · rw [r_sI0, z6 y1]
          · have ho := hall g (by omega) hg2
            refine MRh_of ho ?_ ?_ ?_ ?_ ?_ ?_ ?_ ?_ ?_
            · rw [r_sI1 (by decide), r_sI1 (by decide), r_sI1 (by decide), r_sI1 (by decide), r_sI1 (by decide), hτ4, r_sI1 (by decide), r_sI1 (by decide), r_sI1 (by decide), r_sIj eg]
            · rw [r_sI1 (by decide), r_sI1 (by decide), r_sI1 (by decide), r_sI1 (by decide), r_sI1 (by decide), hτ4, r_sI1 (by decide), r_sI1 (by decide), r_sIj eg, r_sI1 (by decide)]
            · rw [r_sI1 (by decide), r_sI1 (by decide), r_sI1 (by decide), r_sI1 (by decide), r_sI1 (by decide), hτ4, r_sI1 (by decide), r_sIj eg, r_sI1 (by decide), r_sI1 (by decide)]
            · rw [r_sI1 (by decide), r_sI1 (by decide), r_sI1 (by decide), r_sI1 (by decide), r_sI1 (by decide), hτ4, r_sIj eg, r_sI1 (by decide), r_sI1 (by decide), r_sI1 (by decide)]
            · rw [r_sI1 (by decide), r_sI1 (by decide), r_sI1 (by decide), r_sI1 (by decide), r_sIj eg, hτ4, r_sI1 (by decide), r_sI1 (by decide), r_sI1 (by decide), r_sI1 (by decide)]
            · rw [r_sI1 (by decide), r_sIj (by omega), r_sI1 (by decide), r_sIj (by omega), r_sI1 (by decide), hτ4, r_sI1 (by decide), r_sI1 (by decide), r_sI1 (by decide), r_sI1 (by decide)]
            · rw [r_sIj (by omega), r_sI1 (by decide), r_sIj (by omega), r_sI1 (by decide), r_sI1 (by decide), hτ4, r_sI1 (by decide), r_sI1 (by decide), r_sI1 (by decide), r_sI1 (by decide)]
            · rw [r_sI1 (by decide), r_sIj (by omega), r_sI1 (by decide), r_sIj (by omega), r_sI1 (by decide), hτ4, r_sI1 (by decide), r_sI1 (by decide), r_sI1 (by decide), r_sI1 (by decide)]
            · rw [r_sIj (by omega), r_sI1 (by decide), r_sIj (by omega), r_sI1 (by decide), r_sI1 (by decide), hτ4, r_sI1 (by decide), r_sI1 (by decide), r_sI1 (by decide), r_sI1 (by decide)]
        · rw [hτ4]
          exact ((((((((hF.sI (by decide)).sI (by decide)).sI (by decide)).sI (by decide)).sI (by decide)).sI (by decide)).sI (by decide)).sI (by decide)).sI (by decide)
        · have e1 : nI h - nI 1 + nI 1 = nI h := Int32.sub_add_cancel _ _
          rw [e1, nI_add, p_ix (by omega), p_ix (by omega)]; omega
      by_cases n0 : hn (hd x h) = 0
      · rw [if_pos n0] at ewc
        rw [ewc, i_eq rfl]
        unfold f_X11_unpack_130 f_X11_unpack_162
        simp only [qi_0, qi_1, qi_2, qi_3, qi_4, qi_5, qi_6, qi_7, qi_8, qi_9, qi_10, qi_11, qi_12, qi_13, qi_14, qi_15, qi_16, qi_17, qi_19, qi_26, qi_31, qi_32, qi_35, qi_40, qi_42, qi_48, qi_50, qi_57, qi_59, qi_63, qi_64, qi_97, qi_120, qi_122, qi_210, qi_255, qi_511, qi_512, qi_1000, qi_6000, qi_13312, qi_14337, qi_16383, qi_16384, qi_524287]
        rw [p_ck _ (by omega) (by omega), p_ix (a := h) (by omega), p_nm, p_tf, i_nle (by omega) (by omega)]
        exact tail 0 0 0 (by omega) (by omega) (by omega) n0.symm (fun q => by omega) (fun q => by omega)
      · rw [if_neg n0] at ewc
        by_cases n1 : hn (hd x h) = 1
        · rw [if_pos n1] at ewc
          rw [ewc, i_ne (by omega) (by omega) (by omega), i_nle (by omega) (by omega)]
          unfold f_X11_unpack_130 f_X11_unpack_162
          simp only [qi_0, qi_1, qi_2, qi_3, qi_4, qi_5, qi_6, qi_7, qi_8, qi_9, qi_10, qi_11, qi_12, qi_13, qi_14, qi_15, qi_16, qi_17, qi_19, qi_26, qi_31, qi_32, qi_35, qi_40, qi_42, qi_48, qi_50, qi_57, qi_59, qi_63, qi_64, qi_97, qi_120, qi_122, qi_210, qi_255, qi_511, qi_512, qi_1000, qi_6000, qi_13312, qi_14337, qi_16383, qi_16384, qi_524287]
          rw [p_ck _ (by omega) (by omega), p_ix (a := h) (by omega), p_nm, i_ne (by omega) (by omega) (by omega), i_nle (by omega) (by omega), i_nle (by omega) (by omega), pk_sub (by omega), show 1 + ho (hd x h) - 1 = ho (hd x h) by omega]
          exact tail 1 (ho (hd x h)) 0 (by omega) (by omega) (by omega) n1.symm (fun _ => rfl) (fun q => by omega)
        · have n2 : hn (hd x h) = 2 := by omega
          rw [if_neg n1] at ewc
          rw [ewc, i_ne (by omega) (by omega) (by omega), i_le (by omega) (by omega)]
          unfold f_X11_unpack_130 f_X11_unpack_162
          simp only [qi_0, qi_1, qi_2, qi_3, qi_4, qi_5, qi_6, qi_7, qi_8, qi_9, qi_10, qi_11, qi_12, qi_13, qi_14, qi_15, qi_16, qi_17, qi_19, qi_26, qi_31, qi_32, qi_35, qi_40, qi_42, qi_48, qi_50, qi_57, qi_59, qi_63, qi_64, qi_97, qi_120, qi_122, qi_210, qi_255, qi_511, qi_512, qi_1000, qi_6000, qi_13312, qi_14337, qi_16383, qi_16384, qi_524287]
          rw [p_ck _ (by omega) (by omega), p_ix (a := h) (by omega), p_nm, i_ne (by omega) (by omega) (by omega), i_le (by omega) (by omega), i_le (by omega) (by omega), pk_sub (by omega), p_idv (by omega) (by omega) (by omega), p_irm (by omega) (by omega) (by omega), show (13 + 12 * ho (hd x h) + hl (hd x h) - 13) / 12 = ho (hd x h) by omega, show (13 + 12 * ho (hd x h) + hl (hd x h) - 13) % 12 = hl (hd x h) by omega]
          exact tail 2 (ho (hd x h)) (hl (hd x h)) (by omega) (by omega) (by omega) n2.symm (fun _ => rfl) (fun _ => rfl)
  · have e1 : nI (pH P) - nI 1 + nI 1 = nI (pH P) := Int32.sub_add_cancel _ _
    rw [e1, p_ix (by omega), FU_v]; omega
theorem mEnd_eq {P : Pg} {σ : Mm} {x : Nat} (hP : PgV P) (hL : LdM P σ) (hV : VS P x) (hM : MR P σ x) : f_X11_isEnd σ = some (bI (iE P x), σ) := by
  have hH := hP.1
  unfold f_X11_isEnd
  refine lq2 (F := f_X11_isEnd_L4) (fun a b τ => ∃ h f1, h ≤ pH P ∧ a = bI f1 ∧ b = nI h ∧ τ = σ ∧ (f1 = true ↔ ∀ g, g < h → pN P g ≤ pl (hd x g) ∧ hn (hd x g) = 0)) (fun _ b _ => 4 - ix b) (fun o => o = some (bI (iE P x), σ)) ?_ FU (1 : Int32) (0 : Int32) σ ?_ ⟨0, true, by omega, rfl, rfl, rfl, ⟨fun _ g hg => by omega, fun _ => rfl⟩⟩
  · rintro L a b τ ⟨h, f1, hh, rfl, rfl, rfl, hf⟩
    unfold f_X11_isEnd_L4 f_X11_isEnd_45 f_X11_isEnd_44
    unfold f_X11_isEnd_45
    simp only [qi_0, qi_1, qi_2, qi_3, qi_4, qi_5, qi_6, qi_7, qi_8, qi_9, qi_10, qi_11, qi_12, qi_13, qi_14, qi_15, qi_16, qi_17, qi_19, qi_26, qi_31, qi_32, qi_35, qi_40, qi_42, qi_48, qi_50, qi_57, qi_59, qi_63, qi_64, qi_97, qi_120, qi_122, qi_210, qi_255, qi_511, qi_512, qi_1000, qi_6000, qi_13312, qi_14337, qi_16383, qi_16384, qi_524287]
    rw [hL.1]
    by_cases c : pH P ≤ h
    · right
      have e : h = pH P := by omega
      subst e
      have : iE P x = f1 := by
        unfold iE
        cases f1 with
        | true => exact decide_eq_true (hf.mp rfl)
        | false => exact decide_eq_false (fun q => by have := hf.mpr q; cases this)
      rw [i_le (by omega) c, cb_b, this]
    · left
      obtain ⟨m1, m2, m3, m4, m5, m6, m7⟩ := hM.2 h (by omega)
      have hS := (hP.2.2.1 h (by omega)).1
      have hc2 : cO P h (pl (hd x h)) ≤ 2 := cO_le h _
      have hcm : cM P h ≤ 2 := by unfold cM; split <;> omega
      have hn4 := hn_lt (hd x h)
      have hff : ¬ (pN P h ≤ pl (hd x h) ∧ hn (hd x h) = 0) → (false = true ↔ ∀ g, g < h + 1 → pN P g ≤ pl (hd x g) ∧ hn (hd x g) = 0) := fun hno => ⟨(fun q => by cases q), fun q => absurd (q h (by omega)) hno⟩
      rw [i_nle (by omega) (by omega)]
      have mu : 4 - ix (nI (h + 1)) < 4 - ix (nI h) := by rw [p_ix (by omega), p_ix (by omega)]; omega
      cases f1 with
      | false =>
        rw [bI_f, i_eq rfl, nI_add, p_nm]
        refine ⟨bI false, nI (h + 1), τ, ⟨h + 1, false, by omega, rfl, rfl, rfl, ⟨(fun q => by cases q), fun q => ?_⟩⟩, mu, rfl⟩
        exact hf.mpr (fun g hg => q g (by omega))
      | true =>
        have hold := hf.mp rfl
        rw [bI_t, i_ne (by omega) (by omega) (by omega), p_ck _ (by omega) (by omega), p_ck _ (by omega) (by omega), nI_add]
        by_cases e : pN P h ≤ pl (hd x h)
        · by_cases n0 : hn (hd x h) = 0
          · refine ⟨bI true, nI (h + 1), τ, ⟨h + 1, true, by omega, rfl, rfl, rfl, ⟨fun _ g hg => ?_, fun _ => rfl⟩⟩, mu, ?_⟩
            · by_cases eg : g = h
              · rw [eg]; exact ⟨e, n0⟩
              · exact hold g (by omega)
            · rw [p_ix (a := h) (by omega), m1, hL.2.1 h (by omega), i_eq (cO_end e hS).1, p_ck _ (by omega) (by omega), m5, i_eq n0, p_nm]; rfl
          · refine ⟨bI false, nI (h + 1), τ, ⟨h + 1, false, by omega, rfl, rfl, rfl, hff (fun q => n0 q.2)⟩, mu, ?_⟩
            rw [p_ix (a := h) (by omega), m1, hL.2.1 h (by omega), i_eq (cO_end e hS).1, p_ck _ (by omega) (by omega), m5, i_ne (by omega) (by omega) n0, p_nm]; rfl
        · refine ⟨bI false, nI (h + 1), τ, ⟨h + 1, false, by omega, rfl, rfl, rfl, hff (fun q => e q.1)⟩, mu, ?_⟩
          rw [p_ix (a := h) (by omega), m1, hL.2.1 h (by omega), i_ne (by omega) (by omega) (cO_ne (by omega)), p_nm]; rfl
  · show 4 - ix (nI 0) < FU
    rw [p_ix (by omega), FU_v]; omega
theorem mRes_eq {P : Pg} {σ : Mm} {x : Nat} (hP : PgV P) (h487 : σ.1 48 7 = nI (pH P)) (hM : MR P σ x) : f_X11_resultNow σ = some (nI (rslt P x), σ) := by
  have hH := hP.1
  unfold f_X11_resultNow
  simp only [qi_0, qi_1, qi_2, qi_3, qi_4, qi_5, qi_6, qi_7, qi_8, qi_9, qi_10, qi_11, qi_12, qi_13, qi_14, qi_15, qi_16, qi_17, qi_19, qi_26, qi_31, qi_32, qi_35, qi_40, qi_42, qi_48, qi_50, qi_57, qi_59, qi_63, qi_64, qi_97, qi_120, qi_122, qi_210, qi_255, qi_511, qi_512, qi_1000, qi_6000, qi_13312, qi_14337, qi_16383, qi_16384, qi_524287]
  rw [p_ck _ (by omega) (by omega), p_ck _ (by omega) (by omega), p_ck _ (by omega) (by omega), p_ix (a := 0) (by omega), p_ix (a := 1) (by omega), p_ix (a := 2) (by omega), hM.1 0 (by omega), hM.1 1 (by omega), hM.1 2 (by omega), pk_mul, pk_mul, nI_add, nI_add, p_nm]
  refine lq2 (F := f_X11_resultNow_L28) (fun a b τ => ∃ h, h ≤ pH P ∧ a = nI (resf x h) ∧ b = nI h ∧ τ = σ) (fun _ b _ => 4 - ix b) (fun o => o = some (nI (rslt P x), σ)) ?_ FU _ (nI 0) σ ?_ ⟨0, by omega, rfl, rfl, rfl⟩
  · rintro L a b τ ⟨h, hh, rfl, rfl, rfl⟩
    unfold f_X11_resultNow_L28
    simp only [qi_0, qi_1, qi_2, qi_3, qi_4, qi_5, qi_6, qi_7, qi_8, qi_9, qi_10, qi_11, qi_12, qi_13, qi_14, qi_15, qi_16, qi_17, qi_19, qi_26, qi_31, qi_32, qi_35, qi_40, qi_42, qi_48, qi_50, qi_57, qi_59, qi_63, qi_64, qi_97, qi_120, qi_122, qi_210, qi_255, qi_511, qi_512, qi_1000, qi_6000, qi_13312, qi_14337, qi_16383, qi_16384, qi_524287]
    rw [h487]
    by_cases c : pH P ≤ h
    · right
      rw [i_le (by omega) c, show h = pH P by omega]; rfl
    · left
      obtain ⟨m1, m2, m3, m4, m5, m6, m7⟩ := hM.2 h (by omega)
      rw [i_nle (by omega) (by omega), p_ck _ (by omega) (by omega), p_ck _ (by omega) (by omega), p_ix (a := h) (by omega), m3, m4, pk_mul, pk_mul, nI_add, nI_add, p_nm, nI_add, p_nm]
      refine ⟨nI (resf x (h + 1)), nI (h + 1), τ, ⟨h + 1, by omega, rfl, rfl, rfl⟩, ?_, rfl⟩
      rw [p_ix (by omega)]; omega
  · rw [p_ix (by omega), FU_v]; omega
