/-! PURE: the class's machine, further -/
theorem le7 {n : Nat} (h : n ≤ 7) : n = 0 ∨ n = 1 ∨ n = 2 ∨ n = 3 ∨ n = 4 ∨ n = 5 ∨ n = 6 ∨ n = 7 := by omega
theorem moved_st {P : Pg} {x h lt : Nat} {σ : Mm} (hP : PgV P) (hL : LdC P σ) (hV : VS P x) (hh : h < 3) (hlt : lt < 2) : f_X1_moved (lN x) (nI h) (nI lt) σ = some (lO (stp P lt x h), σ) := by
  have hN := (hP.2.2.1 h hh).2
  have h17 := (hL.2.2.2.1 h hh).2
  have hx := hV.1
  have hpl := pl_lt (hd x h)
  unfold f_X1_moved
  simp only [qi_0, qi_1, qi_2, qi_3, qi_4, qi_5, qi_6, qi_7, qi_8, qi_9, qi_10, qi_11, qi_12, qi_13, qi_14, qi_15, qi_16, qi_17, qi_19, qi_26, qi_31, qi_32, qi_35, qi_40, qi_42, qi_48, qi_50, qi_57, qi_59, qi_63, qi_64, qi_97, qi_120, qi_122, qi_210, qi_255, qi_511, qi_512, qi_1000, qi_6000, qi_13312, qi_14337, qi_16383, qi_16384, qi_524287]
  rw [i_lt (by omega) hh, handIn_eq hx hh, p_bd, p_nm, and_31, p_ck _ hh (by omega), p_ix (by omega), h17, show nI (hd x h % 32) = nI (pl (hd x h)) from rfl]
  by_cases hp : pN P h ≤ pl (hd x h)
  · rw [i_nlt (by omega) hp]
    unfold stp stpf
    rw [if_pos hp, lO]; rfl
  · have hp : pl (hd x h) < pN P h := by omega
    rw [i_lt (by omega) hp, p_nm, p_nm, p_nm, pk_mul, nI_add, pk_mul]
    have sw3 := swapped_eq3 (lt := lt) hP hL hV hh hp
    have sw4 := swapped_eq4 (lt := lt) hP hL hV hh hp
    have wr := written_eq (lt := lt) hP hL hV hh hp hlt
    obtain ⟨w, f, ew, ef, hw, hpw, hp26, ⟨c1, c2, c3, c4, c5⟩, ⟨v1, v2, v3, v4, v5, v6⟩, hW, hB⟩ := now_eq hP hL hV hh hp
    have h512 := w512 hw hW
    have hz : hn w = 0 → ho w = 0 ∧ hl w = 0 := fun q => ⟨hW.2.1 q, hW.2.2.1 (by omega)⟩
    obtain ⟨f0, f1, f2, f3, f4, f5, f6⟩ := w_fields hw (by omega)
    have ws := w_succ hw (show pl w < 31 by omega)
    have hb4 := hb_lt w
    have ha4 := ha_lt w
    have hn4 := hn_lt w
    have ho4 := ho_lt w
    have hl4 := hl_lt w
    have hstp : stp P lt x h = stpf (pN P h) f lt x h w := by unfold stp; rw [ew, ef]
    rw [ew, ef] at sw3 sw4 wr
    rw [hstp] at sw3 sw4 wr ⊢
    rw [ew]
    clear hP hL hV hW
    rw [p_ck _ (by omega) (by omega), p_ix (by omega), c1, p_nm]
    rcases le7 v1 with hk | hk | hk | hk | hk | hk | hk | hk
    · clear v2 v3 v4 v5 v6 c2 c3 c4 c5 sw3 sw4 wr hz h512
      have es : stpf (pN P h) f lt x h w = some (setH x h (mkw (pl w + 1) (ha w) (ha w) (hn w) (ho w) (hl w))) := by
        unfold stpf
        rw [if_neg (show ¬ pN P h ≤ pl w by omega), hk]; rfl
      rw [es, hk]
      rw [i_ne (by omega) (by omega) (by omega), i_ne (by omega) (by omega) (by omega), i_ne (by omega) (by omega) (by omega), i_ne (by omega) (by omega) (by omega), i_ne (by omega) (by omega) (by omega), i_ne (by omega) (by omega) (by omega), i_ne (by omega) (by omega) (by omega)]
      rw [shr_5 (by omega), and_3, nI_add, show nI (w / 32 % 4) = nI (ha w) from rfl, withB_eq f0 ha4, p_bd, f1, f2, f4, f5, f6]
      rw [withHand_eq hh (mkw_lt (by omega) ha4 ha4 hn4 ho4 hl4), p_bd, lO]
    · have g1 := v2 (by omega) (by omega)
      have c2 := c2 (by omega) (by omega)
      clear v2 v3 v4 v5 v6 c3 c4 c5 sw3 sw4 wr hz h512
      have es : stpf (pN P h) f lt x h w = some (setH x h (mkw (pl w + 1) (see w x (f 1)) (hb w) (hn w) (ho w) (hl w))) := by
        unfold stpf
        rw [if_neg (show ¬ pN P h ≤ pl w by omega), hk]; rfl
      rw [es, hk, i_eq rfl, nI_add, p_ck _ (by omega) (by omega), p_ix (by omega), c2, p_nm, waitingFor_eq hw g1, p_bd]
      have hcv := cv_lt x (f 1)
      have key : ∀ v, v < 4 → see w x (f 1) = v → bd (f_X1_withA (nI w + nI 1) (nI v) σ) (fun rq19 σ18 => bd (f_X1_withHand (lN x) (nI h) rq19 σ18) (fun rq21 σ20 => some (rq21, σ20))) = some (lO (some (setH x h (mkw (pl w + 1) (see w x (f 1)) (hb w) (hn w) (ho w) (hl w)))), σ) := by
        intro v hv hs
        rw [hs, nI_add, withA_eq f0 hv, p_bd, f1, f3, f4, f5, f6]
        rw [withHand_eq hh (mkw_lt (by omega) hv hb4 hn4 ho4 hl4), p_bd, lO]
      cases hwf : wf w (f 1) with
      | none =>
        rw [show iO none = -nI 1 from rfl, i_m1lt (by omega), valueIn_eq hx g1, p_bd]
        exact key _ hcv (by unfold see; rw [hwf]; rfl)
      | some v =>
        have hv : v < 4 := by
          unfold wf at hwf
          split at hwf
          · simp only [Option.some.injEq] at hwf; omega
          · split at hwf
            · simp only [Option.some.injEq] at hwf; omega
            · cases hwf
        rw [show iO (some v) = nI v from rfl, i_nlt (by omega) (by omega)]
        exact key _ hv (by unfold see; rw [hwf]; rfl)
    · rw [hk, i_ne (by omega) (by omega) (by omega), i_eq rfl, wr hk, p_bd]
    · rw [hk, i_ne (by omega) (by omega) (by omega), i_ne (by omega) (by omega) (by omega), i_eq rfl, sw3 hk, p_bd]
    · rw [hk, i_ne (by omega) (by omega) (by omega), i_ne (by omega) (by omega) (by omega), i_ne (by omega) (by omega) (by omega), i_eq rfl, sw4 hk, p_bd]
    · rw [hk, i_ne (by omega) (by omega) (by omega), i_ne (by omega) (by omega) (by omega), i_ne (by omega) (by omega) (by omega), i_ne (by omega) (by omega) (by omega), i_eq rfl]
      clear v2 v3 v4 v5 v6 c2 c3 c4 c5 sw3 sw4 wr
      by_cases h0 : hn w = 0
      · obtain ⟨z1, z2⟩ := hz h0
        have hy : nI w &&& -nI 512 = nI 0 := by rw [and_m512 hw]; exact h512.mpr h0
        clear hz h512
        have es : stpf (pN P h) f lt x h w = some (setH x h (mkw (pl w + 1) (ha w) (hb w) 0 0 0)) := by
          unfold stpf
          rw [if_neg (show ¬ pN P h ≤ pl w by omega), hk]; simp [h0]
        rw [es, if_pos hy, nI_add, withHand_eq hh f0, p_bd, ws, h0, z1, z2, lO]
      · have hno : ¬ (nI w &&& -nI 512 = nI 0) := by rw [and_m512 hw]; exact fun q => h0 (h512.mp q)
        clear hz h512
        have es : stpf (pN P h) f lt x h w = none := by
          unfold stpf
          rw [if_neg (show ¬ pN P h ≤ pl w by omega), hk]; simp [h0]
        rw [es, if_neg hno, lO]; rfl
    · have g6 := v6 hk
      have c5 := c5 hk
      clear v2 v3 v4 v5 v6 c2 c3 c4 sw3 sw4 wr hz h512
      rw [hk, i_ne (by omega) (by omega) (by omega), i_ne (by omega) (by omega) (by omega), i_ne (by omega) (by omega) (by omega), i_ne (by omega) (by omega) (by omega), i_ne (by omega) (by omega) (by omega), i_eq rfl, shr_5 (by omega), and_3, show nI (w / 32 % 4) = nI (ha w) from rfl]
      by_cases h0 : ha w = 0
      · have es : stpf (pN P h) f lt x h w = some (setH x h (mkw (f 4) (ha w) (hb w) (hn w) (ho w) (hl w))) := by
          unfold stpf
          rw [if_neg (show ¬ pN P h ≤ pl w by omega), hk]; simp [h0]
        have e2 : w - pl w + f 4 = mkw (f 4) (ha w) (hb w) (hn w) (ho w) (hl w) := by
          unfold mkw pl ha hb hn ho hl; omega
        have hpw2 : pl w ≤ w := Nat.mod_le _ _
        rw [es, i_eq h0, nI_add, p_ck _ (by omega) (by omega), p_ix (by omega), c5, pk_sub hpw2, nI_add, e2]
        rw [withHand_eq hh (mkw_lt (by omega) ha4 hb4 hn4 ho4 hl4), p_bd, lO]
      · have es : stpf (pN P h) f lt x h w = some (setH x h (mkw (pl w + 1) (ha w) (hb w) (hn w) (ho w) (hl w))) := by
          unfold stpf
          rw [if_neg (show ¬ pN P h ≤ pl w by omega), hk]; simp [h0]
        rw [es, i_ne (by omega) (by omega) h0, nI_add, withHand_eq hh f0, p_bd, ws, lO]
    · have g2 := v4 (by omega)
      have c3 : σ.1 14 ((h * 26 + pl w) * 5 + 2) = nI (f 2) := (c3 (by omega)).trans (if_neg (by omega))
      clear v2 v3 v4 v5 v6 c2 c4 c5 sw3 sw4 wr hz h512
      have es : stpf (pN P h) f lt x h w = some (setH x h (mkw (pl w + 1) (f 2) (hb w) (hn w) (ho w) (hl w))) := by
        unfold stpf
        rw [if_neg (show ¬ pN P h ≤ pl w by omega), hk]; rfl
      rw [es, hk]
      rw [i_ne (by omega) (by omega) (by omega), i_ne (by omega) (by omega) (by omega), i_ne (by omega) (by omega) (by omega), i_ne (by omega) (by omega) (by omega), i_ne (by omega) (by omega) (by omega), i_ne (by omega) (by omega) (by omega), i_eq rfl]
      rw [nI_add, nI_add, p_ck _ (by omega) (by omega), p_ix (by omega), c3, withA_eq f0 g2, p_bd, f1, f3, f4, f5, f6]
      rw [withHand_eq hh (mkw_lt (by omega) g2 hb4 hn4 ho4 hl4), p_bd, lO]
theorem moved_eq {P : Pg} {x k lt : Nat} {σ : Mm} (hP : PgV P) (hL : LdC P σ) (hV : VS P x) (hk : k < 6) (hlt : lt < 2) : f_X1_moved (lN x) (nI k) (nI lt) σ = some (lO (mv P lt x k), σ) := by
  unfold mv
  by_cases h : k < 3
  · rw [if_pos h]; exact moved_st hP hL hV h hlt
  · rw [if_neg h]
    unfold f_X1_moved
    simp only [qi_0, qi_1, qi_2, qi_3, qi_4, qi_5, qi_6, qi_7, qi_8, qi_9, qi_10, qi_11, qi_12, qi_13, qi_14, qi_15, qi_16, qi_17, qi_19, qi_26, qi_31, qi_32, qi_35, qi_40, qi_42, qi_48, qi_50, qi_57, qi_59, qi_63, qi_64, qi_97, qi_120, qi_122, qi_210, qi_255, qi_511, qi_512, qi_1000, qi_6000, qi_13312, qi_14337, qi_16383, qi_16384, qi_524287]
    rw [i_nlt (by omega) (by omega), pk_sub (by omega), arrived_eq hV.1 (by omega) (hV.2 _ (by omega)).1, p_bd]
/-- moves keep states valid -/
theorem WV_mk {p a b n o l : Nat} (h0 : p < 32) (h1 : a < 4) (h2 : b < 4) (h3 : n ≤ 2) (h4 : n = 0 → o = 0) (h5 : n ≤ 1 → l = 0) (h6 : o < 12) (h7 : l < 12) : WV (mkw p a b n o l) := by
  unfold WV
  rw [hn_mkw h0 h1 h2 (by omega), ho_mkw h0 h1 h2 (by omega) (by omega), hl_mkw h0 h1 h2 (by omega) (by omega) (by omega)]
  exact ⟨h3, h4, h5, h6, h7⟩
theorem VS_setV {P : Pg} {x c v : Nat} (hV : VS P x) (hc : c < 3) (hv : v < 4) : VS P (setV x c v) :=
  ⟨setV_lt hV.1 hc hv, fun h hh => by rw [hd_setV hc hh hv]; exact hV.2 h hh⟩
theorem VS_setH {P : Pg} {x h w : Nat} (hV : VS P x) (hh : h < 3) (hlt : h < pH P) (hw : w < 524288) (hW : WV w) (hp : pl w ≤ pN P h) : VS P (setH x h w) :=
  ⟨setH_lt hV.1 hh hw, fun g hg => by
    by_cases c : g = h
    · subst c; rw [hd_setH hg hw]; exact ⟨hW, hp, fun q => by omega⟩
    · rw [hd_setHn hh hg hw c]; exact hV.2 g hg⟩
theorem wf_lt {w c v : Nat} (h : wf w c = some v) : v < 4 := by
  unfold wf at h
  split at h
  · simp only [Option.some.injEq] at h; omega
  · split at h
    · simp only [Option.some.injEq] at h; omega
    · cases h
theorem see_lt (w x c : Nat) : see w x c < 4 := by
  unfold see
  cases h : wf w c with
  | none => exact cv_lt x c
  | some v => exact wf_lt h
theorem stp_VS {P : Pg} {x h lt y : Nat} (hP : PgV P) (hV : VS P x) (hh : h < 3) (hy : stp P lt x h = some y) : VS P y := by
  unfold stp at hy
  have hw := hd_lt x h
  obtain ⟨hW, hpl, hz⟩ := hV.2 h hh
  obtain ⟨hS, hN⟩ := hP.2.2.1 h hh
  have hCV := hP.2.2.2.2 h (pl (hd x h)) hh
  have hH := hP.2.2.2.1 h
  have hb4 := hb_lt (hd x h)
  have ha4 := ha_lt (hd x h)
  obtain ⟨w1, w2, w3, w4, w5⟩ := hW
  generalize hd x h = w at *
  generalize pC P h (pl w) = f at *
  unfold stpf at hy
  split at hy
  · cases hy
  · rename_i hp
    obtain ⟨v1, v2, v3, v4, v5, v6⟩ := hCV (by omega)
    have hlt : h < pH P := by
      apply Classical.byContradiction
      intro q
      have := hH (by omega)
      omega
    have fin : ∀ (z p a b n o l : Nat), VS P z → p ≤ pN P h → a < 4 → b < 4 → n ≤ 2 → (n = 0 → o = 0) → (n ≤ 1 → l = 0) → o < 12 → l < 12 → some (setH z h (mkw p a b n o l)) = some y → VS P y := by
      intro z p a b n o l hz hp ha hb hn hn0 hn1 ho hl e
      simp only [Option.some.injEq] at e
      rw [← e]
      exact VS_setH hz hh hlt (mkw_lt (by omega) ha hb (by omega) (by omega) (by omega)) (WV_mk (by omega) ha hb hn hn0 hn1 ho hl) (by rw [pl_mkw (by omega)]; exact hp)
    split at hy
    · exact fin _ _ _ _ _ _ _ hV (by omega) (see_lt _ _ _) hb4 w1 w2 w3 w4 w5 hy
    · split at hy
      · rename_i hk
        have g1 := v2 (by omega) (by omega)
        have g2 := v3 hk
        have hu : (if f 2 = 4 then hb w else f 2) < 4 := by split <;> omega
        split at hy
        · exact fin _ _ _ _ _ _ _ (VS_setV hV g1 hu) (by omega) ha4 hb4 w1 w2 w3 w4 w5 hy
        · split at hy
          · cases hy
          · split at hy
            · exact fin _ _ _ _ _ _ _ hV (by omega) ha4 hb4 (by omega) (fun q => by omega) (fun _ => rfl) (by omega) (by omega) hy
            · exact fin _ _ _ _ _ _ _ hV (by omega) ha4 hb4 (by omega) (fun q => by omega) (fun q => by omega) w4 (by omega) hy
      · split at hy
        · rename_i hk
          have g1 := v2 (by omega) (by omega)
          have g2 := v5 hk
          split at hy
          · split at hy
            · exact fin _ _ _ _ _ _ _ (VS_setV hV g1 g2) (by omega) (by omega) hb4 (by omega) (fun _ => rfl) (fun _ => rfl) (by omega) (by omega) hy
            · exact fin _ _ _ _ _ _ _ hV (by omega) (by omega) hb4 (by omega) (fun _ => rfl) (fun _ => rfl) (by omega) (by omega) hy
          · cases hy
        · split at hy
          · rename_i hk
            have g1 := v2 (by omega) (by omega)
            split at hy
            · exact fin _ _ _ _ _ _ _ (VS_setV hV g1 (Nat.mod_lt _ (by omega))) (by omega) (cv_lt _ _) hb4 (by omega) (fun _ => rfl) (fun _ => rfl) (by omega) (by omega) hy
            · cases hy
          · split at hy
            · split at hy
              · exact fin _ _ _ _ _ _ _ hV (by omega) ha4 hb4 (by omega) (fun _ => rfl) (fun _ => rfl) (by omega) (by omega) hy
              · cases hy
            · split at hy
              · rename_i hk
                have g6 := v6 hk
                split at hy
                · exact fin _ _ _ _ _ _ _ hV (by omega) ha4 hb4 w1 w2 w3 w4 w5 hy
                · exact fin _ _ _ _ _ _ _ hV (by omega) ha4 hb4 w1 w2 w3 w4 w5 hy
              · split at hy
                · rename_i hk
                  have g2 := v4 (by omega)
                  exact fin _ _ _ _ _ _ _ hV (by omega) g2 hb4 w1 w2 w3 w4 w5 hy
                · exact fin _ _ _ _ _ _ _ hV (by omega) ha4 ha4 w1 w2 w3 w4 w5 hy
theorem arr_VS {P : Pg} {x h y : Nat} (hV : VS P x) (hh : h < 3) (hP : PgV P) (hy : arr x h = some y) : VS P y := by
  unfold arr arrf at hy
  have hw := hd_lt x h
  obtain ⟨⟨w1, w2, w3, w4, w5⟩, hpl, hz⟩ := hV.2 h hh
  have hN := (hP.2.2.1 h hh).2
  have hb4 := hb_lt (hd x h)
  have ha4 := ha_lt (hd x h)
  split at hy
  · cases hy
  · rename_i h0
    have hlt : h < pH P := by
      apply Classical.byContradiction
      intro q
      have := hz (by omega)
      rw [this] at h0
      exact h0 rfl
    simp only [Option.some.injEq] at hy
    rw [← hy]
    have hp32 := pl_lt (hd x h)
    exact VS_setH (VS_setV hV (by omega) (by omega)) hh hlt (mkw_lt hp32 ha4 hb4 (by omega) (by omega) (by omega)) (WV_mk hp32 ha4 hb4 (by omega) (fun q => w3 (by omega)) (fun _ => rfl) w5 (by omega)) (by rw [pl_mkw hp32]; exact hpl)
theorem mv_VS {P : Pg} {x k lt y : Nat} (hP : PgV P) (hV : VS P x) (hk : k < 6) (hy : mv P lt x k = some y) : VS P y := by
  unfold mv at hy
  split at hy
  · exact stp_VS hP hV (by omega) hy
  · exact arr_VS hV (by omega) hP hy
