/-! PURE: all orders of whole calls in the reference -/
def oM : List Nat := [48, 74, 75, 76, 77, 78, 79, 80, 81, 89, 90]
def K6 (σ τ : Mm) : Prop := ∀ j, j ≠ 47 → j ≠ 60 → τ.1 48 j = σ.1 48 j
theorem LdM_oM {P : Pg} {σ τ : Mm} (h : LdM P σ) (hF : Fr oM σ τ) (hK : K6 σ τ) : LdM P τ := LdM_of h (hK 7 (by decide) (by decide)) (hF.r1 55 (by decide)) (hF.r1 56 (by decide)) (hF.r1 66 (by decide)) (hF.r1 67 (by decide)) (hF.r1 68 (by decide)) (hF.r1 69 (by decide)) (hF.r1 70 (by decide)) (hF.r1 71 (by decide))
theorem RoM_of {k : Nat} {l : List Nat} {σ τ : Mm} (h : RoM k l σ) (e : τ.1 k = σ.1 k) : RoM k l τ := ⟨h.1, h.2.1, fun i hi => by rw [e]; exact h.2.2 i hi⟩
theorem ordF_s (n : Nat) : f_X11_ordersFrom (n + 1) = f_X11_ordersFrom_b (f_X11_ordersFrom n) := by
  have h : ∀ m, f_X11_ordersFrom m = fx (fun _ _ => none) m f_X11_ordersFrom_b := fun m => rfl
  rw [h, h, p_fx]
theorem mhand_eq {S : Su} {X : Nat → Bool} {x h : Nat} {σ : Mm} (hS : SuV S) (hFX : FX S X) (hL : LdM (PgOf S X) σ) (hh : h < 3) (hB : BV S x) (hd1 : pl (hd x h) < cnt S h) (hM : MR (PgOf S X) σ (emb (PgOf S X) x)) :
    ∃ r σ', f_X11_wholeCall (nI h) σ = some (r, σ') ∧ ((wcq S X (cal S h (pl (hd x h))) (uof x h) = none ∧ r = nI 0) ∨ ∃ u, wcq S X (cal S h (pl (hd x h))) (uof x h) = some u ∧ r = nI 1 ∧ MR (PgOf S X) σ' (emb (PgOf S X) (nxt x h u))) ∧ (∀ j, j ≠ 47 → σ'.1 48 j = σ.1 48 j) ∧ Fr mL σ σ' := by
  have hP := PgOf_V hS hFX
  obtain ⟨q1, q2, q3, q4, q5, q6, q7, q8⟩ := cal_ok (X := X) hS hFX hh hd1
  have hbp := bp_le hP hh (pl (hd x h) + 1)
  have hc2 := cnt_le S h
  have hof : of0 (PgOf S X) h (bp (PgOf S X) h (pl (hd x h))) = bp (PgOf S X) h (pl (hd x h)) ∧ bl (PgOf S X) h (bp (PgOf S X) h (pl (hd x h))) = fl S X (cal S h (pl (hd x h))) := by
    unfold of0 bl
    by_cases d0 : pl (hd x h) = 0
    · have hlt := q8.mp d0
      rw [if_pos hlt, if_pos hlt]
      rw [d0] at q3 ⊢
      have e0 : bp (PgOf S X) h 0 = 0 := rfl
      have e1 : bp (PgOf S X) h (0 + 1) = pS (PgOf S X) h := rfl
      rw [e0, e1] at q3
      exact ⟨e0.symm, by omega⟩
    · have hlt : ¬ bp (PgOf S X) h (pl (hd x h)) < pS (PgOf S X) h := fun q => d0 (q8.mpr q)
      rw [if_neg hlt, if_neg hlt]
      rw [show pl (hd x h) = 1 by omega] at q3 ⊢
      have e0 : bp (PgOf S X) h 1 = pS (PgOf S X) h := rfl
      have e1 : bp (PgOf S X) h (1 + 1) = pN (PgOf S X) h := rfl
      rw [e0, e1] at q3
      exact ⟨e0.symm, by omega⟩
  obtain ⟨r, σ', e1, e2, e3, e4⟩ := wholeCall_eq (x := emb (PgOf S X) x) (o := bp (PgOf S X) h (pl (hd x h))) hS hFX q2 hP (PgX_Of hS hFX) hL hh q1 (emb_VS hP hB) (uof_AV x h _) (by rw [uof_pl]; omega) (by omega) (by omega) q7 hof.1 hof.2 (by rw [emb_uof hP hh]; exact hM)
  refine ⟨r, σ', e1, ?_, e3, e4⟩
  rcases e2 with ⟨f1, f2⟩ | ⟨z, f1, f2, f3⟩
  · left
    refine ⟨?_, f2⟩
    unfold wcq
    rw [f1]; rfl
  · right
    obtain ⟨k, a, b, hk, ha4, hb4, rfl⟩ := rn_fin hS hFX q2 (uof_AV x h _) (by rw [uof_pl]; omega) f1
    have hfl := hFX _ q2
    refine ⟨mky k 0 a b, ?_, f2, ?_⟩
    · unfold wcq
      rw [f1]
      show some (mky k (fl S X (cal S h (pl (hd x h)))) a b - 64 * pl (hd (mky k (fl S X (cal S h (pl (hd x h)))) a b) 0)) = _
      rw [mky_rst hk (by omega) ha4 hb4]
    · rw [emb_nxt hP hh hB hk ha4 hb4 q3] at f3
      exact f3
theorem ordF_eq {S : Su} {X : Nat → Bool} (hS : SuV S) (hFX : FX S X) : ∀ n x dp l σ, BV S x → rmt S x < n → dp + rmt S x ≤ 6 → LdM (PgOf S X) σ → MR (PgOf S X) σ (emb (PgOf S X) x) → RoM 89 l σ → σ.1 48 60 = nI l.length → l.length + nlx S n x ≤ 90 →
    ∃ σ', f_X11_ordersFrom n (nI dp) σ = some ((), σ') ∧ RoM 89 (ordr S (wcq S X) n x l) σ' ∧ σ'.1 48 60 = nI (ordr S (wcq S X) n x l).length ∧ (∀ j, j < dp → σ'.2 90 j = σ.2 90 j) ∧ K6 σ σ' ∧ Fr oM σ σ' := by
  have hP := PgOf_V hS hFX
  have hX := PgX_Of hS hFX
  have hH : sH S ≤ 3 := hS.2.2.2.1
  intro n
  induction n with
  | zero => intro x dp l σ _ h; omega
  | succ n ih =>
    intro x dp l σ hB hr hdp hL hM hR h60 hlen
    rw [ordF_s]
    unfold f_X11_ordersFrom_b
    rw [pack_eq hX hP hL.1 (emb_VS hP hB) hM, p_bd, p_ck _ (by omega) (by omega), p_ix (a := dp) (by omega), p_nm]
    have unp : ∀ τ, K6 σ τ → Fr oM σ τ → ∃ τ1, f_X11_unpack (lN (pm (PgOf S X) (emb (PgOf S X) x) (pH (PgOf S X)))) τ = some ((), τ1) ∧ MR (PgOf S X) τ1 (emb (PgOf S X) x) ∧ Fr uL τ τ1 := fun τ hK hF => unpack_eq hX hP (by rw [hK 7 (by decide) (by decide)]; exact hL.1) (emb_VS hP hB)
    -- the loop over hands
    have loop : ∃ σ' fl1, fx (fun _ _ _ => none) FU (f_X11_ordersFrom_L14 (f_X11_ordersFrom n) (fun (xq2 : Int32) (σ : Mm) => f_X11_ordersFrom_73 (f_X11_ordersFrom n) (nI dp) xq2 σ) (nI dp)) (nI 1) (nI 0) (sL σ 90 dp (lN (pm (PgOf S X) (emb (PgOf S X) x) (pH (PgOf S X))))) = f_X11_ordersFrom_73 (f_X11_ordersFrom n) (nI dp) (bI fl1) σ' ∧ (fl1 = true ↔ ∀ g, g < sH S → rm S x g = 0) ∧ RoM 89 (ohand S (wcq S X) (ordr S (wcq S X) n) x (sH S) l) σ' ∧ σ'.1 48 60 = nI (ohand S (wcq S X) (ordr S (wcq S X) n) x (sH S) l).length ∧ σ'.2 90 dp = lN (pm (PgOf S X) (emb (PgOf S X) x) (pH (PgOf S X))) ∧ (∀ j, j < dp → σ'.2 90 j = σ.2 90 j) ∧ K6 σ σ' ∧ Fr oM σ σ' := by
      refine lq2 (F := f_X11_ordersFrom_L14 (f_X11_ordersFrom n) (fun (xq2 : Int32) (σ : Mm) => f_X11_ordersFrom_73 (f_X11_ordersFrom n) (nI dp) xq2 σ) (nI dp)) (fun a b τ => ∃ h f1, h ≤ sH S ∧ a = bI f1 ∧ b = nI h ∧ (f1 = true ↔ ∀ g, g < h → rm S x g = 0) ∧ RoM 89 (ohand S (wcq S X) (ordr S (wcq S X) n) x h l) τ ∧ τ.1 48 60 = nI (ohand S (wcq S X) (ordr S (wcq S X) n) x h l).length ∧ (ohand S (wcq S X) (ordr S (wcq S X) n) x h l).length ≤ l.length + smc S n x h ∧ τ.2 90 dp = lN (pm (PgOf S X) (emb (PgOf S X) x) (pH (PgOf S X))) ∧ (∀ j, j < dp → τ.2 90 j = σ.2 90 j) ∧ K6 σ τ ∧ Fr oM σ τ) (fun _ b _ => 3 - ix b) (fun out => ∃ σ' fl1, out = f_X11_ordersFrom_73 (f_X11_ordersFrom n) (nI dp) (bI fl1) σ' ∧ (fl1 = true ↔ ∀ g, g < sH S → rm S x g = 0) ∧ RoM 89 (ohand S (wcq S X) (ordr S (wcq S X) n) x (sH S) l) σ' ∧ σ'.1 48 60 = nI (ohand S (wcq S X) (ordr S (wcq S X) n) x (sH S) l).length ∧ σ'.2 90 dp = lN (pm (PgOf S X) (emb (PgOf S X) x) (pH (PgOf S X))) ∧ (∀ j, j < dp → σ'.2 90 j = σ.2 90 j) ∧ K6 σ σ' ∧ Fr oM σ σ') ?_ FU (nI 1) (nI 0) _ ?_ ⟨0, true, by omega, rfl, rfl, ⟨fun _ g hg => by omega, fun _ => rfl⟩, RoM_of hR (by rw [r_sL1]), h60, by show l.length ≤ l.length + 0; omega, r_sL0 .., fun j hj => r_sLj (by omega), fun j _ _ => by rw [r_sL1], (Fr.rf _ _).sL (by decide)⟩
      · rintro L a b τ ⟨h, f1, hh, rfl, rfl, hf1, hRo, ho60, hln, h90, h9j, hK, hF⟩
        have hLt := LdM_oM hL hF hK
        unfold f_X11_ordersFrom_L14 f_X11_ordersFrom_67
        simp only [qi_0, qi_1, qi_2, qi_3, qi_4, qi_5, qi_6, qi_7, qi_8, qi_9, qi_10, qi_11, qi_12, qi_13, qi_14, qi_15, qi_16, qi_17, qi_19, qi_26, qi_31, qi_32, qi_35, qi_40, qi_42, qi_48, qi_50, qi_57, qi_59, qi_63, qi_64, qi_97, qi_120, qi_122, qi_210, qi_255, qi_511, qi_512, qi_1000, qi_6000, qi_13312, qi_14337, qi_16383, qi_16384, qi_524287, ql_0, ql_1, ql_3, ql_4, ql_10, ql_12, ql_13, ql_16, ql_42, ql_157, ql_256, ql_16383, ql_524287]
        rw [hLt.1, show pH (PgOf S X) = sH S from rfl]
        by_cases c : sH S ≤ h
        · right
          have e : h = sH S := by omega
          subst e
          exact ⟨τ, f1, by rw [i_le (by omega) c], hf1, hRo, ho60, h90, h9j, hK, hF⟩
        · left
          have hh3 : h < 3 := by omega
          obtain ⟨hpc, _⟩ := BV_f hB hh3
          have hc2 := cnt_le S h
          obtain ⟨τ1, u1, u2, u3⟩ := unp τ hK hF
          have hF1 : Fr oM σ τ1 := hF.tr (u3.mo (by intro k hk; revert k; decide))
          have hK1 : K6 σ τ1 := fun j j1 j2 => by rw [u3.r1 48 (by decide)]; exact hK j j1 j2
          have hL1 := LdM_oM hL hF1 hK1
          have hRo1 := RoM_of hRo (u3.r1 89 (by decide))
          have ho1 : τ1.1 48 60 = nI (ohand S (wcq S X) (ordr S (wcq S X) n) x h l).length := by rw [u3.r1 48 (by decide)]; exact ho60
          have h901 : τ1.2 90 dp = lN (pm (PgOf S X) (emb (PgOf S X) x) (pH (PgOf S X))) := by rw [u3.r2 90 (by decide)]; exact h90
          have h9j1 : ∀ j, j < dp → τ1.2 90 j = σ.2 90 j := fun j hj => by rw [u3.r2 90 (by decide)]; exact h9j j hj
          have h75 := (u2.2 h (show h < sH S by omega)).1
          rw [emb_hd hP hh3, show pl (ew (PgOf S X) x h) = bp (PgOf S X) h (pl (hd x h)) from pl_mkw (by have := (bp_le hP hh3 (pl (hd x h))).2; omega)] at h75
          have hcO := cO_le (P := PgOf S X) h (bp (PgOf S X) h (pl (hd x h)))
          have hcM : cM (PgOf S X) h ≤ 2 := by unfold cM; split <;> omega
          rw [i_nle (by omega) (by omega), p_ck _ (by omega) (by omega), p_ix (a := dp) (by omega), h90, u1, p_bd, p_ck _ (by omega) (by omega), p_ck _ (by omega) (by omega), p_ix (a := h) (by omega), h75, hL1.2.1 h (show h < sH S by omega)]
          by_cases hz : rm S x h = 0
          · have hnl : ¬ pl (hd x h) < cnt S h := by unfold rm at hz; omega
            have he := bp_end (X := X) hpc hnl
            rw [i_eq (cO_end he (hP.2.2.1 h hh3).1).1, p_nm, nI_add]
            refine ⟨bI f1, nI (h + 1), τ1, ⟨h + 1, f1, by omega, rfl, rfl, ?_, ?_, ?_, ?_, h901, h9j1, hK1, hF1⟩, ?_, rfl⟩
            · rw [hf1]
              constructor
              · intro q g hg
                by_cases e : g = h
                · rw [e]; exact hz
                · exact q g (by omega)
              · intro q g hg; exact q g (by omega)
            · rw [ohand, if_pos hz]; exact hRo1
            · rw [ohand, if_pos hz]; exact ho1
            · rw [ohand, if_pos hz, smc]; omega
            · rw [p_ix (by omega)]; omega
          · have hlt : pl (hd x h) < cnt S h := by unfold rm at hz; omega
            obtain ⟨q1, q2, q3, q4, q5, q6, q7, q8⟩ := cal_ok (X := X) hS hFX hh3 hlt
            have hff : (false = true ↔ ∀ g, g < h + 1 → rm S x g = 0) := ⟨(fun q => by cases q), fun q => absurd (q h (by omega)) hz⟩
            obtain ⟨r, τ2, w1, w2, w3, w4⟩ := mhand_eq hS hFX hL1 hh3 hB hlt u2
            have hF2 : Fr oM σ τ2 := hF1.tr (w4.mo (by intro k hk; revert k; decide))
            have hK2 : K6 σ τ2 := fun j j1 j2 => by rw [w3 j j1]; exact hK1 j j1 j2
            have hL2 := LdM_oM hL hF2 hK2
            have hRo2 := RoM_of hRo1 (w4.r1 89 (by decide))
            have ho2 : τ2.1 48 60 = nI (ohand S (wcq S X) (ordr S (wcq S X) n) x h l).length := by rw [w3 60 (by decide)]; exact ho1
            have h902 : τ2.2 90 dp = lN (pm (PgOf S X) (emb (PgOf S X) x) (pH (PgOf S X))) := by rw [w4.r2 90 (by decide)]; exact h901
            have h9j2 : ∀ j, j < dp → τ2.2 90 j = σ.2 90 j := fun j hj => by rw [w4.r2 90 (by decide)]; exact h9j1 j hj
            rw [i_ne (by omega) (by omega) (cO_ne q5), w1, p_bd]
            rcases w2 with ⟨hw, rfl⟩ | ⟨u, hw, rfl, hMu⟩
            · rw [i_eq rfl, p_nm, nI_add]
              refine ⟨bI false, nI (h + 1), τ2, ⟨h + 1, false, by omega, rfl, rfl, hff, ?_, ?_, ?_, h902, h9j2, hK2, hF2⟩, ?_, rfl⟩
              · rw [ohand, if_neg hz, hw]; exact hRo2
              · rw [ohand, if_neg hz, hw]; exact ho2
              · rw [ohand, if_neg hz, hw, smc]; show (ohand S (wcq S X) (ordr S (wcq S X) n) x h l).length ≤ _; omega
              · rw [p_ix (by omega)]; omega
            · have hB2 := nxt_BV (u := u) hh3 hB hlt
              have hr2 := rmt_nxt (u := u) hh3 hB hz
              have hnn : ¬ (rm S x 0 = 0 ∧ rm S x 1 = 0 ∧ rm S x 2 = 0) := fun q => by
                rcases lt3 hh3 with rfl | rfl | rfl
                · exact hz q.1
                · exact hz q.2.1
                · exact hz q.2.2
              rw [nlx_s S n x hnn] at hlen
              have hsm := smc_le S n x (show h + 1 ≤ 3 by omega)
              rw [smc] at hsm
              obtain ⟨τ3, e1, e2, e3, e4, e5, e6⟩ := ih (nxt x h u) (dp + 1) _ τ2 hB2 (by omega) (by omega) hL2 hMu hRo2 ho2 (by rw [nlx_nxt hh3 hB hz]; omega)
              have hok := (ordr_ok (W := wcq S X) hH n (nxt x h u) _ hB2 (by omega) hRo.1 hRo.2.1).2.2
              rw [nlx_nxt hh3 hB hz] at hok
              rw [i_ne (by omega) (by omega) (by omega), nI_add dp 1, e1, p_bd, p_nm, nI_add]
              refine ⟨bI false, nI (h + 1), τ3, ⟨h + 1, false, by omega, rfl, rfl, hff, ?_, ?_, ?_, by rw [e4 dp (by omega)]; exact h902, fun j hj => by rw [e4 j (by omega)]; exact h9j2 j hj, fun j j1 j2 => by rw [e5 j j1 j2]; exact hK2 j j1 j2, hF2.tr e6⟩, ?_, rfl⟩
              · rw [ohand, if_neg hz, hw]; exact e2
              · rw [ohand, if_neg hz, hw]; exact e3
              · rw [ohand, if_neg hz, hw, smc]
                show (ordr S (wcq S X) n (nxt x h u) (ohand S (wcq S X) (ordr S (wcq S X) n) x h l)).length ≤ _
                omega
              · rw [p_ix (by omega)]; omega
      · rw [p_ix (by omega), FU_v]; omega
    obtain ⟨σ1, f1, e1, e2, e3, e4, e5, e6, e7, e8⟩ := loop
    rw [qi_1, qi_0, e1]
    unfold f_X11_ordersFrom_73
    simp only [qi_0, qi_1, qi_2, qi_3, qi_4, qi_5, qi_6, qi_7, qi_8, qi_9, qi_10, qi_11, qi_12, qi_13, qi_14, qi_15, qi_16, qi_17, qi_19, qi_26, qi_31, qi_32, qi_35, qi_40, qi_42, qi_48, qi_50, qi_57, qi_59, qi_63, qi_64, qi_97, qi_120, qi_122, qi_210, qi_255, qi_511, qi_512, qi_1000, qi_6000, qi_13312, qi_14337, qi_16383, qi_16384, qi_524287]
    rw [ordr]
    have hall3 : (∀ g, g < sH S → rm S x g = 0) ↔ (rm S x 0 = 0 ∧ rm S x 1 = 0 ∧ rm S x 2 = 0) := by
      constructor
      · intro q
        have hz : ∀ g, g < 3 → rm S x g = 0 := fun g hg => by
          by_cases e : g < sH S
          · exact q g e
          · unfold rm
            rw [show cnt S g = 0 from if_neg e]; omega
        exact ⟨hz 0 (by omega), hz 1 (by omega), hz 2 (by omega)⟩
      · intro q g hg
        rcases lt3 (show g < 3 by omega) with rfl | rfl | rfl
        · exact q.1
        · exact q.2.1
        · exact q.2.2
    by_cases hz : rm S x 0 = 0 ∧ rm S x 1 = 0 ∧ rm S x 2 = 0
    · have ef : f1 = true := e2.mpr (hall3.mpr hz)
      have hoh : ∀ h, h ≤ sH S → ohand S (wcq S X) (ordr S (wcq S X) n) x h l = l := by
        intro h
        induction h with
        | zero => intro _; rfl
        | succ h ihh =>
          intro hh
          rw [ohand, if_pos (hall3.mpr hz h (by omega))]
          exact ihh (by omega)
      rw [hoh _ (Nat.le_refl _)] at e3 e4
      obtain ⟨τ1, u1, u2, u3⟩ := unp σ1 e7 e8
      have er : rslt (PgOf S X) (emb (PgOf S X) x) = resf x (sH S) := resf_emb hP x _ hH
      have h60' : τ1.1 48 60 = nI l.length := by rw [u3.r1 48 (by decide)]; exact e4
      obtain ⟨σ2, g1, g2, g3⟩ := comes_eq (k := 89) (v := rslt (PgOf S X) (emb (PgOf S X) x)) (cap := 128) (RoM_of e3 (u3.r1 89 (by decide))) (resf_lt3 _ hP.1) rfl (by omega) (by omega)
      rw [ef, bI_t, i_ne (by omega) (by omega) (by omega), p_ck _ (by omega) (by omega), p_ix (a := dp) (by omega), e5, u1, p_bd, mRes_eq hP (by rw [u3.r1 48 (by decide), e7 7 (by decide) (by decide)]; exact hL.1) u2, p_bd, h60', g1, p_bd, p_nm, if_pos hz]
      rw [er] at g2 ⊢
      have hFz : Fr oM σ σ2 := (e8.tr (u3.mo (by intro k hk; revert k; decide))).tr (g3.mo (by intro k hk; revert k; decide))
      refine ⟨_, rfl, RoM_of g2 (by rw [r_sI1 (by decide)]), by rw [r_sI0], fun j hj => ?_, fun j j1 j2 => ?_, hFz.sI (by decide)⟩
      · rw [r_sI2, g3.r2 90 (by decide), u3.r2 90 (by decide)]; exact e6 j hj
      · rw [r_sIj j2, g3.r1 48 (by decide), u3.r1 48 (by decide)]; exact e7 j j1 j2
    · have ef : f1 = false := by
        cases f1 with
        | false => rfl
        | true => exact absurd (hall3.mp (e2.mp rfl)) hz
      rw [ef, bI_f, i_eq rfl, if_neg hz]
      exact ⟨σ1, rfl, e3, e4, e6, e7, e8⟩
