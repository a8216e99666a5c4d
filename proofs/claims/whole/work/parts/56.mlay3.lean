/-! PURE: the reference lays its program out: the loops -/
def LyD (S : Su) (X : Nat → Bool) (c : Nat) (υ : Mm) : Prop := ∀ d, d < c → υ.1 66 d = nI (fl S X d) ∧ ∀ q, q < fl S X d → CdM υ (14 * d + q) 0 (lc S X d q)
theorem CdM_5 {σ : Mm} {k o : Nat} (h : σ.1 67 k = nI 5) : CdM σ k o (fun r => if r = 0 then 5 else 0) := by
  have e : (fun r : Nat => if r = 0 then 5 else 0) 0 = 5 := rfl
  unfold CdM
  rw [e]
  exact ⟨h, fun _ q => by omega, fun q => by omega, fun q => by omega, fun q => by omega⟩
theorem CdM_s {σ : Mm} {k o j cl : Nat} {f : Nat → Nat} {v : Int32} (h : CdM σ k o f) (hk : k ≠ j ∨ cl < 67) : CdM (sI σ cl j v) k o f := by
  have e : ∀ b, 67 ≤ b → (sI σ cl j v).1 b k = σ.1 b k := by
    intro b hb'
    by_cases q : b = cl
    · subst q
      rw [r_sIj (by omega)]
    · rw [r_sI1 q]
  exact CdM_of h (e 67 (by omega)) (e 68 (by omega)) (e 69 (by omega)) (e 70 (by omega)) (e 71 (by omega))
theorem CdM_73 {σ : Mm} {k o j : Nat} {f : Nat → Nat} {v : Int32} (h : CdM σ k o f) : CdM (sI σ 73 j v) k o f := 
  CdM_of h (by rw [r_sI1 (by decide)]) (by rw [r_sI1 (by decide)]) (by rw [r_sI1 (by decide)]) (by rw [r_sI1 (by decide)]) (by rw [r_sI1 (by decide)])
theorem SeM_lo {S : Su} {σ τ : Mm} (h : SeM S σ) (hF : Fr loL σ τ) : SeM S τ := SeM_Fr h hF (by rw [hF.r1 48 (by decide)]) (by rw [hF.r1 48 (by decide)]) (by rw [hF.r1 48 (by decide)]) (by decide)
theorem WrM_lo {W : List Nat} {σ τ : Mm} (h : WrM W σ) (hF : Fr loL σ τ) : WrM W τ := by
  unfold WrM at *
  rw [hF.r1 48 (by decide), hF.r1 72 (by decide)]
  exact h
theorem lay1_eq {S : Su} {W : List Nat} {st c : Nat} {σ τ : Mm} (hS : SuV S) (hW : Wok W 42) (hM : WrM W σ) (hC : SeM S σ) (hs : st < 64) (hc : c < sK S) (hD : LyD S (XF W st) c τ) (hF : Fr loL σ τ) (K : Int32 → Mm → Option (Unit × Mm)) :
    ∃ τ', fx (fun _ _ _ => none) FU (f_X11_lay_L15 K (nI st) (nI c)) (nI 0) (nI 0) τ = K (nI (fl S (XF W st) c)) τ' ∧ LyD S (XF W st) c τ' ∧ (∀ t, t < sN S c → τ'.1 73 t = nI (fps (XF W st) c t)) ∧ (∀ q, q < fl S (XF W st) c → CdM τ' (14 * c + q) 0 (rcf S (XF W st) c (sN S c) q)) ∧ Fr loL σ τ' := by
  have h6 := hS.1
  obtain ⟨n1, n7⟩ := hS.2.1 c hc
  have hFX := FX_W (st := st) hS hW
  have h13 := hFX c hc
  have hfl : fl S (XF W st) c = fps (XF W st) c (sN S c) := rfl
  refine lq2 (F := f_X11_lay_L15 K (nI st) (nI c)) (fun a b υ => ∃ s, s ≤ sN S c ∧ a = nI (fps (XF W st) c s) ∧ b = nI s ∧ LyD S (XF W st) c υ ∧ (∀ t, t < s → υ.1 73 t = nI (fps (XF W st) c t)) ∧ (∀ q, q < fps (XF W st) c s → CdM υ (14 * c + q) 0 (rcf S (XF W st) c s q)) ∧ Fr loL σ υ) (fun _ b _ => 8 - ix b) (fun o => ∃ τ', o = K (nI (fl S (XF W st) c)) τ' ∧ LyD S (XF W st) c τ' ∧ (∀ t, t < sN S c → τ'.1 73 t = nI (fps (XF W st) c t)) ∧ (∀ q, q < fl S (XF W st) c → CdM τ' (14 * c + q) 0 (rcf S (XF W st) c (sN S c) q)) ∧ Fr loL σ τ') ?_ FU (nI 0) (nI 0) τ ?_ ⟨0, by omega, rfl, rfl, hD, fun t ht => by omega, fun q hq => absurd hq (Nat.not_lt_zero _), hF⟩
  · rintro L a b υ ⟨s, hsn, rfl, rfl, uD, u73, uC, uF⟩
    have hCu := SeM_lo hC uF
    have h49 := hCu.2.2.2.1 c hc
    unfold f_X11_lay_L15 f_X11_lay_84
    simp only [qi_0, qi_1, qi_2, qi_3, qi_4, qi_5, qi_6, qi_7, qi_8, qi_9, qi_10, qi_11, qi_12, qi_13, qi_14, qi_15, qi_16, qi_17, qi_19, qi_26, qi_31, qi_32, qi_35, qi_40, qi_42, qi_48, qi_50, qi_57, qi_59, qi_63, qi_64, qi_97, qi_120, qi_122, qi_210, qi_255, qi_511, qi_512, qi_1000, qi_6000, qi_13312, qi_14337, qi_16383, qi_16384, qi_524287]
    rw [p_ck _ (by omega) (by omega), p_ix (a := c) (by omega), h49]
    by_cases c0 : sN S c ≤ s
    · right
      have e : s = sN S c := by omega
      subst e
      rw [i_le (by omega) c0]
      exact ⟨υ, by rw [hfl], uD, u73, uC, uF⟩
    · left
      have hn1 := fps_le (XF W st) c (show s + 1 ≤ sN S c by omega)
      have hs1 : fps (XF W st) c (s + 1) = fps (XF W st) c s + 1 + (if XF W st (7 * c + s) = true then 1 else 0) := by rw [fps]
      have hb1 : fps (XF W st) c s + 1 ≤ 13 := by rw [hs1] at hn1; omega
      have hD13 : ∀ d, d < c → fl S (XF W st) d ≤ 13 := fun d hd => hFX d (by omega)
      rw [i_nle (by omega) (by omega), p_ck _ (by omega) (by omega), p_ix (a := s) (by omega), p_nm, pk_mul, pk_mul, nI_add (14 * c) (fps (XF W st) c s), nI_add (7 * c) s]
      obtain ⟨υ2, e2, g1, g2, g3⟩ := lays_eq (σ := sI υ 73 s (nI (fps (XF W st) c s))) (a := 14 * c + fps (XF W st) c s) (b := 7 * c + s) (by omega) (by omega)
      have g3' : Fr loL σ υ2 := (uF.sI (by decide)).tr (g3.mo (by intro k hk; revert k; decide))
      have hnew : CdM υ2 (14 * c + fps (XF W st) c s) 0 (sC S c s) := g1 _ ((SeM_lo hC (uF.sI (by decide))).2.2.2.2.1 c s hc (by omega))
      have hD2 : LyD S (XF W st) c υ2 := by
        intro d hd
        have := hD13 d hd
        obtain ⟨d1, d2⟩ := uD d hd
        refine ⟨?_, fun q hq => g2 _ _ _ (by omega) (CdM_73 (d2 q hq))⟩
        rw [g3.r1 66 (by decide), r_sI1 (by decide)]; exact d1
      have h73 : ∀ t, t < s + 1 → υ2.1 73 t = nI (fps (XF W st) c t) := by
        intro t ht
        rw [g3.r1 73 (by decide)]
        by_cases e : t = s
        · rw [e, r_sI0]
        · rw [r_sIj e]; exact u73 t (by omega)
      have hold : ∀ q, q < fps (XF W st) c s + 1 → CdM υ2 (14 * c + q) 0 (rcf S (XF W st) c (s + 1) q) := by
        intro q hq
        by_cases e : q = fps (XF W st) c s
        · rw [e, rcf_at]; exact hnew
        · rw [rcf_lt (by omega)]; exact g2 _ _ _ (by omega) (CdM_73 (uC q (by omega)))
      rw [e2, p_bd, nI_add (fps (XF W st) c s) 1, p_nm, isFenced_eq hW (WrM_lo hM g3') hs (by omega), p_bd]
      cases hx : XF W st (7 * c + s) with
      | false =>
        have hs1' : fps (XF W st) c (s + 1) = fps (XF W st) c s + 1 := by rw [hs1, hx]; rfl
        rw [bI_f, i_eq rfl, nI_add s 1, p_nm]
        refine ⟨nI (fps (XF W st) c s + 1), nI (s + 1), υ2, ⟨s + 1, by omega, by rw [hs1'], rfl, hD2, h73, ?_, g3'⟩, ?_, rfl⟩
        · rw [hs1']; exact hold
        · rw [p_ix (by omega)]; omega
      | true =>
        have hs1' : fps (XF W st) c (s + 1) = fps (XF W st) c s + 1 + 1 := by rw [hs1, hx]; rfl
        rw [bI_t, i_ne (by omega) (by omega) (by omega), nI_add (14 * c) (fps (XF W st) c s + 1), p_ck _ (by omega) (by omega), p_ix (a := 14 * c + (fps (XF W st) c s + 1)) (by omega), p_nm, nI_add (fps (XF W st) c s + 1) 1, p_nm, nI_add s 1, p_nm]
        refine ⟨nI (fps (XF W st) c s + 1 + 1), nI (s + 1), sI υ2 67 (14 * c + (fps (XF W st) c s + 1)) (nI 5), ⟨s + 1, by omega, by rw [hs1'], rfl, ?_, ?_, ?_, g3'.sI (by decide)⟩, ?_, rfl⟩
        · intro d hd
          have := hD13 d hd
          obtain ⟨d1, d2⟩ := hD2 d hd
          exact ⟨by rw [r_sI1 (by decide)]; exact d1, fun q hq => CdM_s (d2 q hq) (by omega)⟩
        · intro t ht
          rw [r_sI1 (by decide)]; exact h73 t ht
        · intro q hq
          rw [hs1'] at hq
          by_cases e : q = fps (XF W st) c s + 1
          · rw [e, rcf_fe]; exact CdM_5 (r_sI0 ..)
          · exact CdM_s (hold q (by omega)) (by omega)
        · rw [p_ix (by omega)]; omega
  · rw [p_ix (by omega), FU_v]; omega
theorem lay2_eq {S : Su} {W : List Nat} {st c : Nat} {σ τ : Mm} (hS : SuV S) (hW : Wok W 42) (hc : c < sK S) (hD : LyD S (XF W st) c τ) (h73 : ∀ t, t < sN S c → τ.1 73 t = nI (fps (XF W st) c t)) (hR : ∀ q, q < fl S (XF W st) c → CdM τ (14 * c + q) 0 (rcf S (XF W st) c (sN S c) q)) (h66 : τ.1 66 c = nI (fl S (XF W st) c)) (hF : Fr loL σ τ) (x : Int32) (K : Mm → Option (Unit × Mm)) :
    ∃ τ', fx (fun _ _ => none) FU (f_X11_lay_L100 K x (nI c) (nI (fl S (XF W st) c))) (nI 0) τ = K τ' ∧ LyD S (XF W st) (c + 1) τ' ∧ Fr loL σ τ' := by
  have h6 := hS.1
  obtain ⟨n1, n7⟩ := hS.2.1 c hc
  have hFX := FX_W (st := st) hS hW
  have h13 := hFX c hc
  refine lq1 (F := f_X11_lay_L100 K x (nI c) (nI (fl S (XF W st) c))) (fun a υ => ∃ q, q ≤ fl S (XF W st) c ∧ a = nI q ∧ LyD S (XF W st) c υ ∧ (∀ t, t < sN S c → υ.1 73 t = nI (fps (XF W st) c t)) ∧ (∀ p, p < q → CdM υ (14 * c + p) 0 (lc S (XF W st) c p)) ∧ (∀ p, q ≤ p → p < fl S (XF W st) c → CdM υ (14 * c + p) 0 (rcf S (XF W st) c (sN S c) p)) ∧ υ.1 66 c = nI (fl S (XF W st) c) ∧ Fr loL σ υ) (fun a _ => 14 - ix a) (fun o => ∃ τ', o = K τ' ∧ LyD S (XF W st) (c + 1) τ' ∧ Fr loL σ τ') ?_ FU (nI 0) τ ?_ ⟨0, by omega, rfl, hD, h73, fun p hp => by omega, fun p _ hp => hR p hp, h66, hF⟩
  · rintro L a υ ⟨q, hq, rfl, uD, u73, uA, uB, u66, uF⟩
    unfold f_X11_lay_L100 f_X11_lay_152
    simp only [qi_0, qi_1, qi_2, qi_3, qi_4, qi_5, qi_6, qi_7, qi_8, qi_9, qi_10, qi_11, qi_12, qi_13, qi_14, qi_15, qi_16, qi_17, qi_19, qi_26, qi_31, qi_32, qi_35, qi_40, qi_42, qi_48, qi_50, qi_57, qi_59, qi_63, qi_64, qi_97, qi_120, qi_122, qi_210, qi_255, qi_511, qi_512, qi_1000, qi_6000, qi_13312, qi_14337, qi_16383, qi_16384, qi_524287]
    by_cases c0 : fl S (XF W st) c ≤ q
    · right
      have e : q = fl S (XF W st) c := by omega
      rw [i_le (by omega) c0]
      refine ⟨υ, rfl, fun d hd => ?_, uF⟩
      by_cases ed : d = c
      · rw [ed]; exact ⟨u66, fun p hp => uA p (by omega)⟩
      · exact uD d (by omega)
    · left
      have hD13 : ∀ d, d < c → fl S (XF W st) d ≤ 13 := fun d hd => hFX d (by omega)
      have hcq := uB q (Nat.le_refl _) (by omega)
      have hql : q < fl S (XF W st) c := by omega
      obtain ⟨r1, r2⟩ := rcf_lc (X := XF W st) hS hc (sN S c) (Nat.le_refl _) q hql
      have hv := (lcf_V (X := XF W st) hS hc (sN S c) (Nat.le_refl _) q hql).1
      rw [r1 0 (by omega)] at hv
      rw [i_nle (by omega) (by omega), pk_mul, nI_add (14 * c) q, p_ck _ (by omega) (by omega), p_ix (a := 14 * c + q) (by omega), hcq.1]
      by_cases k6 : rcf S (XF W st) c (sN S c) q 0 = 6
      · have h71 := (hcq.2.2.2.2 k6).2
        rw [Nat.sub_zero] at h71
        have hlt := (r2 k6).1
        rw [i_eq k6, p_ck _ (by omega) (by omega), h71, p_ck _ (by omega) (by omega), p_ck _ (by omega) (by omega), p_ix (a := rcf S (XF W st) c (sN S c) q 4) (by omega), u73 _ hlt, p_nm, nI_add q 1, p_nm]
        refine ⟨nI (q + 1), _, ⟨q + 1, by omega, rfl, ?_, ?_, ?_, ?_, ?_, uF.sI (by decide)⟩, ?_, rfl⟩
        · intro d hd
          have := hD13 d hd
          obtain ⟨d1, d2⟩ := uD d hd
          exact ⟨by rw [r_sI1 (by decide)]; exact d1, fun p hp => CdM_s (d2 p hp) (by omega)⟩
        · intro t ht
          rw [r_sI1 (by decide)]; exact u73 t ht
        · intro p hp
          by_cases e : p = q
          · rw [e]; exact CdM_lc6 hS hc (by omega) hcq k6 _ rfl
          · exact CdM_s (uA p (by omega)) (by omega)
        · intro p p1 p2
          exact CdM_s (uB p (by omega) p2) (by omega)
        · rw [r_sI1 (by decide)]; exact u66
        · rw [p_ix (by omega), p_ix (by omega)]; omega
      · rw [i_ne (by omega) (by omega) k6, nI_add q 1, p_nm]
        refine ⟨nI (q + 1), υ, ⟨q + 1, by omega, rfl, uD, u73, ?_, fun p p1 p2 => uB p (by omega) p2, u66, uF⟩, ?_, rfl⟩
        · intro p hp
          by_cases e : p = q
          · rw [e]; exact CdM_lc hS hc (by omega) hcq k6
          · exact uA p (by omega)
        · rw [p_ix (by omega), p_ix (by omega)]; omega
  · rw [p_ix (by omega), FU_v]; omega
theorem lay_eq {S : Su} {W : List Nat} {st : Nat} {σ : Mm} (hS : SuV S) (hW : Wok W 42) (hM : WrM W σ) (hC : SeM S σ) (hs : st < 64) :
    ∃ σ', f_X11_lay (nI st) σ = some ((), σ') ∧ LyD S (XF W st) (sK S) σ' ∧ Fr loL σ σ' := by
  have h6 := hS.1
  unfold f_X11_lay
  refine lq1 (F := f_X11_lay_L2 (nI st)) (fun a υ => ∃ c, c ≤ sK S ∧ a = nI c ∧ LyD S (XF W st) c υ ∧ Fr loL σ υ) (fun a _ => 7 - ix a) (fun o => ∃ σ', o = some ((), σ') ∧ LyD S (XF W st) (sK S) σ' ∧ Fr loL σ σ') ?_ FU (0 : Int32) σ ?_ ⟨0, by omega, rfl, fun d hd => by omega, Fr.rf _ _⟩
  · rintro L a υ ⟨c, hc, rfl, uD, uF⟩
    unfold f_X11_lay_L2 f_X11_lay_90 f_X11_lay_158
    simp only [qi_0, qi_1, qi_2, qi_3, qi_4, qi_5, qi_6, qi_7, qi_8, qi_9, qi_10, qi_11, qi_12, qi_13, qi_14, qi_15, qi_16, qi_17, qi_19, qi_26, qi_31, qi_32, qi_35, qi_40, qi_42, qi_48, qi_50, qi_57, qi_59, qi_63, qi_64, qi_97, qi_120, qi_122, qi_210, qi_255, qi_511, qi_512, qi_1000, qi_6000, qi_13312, qi_14337, qi_16383, qi_16384, qi_524287]
    rw [uF.r1 48 (by decide), hC.1]
    by_cases c0 : sK S ≤ c
    · right
      have e : c = sK S := by omega
      subst e
      rw [i_le (by omega) c0]
      exact ⟨υ, rfl, uD, uF⟩
    · left
      obtain ⟨τ', e1, e2, e3, e4, e5⟩ := lay1_eq (c := c) hS hW hM hC hs (by omega) uD uF (fun (xq3 : Int32) (σ : Mm) => ck (nI c) 6 (nm (sI σ 66 (ix (nI c)) xq3) (fun σ10 => fx (fun _ _ => none) FU (f_X11_lay_L100 (fun (σ : Mm) => nm (nI c + nI 1) (fun vq13 => L vq13 σ)) (nI st) (nI c) xq3) (nI 0) σ10)))
      rw [i_nle (by omega) (by omega), e1, p_ck _ (by omega) (by omega), p_ix (a := c) (by omega), p_nm]
      have hD2 : LyD S (XF W st) c (sI τ' 66 c (nI (fl S (XF W st) c))) := by
        intro d hd
        obtain ⟨d1, d2⟩ := e2 d hd
        exact ⟨by rw [r_sIj (by omega)]; exact d1, fun p hp => CdM_s (d2 p hp) (Or.inr (by omega))⟩
      obtain ⟨τ2, f1, f2, f3⟩ := lay2_eq (c := c) (τ := sI τ' 66 c (nI (fl S (XF W st) c))) (σ := σ) hS hW (by omega) hD2 (fun t ht => by rw [r_sI1 (by decide)]; exact e3 t ht) (fun q hq => CdM_s (e4 q hq) (Or.inr (by omega))) (r_sI0 ..) (e5.sI (by decide)) (nI st) (fun (σ : Mm) => nm (nI c + nI 1) (fun vq13 => L vq13 σ))
      rw [f1, nI_add c 1, p_nm]
      refine ⟨nI (c + 1), τ2, ⟨c + 1, by omega, rfl, f2, f3⟩, ?_, rfl⟩
      rw [p_ix (by omega)]; omega
  · show 7 - ix (nI 0) < FU
    rw [p_ix (by omega), FU_v]; omega
