/-! PURE: the reference's good results, bad ones -/
def fgL : List Nat := [48, 74, 75, 76, 77, 78, 79, 80, 81, 89, 90]
theorem findGoods_eq {S : Su} {X : Nat → Bool} {σ : Mm} (hS : SuV S) (hFX : FX S X) (hC : SeM S σ) (hD : LyD S X (sK S) σ) : ∃ σ', f_X11_findGoods σ = some ((), σ') ∧ RoM 89 (ords S noX) σ' ∧ σ'.1 48 60 = nI (ords S noX).length ∧ K6 σ σ' ∧ Fr oM σ σ' := by
  have hP := PgOf_V hS hFX
  have hX := PgX_Of hS hFX
  have hL := LdM_Of hS hC hD
  unfold f_X11_findGoods
  simp only [qi_0, qi_1, qi_2, qi_3, qi_4, qi_5, qi_6, qi_7, qi_8, qi_9, qi_10, qi_11, qi_12, qi_13, qi_14, qi_15, qi_16, qi_17, qi_19, qi_26, qi_31, qi_32, qi_35, qi_40, qi_42, qi_48, qi_50, qi_57, qi_59, qi_63, qi_64, qi_97, qi_120, qi_122, qi_210, qi_255, qi_511, qi_512, qi_1000, qi_6000, qi_13312, qi_14337, qi_16383, qi_16384, qi_524287]
  rw [p_nm]
  obtain ⟨σ2, e2, hM2, hF2⟩ := begins_eq (P := PgOf S X) (x0 := pF (PgOf S X)) (σ := sI σ 48 60 (nI 0)) hX hP (fun c hc => by rw [r_sI1 (by decide), cv_pF hS hc]; exact hC.2.2.2.2.2.2 c hc) (fun h hh => x0_hd hS hh)
  have hF2' : Fr oM σ σ2 := ((Fr.rf oM σ).sI (by decide)).tr (hF2.mo (by intro k hk; revert k; decide))
  have hK2 : K6 σ σ2 := fun j j1 j2 => by rw [hF2.r1 48 (by decide), r_sIj j2]
  have h60 : σ2.1 48 60 = nI ([] : List Nat).length := by rw [hF2.r1 48 (by decide), r_sI0]; rfl
  rw [← x0_emb (X := X) hS] at hM2
  obtain ⟨b1, b2⟩ := x0_rmt hS
  obtain ⟨σ3, f1, f2, f3, _, f5, f6⟩ := ordF_eq hS hFX 8 (x0S S) 0 [] σ2 (x0_BV hS) (by omega) (by omega) (LdM_oM hL hF2' hK2) hM2 ⟨Srt_nil, fun i hi => absurd hi (Nat.not_lt_zero _), fun i hi => absurd hi (Nat.not_lt_zero _)⟩ h60 (by show 0 + nlx S 8 (x0S S) ≤ 90; omega)
  rw [e2, p_bd, f1, p_bd]
  have eo : ordr S (wcq S X) 8 (x0S S) [] = ords S noX := by rw [← ords_X hS hFX, ords]
  rw [eo] at f2 f3
  exact ⟨σ3, rfl, f2, f3, fun j j1 j2 => by rw [f5 j j1 j2]; exact hK2 j j1 j2, hF2'.tr f6⟩
def GdM (gs : List Nat) (σ : Mm) : Prop := RoM 89 gs σ ∧ σ.1 48 60 = nI gs.length ∧ gs.length ≤ 90
theorem isGood_eq {gs : List Nat} {v : Nat} {σ : Mm} (hG : GdM gs σ) (hv : v < 262144) : f_X11_isGood (nI v) σ = some (bI (decide (v ∈ gs)), σ) := by
  obtain ⟨⟨_, hb, hr⟩, h60, hl90⟩ := hG
  have e0 : decide (v ∈ gs) = decide (∃ i, i < gs.length ∧ gs.getD i 0 = v) := decide_eq_decide.mpr mem_gd
  rw [e0]
  unfold f_X11_isGood
  refine lq2 (F := f_X11_isGood_L4 (nI v)) (fun a b τ => ∃ h, h ≤ gs.length ∧ a = bI (decide (∃ i, i < h ∧ gs.getD i 0 = v)) ∧ b = nI h ∧ τ = σ) (fun _ b _ => 91 - ix b) (fun o => o = some (bI (decide (∃ i, i < gs.length ∧ gs.getD i 0 = v)), σ)) ?_ FU (0 : Int32) (0 : Int32) σ ?_ ⟨0, by omega, by rw [decide_eq_false (fun ⟨i, hi, _⟩ => by omega), bI_f]; rfl, rfl, rfl⟩
  · rintro L a b τ ⟨h, hh, rfl, rfl, rfl⟩
    unfold f_X11_isGood_L4 f_X11_isGood_26 f_X11_isGood_31
    simp only [qi_0, qi_1, qi_2, qi_3, qi_4, qi_5, qi_6, qi_7, qi_8, qi_9, qi_10, qi_11, qi_12, qi_13, qi_14, qi_15, qi_16, qi_17, qi_19, qi_26, qi_31, qi_32, qi_35, qi_40, qi_42, qi_48, qi_50, qi_57, qi_59, qi_63, qi_64, qi_97, qi_120, qi_122, qi_210, qi_255, qi_511, qi_512, qi_1000, qi_6000, qi_13312, qi_14337, qi_16383, qi_16384, qi_524287]
    rw [h60]
    by_cases c0 : gs.length ≤ h
    · right
      have e : h = gs.length := by omega
      rw [i_le (by omega) c0, e]
      cases decide (∃ i, i < gs.length ∧ gs.getD i 0 = v) with
      | false => rw [bI_f, p_cb0]
      | true => rw [bI_t, p_cb1]
    · left
      have hw := hb h (by omega)
      rw [i_nle (by omega) (by omega), p_ix (a := h) (by omega)]
      have fin : ∀ (w : Bool) (o : Option (Int32 × Mm)), decide (∃ i, i < h + 1 ∧ gs.getD i 0 = v) = w → o = L (bI w) (nI (h + 1)) τ → ∃ a' b' σ', (∃ h, h ≤ gs.length ∧ a' = bI (decide (∃ i, i < h ∧ gs.getD i 0 = v)) ∧ b' = nI h ∧ σ' = τ) ∧ 91 - ix b' < 91 - h ∧ o = L a' b' σ' := by
        intro w o hw' ho'
        refine ⟨bI w, nI (h + 1), τ, ⟨h + 1, by omega, by rw [hw'], rfl, rfl⟩, ?_, ho'⟩
        rw [p_ix (by omega)]; omega
      by_cases hx : ∃ i, i < h ∧ gs.getD i 0 = v
      · rw [decide_eq_true hx]
        refine fin true _ (decide_eq_true ?_) ?_
        · obtain ⟨i, i1, i2⟩ := hx
          exact ⟨i, by omega, i2⟩
        · rw [bI_t, i_ne (by omega) (by omega) (by omega), p_nm, nI_add]
      · rw [decide_eq_false hx, bI_f, i_eq rfl, p_ck _ (by omega) (by omega), hr h (by omega)]
        by_cases e1 : gs.getD h 0 = v
        · refine fin true _ (decide_eq_true ⟨h, by omega, e1⟩) ?_
          rw [i_eq e1, p_nm, nI_add, bI_t]
        · refine fin false _ (decide_eq_false ?_) ?_
          · rintro ⟨i, i1, i2⟩
            by_cases ei : i = h
            · rw [ei] at i2; exact e1 i2
            · exact hx ⟨i, by omega, i2⟩
          · rw [i_ne (by omega) (by omega) e1, p_nm, nI_add, bI_f]
  · show 91 - ix (nI 0) < FU
    rw [p_ix (by omega), FU_v]; omega
def EdM (es : List Nat) (σ : Mm) : Prop := RoM 88 es σ ∧ σ.1 48 58 = nI es.length ∧ es.length ≤ 6000
theorem badMany_eq {es gs : List Nat} {σ : Mm} (h1 : EdM es σ) (h2 : GdM gs σ) : f_X11_badMany σ = some (nI (cbd gs es), σ) := by
  obtain ⟨⟨_, hb, hr⟩, h58, hlen⟩ := h1
  unfold f_X11_badMany
  refine lq2 (F := f_X11_badMany_L4) (fun a b τ => ∃ i n, i ≤ es.length ∧ a = nI n ∧ b = nI i ∧ τ = σ ∧ n + cbd gs (es.drop i) = cbd gs es) (fun _ b _ => 6000 - ix b) (fun o => o = some (nI (cbd gs es), σ)) ?_ FU (0 : Int32) (0 : Int32) σ ?_ ⟨0, 0, by omega, rfl, rfl, rfl, by rw [List.drop_zero]; omega⟩
  · rintro L a b τ ⟨i, n, hi, rfl, rfl, rfl, hc⟩
    have hn := cbd_le gs es
    unfold f_X11_badMany_L4 f_X11_badMany_31
    simp only [qi_0, qi_1, qi_2, qi_3, qi_4, qi_5, qi_6, qi_7, qi_8, qi_9, qi_10, qi_11, qi_12, qi_13, qi_14, qi_15, qi_16, qi_17, qi_19, qi_26, qi_31, qi_32, qi_35, qi_40, qi_42, qi_48, qi_50, qi_57, qi_59, qi_63, qi_64, qi_97, qi_120, qi_122, qi_210, qi_255, qi_511, qi_512, qi_1000, qi_6000, qi_13312, qi_14337, qi_16383, qi_16384, qi_524287]
    rw [h58]
    by_cases c : es.length ≤ i
    · right
      rw [i_le (by omega) c]
      rw [show i = es.length by omega, List.drop_length] at hc
      have hc : n + 0 = cbd gs es := hc
      rw [show n = cbd gs es by omega]
    · left
      have hlt : i < es.length := by omega
      rw [drop_c hlt, cbd] at hc
      rw [i_nle (by omega) (by omega), p_ck _ (by omega) (by omega), p_ix (a := i) (by omega), hr i hlt, isGood_eq h2 (hb i hlt), p_bd]
      by_cases m : es.getD i 0 ∈ gs
      · rw [if_pos m] at hc
        rw [decide_eq_true m, bI_t, i_ne (by omega) (by omega) (by omega), nI_add n 0, p_nm, nI_add i 1, p_nm]
        refine ⟨nI (n + 0), nI (i + 1), τ, ⟨i + 1, n, by omega, rfl, rfl, rfl, by omega⟩, ?_, rfl⟩
        rw [p_ix (by omega)]; omega
      · rw [if_neg m] at hc
        rw [decide_eq_false m, bI_f, i_eq rfl, nI_add n 1, p_nm, nI_add i 1, p_nm]
        refine ⟨nI (n + 1), nI (i + 1), τ, ⟨i + 1, n + 1, by omega, rfl, rfl, rfl, by omega⟩, ?_, rfl⟩
        rw [p_ix (by omega)]; omega
  · show 6000 - ix (nI 0) < FU
    rw [p_ix (by omega), FU_v]; omega
theorem mleast_eq {es gs : List Nat} {σ : Mm} (h1 : EdM es σ) (h2 : GdM gs σ) : f_X11_leastBad σ = some (iO (lbd gs es), σ) := by
  obtain ⟨⟨_, hb, hr⟩, h58, hlen⟩ := h1
  unfold f_X11_leastBad
  refine lq1 (F := f_X11_leastBad_L2) (fun b τ => ∃ i, i ≤ es.length ∧ b = nI i ∧ τ = σ ∧ lbd gs (es.drop i) = lbd gs es) (fun b _ => 6000 - ix b) (fun o => o = some (iO (lbd gs es), σ)) ?_ FU (0 : Int32) σ ?_ ⟨0, by omega, rfl, rfl, by rw [List.drop_zero]⟩
  · rintro L b τ ⟨i, hi, rfl, rfl, hc⟩
    unfold f_X11_leastBad_L2
    simp only [qi_0, qi_1, qi_2, qi_3, qi_4, qi_5, qi_6, qi_7, qi_8, qi_9, qi_10, qi_11, qi_12, qi_13, qi_14, qi_15, qi_16, qi_17, qi_19, qi_26, qi_31, qi_32, qi_35, qi_40, qi_42, qi_48, qi_50, qi_57, qi_59, qi_63, qi_64, qi_97, qi_120, qi_122, qi_210, qi_255, qi_511, qi_512, qi_1000, qi_6000, qi_13312, qi_14337, qi_16383, qi_16384, qi_524287]
    rw [h58]
    by_cases c : es.length ≤ i
    · right
      rw [i_le (by omega) c]
      rw [show i = es.length by omega, List.drop_length] at hc
      rw [← hc]; rfl
    · have hlt : i < es.length := by omega
      rw [drop_c hlt, lbd] at hc
      rw [i_nle (by omega) (by omega), p_ck _ (by omega) (by omega), p_ix (a := i) (by omega), hr i hlt, isGood_eq h2 (hb i hlt), p_bd]
      by_cases m : es.getD i 0 ∈ gs
      · left
        rw [if_pos m] at hc
        rw [decide_eq_true m, bI_t, i_ne (by omega) (by omega) (by omega), p_nm, nI_add]
        refine ⟨nI (i + 1), τ, ⟨i + 1, by omega, rfl, rfl, hc⟩, ?_, rfl⟩
        rw [p_ix (by omega)]; omega
      · right
        rw [if_neg m] at hc
        rw [decide_eq_false m, bI_f, i_eq rfl, p_ck _ (by omega) (by omega), hr i hlt, ← hc]; rfl
  · show 6000 - ix (nI 0) < FU
    rw [p_ix (by omega), FU_v]; omega
