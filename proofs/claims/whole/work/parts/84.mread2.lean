/-! PURE: a step is read in the reference -/
def rsM : List Nat := [48, 50, 51, 52, 53, 54]
/-- other steps stay -/
def Us (k : Nat) (σ τ : Mm) : Prop := (∀ c j, 50 ≤ c → c ≤ 54 → j ≠ k → τ.1 c j = σ.1 c j) ∧ K5 σ τ ∧ Fr rsM σ τ
theorem Us_tr {k : Nat} {σ τ υ : Mm} (h1 : Us k σ τ) (h2 : Us k τ υ) : Us k σ υ := ⟨fun c j a b d => (h2.1 c j a b d).trans (h1.1 c j a b d), K5_tr h1.2.1 h2.2.1, h1.2.2.tr h2.2.2⟩
theorem Us_n {k : Nat} {σ τ : Mm} (h1 : K5 σ τ) (h2 : Fr [48] σ τ) : Us k σ τ := ⟨fun c j a b _ => by rw [h2.r1 c (by intro q; simp only [List.mem_singleton] at q; omega)], h1, h2.mo (by intro j hj; revert j; decide)⟩
theorem Us_s {k c : Nat} {v : Int32} (σ : Mm) (hc : c ∈ rsM) (hc2 : c ≠ 48) : Us k σ (sI σ c k v) := by
  refine ⟨fun d j _ _ hj => ?_, fun j _ _ _ _ _ => by rw [r_sI1 (fun q => hc2 q.symm)], (Fr.rf _ _).sI hc⟩
  by_cases e : d = c
  · rw [e, r_sIj hj]
  · rw [r_sI1 e]
theorem hpw_ok {w : Nat} (hw : w < 9) : (hpw w 1 = true ↔ w ≤ 4) ∧ (hpw w 2 = true ↔ w = 2 ∨ w = 3 ∨ w = 4 ∨ w = 6) ∧ (hpw w 3 = true ↔ w = 3) ∧ (hpw w 4 = true ↔ w = 8) ∧ (kdw w = 2 ↔ w = 1 ∨ w = 2) ∧ (1 ≤ kdw w ∧ kdw w ≤ 4 ↔ w ≤ 4) ∧ (kdw w = 3 ↔ w = 3) ∧ (kdw w = 6 ↔ w = 8) ∧ (kdw w = 2 ∨ kdw w = 3 ∨ kdw w = 4 ∨ kdw w = 7 → w = 1 ∨ w = 2 ∨ w = 3 ∨ w = 4 ∨ w = 6) := co_dec (N := 9) (P := fun w => (hpw w 1 = true ↔ w ≤ 4) ∧ (hpw w 2 = true ↔ w = 2 ∨ w = 3 ∨ w = 4 ∨ w = 6) ∧ (hpw w 3 = true ↔ w = 3) ∧ (hpw w 4 = true ↔ w = 8) ∧ (kdw w = 2 ↔ w = 1 ∨ w = 2) ∧ (1 ≤ kdw w ∧ kdw w ≤ 4 ↔ w ≤ 4) ∧ (kdw w = 3 ↔ w = 3) ∧ (kdw w = 6 ↔ w = 8) ∧ (kdw w = 2 ∨ kdw w = 3 ∨ kdw w = 4 ∨ kdw w = 7 → w = 1 ∨ w = 2 ∨ w = 3 ∨ w = 4 ∨ w = 6)) (by decide +kernel) hw
section
variable {t : Nat → Nat} {n w place b k : Nat} {σ : Mm}
theorem rs4_eq (hT : TpM t n σ) (hp : place < 7) (hw : w < 9) (hk : k < 42) (hR : RS t n (rpt t n w place b 3) σ) (v3 : Int32) : ∃ σ', f_X11_readStep_207 (nI place) (nI k) (nI w) (nI k) v3 σ = some ((), σ') ∧ RS t n (rpt t n w place b 4) σ' ∧ σ'.1 53 k = v3 ∧ (w = 8 → Vl t n w place b 4 4 (σ'.1 54 k)) ∧ (∀ c, c = 50 ∨ c = 51 ∨ c = 52 → σ'.1 c k = σ.1 c k) ∧ Us k σ σ' := by
  obtain ⟨_, _, _, h4, _⟩ := hpw_ok hw
  have U1 := Us_s (k := k) (c := 53) (v := v3) σ (by decide) (by decide)
  unfold f_X11_readStep_207
  simp only [qi_0, qi_1, qi_2, qi_3, qi_4, qi_5, qi_6, qi_7, qi_8, qi_9, qi_10, qi_11, qi_12, qi_13, qi_14, qi_15, qi_16, qi_17, qi_19, qi_26, qi_31, qi_32, qi_35, qi_40, qi_42, qi_48, qi_50, qi_57, qi_59, qi_63, qi_64, qi_97, qi_120, qi_122, qi_210, qi_255, qi_511, qi_512, qi_1000, qi_6000, qi_13312, qi_14337, qi_16383, qi_16384, qi_524287]
  rw [p_ck _ hk (by omega), p_ix (a := k) (by omega), p_nm]
  have hT1 : TpM t n (sI σ 53 k v3) := TpM_5 hT U1.2.2 U1.2.1 (by decide) (by decide)
  have hR1 : RS t n (rpt t n w place b 3) (sI σ 53 k v3) := RS_of hR (by rw [r_sI1 (by decide)])
  by_cases c : w = 8
  · obtain ⟨v, τ, e1, e2, e3, e4, e5⟩ := mnum_eq (k := 3) hT1 (by omega) (by omega) (h4.mpr c) hR1
    rw [show hst (3 + 1) place = place from rfl] at e1
    rw [i_eq c, e1, p_bd, p_ck _ hk (by omega), p_nm]
    refine ⟨_, rfl, RS_of e2 (by rw [r_sI1 (by decide)]), ?_, fun _ => by rw [r_sI0]; exact e3, fun d hd => ?_, Us_tr (Us_tr U1 (Us_n e4 e5)) (Us_s τ (by decide) (by decide))⟩
    · rw [r_sI1 (by decide), e5.r1 53 (by decide), r_sI0]
    · rcases hd with rfl | rfl | rfl
      · rw [r_sI1 (by decide), e5.r1 50 (by decide), r_sI1 (by decide)]
      · rw [r_sI1 (by decide), e5.r1 51 (by decide), r_sI1 (by decide)]
      · rw [r_sI1 (by decide), e5.r1 52 (by decide), r_sI1 (by decide)]
  · rw [i_ne (by omega) (by omega) c, p_ck _ hk (by omega), p_nm]
    have hf : hpw w (3 + 1) = false := by
      cases hq : hpw w (3 + 1) with
      | false => rfl
      | true => exact absurd (h4.mp hq) c
    refine ⟨_, rfl, ?_, ?_, fun q => absurd q c, fun d hd => ?_, Us_tr U1 (Us_s _ (by decide) (by decide))⟩
    · rw [show (4 : Nat) = 3 + 1 from rfl, rpt_no hf]; exact RS_of hR1 (by rw [r_sI1 (by decide)])
    · rw [r_sI1 (by decide), r_sI0]
    · rcases hd with rfl | rfl | rfl
      · rw [r_sI1 (by decide), r_sI1 (by decide)]
      · rw [r_sI1 (by decide), r_sI1 (by decide)]
      · rw [r_sI1 (by decide), r_sI1 (by decide)]
theorem rs3_eq (hT : TpM t n σ) (hp : place < 7) (hw : w < 9) (hk : k < 42) (hR : RS t n (rpt t n w place b 2) σ) (v2 : Int32) : ∃ σ', f_X11_readStep_187 (nI place) (nI k) (nI w) (nI k) v2 σ = some ((), σ') ∧ RS t n (rpt t n w place b 4) σ' ∧ σ'.1 52 k = v2 ∧ (w = 3 → Vl t n w place b 4 3 (σ'.1 53 k)) ∧ (w = 8 → Vl t n w place b 4 4 (σ'.1 54 k)) ∧ (∀ c, c = 50 ∨ c = 51 → σ'.1 c k = σ.1 c k) ∧ Us k σ σ' := by
  obtain ⟨_, _, h3, _⟩ := hpw_ok hw
  have U1 := Us_s (k := k) (c := 52) (v := v2) σ (by decide) (by decide)
  unfold f_X11_readStep_187
  simp only [qi_0, qi_1, qi_2, qi_3, qi_4, qi_5, qi_6, qi_7, qi_8, qi_9, qi_10, qi_11, qi_12, qi_13, qi_14, qi_15, qi_16, qi_17, qi_19, qi_26, qi_31, qi_32, qi_35, qi_40, qi_42, qi_48, qi_50, qi_57, qi_59, qi_63, qi_64, qi_97, qi_120, qi_122, qi_210, qi_255, qi_511, qi_512, qi_1000, qi_6000, qi_13312, qi_14337, qi_16383, qi_16384, qi_524287]
  rw [p_ck _ hk (by omega), p_ix (a := k) (by omega), p_nm]
  have hT1 : TpM t n (sI σ 52 k v2) := TpM_5 hT U1.2.2 U1.2.1 (by decide) (by decide)
  have hR1 : RS t n (rpt t n w place b 2) (sI σ 52 k v2) := RS_of hR (by rw [r_sI1 (by decide)])
  by_cases c : w = 3
  · obtain ⟨v, τ, e1, e2, e3, e4, e5⟩ := mnum_eq (k := 2) hT1 (by omega) (by omega) (h3.mpr c) hR1
    rw [show hst (2 + 1) place = 3 from rfl] at e1
    obtain ⟨υ, f1, f2, f3, f4, f5, f6⟩ := rs4_eq (σ := τ) (place := place) (k := k) (TpM_5 hT1 e5 e4 (by decide) (by decide)) hp hw hk e2 v
    rw [i_eq c, e1, p_bd, f1]
    refine ⟨υ, rfl, f2, ?_, fun _ => by rw [f3]; exact Vl_s e3 (by decide), f4, fun d hd => ?_, Us_tr (Us_tr U1 (Us_n e4 e5)) f6⟩
    · rw [f5 52 (by omega), e5.r1 52 (by decide), r_sI0]
    · rcases hd with rfl | rfl
      · rw [f5 50 (by omega), e5.r1 50 (by decide), r_sI1 (by decide)]
      · rw [f5 51 (by omega), e5.r1 51 (by decide), r_sI1 (by decide)]
  · have hf : hpw w (2 + 1) = false := by
      cases hq : hpw w (2 + 1) with
      | false => rfl
      | true => exact absurd (h3.mp hq) c
    obtain ⟨υ, f1, f2, f3, f4, f5, f6⟩ := rs4_eq (σ := sI σ 52 k v2) (place := place) (b := b) (k := k) hT1 hp hw hk (by rw [show (3 : Nat) = 2 + 1 from rfl, rpt_no hf]; exact hR1) (nI 0)
    rw [i_ne (by omega) (by omega) c, f1]
    refine ⟨υ, rfl, f2, ?_, fun q => absurd q c, f4, fun d hd => ?_, Us_tr U1 f6⟩
    · rw [f5 52 (by omega), r_sI0]
    · rcases hd with rfl | rfl
      · rw [f5 50 (by omega), r_sI1 (by decide)]
      · rw [f5 51 (by omega), r_sI1 (by decide)]
theorem rs2_eq (hT : TpM t n σ) (hp : place < 7) (hw : w < 9) (hk : k < 42) (hR : RS t n (rpt t n w place b 1) σ) (v1 : Int32) : ∃ σ', f_X11_readStep_142 (nI place) (nI k) (nI w) (nI k) v1 σ = some ((), σ') ∧ RS t n (rpt t n w place b 4) σ' ∧ σ'.1 51 k = v1 ∧ (w = 1 → σ'.1 52 k = -nI 1) ∧ (w = 2 ∨ w = 3 ∨ w = 4 ∨ w = 6 → Vl t n w place b 4 2 (σ'.1 52 k)) ∧ (w = 3 → Vl t n w place b 4 3 (σ'.1 53 k)) ∧ (w = 8 → Vl t n w place b 4 4 (σ'.1 54 k)) ∧ (∀ c, c = 50 → σ'.1 c k = σ.1 c k) ∧ Us k σ σ' := by
  obtain ⟨_, h2, _⟩ := hpw_ok hw
  have U1 := Us_s (k := k) (c := 51) (v := v1) σ (by decide) (by decide)
  unfold f_X11_readStep_142 f_X11_readStep_178
  simp only [qi_0, qi_1, qi_2, qi_3, qi_4, qi_5, qi_6, qi_7, qi_8, qi_9, qi_10, qi_11, qi_12, qi_13, qi_14, qi_15, qi_16, qi_17, qi_19, qi_26, qi_31, qi_32, qi_35, qi_40, qi_42, qi_48, qi_50, qi_57, qi_59, qi_63, qi_64, qi_97, qi_120, qi_122, qi_210, qi_255, qi_511, qi_512, qi_1000, qi_6000, qi_13312, qi_14337, qi_16383, qi_16384, qi_524287]
  rw [p_ck _ hk (by omega), p_ix (a := k) (by omega), p_nm]
  have hT1 : TpM t n (sI σ 51 k v1) := TpM_5 hT U1.2.2 U1.2.1 (by decide) (by decide)
  have hR1 : RS t n (rpt t n w place b 1) (sI σ 51 k v1) := RS_of hR (by rw [r_sI1 (by decide)])
  have yes : w = 2 ∨ w = 3 ∨ w = 4 ∨ w = 6 → ∃ σ', bd (f_X11_number (nI 3) (sI σ 51 k v1)) (fun rq12 σ11 => f_X11_readStep_187 (nI place) (nI k) (nI w) (nI k) rq12 σ11) = some ((), σ') ∧ RS t n (rpt t n w place b 4) σ' ∧ σ'.1 51 k = v1 ∧ (w = 1 → σ'.1 52 k = -nI 1) ∧ (w = 2 ∨ w = 3 ∨ w = 4 ∨ w = 6 → Vl t n w place b 4 2 (σ'.1 52 k)) ∧ (w = 3 → Vl t n w place b 4 3 (σ'.1 53 k)) ∧ (w = 8 → Vl t n w place b 4 4 (σ'.1 54 k)) ∧ (∀ c, c = 50 → σ'.1 c k = σ.1 c k) ∧ Us k σ σ' := by
    intro c
    obtain ⟨v, τ, e1, e2, e3, e4, e5⟩ := mnum_eq (k := 1) hT1 (by omega) (by omega) (h2.mpr c) hR1
    rw [show hst (1 + 1) place = 3 from rfl] at e1
    obtain ⟨υ, f1, f2, f3, f4, f5, f6, f7⟩ := rs3_eq (σ := τ) (place := place) (k := k) (TpM_5 hT1 e5 e4 (by decide) (by decide)) hp hw hk e2 v
    rw [e1, p_bd, f1]
    refine ⟨υ, rfl, f2, ?_, fun q => by omega, fun _ => ?_, f4, f5, fun d hd => ?_, Us_tr (Us_tr U1 (Us_n e4 e5)) f7⟩
    · rw [f6 51 (by omega), e5.r1 51 (by decide), r_sI0]
    · rw [f3]; exact Vl_s (Vl_s e3 (by decide)) (by decide)
    · rw [hd, f6 50 (by omega), e5.r1 50 (by decide), r_sI1 (by decide)]
  have no : ∀ v : Int32, ¬ (w = 2 ∨ w = 3 ∨ w = 4 ∨ w = 6) → (w = 1 → v = -nI 1) → ∃ σ', f_X11_readStep_187 (nI place) (nI k) (nI w) (nI k) v (sI σ 51 k v1) = some ((), σ') ∧ RS t n (rpt t n w place b 4) σ' ∧ σ'.1 51 k = v1 ∧ (w = 1 → σ'.1 52 k = -nI 1) ∧ (w = 2 ∨ w = 3 ∨ w = 4 ∨ w = 6 → Vl t n w place b 4 2 (σ'.1 52 k)) ∧ (w = 3 → Vl t n w place b 4 3 (σ'.1 53 k)) ∧ (w = 8 → Vl t n w place b 4 4 (σ'.1 54 k)) ∧ (∀ c, c = 50 → σ'.1 c k = σ.1 c k) ∧ Us k σ σ' := by
    intro v c hv
    have hf : hpw w (1 + 1) = false := by
      cases hq : hpw w (1 + 1) with
      | false => rfl
      | true => exact absurd (h2.mp hq) c
    obtain ⟨υ, f1, f2, f3, f4, f5, f6, f7⟩ := rs3_eq (σ := sI σ 51 k v1) (place := place) (b := b) (k := k) hT1 hp hw hk (by rw [show (2 : Nat) = 1 + 1 from rfl, rpt_no hf]; exact hR1) v
    rw [f1]
    refine ⟨υ, rfl, f2, ?_, fun q => by rw [f3]; exact hv q, fun q => absurd q c, f4, f5, fun d hd => ?_, Us_tr U1 f7⟩
    · rw [f6 51 (by omega), r_sI0]
    · rw [hd, f6 50 (by omega), r_sI1 (by decide)]
  by_cases c1 : w = 1
  · rw [i_eq c1]
    exact no _ (by omega) (fun _ => rfl)
  · rw [i_ne (by omega) (by omega) c1]
    by_cases c2 : w = 2
    · rw [i_eq c2]; exact yes (by omega)
    · rw [i_ne (by omega) (by omega) c2]
      by_cases c3 : w = 3
      · rw [i_eq c3]; exact yes (by omega)
      · rw [i_ne (by omega) (by omega) c3]
        by_cases c4 : w = 4
        · rw [i_eq c4]; exact yes (by omega)
        · rw [i_ne (by omega) (by omega) c4]
          by_cases c6 : w = 6
          · rw [i_eq c6]; exact yes (by omega)
          · rw [i_ne (by omega) (by omega) c6]
            exact no _ (by omega) (fun q => absurd q c1)
theorem rs1_eq (hT : TpM t n σ) (hp : place < 7) (hw : w < 9) (hk : k < 42) (hR : RS t n (rpt t n w place b 0) σ) : ∃ σ', f_X11_readStep_122 (nI place) (nI k) (nI w) (nI k) (nI (kdw w)) σ = some ((), σ') ∧ RS t n (rpt t n w place b 4) σ' ∧ (∀ z, rpt t n w place b 4 = .inr z → CdS σ' k z.2) ∧ Us k σ σ' := by
  obtain ⟨h1, h2, h3, h4, g2, g14, g3, g6, g5⟩ := hpw_ok hw
  have U1 := Us_s (k := k) (c := 50) (v := nI (kdw w)) σ (by decide) (by decide)
  have hT1 : TpM t n (sI σ 50 k (nI (kdw w))) := TpM_5 hT U1.2.2 U1.2.1 (by decide) (by decide)
  have hR1 : RS t n (rpt t n w place b 0) (sI σ 50 k (nI (kdw w))) := RS_of hR (by rw [r_sI1 (by decide)])
  -- what stands at the end
  have fin : ∀ (τ υ : Mm) (v1 : Int32), (w ≤ 4 → Vl t n w place b 1 1 v1) → RS t n (rpt t n w place b 1) τ → TpM t n τ → Us k σ τ → τ.1 50 k = nI (kdw w) → ∃ σ', f_X11_readStep_142 (nI place) (nI k) (nI w) (nI k) v1 τ = some ((), σ') ∧ RS t n (rpt t n w place b 4) σ' ∧ (∀ z, rpt t n w place b 4 = .inr z → CdS σ' k z.2) ∧ Us k σ σ' := by
    intro τ _ v1 hv hRt hTt hUt h50
    obtain ⟨υ, f1, f2, f3, f4, f5, f6, f7, f8, f9⟩ := rs2_eq hTt hp hw hk hRt v1
    refine ⟨υ, f1, f2, fun z hz => ?_, Us_tr hUt f9⟩
    obtain ⟨z0, zp, zn⟩ := rpt_0 4 z hz
    refine ⟨by rw [f8 50 rfl, h50, z0], fun q1 q2 => ?_, fun q => ?_, fun q => ?_, fun q => ?_⟩
    · rw [z0] at q1 q2
      have hw4 := g14.mp ⟨q1, q2⟩
      rw [f3]
      exact Vl_s (Vl_s (Vl_s (hv hw4) (by decide)) (by decide)) (by decide) z hz
    · rw [z0] at q
      by_cases c1 : w = 1
      · have hz2 : z.2 2 = 4 := zn 2 (by omega) (Or.inr (by
          cases hq : hpw w 2 with
          | false => rfl
          | true => have := h2.mp hq; omega))
        rw [f4 c1, hz2]; rfl
      · have hw2 : w = 2 ∨ w = 3 ∨ w = 4 ∨ w = 6 := by have := g5 q; omega
        have hz2 := zp 2 (by omega) (by omega) (h2.mpr hw2)
        rw [f5 hw2 z hz]
        have : z.2 2 ≤ 3 := hz2
        exact (if_neg (by omega)).symm
    · rw [z0] at q
      exact f6 (g3.mp q) z hz
    · rw [z0] at q
      exact f7 (g6.mp q) z hz
  unfold f_X11_readStep_122
  simp only [qi_0, qi_1, qi_2, qi_3, qi_4, qi_5, qi_6, qi_7, qi_8, qi_9, qi_10, qi_11, qi_12, qi_13, qi_14, qi_15, qi_16, qi_17, qi_19, qi_26, qi_31, qi_32, qi_35, qi_40, qi_42, qi_48, qi_50, qi_57, qi_59, qi_63, qi_64, qi_97, qi_120, qi_122, qi_210, qi_255, qi_511, qi_512, qi_1000, qi_6000, qi_13312, qi_14337, qi_16383, qi_16384, qi_524287]
  rw [p_ck _ hk (by omega), p_ix (a := k) (by omega), p_nm]
  by_cases c : 4 < w
  · have hf : hpw w (0 + 1) = false := by
      cases hq : hpw w (0 + 1) with
      | false => rfl
      | true => have := h1.mp hq; omega
    rw [i_lt (by omega) c]
    exact fin _ σ _ (fun q => by omega) (by rw [show (1 : Nat) = 0 + 1 from rfl, rpt_no hf]; exact hR1) hT1 U1 r_sI0
  · obtain ⟨v, τ, e1, e2, e3, e4, e5⟩ := mnum_eq (k := 0) hT1 (by omega) (by omega) (h1.mpr (by omega)) hR1
    rw [show hst (0 + 1) place = 2 from rfl] at e1
    rw [i_nlt (by omega) (by omega), e1, p_bd]
    exact fin τ σ v (fun _ => e3) e2 (TpM_5 hT1 e5 e4 (by decide) (by decide)) (Us_tr U1 (Us_n e4 e5)) (by rw [e5.r1 50 (by decide), r_sI0])
end
theorem tK_le (t : Nat → Nat) (n a : Nat) : tK t n a ≤ 4 := by
  unfold tK
  split
  · omega
  · split
    · omega
    · split
      · omega
      · split <;> omega
theorem mreadStep_eq {t : Nat → Nat} {n a c place : Nat} {σ : Mm} (hT : TpM t n σ) (ha' : a ≤ n) (h28 : σ.1 48 28 = -nI 1) (hN : NtM t n a σ) (h0 : σ.1 48 0 = nI c) (hc : c < 6) (hp : place < 8) :
    ∃ σ', f_X11_readStep (nI place) σ = some ((), σ') ∧ RS t n (rst t n place a) σ' ∧ (∀ z, rst t n place a = .inr z → CdS σ' (7 * c + place) z.2) ∧ Us (7 * c + place) σ σ' := by
  have hn := hT.1
  obtain ⟨l1, l2, l3, l4⟩ := t_le (t := t) ha'
  have hk4 := tK_le t n a
  have bad : rst t n place a = .inl (tS t n a) → ∃ σ', bd (f_X11_wrong σ) (fun _ σ1 => some ((), σ1)) = some ((), σ') ∧ RS t n (rst t n place a) σ' ∧ (∀ z, rst t n place a = .inr z → CdS σ' (7 * c + place) z.2) ∧ Us (7 * c + place) σ σ' := by
    intro h
    rw [mwrong_eq h28 hN.2.1, p_bd, h]
    refine ⟨_, rfl, by rw [RS_l]; exact ⟨l2, r_sI0⟩, (fun z hz => by cases hz), Us_n (fun j _ _ _ _ j5 => r_sIj j5) ((Fr.rf _ _).sI (by decide))⟩
  have hr : rst t n place a = if tK t n a = 1 ∧ place < 7 then (match tW t n a with
    | none => .inl (tS t n a)
    | some w => rpt t n w place (tE t n a) 4) else .inl (tS t n a) := rfl
  unfold f_X11_readStep f_X11_readStep_68
  simp only [qi_0, qi_1, qi_2, qi_3, qi_4, qi_5, qi_6, qi_7, qi_8, qi_9, qi_10, qi_11, qi_12, qi_13, qi_14, qi_15, qi_16, qi_17, qi_19, qi_26, qi_31, qi_32, qi_35, qi_40, qi_42, qi_48, qi_50, qi_57, qi_59, qi_63, qi_64, qi_97, qi_120, qi_122, qi_210, qi_255, qi_511, qi_512, qi_1000, qi_6000, qi_13312, qi_14337, qi_16383, qi_16384, qi_524287]
  rw [hN.2.2.1]
  by_cases k1 : tK t n a = 1
  · have h27 := hN.2.2.2.1 k1
    rw [i_eq k1, h27]
    cases hw : tW t n a with
    | none =>
      rw [show iO none = -nI 1 from rfl, i_m1lt (by omega)]
      refine bad ?_
      rw [hr, hw]
      split <;> rfl
    | some w =>
      have hw9 := tW_lt hw
      rw [show iO (some w) = nI w from rfl, i_nlt (by omega) (by omega)]
      by_cases p7 : place = 7
      · rw [i_eq p7]
        refine bad ?_
        rw [hr, if_neg (fun q => by omega)]
      · rw [i_ne (by omega) (by omega) p7, h0, pk_mul, nI_add, p_nm, p_nm]
        obtain ⟨τ, e1, e2, e3, e4⟩ := mnext_eq hT l4 hN.1
        rw [if_pos ⟨k1, by omega⟩, hw] at hr
        simp only at hr
        obtain ⟨υ, f1, f2, f3, f4⟩ := rs1_eq (σ := τ) (t := t) (n := n) (b := tE t n a) (k := 7 * c + place) (w := w) (TpM_fr hT e4 e3) (show place < 7 by omega) hw9 (by omega) (by
          show RS t n (.inr (tE t n a, _)) τ
          rw [RS_r]
          exact ⟨l4, by rw [e3 28 (by decide) (by decide) (by decide) (by decide)]; exact h28, e2⟩)
        rw [e1, p_bd, hr]
        refine ⟨υ, ?_, f2, f3, Us_tr (Us_n (K5_N e3) e4) f4⟩
        rw [← f1]
        rcases (show w = 0 ∨ w = 1 ∨ w = 2 ∨ w = 3 ∨ w = 4 ∨ w = 5 ∨ w = 6 ∨ w = 7 ∨ w = 8 by omega) with q | q | q | q | q | q | q | q | q
        · rw [i_eq q, q]; rfl
        · rw [i_ne (by omega) (by omega) (by omega), i_eq q, q]; rfl
        · rw [i_ne (by omega) (by omega) (by omega), i_ne (by omega) (by omega) (by omega), i_eq q, q]; rfl
        · rw [i_ne (by omega) (by omega) (by omega), i_ne (by omega) (by omega) (by omega), i_ne (by omega) (by omega) (by omega), i_eq q, q]; rfl
        · rw [i_ne (by omega) (by omega) (by omega), i_ne (by omega) (by omega) (by omega), i_ne (by omega) (by omega) (by omega), i_ne (by omega) (by omega) (by omega), i_eq q, q]; rfl
        · rw [i_ne (by omega) (by omega) (by omega), i_ne (by omega) (by omega) (by omega), i_ne (by omega) (by omega) (by omega), i_ne (by omega) (by omega) (by omega), i_ne (by omega) (by omega) (by omega), i_eq q, q]; rfl
        · rw [i_ne (by omega) (by omega) (by omega), i_ne (by omega) (by omega) (by omega), i_ne (by omega) (by omega) (by omega), i_ne (by omega) (by omega) (by omega), i_ne (by omega) (by omega) (by omega), i_ne (by omega) (by omega) (by omega), i_eq q, q]; rfl
        · rw [i_ne (by omega) (by omega) (by omega), i_ne (by omega) (by omega) (by omega), i_ne (by omega) (by omega) (by omega), i_ne (by omega) (by omega) (by omega), i_ne (by omega) (by omega) (by omega), i_ne (by omega) (by omega) (by omega), i_ne (by omega) (by omega) (by omega), i_eq q, q]; rfl
        · rw [i_ne (by omega) (by omega) (by omega), i_ne (by omega) (by omega) (by omega), i_ne (by omega) (by omega) (by omega), i_ne (by omega) (by omega) (by omega), i_ne (by omega) (by omega) (by omega), i_ne (by omega) (by omega) (by omega), i_ne (by omega) (by omega) (by omega), i_ne (by omega) (by omega) (by omega), q]; rfl
  · rw [i_ne (by omega) (by omega) k1]
    refine bad ?_
    rw [hr, if_neg (fun q => k1 q.1)]
