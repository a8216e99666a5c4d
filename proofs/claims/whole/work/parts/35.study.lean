/-! PURE: what the class knows of all turns -/
def ends (P : Pg) : List Nat := er P (bF (bEnd P)) (bN (bEnd P))
def big (P : Pg) : Bool := decide (6000 < bN (bEnd P))
def TkC (P : Pg) (σ : Mm) : Prop := (bN (bEnd P) ≤ 6000 ∧ TuC (bN (bEnd P)) (bF (bEnd P)) σ ∧ σ.1 18 8 = nI 0 ∧ (∀ d, d < 6 * bN (bEnd P) → σ.1 23 d = iO (bG (bEnd P) d)) ∧ σ.1 22 0 = -nI 1 ∧ (∀ j, 0 < j → j < bN (bEnd P) → σ.1 22 j = nI (bC (bEnd P) j)) ∧ RoC 26 (ends P) σ) ∨ (6000 < bN (bEnd P) ∧ σ.1 18 8 = nI 1)
def goL : List Nat := [13, 14, 15, 16, 17, 18, 19, 20, 21, 22, 23, 26, 27]
theorem RoC_of {k : Nat} {l : List Nat} {σ τ : Mm} (h : RoC k l σ) (e1 : τ.1 k 1 = σ.1 k 1) (e2 : τ.1 (k + 1) = σ.1 (k + 1)) : RoC k l τ := by
  obtain ⟨h1, h2, h3, h4, h5, h6⟩ := h
  exact ⟨h1, h2, h3, h4, by rw [e1]; exact h5, fun i hi => by rw [e2]; exact h6 i hi⟩
theorem SlR_of {σ τ : Mm} (h : SlR σ) (e : τ.1 20 = σ.1 20) : SlR τ := fun s hs => by rw [e]; exact h s hs
theorem through_eq {S : Su} {X : Nat → Bool} {fz : Nat} {σ : Mm} (hS : SuV S) (hFX : FX S X) (hC : SeC S 7 σ) (hz : fz < 9223372036854775808) (hX : ∀ k, k < 42 → (fz / 2 ^ k % 2 = 1 ↔ X k = true)) (hSl : SlR σ) :
    ∃ σ', f_X7_goThrough (lN fz) σ = some ((), σ') ∧ TkC (PgOf S X) σ' ∧ SlR σ' ∧ Fr goL σ σ' := by
  have hP := PgOf_V hS hFX
  obtain ⟨σ1, e1, m1, m2⟩ := load_eq hS hFX hC hz hX
  have hV0 : VS (PgOf S X) (pF (PgOf S X)) := VS_small (pF_small hS)
  obtain ⟨σ2, e2, m3⟩ := explore_eq hP m1 hV0 (SlR_of hSl (m2.r1 20 (by decide)))
  unfold f_X7_goThrough
  rw [e1, p_bd, e2, p_bd]
  rcases m3 with ⟨hn, hT, h8, hG, hC0, hC1, hF⟩ | ⟨hn, h8, h7, ⟨F, hFF⟩, hSl2, hF⟩
  · have hL2 := LdC_xL m1 hF
    obtain ⟨σ3, e3, m4, m5⟩ := gather_eq (F := bF (bEnd (PgOf S X))) hP hL2 hT.2.1 hn (fun j hj => ⟨hT.2.2.1 j hj, bf_VS hP hV0 36006 j hj⟩)
    rw [e3, p_bd]
    refine ⟨σ3, rfl, Or.inl ⟨hn, TuC_of hT (by rw [m5.r1 18 (by decide)]) (m5.r2 19 (by decide)) (m5.r1 20 (by decide)) (m5.r1 21 (by decide)), by rw [m5.r1 18 (by decide)]; exact h8, fun d hd => by rw [m5.r1 23 (by decide)]; exact hG d hd, by rw [m5.r1 22 (by decide)]; exact hC0, fun j j0 jn => by rw [m5.r1 22 (by decide)]; exact hC1 j j0 jn, m4⟩, SlR_of hT.2.2.2.1 (m5.r1 20 (by decide)), ?_⟩
    exact (m2.mo (by intro k hk; revert k; decide)).tr ((hF.mo (by intro k hk; revert k; decide)).tr (m5.mo (by intro k hk; revert k; decide)))
  · have hL2 := LdC_xL m1 hF
    obtain ⟨σ3, e3, m4, m5⟩ := gather_eq (F := F) hP hL2 h7 (by omega) hFF
    rw [e3, p_bd]
    refine ⟨σ3, rfl, Or.inr ⟨hn, by rw [m5.r1 18 (by decide)]; exact h8⟩, SlR_of hSl2 (m5.r1 20 (by decide)), ?_⟩
    exact (m2.mo (by intro k hk; revert k; decide)).tr ((hF.mo (by intro k hk; revert k; decide)).tr (m5.mo (by intro k hk; revert k; decide)))
theorem TkC_8 {P : Pg} {σ : Mm} (h : TkC P σ) : σ.1 18 8 = bI (big P) := by
  unfold big
  rcases h with ⟨h1, _, h2, _⟩ | ⟨h1, h2⟩
  · rw [decide_eq_false (by omega), bI_f]; exact h2
  · rw [decide_eq_true h1, bI_t]; exact h2
theorem TkC_of {P : Pg} {σ τ : Mm} (h : TkC P σ) (e18 : τ.1 18 = σ.1 18) (e19 : τ.2 19 = σ.2 19) (e20 : τ.1 20 = σ.1 20) (e21 : τ.1 21 = σ.1 21) (e22 : τ.1 22 = σ.1 22) (e23 : τ.1 23 = σ.1 23) (e26 : τ.1 26 = σ.1 26) (e27 : τ.1 27 = σ.1 27) : TkC P τ := by
  rcases h with ⟨h1, h2, h3, h4, h5, h6, h7⟩ | ⟨h1, h2⟩
  · left
    exact ⟨h1, TuC_of h2 (by rw [e18]) e19 e20 e21, by rw [e18]; exact h3, fun d hd => by rw [e23]; exact h4 d hd, by rw [e22]; exact h5, fun j j0 jn => by rw [e22]; exact h6 j j0 jn, RoC_of h7 (by rw [e26]) e27⟩
  · right
    exact ⟨h1, by rw [e18]; exact h2⟩
theorem TkC_fr {P : Pg} {L : List Nat} {σ τ : Mm} (h : TkC P σ) (hF : Fr L σ τ) (hL : ∀ k ∈ [18, 19, 20, 21, 22, 23, 26, 27], k ∉ L) : TkC P τ :=
  TkC_of h (hF.r1 18 (hL 18 (by decide))) (hF.r2 19 (hL 19 (by decide))) (hF.r1 20 (hL 20 (by decide))) (hF.r1 21 (hL 21 (by decide))) (hF.r1 22 (hL 22 (by decide))) (hF.r1 23 (hL 23 (by decide))) (hF.r1 26 (hL 26 (by decide))) (hF.r1 27 (hL 27 (by decide)))
theorem cb_b {β : Type} (b : Bool) (o : Option β) : cb (bI b) o = o := by cases b; exact p_cb0 o; exact p_cb1 o
def tlL : List Nat := [6, 13, 14, 15, 16, 17, 18, 19, 20, 21, 22, 23, 26, 27]
theorem tooLarge_eq {S : Su} {σ : Mm} (hS : SuV S) (hC : SeC S 7 σ) (hSl : SlR σ) (h66 : σ.1 6 6 = nI 0 ∨ (σ.1 6 6 = nI 1 ∧ TkC (PgOf S noX) σ)) :
    ∃ σ', f_X7_isTooLarge σ = some (bI (big (PgOf S noX)), σ') ∧ TkC (PgOf S noX) σ' ∧ SlR σ' ∧ σ'.1 6 6 = nI 1 ∧ (∀ j, j ≠ 6 → σ'.1 6 j = σ.1 6 j) ∧ Fr tlL σ σ' := by
  unfold f_X7_isTooLarge
  simp only [qi_0, qi_1, qi_2, qi_3, qi_4, qi_5, qi_6, qi_7, qi_8, qi_9, qi_10, qi_11, qi_12, qi_13, qi_14, qi_15, qi_16, qi_17, qi_19, qi_26, qi_31, qi_32, qi_35, qi_40, qi_42, qi_48, qi_50, qi_57, qi_59, qi_63, qi_64, qi_97, qi_120, qi_122, qi_210, qi_255, qi_511, qi_512, qi_1000, qi_6000, qi_13312, qi_14337, qi_16383, qi_16384, qi_524287, ql_0, ql_1, ql_3, ql_4, ql_10, ql_12, ql_13, ql_16, ql_42, ql_157, ql_256, ql_16383, ql_524287]
  rcases h66 with h | ⟨h, hT⟩
  · obtain ⟨σ1, e1, m1, m2, m3⟩ := through_eq (fz := 0) hS (FX_no hS) hC (by omega) noX_0 hSl
    rw [h, i_eq rfl, e1, p_bd, p_cb1, p_nm, r_sI1 (by decide), TkC_8 m1, cb_b]
    refine ⟨_, rfl, TkC_of m1 (r_sI1 (by decide)) (by rw [r_sI2]) (r_sI1 (by decide)) (r_sI1 (by decide)) (r_sI1 (by decide)) (r_sI1 (by decide)) (r_sI1 (by decide)) (r_sI1 (by decide)), SlR_of m2 (r_sI1 (by decide)), r_sI0, fun j hj => by rw [r_sIj hj, m3.r1 6 (by decide)], (m3.mo (by intro k hk; revert k; decide)).sI (by decide)⟩
  · rw [h, i_ne (by omega) (by omega) (by omega), TkC_8 hT, cb_b]
    exact ⟨σ, rfl, hT, hSl, h, fun _ _ => rfl, Fr.rf _ _⟩
/-- bad results -/
def lbd (g : List Nat) : List Nat → Option Nat
  | [] => none
  | v :: l => if v ∈ g then lbd g l else some v
def cbd (g : List Nat) : List Nat → Nat
  | [] => 0
  | v :: l => (if v ∈ g then 0 else 1) + cbd g l
theorem cbd_le (g l : List Nat) : cbd g l ≤ l.length := by
  induction l with
  | nil => exact Nat.le_refl _
  | cons v l ih => rw [cbd, List.length_cons]; split <;> omega
theorem lbd_cbd (g l : List Nat) : lbd g l = none ↔ cbd g l = 0 := by
  induction l with
  | nil => exact ⟨fun _ => rfl, fun _ => rfl⟩
  | cons v l ih =>
    rw [lbd, cbd]
    by_cases h : v ∈ g
    · rw [if_pos h, if_pos h, ih]; omega
    · rw [if_neg h, if_neg h]
      constructor
      · intro q; cases q
      · intro q; omega
theorem lbd_mem {g l : List Nat} {v : Nat} (h : lbd g l = some v) : v ∈ l := by
  induction l with
  | nil => cases h
  | cons a l ih =>
    rw [lbd] at h
    split at h
    · exact List.mem_cons_of_mem _ (ih h)
    · simp only [Option.some.injEq] at h
      rw [← h]; exact List.mem_cons_self
theorem drop_c {l : List Nat} {i : Nat} (hi : i < l.length) : l.drop i = l.getD i 0 :: l.drop (i + 1) := by
  rw [gd_get hi, List.drop_eq_getElem_cons hi]
theorem lbd_lt {g l : List Nat} {v : Nat} (hb : Bnd l) (h : lbd g l = some v) : v < 262144 := by
  obtain ⟨i, hi, e⟩ := mem_gd.mp (lbd_mem h)
  rw [← e]; exact hb i hi
theorem countBad_eq {es gs : List Nat} {σ : Mm} (h1 : RoC 26 es σ) (h2 : RoC 28 gs σ) : f_X7_countBad σ = some (nI (cbd gs es), σ) := by
  have hlen : es.length ≤ 6000 := h1.2.2.1
  have hb := h1.2.1
  unfold f_X7_countBad
  refine lq2 (F := f_X7_countBad_L4) (fun a b τ => ∃ i n, i ≤ es.length ∧ a = nI n ∧ b = nI i ∧ τ = σ ∧ n + cbd gs (es.drop i) = cbd gs es) (fun _ b _ => 6000 - ix b) (fun o => o = some (nI (cbd gs es), σ)) ?_ FU (0 : Int32) (0 : Int32) σ ?_ ⟨0, 0, by omega, rfl, rfl, rfl, by rw [List.drop_zero]; omega⟩
  · rintro L a b τ ⟨i, n, hi, rfl, rfl, rfl, hc⟩
    have hn := cbd_le gs es
    unfold f_X7_countBad_L4 f_X7_countBad_34
    simp only [qi_0, qi_1, qi_2, qi_3, qi_4, qi_5, qi_6, qi_7, qi_8, qi_9, qi_10, qi_11, qi_12, qi_13, qi_14, qi_15, qi_16, qi_17, qi_19, qi_26, qi_31, qi_32, qi_35, qi_40, qi_42, qi_48, qi_50, qi_57, qi_59, qi_63, qi_64, qi_97, qi_120, qi_122, qi_210, qi_255, qi_511, qi_512, qi_1000, qi_6000, qi_13312, qi_14337, qi_16383, qi_16384, qi_524287]
    rw [h1.2.2.2.2.1]
    by_cases c : es.length ≤ i
    · right
      rw [i_le (by omega) c]
      rw [show i = es.length by omega, List.drop_length] at hc
      have hc : n + 0 = cbd gs es := hc
      rw [show n = cbd gs es by omega]
    · left
      have hlt : i < es.length := by omega
      rw [drop_c hlt, cbd] at hc
      rw [i_nle (by omega) (by omega), p_ck _ (by omega) (by omega), p_ix (a := i) (by omega), h1.2.2.2.2.2 i hlt, holds_eq h2 (hb i hlt), p_bd]
      by_cases m : es.getD i 0 ∈ gs
      · rw [if_pos m] at hc
        rw [decide_eq_true m, bI_t, i_ne (by omega) (by omega) (by omega), p_nm, nI_add]
        refine ⟨nI n, nI (i + 1), τ, ⟨i + 1, n, by omega, rfl, rfl, rfl, by omega⟩, ?_, rfl⟩
        rw [p_ix (by omega)]; omega
      · rw [if_neg m] at hc
        rw [decide_eq_false m, bI_f, i_eq rfl, p_nm, p_nm, nI_add, nI_add]
        refine ⟨nI (n + 1), nI (i + 1), τ, ⟨i + 1, n + 1, by omega, rfl, rfl, rfl, by omega⟩, ?_, rfl⟩
        rw [p_ix (by omega)]; omega
  · show 6000 - ix (nI 0) < FU
    rw [p_ix (by omega), FU_v]; omega
theorem leastBad_eq {es gs : List Nat} {σ : Mm} (h1 : RoC 26 es σ) (h2 : RoC 28 gs σ) : f_X7_leastBad σ = some (iO (lbd gs es), σ) := by
  have hlen : es.length ≤ 6000 := h1.2.2.1
  have hb := h1.2.1
  unfold f_X7_leastBad
  refine lq1 (F := f_X7_leastBad_L2) (fun b τ => ∃ i, i ≤ es.length ∧ b = nI i ∧ τ = σ ∧ lbd gs (es.drop i) = lbd gs es) (fun b _ => 6000 - ix b) (fun o => o = some (iO (lbd gs es), σ)) ?_ FU (0 : Int32) σ ?_ ⟨0, by omega, rfl, rfl, by rw [List.drop_zero]⟩
  · rintro L b τ ⟨i, hi, rfl, rfl, hc⟩
    unfold f_X7_leastBad_L2
    simp only [qi_0, qi_1, qi_2, qi_3, qi_4, qi_5, qi_6, qi_7, qi_8, qi_9, qi_10, qi_11, qi_12, qi_13, qi_14, qi_15, qi_16, qi_17, qi_19, qi_26, qi_31, qi_32, qi_35, qi_40, qi_42, qi_48, qi_50, qi_57, qi_59, qi_63, qi_64, qi_97, qi_120, qi_122, qi_210, qi_255, qi_511, qi_512, qi_1000, qi_6000, qi_13312, qi_14337, qi_16383, qi_16384, qi_524287]
    rw [h1.2.2.2.2.1]
    by_cases c : es.length ≤ i
    · right
      rw [i_le (by omega) c]
      rw [show i = es.length by omega, List.drop_length] at hc
      rw [← hc]; rfl
    · have hlt : i < es.length := by omega
      rw [drop_c hlt, lbd] at hc
      rw [i_nle (by omega) (by omega), p_ck _ (by omega) (by omega), p_ix (a := i) (by omega), h1.2.2.2.2.2 i hlt, holds_eq h2 (hb i hlt), p_bd]
      by_cases m : es.getD i 0 ∈ gs
      · left
        rw [if_pos m] at hc
        rw [decide_eq_true m, bI_t, i_ne (by omega) (by omega) (by omega), p_nm, nI_add]
        refine ⟨nI (i + 1), τ, ⟨i + 1, by omega, rfl, rfl, hc⟩, ?_, rfl⟩
        rw [p_ix (by omega)]; omega
      · right
        rw [if_neg m] at hc
        rw [decide_eq_false m, bI_f, i_eq rfl, p_ck _ (by omega) (by omega), h1.2.2.2.2.2 i hlt, ← hc]; rfl
  · show 6000 - ix (nI 0) < FU
    rw [p_ix (by omega), FU_v]; omega
