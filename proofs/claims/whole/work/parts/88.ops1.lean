/-! PURE: calls that change what is set up -/
def scL : List Nat := [3, 6, 7, 8, 9, 10, 11, 12]
theorem AC_S {A : Ob} {σ τ : Mm} {S : Su} (h : AC A σ) (hS : SuV S) (hC : SeC S 7 τ) (hF : Fr scL σ τ) (h66 : τ.1 6 6 = nI 0) (h67 : τ.1 6 7 = nI 0) : AC (uS A S) τ := by
  obtain ⟨h1, h2, h3, h4, h5, h6, h7, h8⟩ := h
  have q : ∀ k, 13 ≤ k → k ∉ scL := fun k a d => by
    simp only [scL, List.mem_cons, List.not_mem_nil, or_false] at d
    omega
  exact ⟨⟨hS, h1.2⟩, hC, ⟨SlR_of h3.1 (hF.r1 20 (by decide)), Or.inl h66, Or.inl h67⟩, by rw [hF.r1 0 (by decide)]; exact h4, fun b => SeC_31 (h5 b) (fun k a1 a2 => hF.r1 k (q k (by omega))), TpC_of h6 (hF.r1 4 (by decide)) (hF.r1 5 (by decide)), ShC_of h7 (fun k a1 a2 => ⟨hF.r1 k (q k (by omega)), hF.r2 k (q k (by omega))⟩), CnC_of h8 (hF.r1 1 (by decide)) (hF.r1 2 (by decide))⟩
def smL : List Nat := [48, 49, 50, 51, 52, 53, 54, 55, 56, 57]
theorem AM_S {A : Ob} {σ τ : Mm} {S : Su} (h : AM A σ) (hS : SuV S) (hC : SeM S τ) (hF : Fr smL σ τ) (hJ : ∀ j, j = 13 ∨ j = 15 ∨ j = 16 ∨ j = 17 ∨ j = 18 ∨ j = 37 → τ.1 48 j = σ.1 48 j) (h48 : τ.1 48 48 = nI 0) : AM (uS A S) τ := by
  obtain ⟨h1, h2, h3, h4, h5, h6, h7, h8⟩ := h
  obtain ⟨W, w1, w2⟩ := h3.1
  exact ⟨⟨hS, h1.2⟩, hC, ⟨⟨W, w1, WrM_of w2 (hJ 37 (by omega)) (hF.r1 72 (by decide))⟩, Or.inl h48⟩, by rw [hJ 15 (by omega)]; exact h4, fun b => SeM_rs6 (h5 b) (hF.r1 60 (by decide)) (hJ 16 (by omega)) (hJ 17 (by omega)) (hJ 18 (by omega)), TpM_of h6 (hJ 13 (by omega)) (hF.r1 58 (by decide)) (hF.r2 65 (by decide)), ShM_of h7 (hF.r1 61 (by decide)) (hF.r1 62 (by decide)) (hF.r2 63 (by decide)), fun d hd => by rw [hF.r1 59 (by decide)]; exact h8 d hd⟩
theorem scL_48 : ∀ k, k ∈ scL → k < 48 := by decide
theorem smL_48 : ∀ k, k ∈ smL → 48 ≤ k := by decide
theorem sub6 (e : Nat) : (-1000000001 : Int32) - nI e = er7 e := rfl
theorem er_1 : (-1000000001 : Int32) = er7 0 := by decide
theorem er_2 : (-1000000002 : Int32) = er7 1 := by decide
theorem er_3 : (-1000000003 : Int32) = er7 2 := by decide
theorem er_4 : (-1000000004 : Int32) = er7 3 := by decide
theorem er_5 : (-1000000005 : Int32) = er7 4 := by decide
theorem er_6 : (-1000000006 : Int32) = er7 5 := by decide
theorem er_7 : (-1000000007 : Int32) = er7 6 := by decide
/-- both tell the same -/
theorem tellC {A : Ob} {σ : Mm} {e : Nat} (h : AC A σ) (he : e < 7) : ∃ σ', bd (f_X0_tell (nI e) σ) (fun r σ1 => some (r, σ1)) = some (er7 e, σ') ∧ AC (tel A e) σ' ∧ FrC σ σ' := by
  obtain ⟨σ', a, b, c⟩ := tell_eq h he
  exact ⟨σ', by rw [a, p_bd], b, c⟩
theorem tellM {A : Ob} {σ : Mm} {e : Nat} (h : AM A σ) (he : e < 7) : ∃ σ', bd (f_X11_finds (er7 e) σ) (fun r σ1 => some (r, σ1)) = some (er7 e, σ') ∧ AM (tel A e) σ' ∧ FrM σ σ' := by
  obtain ⟨σ', a, b, c⟩ := finds_eq h he
  exact ⟨σ', by rw [a, p_bd], b, c⟩
/-- clear -/
def S0h (S : Su) : Su := (S.1, S.2.1, S.2.2.1, 0, S.2.2.2.2)
theorem S0h_V {S : Su} (h : SuV S) : SuV (S0h S) := ⟨h.1, h.2.1, h.2.2.1, Nat.zero_le _, fun g (hg : g < 0) => by omega, h.2.2.2.2.2.1, h.2.2.2.2.2.2⟩
theorem forget_S {A : Ob} {σ τ : Mm} {S : Su} (h : AC A σ) (hS : SuV S) (hC : SeC S 7 τ) (hF : Fr scL σ τ) : ∃ τ', f_X7_forget τ = some ((), τ') ∧ AC (uS A S) τ' ∧ FrC σ τ' ∧ ∀ k, k ≠ 6 → τ'.1 k = τ.1 k := by
  rw [forget_eq]
  have hF2 : Fr scL σ (sI (sI τ 6 6 (nI 0)) 6 7 (nI 0)) := (hF.sI (by decide)).sI (by decide)
  have e : ∀ k, k ≠ 6 → (sI (sI τ 6 6 (nI 0)) 6 7 (nI 0)).1 k = τ.1 k := fun k hk => by rw [r_sI1 hk, r_sI1 hk]
  exact ⟨_, rfl, AC_S h hS (SeC_of hC (e 7 (by decide)) (e 8 (by decide)) (e 9 (by decide)) (e 10 (by decide)) (e 11 (by decide)) (e 12 (by decide))) hF2 (by rw [r_sIj (by decide), r_sI0]) r_sI0, FrC_of hF2 scL_48, e⟩
theorem op_clear {A : Ob} {σ : Mm} (hc : AC A σ) (hm : AM A σ) : Ans f_X10_clear f_X11_clear σ := by
  refine Ans_of (r := nI (sH (oS A))) (A' := uS A (S0h (oS A))) hm ?_ (fun τ hm => ?_)
  · obtain ⟨c1, c2, c3, c4, c5, c6, c7⟩ := hc.2.1
    obtain ⟨τ', a1, a2, a3, _⟩ := forget_S (τ := sI σ 7 3 (nI 0)) hc (S0h_V hc.1.1) ⟨by rw [r_sIj (by decide)]; exact c1, r_sI0, by rw [r_sIj (by decide)]; exact c3, fun c h => by rw [r_sI1 (by decide)]; exact c4 c h, fun c s h1 h2 => CdC_of (c5 c s h1 h2) (fun r _ => by rw [r_sI1 (by decide)]), fun g (hg : g < 0) => by omega, fun c h => by rw [r_sI1 (by decide)]; exact c7 c h⟩ ((Fr.rf _ _).sI (by decide))
    unfold f_X10_clear
    rw [c2, p_nm, qi_0, p_nm, a1, p_bd]
    exact ⟨τ', rfl, a2, a3⟩
  · obtain ⟨c0, c7, c11, c49, cS, cH, cV⟩ := hm.2.1
    have hF : Fr smL τ (sI (sI τ 48 7 (nI 0)) 48 48 (nI 0)) := ((Fr.rf _ _).sI (by decide)).sI (by decide)
    have e : ∀ k, k ≠ 48 → (sI (sI τ 48 7 (nI 0)) 48 48 (nI 0)).1 k = τ.1 k := fun k hk => by rw [r_sI1 hk, r_sI1 hk]
    unfold f_X11_clear
    rw [c7, p_nm, qi_0, p_nm, p_cb0, p_nm]
    refine ⟨_, rfl, AM_S hm (S0h_V hm.1.1) ⟨by rw [r_sIj (by decide), r_sIj (by decide)]; exact c0, by rw [r_sIj (by decide), r_sI0]; rfl, by rw [r_sIj (by decide), r_sIj (by decide)]; exact c11, fun c h => by rw [e 49 (by decide)]; exact c49 c h, fun c s h1 h2 => CdS_5 (cS c s h1 h2) (fun d d1 d2 => by rw [e d (by omega)]), fun g (hg : g < 0) => by omega, fun c h => by rw [e 57 (by decide)]; exact cV c h⟩ hF (fun j hj => by rw [r_sIj (by omega), r_sIj (by omega)]) r_sI0, FrM_of hF smL_48⟩
/-- machine -/
def Sm (S : Su) (m : Nat) : Su := (S.1, S.2.1, S.2.2.1, S.2.2.2.1, S.2.2.2.2.1, S.2.2.2.2.2.1, S.2.2.2.2.2.2.1, m)
theorem Sm_V {S : Su} {m : Nat} (h : SuV S) (hm : m ≤ 1) : SuV (Sm S m) := ⟨h.1, h.2.1, h.2.2.1, h.2.2.2.1, h.2.2.2.2.1, h.2.2.2.2.2.1, hm⟩
theorem rng {n : Nat} (x : Int32) (hn : n < 1000000) : (x < 0 ∨ nI n ≤ x) ∨ ∃ c, c < n ∧ x = nI c := by
  rcases pk_ix x (n := n) (by omega) with h | h | h
  · exact Or.inl (Or.inl h)
  · exact Or.inl (Or.inr h)
  · exact Or.inr h
/-- in(x, 0, hi): hi given as a number -/
theorem in_n {n : Nat} {x : Int32} {σ : Mm} (hn : n < 999999) (h : x < 0 ∨ nI (n + 1) ≤ x) : f_X11_in x (nI 0) (nI n) σ = some (nI 0, σ) := by
  have := in_no (n := n + 1) (σ := σ) (by omega) h
  rw [pk_sub (by omega), show n + 1 - 1 = n by omega] at this
  exact this
theorem in_y {n c : Nat} {σ : Mm} (hn : n < 999999) (h : c < n + 1) : f_X11_in (nI c) (nI 0) (nI n) σ = some (nI 1, σ) := by
  have := in_yes (n := n + 1) (σ := σ) (by omega) h
  rw [pk_sub (by omega), show n + 1 - 1 = n by omega] at this
  exact this
theorem op_machine {A : Ob} {σ : Mm} (hc : AC A σ) (hm : AM A σ) (x : Int32) : Ans (f_X10_machine x) (f_X11_machine x) σ := by
  rcases rng (n := 2) x (by omega) with h | ⟨m, h, rfl⟩
  · refine Ans_of (r := er7 0) (A' := tel A 0) hm ?_ (fun τ hm => ?_)
    · unfold f_X10_machine
      rw [qi_0]
      by_cases h0 : x < nI 0
      · rw [if_pos h0]; exact tellC hc (by omega)
      · have h2 : ¬ x ≤ (1 : Int32) := by
          rcases h with h | h
          · exact absurd h h0
          · rw [qi_1]
            rw [Int32.le_iff_toInt_le] at h ⊢
            rw [nI_toInt (by omega)] at h ⊢
            omega
        rw [if_neg h0, if_neg h2]; exact tellC hc (by omega)
    · unfold f_X11_machine
      rw [qi_0, qi_1, er_1, in_n (by omega) h, p_bd, i_eq rfl]
      exact tellM hm (by omega)
  · refine Ans_of (r := nI (sM (oS A))) (A' := uS A (Sm (oS A) m)) hm ?_ (fun τ hm => ?_)
    · obtain ⟨c1, c2, c3, c4, c5, c6, c7⟩ := hc.2.1
      obtain ⟨τ', a1, a2, a3, _⟩ := forget_S (τ := sI σ 7 7 (nI m)) hc (Sm_V (m := m) hc.1.1 (by omega)) ⟨by rw [r_sIj (by decide)]; exact c1, by rw [r_sIj (by decide)]; exact c2, r_sI0, fun c h => by rw [r_sI1 (by decide)]; exact c4 c h, fun c s h1 h2 => CdC_of (c5 c s h1 h2) (fun r _ => by rw [r_sI1 (by decide)]), fun g hg => by rw [r_sI1 (by decide), r_sI1 (by decide)]; exact c6 g hg, fun c h => by rw [r_sI1 (by decide)]; exact c7 c h⟩ ((Fr.rf _ _).sI (by decide))
      unfold f_X10_machine
      rw [qi_0, qi_1, i_nlt (by omega) (by omega), i_le (by omega) (by omega), c3, p_nm, p_nm, a1, p_bd]
      exact ⟨τ', rfl, a2, a3⟩
    · obtain ⟨c0, c7, c11, c49, cS, cH, cV⟩ := hm.2.1
      have hF : Fr smL τ (sI (sI τ 48 11 (nI m)) 48 48 (nI 0)) := ((Fr.rf _ _).sI (by decide)).sI (by decide)
      have e : ∀ k, k ≠ 48 → (sI (sI τ 48 11 (nI m)) 48 48 (nI 0)).1 k = τ.1 k := fun k hk => by rw [r_sI1 hk, r_sI1 hk]
      unfold f_X11_machine
      rw [qi_0, qi_1, in_y (by omega) (by omega), p_bd, i_ne (by omega) (by omega) (by omega), c11, p_nm, p_nm, p_cb0, p_nm]
      refine ⟨_, rfl, AM_S hm (Sm_V (m := m) hm.1.1 (by omega)) ⟨by rw [r_sIj (by decide), r_sIj (by decide)]; exact c0, by rw [r_sIj (by decide), r_sIj (by decide)]; exact c7, by rw [r_sIj (by decide), r_sI0]; rfl, fun c h => by rw [e 49 (by decide)]; exact c49 c h, fun c s h1 h2 => CdS_5 (cS c s h1 h2) (fun d d1 d2 => by rw [e d (by omega)]), fun g hg => by rw [e 55 (by decide), e 56 (by decide)]; exact cH g hg, fun c h => by rw [e 57 (by decide)]; exact cV c h⟩ hF (fun j hj => by rw [r_sIj (by omega), r_sIj (by omega)]) r_sI0, FrM_of hF smL_48⟩
