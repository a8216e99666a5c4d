/-! PURE: which calls and steps there are in the reference; healing -/
theorem in_no {n : Nat} {x : Int32} {σ : Mm} (hn : n < 1000000) (h : x < 0 ∨ nI n ≤ x) : f_X11_in x (nI 0) (nI n - nI 1) σ = some (nI 0, σ) := by
  unfold f_X11_in f_X11_in_14
  simp only [qi_0, qi_1, qi_2, qi_3, qi_4, qi_5, qi_6, qi_7, qi_8, qi_9, qi_10, qi_11, qi_12, qi_13, qi_14, qi_15, qi_16, qi_17, qi_19, qi_26, qi_31, qi_32, qi_35, qi_40, qi_42, qi_48, qi_50, qi_57, qi_59, qi_63, qi_64, qi_97, qi_120, qi_122, qi_210, qi_255, qi_511, qi_512, qi_1000, qi_6000, qi_13312, qi_14337, qi_16383, qi_16384, qi_524287]
  by_cases h0 : x < nI 0
  · rw [if_pos h0, p_cb0]
  · have h1 : nI n ≤ x := by
      rcases h with h | h
      · exact absurd h h0
      · exact h
    have h2 : nI n - nI 1 < x := by
      rw [Int32.lt_iff_toInt_lt]
      rw [Int32.le_iff_toInt_le, nI_toInt (by omega)] at h1
      by_cases e : n = 0
      · rw [e] at h1 ⊢
        have : (nI 0 - nI 1).toInt = -1 := by decide
        omega
      · rw [pk_sub (by omega), nI_toInt (by omega)]
        omega
    rw [if_neg h0, if_pos h2, p_cb0]
theorem in_yes {n c : Nat} {σ : Mm} (hn : n < 1000000) (h : c < n) : f_X11_in (nI c) (nI 0) (nI n - nI 1) σ = some (nI 1, σ) := by
  unfold f_X11_in f_X11_in_14
  simp only [qi_0, qi_1, qi_2, qi_3, qi_4, qi_5, qi_6, qi_7, qi_8, qi_9, qi_10, qi_11, qi_12, qi_13, qi_14, qi_15, qi_16, qi_17, qi_19, qi_26, qi_31, qi_32, qi_35, qi_40, qi_42, qi_48, qi_50, qi_57, qi_59, qi_63, qi_64, qi_97, qi_120, qi_122, qi_210, qi_255, qi_511, qi_512, qi_1000, qi_6000, qi_13312, qi_14337, qi_16383, qi_16384, qi_524287]
  rw [pk_sub (by omega), i_nlt (by omega) (by omega), i_nlt (by omega) (by omega), p_cb1]
theorem misCall_no {S : Su} {σ : Mm} {x : Int32} (hS : SuV S) (hC : SeM S σ) (h : x < 0 ∨ nI (sK S) ≤ x) : f_X11_isCall x σ = some (nI 0, σ) := by
  have h6 := hS.1
  unfold f_X11_isCall
  simp only [qi_0, qi_1, qi_2, qi_3, qi_4, qi_5, qi_6, qi_7, qi_8, qi_9, qi_10, qi_11, qi_12, qi_13, qi_14, qi_15, qi_16, qi_17, qi_19, qi_26, qi_31, qi_32, qi_35, qi_40, qi_42, qi_48, qi_50, qi_57, qi_59, qi_63, qi_64, qi_97, qi_120, qi_122, qi_210, qi_255, qi_511, qi_512, qi_1000, qi_6000, qi_13312, qi_14337, qi_16383, qi_16384, qi_524287]
  rw [hC.1, in_no (by omega) h, p_bd, p_cb0]
theorem misCall_yes {S : Su} {σ : Mm} {c : Nat} (hS : SuV S) (hC : SeM S σ) (h : c < sK S) : f_X11_isCall (nI c) σ = some (nI 1, σ) := by
  have h6 := hS.1
  unfold f_X11_isCall
  simp only [qi_0, qi_1, qi_2, qi_3, qi_4, qi_5, qi_6, qi_7, qi_8, qi_9, qi_10, qi_11, qi_12, qi_13, qi_14, qi_15, qi_16, qi_17, qi_19, qi_26, qi_31, qi_32, qi_35, qi_40, qi_42, qi_48, qi_50, qi_57, qi_59, qi_63, qi_64, qi_97, qi_120, qi_122, qi_210, qi_255, qi_511, qi_512, qi_1000, qi_6000, qi_13312, qi_14337, qi_16383, qi_16384, qi_524287]
  rw [hC.1, in_yes (by omega) h, p_bd, p_cb1]
theorem misStep_no {S : Su} {σ : Mm} {x y : Int32} (hS : SuV S) (hC : SeM S σ) (h : noStep S x y) : f_X11_isStep x y σ = some (nI 0, σ) := by
  have h6 := hS.1
  unfold f_X11_isStep f_X11_isStep_28
  simp only [qi_0, qi_1, qi_2, qi_3, qi_4, qi_5, qi_6, qi_7, qi_8, qi_9, qi_10, qi_11, qi_12, qi_13, qi_14, qi_15, qi_16, qi_17, qi_19, qi_26, qi_31, qi_32, qi_35, qi_40, qi_42, qi_48, qi_50, qi_57, qi_59, qi_63, qi_64, qi_97, qi_120, qi_122, qi_210, qi_255, qi_511, qi_512, qi_1000, qi_6000, qi_13312, qi_14337, qi_16383, qi_16384, qi_524287]
  rcases h with h | ⟨c, hc, rfl, h⟩
  · rw [misCall_no hS hC h, p_bd, i_eq rfl, p_cb0]
  · have h7 := (hS.2.1 c hc).2
    rw [misCall_yes hS hC hc, p_bd, i_ne (by omega) (by omega) (by omega), p_ck _ (by omega) (by omega), p_ix (by omega), hC.2.2.2.1 c hc, in_no (by omega) h, p_bd, i_eq rfl, p_cb0]
theorem misStep_yes {S : Su} {σ : Mm} {c s : Nat} (hS : SuV S) (hC : SeM S σ) (hc : c < sK S) (hs : s < sN S c) : f_X11_isStep (nI c) (nI s) σ = some (nI 1, σ) := by
  have h6 := hS.1
  have h7 := (hS.2.1 c hc).2
  unfold f_X11_isStep f_X11_isStep_28
  simp only [qi_0, qi_1, qi_2, qi_3, qi_4, qi_5, qi_6, qi_7, qi_8, qi_9, qi_10, qi_11, qi_12, qi_13, qi_14, qi_15, qi_16, qi_17, qi_19, qi_26, qi_31, qi_32, qi_35, qi_40, qi_42, qi_48, qi_50, qi_57, qi_59, qi_63, qi_64, qi_97, qi_120, qi_122, qi_210, qi_255, qi_511, qi_512, qi_1000, qi_6000, qi_13312, qi_14337, qi_16383, qi_16384, qi_524287]
  rw [misCall_yes hS hC hc, p_bd, i_ne (by omega) (by omega) (by omega), p_ck _ (by omega) (by omega), p_ix (by omega), hC.2.2.2.1 c hc, in_yes (by omega) hs, p_bd, i_ne (by omega) (by omega) (by omega), p_cb1]
theorem hvB_chp (S : Su) (c s : Nat) : hvB (sC S c s) = (chp S c s).isSome := by
  unfold hvB chp
  generalize sC S c s = f
  by_cases k3 : f 0 = 3
  · rw [if_pos k3, decide_eq_true (Or.inl k3)]; rfl
  rw [if_neg k3]
  by_cases k4 : f 0 = 4 ∨ f 0 = 7
  · rw [if_pos k4, decide_eq_true (by omega)]; rfl
  rw [if_neg k4]
  by_cases k2 : f 0 = 2
  · rw [if_pos k2]
    by_cases e : f 2 = 4
    · rw [if_pos e, decide_eq_false (by omega)]; rfl
    · rw [if_neg e, decide_eq_true (by omega)]; rfl
  · rw [if_neg k2, decide_eq_false (by omega)]; rfl
theorem chg_hvB {S : Su} {c s w : Nat} (hw : w < 4) (h : hvB (sC S c s) = true) : hvB (sC (chg S c s w) c s) = true := by
  have q := of_decide_eq_true h
  refine decide_eq_true ?_
  rw [chg_0, chg_r]
  by_cases k3 : sC S c s 0 = 3
  · exact Or.inl k3
  · have ec : cpt S c s = 2 := if_neg k3
    rw [if_pos ⟨rfl, rfl, ec.symm⟩]
    omega
theorem chg_own_lt {S : Su} {c s : Nat} (hS : SuV S) (hc : c < sK S) (hs : s < sN S c) (h : hvB (sC S c s) = true) : sC S c s (cpt S c s) < 4 := by
  obtain ⟨v1, v2, v3, v4, v5, v6⟩ := hS.2.2.1 c s hc hs
  have q := of_decide_eq_true h
  by_cases k3 : sC S c s 0 = 3
  · rw [show cpt S c s = 3 from if_pos k3]; exact v5 k3
  · rw [show cpt S c s = 2 from if_neg k3]
    by_cases k2 : sC S c s 0 = 2
    · have := v3 k2; omega
    · exact v4 (by omega)
theorem chg_at (S : Su) (c s w : Nat) : sC (chg S c s w) c s (cpt S c s) = w := if_pos ⟨rfl, rfl, rfl⟩
/-- a value is put where another was put -/
theorem mput_again {S : Su} {σ : Mm} {c s w v : Nat} (hS : SuV S) (hw : w < 4) (hC : SeM (chg S c s w) σ) (hc : c < sK S) (hs : s < sN S c) (hv : v < 4) (hh : hvB (sC S c s) = true) : ∃ σ', f_X11_put (nI (7 * c + s)) (nI v) σ = some (nI w, σ') ∧ SeM (chg S c s v) σ' ∧ σ'.1 48 48 = nI 0 ∧ (∀ j, j ≠ 48 → σ'.1 48 j = σ.1 48 j) ∧ Fr [48, 52, 53] σ σ' := by
  obtain ⟨σ', e1, e2, e3, e4, e5⟩ := mput_eq (chg_V (c := c) (s := s) hS hw) hC hc hs hv (chg_hvB hw hh)
  rw [cpt_chg, chg_at] at e1
  rw [chg_chg] at e2
  exact ⟨σ', e1, e2, e3, e4, e5⟩
def heM : List Nat := 52 :: 53 :: laL
def hmI (o : Option Nat) : Int32 := match o with
  | none => -1000000007
  | some a => nI a
def hmO (o : Option Nat) (σ : Mm) : Mm := match o with
  | none => fd σ 6
  | some _ => σ
theorem hmI_n : hmI none = -1000000007 := (rfl)
theorem hmI_s (a : Nat) : hmI (some a) = nI a := (rfl)
theorem hmO_n (σ : Mm) : hmO none σ = fd σ 6 := (rfl)
theorem hmO_s (a : Nat) (σ : Mm) : hmO (some a) σ = σ := (rfl)
theorem hlv_s {S : Su} {c s v a : Nat} (h : hlv S c s v = some a) : hlv S c s (v + 1) = if big (PgOf (chg S c s v) noX) then none else some (a + (if lbd (ords (chg S c s v) noX) (ends (PgOf (chg S c s v) noX)) = none then 2 ^ v else 0)) := by rw [hlv, h]
theorem hlv_4 {S : Su} {c s v : Nat} (hv : v ≤ 4) (hh : hlv S c s v = none) : hlv S c s 4 = none := by
  have key : ∀ k, hlv S c s (v + k) = none := by
    intro k
    induction k with
    | zero => exact hh
    | succ k ih => rw [show v + (k + 1) = v + k + 1 by omega, hlv, ih]
  have := key (4 - v)
  rw [show v + (4 - v) = 4 by omega] at this
  exact this
theorem shl31 {v : Nat} (h : v < 4) : nI 1 <<< (nI v &&& nI 31) = nI (1 * 2 ^ v) := by
  rcases (show v = 0 ∨ v = 1 ∨ v = 2 ∨ v = 3 by omega) with rfl | rfl | rfl | rfl <;> decide
theorem mheal_eq {S : Su} {W : List Nat} {σ : Mm} {c s : Nat} (hS : SuV S) (hC : SeM S σ) (hW : Wok W 42) (hM : WrM W σ) (hc : c < sK S) (hs : s < sN S c) (hh : hvB (sC S c s) = true) :
    ∃ σ', f_X11_heal (nI c) (nI s) σ = some (hmI (hlv S c s 4), hmO (hlv S c s 4) σ') ∧ SeM S σ' ∧ WrM W σ' ∧ σ'.1 48 48 = nI 0 ∧ (∀ j, j ≠ 47 → j ≠ 48 → j ≠ 50 → j ≠ 58 → j ≠ 60 → σ'.1 48 j = σ.1 48 j) ∧ Fr heM σ σ' := by
  have h6 := hS.1
  have h7 := (hS.2.1 c hc).2
  have hX0 := XF_0 W
  have hown := chg_own_lt hS hc hs hh
  have LL : ∀ k, k ∈ laL → k ∈ heM := fun k hk => List.mem_cons_of_mem _ (List.mem_cons_of_mem _ hk)
  have LP : ∀ k, k ∈ [48, 52, 53] → k ∈ heM := by intro k hk; revert k; decide
  have step1 : f_X11_hasValue (nI (7 * c + s)) σ = some (nI 1, σ) := by rw [hasValue_eq (by omega) (hC.2.2.2.2.1 c s hc hs) (hS.2.2.1 c s hc hs), hh, bI_t]
  obtain ⟨σ1, p1, p2, p3, p4, p5⟩ := mput_eq (v := 0) hS hC hc hs (by omega) hh
  unfold f_X11_heal
  simp only [qi_0, qi_1, qi_2, qi_3, qi_4, qi_5, qi_6, qi_7, qi_8, qi_9, qi_10, qi_11, qi_12, qi_13, qi_14, qi_15, qi_16, qi_17, qi_19, qi_26, qi_31, qi_32, qi_35, qi_40, qi_42, qi_48, qi_50, qi_57, qi_59, qi_63, qi_64, qi_97, qi_120, qi_122, qi_210, qi_255, qi_511, qi_512, qi_1000, qi_6000, qi_13312, qi_14337, qi_16383, qi_16384, qi_524287]
  rw [misStep_yes hS hC hc hs, p_bd, i_ne (by omega) (by omega) (by omega), pk_mul, nI_add, p_nm, step1, p_bd, i_ne (by omega) (by omega) (by omega), p1, p_bd]
  refine lq3 (F := f_X11_heal_L55 (fun (xq5 : Int32) (xq6 : Int32) (σ : Mm) => f_X11_heal_121 (nI (7 * c + s)) (nI (sC S c s (cpt S c s))) xq5 xq6 σ) (nI (7 * c + s)) (nI (sC S c s (cpt S c s)))) (fun a b d τ => ∃ v w, v ≤ 4 ∧ w < 4 ∧ ((b = nI 1 ∧ hlv S c s v = none) ∨ (b = nI 0 ∧ ∃ m, hlv S c s v = some m ∧ a = nI m)) ∧ d = nI v ∧ SeM (chg S c s w) τ ∧ WrM W τ ∧ (∀ j, j ≠ 47 → j ≠ 48 → j ≠ 50 → j ≠ 58 → j ≠ 60 → τ.1 48 j = σ.1 48 j) ∧ Fr heM σ τ) (fun _ _ d _ => 5 - ix d) (fun o => ∃ σ', o = some (hmI (hlv S c s 4), hmO (hlv S c s 4) σ') ∧ SeM S σ' ∧ WrM W σ' ∧ σ'.1 48 48 = nI 0 ∧ (∀ j, j ≠ 47 → j ≠ 48 → j ≠ 50 → j ≠ 58 → j ≠ 60 → σ'.1 48 j = σ.1 48 j) ∧ Fr heM σ σ') ?_ FU (nI 0) (nI 0) (nI 0) σ1 ?_ ⟨0, 0, by omega, by omega, Or.inr ⟨rfl, 0, by rw [hlv], rfl⟩, rfl, p2, ?_, fun j _ j2 _ _ _ => p4 j j2, p5.mo LP⟩
  · rintro L a b d τ ⟨v, w, hv, hw, hab, rfl, hCt, hMt, hJ, hF⟩
    have fin : ∀ (x y : Int32), (y = nI 1 ∧ hlv S c s 4 = none) ∨ (y = nI 0 ∧ ∃ m, hlv S c s 4 = some m ∧ x = nI m) → ∃ σ', f_X11_heal_121 (nI (7 * c + s)) (nI (sC S c s (cpt S c s))) x y τ = some (hmI (hlv S c s 4), hmO (hlv S c s 4) σ') ∧ SeM S σ' ∧ WrM W σ' ∧ σ'.1 48 48 = nI 0 ∧ (∀ j, j ≠ 47 → j ≠ 48 → j ≠ 50 → j ≠ 58 → j ≠ 60 → σ'.1 48 j = σ.1 48 j) ∧ Fr heM σ σ' := by
      intro x y hxy
      obtain ⟨υ, u1, u2, u3, u4, u5⟩ := mput_again hS hw hCt hc hs hown hh
      rw [chg_own] at u2
      have hMu : WrM W υ := by
        unfold WrM at *
        rw [u4 37 (by decide), u5.r1 72 (by decide)]
        exact hMt
      refine ⟨υ, ?_, u2, hMu, u3, fun j j1 j2 j3 j4 j5 => (u4 j j2).trans (hJ j j1 j2 j3 j4 j5), hF.tr (u5.mo LP)⟩
      unfold f_X11_heal_121
      simp only [qi_0, qi_1, qi_2, qi_3, qi_4, qi_5, qi_6, qi_7, qi_8, qi_9, qi_10, qi_11, qi_12, qi_13, qi_14, qi_15, qi_16, qi_17, qi_19, qi_26, qi_31, qi_32, qi_35, qi_40, qi_42, qi_48, qi_50, qi_57, qi_59, qi_63, qi_64, qi_97, qi_120, qi_122, qi_210, qi_255, qi_511, qi_512, qi_1000, qi_6000, qi_13312, qi_14337, qi_16383, qi_16384, qi_524287]
      rw [u1, p_bd]
      rcases hxy with ⟨rfl, e⟩ | ⟨rfl, m, e, rfl⟩
      · rw [i_ne (by omega) (by omega) (by omega), finds_7, p_bd, e, hmI_n, hmO_n]
      · rw [i_eq rfl, e, hmI_s, hmO_s]
    unfold f_X11_heal_L55 f_X11_heal_95 f_X11_heal_112
    simp only [qi_0, qi_1, qi_2, qi_3, qi_4, qi_5, qi_6, qi_7, qi_8, qi_9, qi_10, qi_11, qi_12, qi_13, qi_14, qi_15, qi_16, qi_17, qi_19, qi_26, qi_31, qi_32, qi_35, qi_40, qi_42, qi_48, qi_50, qi_57, qi_59, qi_63, qi_64, qi_97, qi_120, qi_122, qi_210, qi_255, qi_511, qi_512, qi_1000, qi_6000, qi_13312, qi_14337, qi_16383, qi_16384, qi_524287]
    by_cases c4 : v = 4
    · right
      subst c4
      rw [i_le (by omega) (by omega)]
      exact fin _ _ hab
    · rw [i_nle (by omega) (by omega)]
      rcases hab with ⟨rfl, hn⟩ | ⟨rfl, m, hm, rfl⟩
      · right
        rw [i_ne (by omega) (by omega) (by omega)]
        exact fin _ _ (Or.inl ⟨rfl, hlv_4 hv hn⟩)
      · left
        have hm2 := hlv_lt v m hm
        have hm16 : m < 16 := Nat.lt_of_lt_of_le hm2 (by have : 2 ^ v ≤ 2 ^ 4 := Nat.pow_le_pow_right (by omega) hv; omega)
        obtain ⟨υ, u1, u2, u3, u4, u5⟩ := mput_again (v := v) hS hw hCt hc hs (by omega) hh
        have hMu : WrM W υ := by
          unfold WrM at *
          rw [u4 37 (by decide), u5.r1 72 (by decide)]
          exact hMt
        have hSv := chg_V (c := c) (s := s) hS (show v < 4 by omega)
        obtain ⟨ρ, r1, r2, r3⟩ := badWith_eq (st := 0) hSv u2 hW hMu (by omega)
        rw [hX0] at r1
        rw [i_eq rfl, u1, p_bd, r1, p_bd]
        have hJr : ∀ j, j ≠ 47 → j ≠ 48 → j ≠ 50 → j ≠ 58 → j ≠ 60 → ρ.1 48 j = σ.1 48 j := fun j j1 j2 j3 j4 j5 => ((r2 j j1 j3 j4 j5).trans (u4 j j2)).trans (hJ j j1 j2 j3 j4 j5)
        have hFr : Fr heM σ ρ := (hF.tr (u5.mo LP)).tr (r3.mo LL)
        have hCr := SeM_7 u2 r3 r2
        have hMr := WrM_la hMu r3 r2
        have hst := hlv_s hm
        have ms : ∀ t, 5 - ix (nI (v + 1)) < 5 - ix (nI v) ∨ t = 0 := fun t => Or.inl (by rw [p_ix (by omega), p_ix (by omega)]; omega)
        unfold bwA
        cases hbg : big (PgOf (chg S c s v) noX) with
        | true =>
          rw [if_pos rfl, if_pos rfl, if_neg (show ¬ (-1000000007 : Int32) = nI 0 by decide), p_nm, nI_add, p_nm]
          refine ⟨_, nI 1, nI (v + 1), ρ, ⟨v + 1, v, by omega, by omega, Or.inl ⟨rfl, ?_⟩, rfl, hCr, hMr, hJr, hFr⟩, (ms 1).resolve_right (by omega), rfl⟩
          rw [hst, hbg, if_pos rfl]
        | false =>
          rw [hbg, if_neg (by decide)] at hst
          rw [if_neg (show ¬ false = true by decide)]
          by_cases hz : cbd (ords (chg S c s v) noX) (ends (PgOf (chg S c s v) noX)) = 0
          · rw [if_pos ((lbd_cbd _ _).mpr hz)] at hst
            have e1 : nI m ||| nI (1 * 2 ^ v) = nI (m + 1 * 2 ^ v) := i_or hm2
            rw [if_pos hz, if_neg (show ¬ nI 0 = (-1000000007 : Int32) by decide), i_eq rfl, shl31 (by omega), e1, p_nm, nI_add, p_nm]
            refine ⟨_, nI 0, nI (v + 1), ρ, ⟨v + 1, v, by omega, by omega, Or.inr ⟨rfl, m + 1 * 2 ^ v, ?_, rfl⟩, rfl, hCr, hMr, hJr, hFr⟩, (ms 1).resolve_right (by omega), rfl⟩
            rw [hst, Nat.one_mul]
          · rw [if_neg (fun q => hz ((lbd_cbd _ _).mp q))] at hst
            have e1 : nI m ||| nI 0 = nI m := by
              have := i_or (b := 0) hm2
              rw [Nat.zero_mul, Nat.add_zero] at this
              exact this
            rw [if_neg hz, if_neg (show ¬ nI 1 = (-1000000007 : Int32) by decide), i_ne (by omega) (by omega) (by omega), e1, p_nm, nI_add, p_nm]
            refine ⟨_, nI 0, nI (v + 1), ρ, ⟨v + 1, v, by omega, by omega, Or.inr ⟨rfl, m, ?_, rfl⟩, rfl, hCr, hMr, hJr, hFr⟩, (ms 1).resolve_right (by omega), rfl⟩
            rw [hst, Nat.add_zero]
  · rw [p_ix (by omega), FU_v]; omega
  · unfold WrM at *
    rw [p4 37 (by decide), p5.r1 72 (by decide)]
    exact hM
