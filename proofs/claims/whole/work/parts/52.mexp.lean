/-! PURE: the reference goes through all states -/
theorem LdM_of {P : Pg} {σ τ : Mm} (h : LdM P σ) (e487 : τ.1 48 7 = σ.1 48 7) (e55 : τ.1 55 = σ.1 55) (e56 : τ.1 56 = σ.1 56) (e66 : τ.1 66 = σ.1 66) (e67 : τ.1 67 = σ.1 67) (e68 : τ.1 68 = σ.1 68) (e69 : τ.1 69 = σ.1 69) (e70 : τ.1 70 = σ.1 70) (e71 : τ.1 71 = σ.1 71) : LdM P τ := by
  unfold LdM CdM at *
  rw [e487, e55, e56, e66, e67, e68, e69, e70, e71]
  exact h
def beL : List Nat := [74, 75, 76, 77, 78, 79]
theorem begins_eq {P : Pg} {σ : Mm} {x0 : Nat} (hX : PgX P) (hP : PgV P) (h57 : ∀ c, c < 3 → σ.1 57 c = nI (cv x0 c)) (h0 : ∀ h, h < 3 → hd x0 h = 0) : ∃ σ', f_X11_begins σ = some ((), σ') ∧ MR P σ' x0 ∧ Fr beL σ σ' := by
  have hH := hP.1
  unfold f_X11_begins
  simp only [qi_0, qi_1, qi_2, qi_3, qi_4, qi_5, qi_6, qi_7, qi_8, qi_9, qi_10, qi_11, qi_12, qi_13, qi_14, qi_15, qi_16, qi_17, qi_19, qi_26, qi_31, qi_32, qi_35, qi_40, qi_42, qi_48, qi_50, qi_57, qi_59, qi_63, qi_64, qi_97, qi_120, qi_122, qi_210, qi_255, qi_511, qi_512, qi_1000, qi_6000, qi_13312, qi_14337, qi_16383, qi_16384, qi_524287]
  obtain ⟨σ1, ⟨a1, a2⟩, e1⟩ := lqU (F := f_X11_begins_L2 (fun (σ : Mm) => f_X11_begins_25 σ)) (bot := fun _ _ => none) (fun τ => f_X11_begins_25 τ) 3 (fun k τ => (∀ c, c < k → τ.1 74 c = nI (cv x0 c)) ∧ Fr beL σ τ) (by
      intro L τ _
      unfold f_X11_begins_L2
      simp only [qi_0, qi_1, qi_2, qi_3, qi_4, qi_5, qi_6, qi_7, qi_8, qi_9, qi_10, qi_11, qi_12, qi_13, qi_14, qi_15, qi_16, qi_17, qi_19, qi_26, qi_31, qi_32, qi_35, qi_40, qi_42, qi_48, qi_50, qi_57, qi_59, qi_63, qi_64, qi_97, qi_120, qi_122, qi_210, qi_255, qi_511, qi_512, qi_1000, qi_6000, qi_13312, qi_14337, qi_16383, qi_16384, qi_524287]
      rw [i_le (by omega) (by omega)]) (by
      intro L k τ hk ⟨h1, h2⟩
      refine ⟨sI τ 74 k (nI (cv x0 k)), ⟨fun i hi => ?_, h2.sI (by decide)⟩, ?_⟩
      · by_cases e : i = k
        · rw [e, r_sI0]
        · rw [r_sIj e]; exact h1 i (by omega)
      · unfold f_X11_begins_L2
        simp only [qi_0, qi_1, qi_2, qi_3, qi_4, qi_5, qi_6, qi_7, qi_8, qi_9, qi_10, qi_11, qi_12, qi_13, qi_14, qi_15, qi_16, qi_17, qi_19, qi_26, qi_31, qi_32, qi_35, qi_40, qi_42, qi_48, qi_50, qi_57, qi_59, qi_63, qi_64, qi_97, qi_120, qi_122, qi_210, qi_255, qi_511, qi_512, qi_1000, qi_6000, qi_13312, qi_14337, qi_16383, qi_16384, qi_524287]
        rw [i_nle (by omega) (by omega), p_ck _ (by omega) (by omega), p_ck _ (by omega) (by omega), p_ix (by omega), h2.r1 57 (by decide), h57 k hk, p_nm, p_nm, nI_add]) FU 0 σ (by omega) (by rw [FU_v]; omega) ⟨fun i hi => by omega, Fr.rf _ _⟩
  rw [e1]
  unfold f_X11_begins_25
  simp only [qi_0, qi_1, qi_2, qi_3, qi_4, qi_5, qi_6, qi_7, qi_8, qi_9, qi_10, qi_11, qi_12, qi_13, qi_14, qi_15, qi_16, qi_17, qi_19, qi_26, qi_31, qi_32, qi_35, qi_40, qi_42, qi_48, qi_50, qi_57, qi_59, qi_63, qi_64, qi_97, qi_120, qi_122, qi_210, qi_255, qi_511, qi_512, qi_1000, qi_6000, qi_13312, qi_14337, qi_16383, qi_16384, qi_524287]
  obtain ⟨σ2, ⟨b1, b2, b3⟩, e2⟩ := lqU (F := f_X11_begins_L27) (bot := fun _ _ => none) (fun τ => some ((), τ)) 3 (fun k τ => (∀ h, h < k → τ.1 75 h = nI 0 ∧ τ.1 76 h = nI 0 ∧ τ.1 77 h = nI 0 ∧ τ.1 78 h = nI 0 ∧ τ.1 79 h = nI 0) ∧ (∀ c, c < 3 → τ.1 74 c = nI (cv x0 c)) ∧ Fr beL σ τ) (by
      intro L τ _
      unfold f_X11_begins_L27
      simp only [qi_0, qi_1, qi_2, qi_3, qi_4, qi_5, qi_6, qi_7, qi_8, qi_9, qi_10, qi_11, qi_12, qi_13, qi_14, qi_15, qi_16, qi_17, qi_19, qi_26, qi_31, qi_32, qi_35, qi_40, qi_42, qi_48, qi_50, qi_57, qi_59, qi_63, qi_64, qi_97, qi_120, qi_122, qi_210, qi_255, qi_511, qi_512, qi_1000, qi_6000, qi_13312, qi_14337, qi_16383, qi_16384, qi_524287]
      rw [i_le (by omega) (by omega)]) (by
      intro L k τ hk ⟨h1, h2, h3⟩
      refine ⟨sI (sI (sI (sI (sI τ 75 k (nI 0)) 76 k (nI 0)) 77 k (nI 0)) 78 k (nI 0)) 79 k (nI 0), ⟨fun i hi => ?_, fun c hc => by rw [r_sI1 (by decide), r_sI1 (by decide), r_sI1 (by decide), r_sI1 (by decide), r_sI1 (by decide)]; exact h2 c hc, ((((h3.sI (by decide)).sI (by decide)).sI (by decide)).sI (by decide)).sI (by decide)⟩, ?_⟩
      · by_cases e : i = k
        · subst e
          refine ⟨?_, ?_, ?_, ?_, ?_⟩
          · rw [r_sI1 (by decide), r_sI1 (by decide), r_sI1 (by decide), r_sI1 (by decide), r_sI0]
          · rw [r_sI1 (by decide), r_sI1 (by decide), r_sI1 (by decide), r_sI0]
          · rw [r_sI1 (by decide), r_sI1 (by decide), r_sI0]
          · rw [r_sI1 (by decide), r_sI0]
          · rw [r_sI0]
        · obtain ⟨z1, z2, z3, z4, z5⟩ := h1 i (by omega)
          refine ⟨?_, ?_, ?_, ?_, ?_⟩
          · rw [r_sI1 (by decide), r_sI1 (by decide), r_sI1 (by decide), r_sI1 (by decide), r_sIj e]; exact z1
          · rw [r_sI1 (by decide), r_sI1 (by decide), r_sI1 (by decide), r_sIj e, r_sI1 (by decide)]; exact z2
          · rw [r_sI1 (by decide), r_sI1 (by decide), r_sIj e, r_sI1 (by decide), r_sI1 (by decide)]; exact z3
          · rw [r_sI1 (by decide), r_sIj e, r_sI1 (by decide), r_sI1 (by decide), r_sI1 (by decide)]; exact z4
          · rw [r_sIj e, r_sI1 (by decide), r_sI1 (by decide), r_sI1 (by decide), r_sI1 (by decide)]; exact z5
      · unfold f_X11_begins_L27
        simp only [qi_0, qi_1, qi_2, qi_3, qi_4, qi_5, qi_6, qi_7, qi_8, qi_9, qi_10, qi_11, qi_12, qi_13, qi_14, qi_15, qi_16, qi_17, qi_19, qi_26, qi_31, qi_32, qi_35, qi_40, qi_42, qi_48, qi_50, qi_57, qi_59, qi_63, qi_64, qi_97, qi_120, qi_122, qi_210, qi_255, qi_511, qi_512, qi_1000, qi_6000, qi_13312, qi_14337, qi_16383, qi_16384, qi_524287]
        rw [i_nle (by omega) (by omega), p_ck _ (by omega) (by omega), p_ix (by omega), p_nm, p_ck _ (by omega) (by omega), p_nm, p_ck _ (by omega) (by omega), p_nm, p_ck _ (by omega) (by omega), p_nm, p_ck _ (by omega) (by omega), p_nm, p_nm, nI_add]) FU 0 σ1 (by omega) (by rw [FU_v]; omega) ⟨fun i hi => by omega, a1, a2⟩
  refine ⟨σ2, e2, ⟨b2, fun h hh => ?_⟩, b3⟩
  obtain ⟨z1, z2, z3, z4, z5⟩ := b1 h (by omega)
  have hS1 := (hX h hh).1
  rw [h0 h (by omega)]
  have ec : cO P h (pl 0) = 0 := by show cO P h 0 = 0; unfold cO; rw [if_pos (by omega)]
  have ep : pO P h (pl 0) = 0 := by show pO P h 0 = 0; unfold pO; rw [if_pos (by omega)]
  unfold MRh
  rw [ec, ep]
  exact ⟨z1, z2, z3, z4, z5, fun q => absurd q (by decide), fun q => absurd q (by decide)⟩
def geL : List Nat := [48, 74, 75, 76, 77, 78, 79, 80, 81, 82, 83, 84, 85, 87]
def K4 (σ τ : Mm) : Prop := ∀ j, j ≠ 47 → j ≠ 50 → τ.1 48 j = σ.1 48 j
theorem LdM_ge {P : Pg} {σ τ : Mm} (h : LdM P σ) (hF : Fr geL σ τ) (hK : K4 σ τ) : LdM P τ := LdM_of h (hK 7 (by decide) (by decide)) (hF.r1 55 (by decide)) (hF.r1 56 (by decide)) (hF.r1 66 (by decide)) (hF.r1 67 (by decide)) (hF.r1 68 (by decide)) (hF.r1 69 (by decide)) (hF.r1 70 (by decide)) (hF.r1 71 (by decide))
def eI (P : Pg) (x : Nat) : Int32 := if iE P x then nI (rslt P x) else -nI 1
def MI (P : Pg) (σ : Mm) (e m : Nat) (τ : Mm) : Prop := TuM P (bN (bfP P e)) (bF (bfP P e)) (bD (bfP P e)) τ ∧ (∀ d, d < e → τ.1 83 d = iO (bG (bfP P e) d)) ∧ (∀ s, s < m → τ.1 87 s = eI P (bF (bfP P e) s)) ∧ K4 σ τ ∧ Fr geL σ τ
theorem bF_keep (P : Pg) (e j : Nat) (hj : j < bN (bfP P e)) : bF (bfP P (e + 1)) j = bF (bfP P e) j := by
  show bF (bst (nxP P) (bfP P e) e) j = _
  unfold bst
  split
  · rfl
  · split
    · rfl
    · unfold bput
      split
      · rfl
      · exact upq_n (by omega)
theorem mexp_step {P : Pg} {σ τ : Mm} {s k m : Nat} (hX : PgX P) (hP : PgV P) (hL : LdM P σ) (h11 : σ.1 48 11 = nI (pL P)) (h0 : VS P (pF P)) (hI : MI P σ (6 * s + k) m τ) (hs : s < bN (bfP P (6 * s + k))) (hn : bN (bfP P (6 * s + k)) ≤ 6000) (hm : m ≤ bN (bfP P (6 * s + k))) (hk : k < 6) (K : Mm → Option (Int32 × Mm)) (L : Int32 → Mm → Option (Int32 × Mm)) :
    ∃ τ', f_X11_goesThrough_L100 K (nI s) L (nI k) τ = L (nI (k + 1)) τ' ∧ MI P σ (6 * s + k + 1) m τ' := by
  obtain ⟨hT, hG, hE, hK4, hF⟩ := hI
  have hLt := LdM_ge hL hF hK4
  have hVS := bf_VS hP h0 (6 * s + k)
  obtain ⟨b1, b2, b3, b4, b5, b6, b7⟩ := bf_BI P (6 * s + k)
  have hst : bfP P (6 * s + k + 1) = bst (nxP P) (bfP P (6 * s + k)) (6 * s + k) := rfl
  have hkp := bF_keep P (6 * s + k)
  have hd6 : (6 * s + k) / 6 = s := by omega
  have hm6 : (6 * s + k) % 6 = k := by omega
  generalize hbd : bfP P (6 * s + k) = b at *
  obtain ⟨h82, h84⟩ := hT.2.2.1 s hs
  have hDs : bD b s ≤ 6001 := by have := (BI_D0 ⟨b1, b2, b3, b4, b5, b6, b7⟩ hs).2; omega
  obtain ⟨τ1, e1, hM1, hF1⟩ := unpack_eq hX hP hLt.1 (hVS s hs)
  have hF1g : Fr geL σ τ1 := hF.tr (hF1.mo (by intro k hk; revert k; decide))
  obtain ⟨τ2, hτ2⟩ : ∃ τ2, τ2 = sI τ1 83 (6 * s + k) (-nI 1) := ⟨_, rfl⟩
  have hF2 : Fr geL σ τ2 := by rw [hτ2]; exact hF1g.sI (by decide)
  have h48 : ∀ j, τ2.1 48 j = τ.1 48 j := fun j => by rw [hτ2, r_sI1 (by decide), hF1.r1 48 (by decide)]
  have hK2 : K4 σ τ2 := fun j j1 j2 => by rw [h48]; exact hK4 j j1 j2
  have hL2 := LdM_ge hL hF2 hK2
  have hM2 : MR P τ2 (bF b s) := ⟨fun d hd3 => by rw [hτ2, r_sI1 (by decide)]; exact hM1.1 d hd3, fun g hg => MRh_of (hM1.2 g hg) (by rw [hτ2, r_sI1 (by decide)]) (by rw [hτ2, r_sI1 (by decide)]) (by rw [hτ2, r_sI1 (by decide)]) (by rw [hτ2, r_sI1 (by decide)]) (by rw [hτ2, r_sI1 (by decide)]) (by rw [hτ2, r_sI1 (by decide)]) (by rw [hτ2, r_sI1 (by decide)]) (by rw [hτ2, r_sI1 (by decide)]) (by rw [hτ2, r_sI1 (by decide)])⟩
  have h11t : τ2.1 48 11 = nI (pL P) := by rw [h48, hK4 11 (by decide) (by decide)]; exact h11
  have hl1 := hP.2.1
  have hT2 : TuM P (bN b) (bF b) (bD b) τ2 := TuM_of hT (h48 50) (by rw [hτ2, r_sI2, hF1.r2 82 (by decide)]) (by rw [hτ2, r_sI1 (by decide), hF1.r1 84 (by decide)]) (by rw [hτ2, r_sI1 (by decide), hF1.r1 85 (by decide)])
  have k83 : ∀ d, d < 6 * s + k → τ2.1 83 d = iO (bG b d) := fun d hd => by rw [hτ2, r_sIj (by omega), hF1.r1 83 (by decide)]; exact hG d hd
  have k87 : ∀ j, τ2.1 87 j = τ.1 87 j := fun j => by rw [hτ2, r_sI1 (by decide), hF1.r1 87 (by decide)]
  have s83 : τ2.1 83 (6 * s + k) = -nI 1 := by rw [hτ2, r_sI0]
  unfold f_X11_goesThrough_L100 f_X11_goesThrough_197
  simp only [qi_0, qi_1, qi_2, qi_3, qi_4, qi_5, qi_6, qi_7, qi_8, qi_9, qi_10, qi_11, qi_12, qi_13, qi_14, qi_15, qi_16, qi_17, qi_19, qi_26, qi_31, qi_32, qi_35, qi_40, qi_42, qi_48, qi_50, qi_57, qi_59, qi_63, qi_64, qi_97, qi_120, qi_122, qi_210, qi_255, qi_511, qi_512, qi_1000, qi_6000, qi_13312, qi_14337, qi_16383, qi_16384, qi_524287]
  rw [i_nle (by omega) (by omega), hT.2.1, i_nlt (by omega) (by omega), p_ck _ (by omega) (by omega), p_ix (a := s) (by omega), h82, e1, p_bd, pk_mul, nI_add, p_ck _ (by omega) (by omega), p_ix (a := 6 * s + k) (by omega), p_nm, ← hτ2, moveOf_eq hk, p_bd, h11t, can_eq hP hX hL2 (hVS s hs) hM2 hk (by omega), p_bd]
  cases hmv : mv P (pL P) (bF b s) k with
  | none =>
    have hb' : bfP P (6 * s + k + 1) = (bN b, bF b, upq (bG b) (6 * s + k) none, bC b, bD b) := by
      rw [hst]
      unfold bst
      rw [if_neg (by omega), hd6, hm6, show nxP P (bF b s) k = none from hmv]
    rw [decide_eq_false (fun q => q rfl), bI_f, i_eq rfl, p_nm, nI_add]
    refine ⟨τ2, rfl, ?_⟩
    unfold MI
    rw [hb']
    refine ⟨hT2, fun d hd => ?_, fun j hj => by rw [k87]; exact hE j hj, hK2, hF2⟩
    show τ2.1 83 d = iO (upq (bG b) (6 * s + k) none d)
    by_cases e : d = 6 * s + k
    · rw [e, upq_s, s83]; rfl
    · rw [upq_n e]; exact k83 d (by omega)
  | some y =>
    have hVy := mv_VS hP (hVS s hs) hk hmv
    obtain ⟨τ3, e3, hM3, _, n4, hF3⟩ := does_eq hP hX hL2 (hVS s hs) hM2 hk hmv
    have hF3g : Fr geL σ τ3 := hF2.tr (hF3.mo (by intro k hk; revert k; decide))
    have h50 : τ3.1 48 50 = τ2.1 48 50 := n4 50 (by decide)
    have hT3 : TuM P (bN b) (bF b) (bD b) τ3 := TuM_of hT2 h50 (hF3.r2 82 (by decide)) (hF3.r1 84 (by decide)) (hF3.r1 85 (by decide))
    have hK3 : K4 σ τ3 := fun j j1 j2 => by rw [n4 j j1]; exact hK2 j j1 j2
    have h487 : τ3.1 48 7 = nI (pH P) := by rw [n4 7 (by decide)]; exact hL2.1
    rw [decide_eq_true (show (some y : Option Nat) ≠ none from fun q => by cases q), bI_t, i_ne (by omega) (by omega) (by omega), moveOf_eq hk, p_bd, h11t, e3, p_bd, pack_eq hX hP h487 hVy hM3, p_bd, p_ck _ (by omega) (by omega), (hT3.2.2.1 s hs).2, nI_add]
    have hb' : bfP P (6 * s + k + 1) = bput b (6 * s + k) y := by
      rw [hst]
      unfold bst
      rw [if_neg (by omega), hd6, hm6, show nxP P (bF b s) k = some y from hmv]
    rcases placeOf_eq (dd := bD b s + 1) hX hP hT3 (by omega) hVy hVS with ⟨j, hne, hj, hf, he⟩ | ⟨hid, sl, he, hT'⟩
    · rw [he, p_bd, p_ck _ (by omega) (by omega), p_nm, p_nm, nI_add]
      refine ⟨_, rfl, ?_⟩
      have hp : bput b (6 * s + k) y = (bN b, bF b, upq (bG b) (6 * s + k) (some j), bC b, bD b) := by
        unfold bput
        cases hid : idx (bF b) y (bN b) with
        | none => exact absurd hid hne
        | some j' =>
          obtain ⟨q1, q2⟩ := idx_some hid
          rw [b2 j' j q1 hj (by rw [q2, hf])]
      unfold MI
      rw [hb', hp]
      refine ⟨TuM_of hT3 (by rw [r_sI1 (by decide)]) (by rw [r_sI2]) (r_sI1 (by decide)) (r_sI1 (by decide)), fun d hd => ?_, fun j2 hj2 => by rw [r_sI1 (by decide), hF3.r1 87 (by decide), k87]; exact hE j2 hj2, fun j j1 j2 => by rw [r_sI1 (by decide)]; exact hK3 j j1 j2, hF3g.sI (by decide)⟩
      show (sI τ3 83 (6 * s + k) (nI j)).1 83 d = iO (upq (bG b) (6 * s + k) (some j) d)
      by_cases e : d = 6 * s + k
      · rw [e, upq_s, r_sI0]; rfl
      · rw [upq_n e, r_sIj e, hF3.r1 83 (by decide)]; exact k83 d (by omega)
    · rw [he, p_bd, p_ck _ (by omega) (by omega), p_nm, p_nm, nI_add]
      refine ⟨_, rfl, ?_⟩
      have hp : bput b (6 * s + k) y = (bN b + 1, upq (bF b) (bN b) y, upq (bG b) (6 * s + k) (some (bN b)), upq (bC b) (bN b) (6 * s + k), upq (bD b) (bN b) (bD b s + 1)) := by
        unfold bput
        rw [hid, hd6]
      have i83 : ∀ d, (incM τ3 (bN b) sl (lN (pm P y (pH P))) (nI (bD b s + 1))).1 83 d = τ3.1 83 d := fun d => by
        unfold incM
        rw [r_sI1 (by decide), r_sI1 (by decide), r_sI1 (by decide), r_sL1]
      have i87 : ∀ d, (incM τ3 (bN b) sl (lN (pm P y (pH P))) (nI (bD b s + 1))).1 87 d = τ3.1 87 d := fun d => by
        unfold incM
        rw [r_sI1 (by decide), r_sI1 (by decide), r_sI1 (by decide), r_sL1]
      unfold MI
      rw [hb', hp]
      refine ⟨TuM_of hT' (by rw [r_sI1 (by decide)]) (by rw [r_sI2]) (r_sI1 (by decide)) (r_sI1 (by decide)), fun d hd => ?_, fun j2 hj2 => ?_, fun j j1 j2 => ?_, ?_⟩
      · show (sI (incM τ3 (bN b) sl (lN (pm P y (pH P))) (nI (bD b s + 1))) 83 (6 * s + k) (nI (bN b))).1 83 d = iO (upq (bG b) (6 * s + k) (some (bN b)) d)
        by_cases e : d = 6 * s + k
        · rw [e, upq_s, r_sI0]; rfl
        · rw [upq_n e, r_sIj e, i83, hF3.r1 83 (by decide)]; exact k83 d (by omega)
      · show (sI (incM τ3 (bN b) sl (lN (pm P y (pH P))) (nI (bD b s + 1))) 83 (6 * s + k) (nI (bN b))).1 87 j2 = eI P (upq (bF b) (bN b) y j2)
        rw [r_sI1 (by decide), i87, upq_n (by omega), hF3.r1 87 (by decide), k87]; exact hE j2 hj2
      · rw [r_sI1 (by decide)]
        unfold incM
        rw [r_sI1 (by decide), r_sIj j2, r_sI1 (by decide), r_sL1]; exact hK3 j j1 j2
      · unfold incM
        exact ((((hF3g.sL (by decide)).sI (by decide)).sI (by decide)).sI (by decide)).sI (by decide)
