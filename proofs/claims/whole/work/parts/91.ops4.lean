/-! PURE: feed, wipe, steps, step, as, look -/
theorem AC_T {A : Ob} {σ τ : Mm} {n : Nat} {t : Nat → Nat} (h : AC A σ) (hT : TpC t n τ) (hF : Fr [4, 5] σ τ) : AC (uT A n t) τ := by
  obtain ⟨h1, h2, h3, h4, h5, h6, h7, h8⟩ := h
  have q : ∀ k, 6 ≤ k → k ∉ [4, 5] := fun k a d => by
    simp only [List.mem_cons, List.not_mem_nil, or_false] at d
    omega
  refine ⟨⟨h1.1, h1.2.1, ⟨hT.1, fun i hi => (hT.2.2 i hi).2⟩, h1.2.2.2⟩, SeC_7 h2 hF (by decide) (by decide) (by decide) (by decide) (by decide) (by decide), ⟨SlR_of h3.1 (hF.r1 20 (by decide)), ?_, ?_⟩, by rw [hF.r1 0 (by decide)]; exact h4, fun b => SeC_31 (h5 b) (fun k a1 a2 => hF.r1 k (q k (by omega))), hT, ShC_of h7 (fun k a1 a2 => ⟨hF.r1 k (q k (by omega)), hF.r2 k (q k (by omega))⟩), CnC_of h8 (hF.r1 1 (by decide)) (hF.r1 2 (by decide))⟩
  · rw [hF.r1 6 (by decide)]
    rcases h3.2.1 with k | ⟨k, g⟩
    · exact Or.inl k
    · exact Or.inr ⟨k, TkC_fr g hF (by decide)⟩
  · rw [hF.r1 6 (by decide)]
    rcases h3.2.2 with k | ⟨k, g⟩
    · exact Or.inl k
    · exact Or.inr ⟨k, RoC_of g (by rw [hF.r1 28 (by decide)]) (hF.r1 29 (by decide))⟩
theorem AM_T {A : Ob} {σ τ : Mm} {n : Nat} {t : Nat → Nat} (h : AM A σ) (hT : TpM t n τ) (hF : Fr [48, 58] σ τ) (hJ : ∀ j, j ≠ 13 → τ.1 48 j = σ.1 48 j) : AM (uT A n t) τ := by
  obtain ⟨h1, h2, h3, h4, h5, h6, h7, h8⟩ := h
  exact ⟨⟨h1.1, h1.2.1, ⟨hT.1, fun i hi => (hT.2.2.1 i hi).2⟩, h1.2.2.2⟩, SeM_of h2 (hJ 0 (by decide)) (hJ 7 (by decide)) (hJ 11 (by decide)) (hF.r1 49 (by decide)) (hF.r1 50 (by decide)) (hF.r1 51 (by decide)) (hF.r1 52 (by decide)) (hF.r1 53 (by decide)) (hF.r1 54 (by decide)) (hF.r1 55 (by decide)) (hF.r1 56 (by decide)) (hF.r1 57 (by decide)), KnM_of h3 (hJ 37 (by decide)) (hJ 48 (by decide)) (hJ 49 (by decide)) (hJ 50 (by decide)) (hJ 58 (by decide)) (hJ 60 (by decide)) (hF.r1 72 (by decide)) (hF.r2 82 (by decide)) (hF.r1 83 (by decide)) (hF.r1 84 (by decide)) (hF.r1 85 (by decide)) (hF.r1 87 (by decide)) (hF.r1 88 (by decide)) (hF.r1 89 (by decide)), by rw [hJ 15 (by decide)]; exact h4, fun b => SeM_rs6 (h5 b) (hF.r1 60 (by decide)) (hJ 16 (by decide)) (hJ 17 (by decide)) (hJ 18 (by decide)), hT, ShM_of h7 (hF.r1 61 (by decide)) (hF.r1 62 (by decide)) (hF.r2 63 (by decide)), fun d hd => by rw [hF.r1 59 (by decide)]; exact h8 d hd⟩
theorem op_wipe {A : Ob} {σ : Mm} (hc : AC A σ) (hm : AM A σ) : Ans f_X10_wipe f_X11_wipe σ := by
  refine Ans_of (r := nI (oN A)) (A' := uT A 0 (oT A)) hm ?_ (fun τ hm => ?_)
  · unfold f_X10_wipe
    rw [hc.2.2.2.2.2.1.2.1, p_nm, qi_0, p_nm]
    have hF : Fr [4, 5] σ (sI σ 4 1 (nI 0)) := (Fr.rf _ _).sI (by decide)
    exact ⟨_, rfl, AC_T hc ⟨Nat.zero_le _, r_sI0, fun i hi => by omega⟩ hF, FrC_of hF (by decide)⟩
  · unfold f_X11_wipe
    rw [hm.2.2.2.2.2.1.2.1, p_nm, qi_0, p_nm]
    have hF : Fr [48, 58] τ (sI τ 48 13 (nI 0)) := (Fr.rf _ _).sI (by decide)
    exact ⟨_, rfl, AM_T hm ⟨Nat.zero_le _, r_sI0, fun i hi => by omega, fun w hw => by rw [hF.r2 65 (by decide)]; exact hm.2.2.2.2.2.1.2.2.2 w hw⟩ hF (fun j hj => r_sIj hj), FrM_of hF (by decide)⟩
/-- the bytes of a number -/
def bq (x : Int32) (k : Nat) : Nat := (x >>> ((nI 8 * nI k) &&& nI 31)).toBitVec.toNat % 2 ^ 8
theorem bq_eq (x : Int32) (k : Nat) : (x >>> ((nI 8 * nI k) &&& nI 31)) &&& nI 255 = nI (bq x k) := pk_and _ 8 (by decide)
theorem bq_lt (x : Int32) (k : Nat) : bq x k < 256 := Nat.mod_lt _ (by decide)
def fT (A : Ob) (x : Int32) (m i : Nat) : Nat := if i < oN A then oT A i else bq x (m - 1 - (i - oN A))
theorem fT_lt {A : Ob} (hA : OV A) (x : Int32) (m i : Nat) : fT A x m i < 256 := by
  unfold fT
  split
  · exact hA.2.2.1.2 i (by assumption)
  · exact bq_lt _ _
theorem feed_C {A : Ob} {σ : Mm} {m : Nat} (hc : AC A σ) (h4 : m ≤ 4) (hs : oN A + m ≤ 120) (x : Int32) : ∃ σ1, f_X8_append x (nI m) σ = some ((), σ1) ∧ TpC (fT A x m) (oN A + m) σ1 ∧ Fr [4, 5] σ σ1 := by
  have hT := hc.2.2.2.2.2.1
  unfold f_X8_append
  rw [qi_1, p_nm]
  refine lq1 (bot := fun _ _ => none) (F := f_X8_append_L4 x) (fun a τ => ∃ j, j ≤ m ∧ a = nI j - nI 1 ∧ τ.1 4 1 = nI (oN A + (m - j)) ∧ (∀ i, i < oN A + (m - j) → τ.1 5 i = nI (fT A x m i)) ∧ Fr [4, 5] σ τ) (fun a _ => ix (a + nI 1)) (fun o => ∃ σ1, o = some ((), σ1) ∧ TpC (fT A x m) (oN A + m) σ1 ∧ Fr [4, 5] σ σ1) ?_ FU _ σ ?_ ⟨m, Nat.le_refl _, rfl, by rw [Nat.sub_self]; exact hT.2.1, fun i hi => ?_, Fr.rf _ _⟩
  · rintro L a τ ⟨j, hj, rfl, t1, t2, tF⟩
    unfold f_X8_append_L4
    by_cases c : j = 0
    · right
      subst c
      rw [qi_0, dn_0, i_m1lt (by omega)]
      exact ⟨τ, rfl, ⟨hs, t1, fun i hi => ⟨t2 i hi, fT_lt hc.1 x m i⟩⟩, tF⟩
    · left
      rw [dn_s (by omega), qi_0, qi_120, i_nlt (by omega) (by omega), t1, i_nle (by omega) (by omega), p_ck _ (by omega) (by omega), p_ix (a := oN A + (m - j)) (by omega), qi_8, qi_255, show ((31 : Int32)) = nI 31 from rfl, bq_eq, p_nm, r_sI1 (by decide), t1, qi_1, nI_add (oN A + (m - j)) 1, p_nm, dn_n, p_nm]
      refine ⟨_, _, ⟨j - 1, by omega, rfl, ?_, fun i hi => ?_, (tF.sI (by decide)).sI (by decide)⟩, ?_, rfl⟩
      · rw [r_sI0, show oN A + (m - (j - 1)) = oN A + (m - j) + 1 by omega]
      · rw [r_sI1 (by decide)]
        by_cases e : i = oN A + (m - j)
        · rw [e, r_sI0]
          unfold fT
          rw [if_neg (by omega), show m - 1 - (oN A + (m - j) - oN A) = j - 1 by omega]
        · rw [r_sIj e]; exact t2 i (by omega)
      · have e1 : nI (j - 1) - nI 1 + nI 1 = nI (j - 1) := Int32.sub_add_cancel _ _
        rw [e1, nI_add, p_ix (by omega), p_ix (by omega)]; omega
  · have e1 : nI m - nI 1 + nI 1 = nI m := Int32.sub_add_cancel _ _
    rw [e1, p_ix (by omega), FU_v]; omega
  · rw [(hT.2.2 i (by omega)).1]
    unfold fT
    rw [if_pos (by omega)]
theorem feed_M {A : Ob} {σ : Mm} {m : Nat} (hm : AM A σ) (h4 : m ≤ 4) (hs : oN A + m ≤ 120) (x : Int32) : ∃ σ1, fx (fun _ _ => none) FU (f_X11_feed_L38 x) (nI m - nI 1) σ = some (nI (oN A + m), σ1) ∧ TpM (fT A x m) (oN A + m) σ1 ∧ (∀ j, j ≠ 13 → σ1.1 48 j = σ.1 48 j) ∧ Fr [48, 58] σ σ1 := by
  have hT := hm.2.2.2.2.2.1
  refine lq1 (bot := fun _ _ => none) (F := f_X11_feed_L38 x) (fun a τ => ∃ j, j ≤ m ∧ a = nI j - nI 1 ∧ τ.1 48 13 = nI (oN A + (m - j)) ∧ (∀ i, i < oN A + (m - j) → τ.1 58 i = nI (fT A x m i)) ∧ (∀ j, j ≠ 13 → τ.1 48 j = σ.1 48 j) ∧ Fr [48, 58] σ τ) (fun a _ => ix (a + nI 1)) (fun o => ∃ σ1, o = some (nI (oN A + m), σ1) ∧ TpM (fT A x m) (oN A + m) σ1 ∧ (∀ j, j ≠ 13 → σ1.1 48 j = σ.1 48 j) ∧ Fr [48, 58] σ σ1) ?_ FU _ σ ?_ ⟨m, Nat.le_refl _, rfl, by rw [Nat.sub_self]; exact hT.2.1, fun i hi => ?_, fun _ _ => rfl, Fr.rf _ _⟩
  · rintro L a τ ⟨j, hj, rfl, t1, t2, tJ, tF⟩
    unfold f_X11_feed_L38
    by_cases c : j = 0
    · right
      subst c
      rw [qi_0, dn_0, i_m1lt (by omega), t1]
      exact ⟨τ, rfl, ⟨hs, t1, fun i hi => ⟨t2 i hi, fT_lt hm.1 x m i⟩, fun w hw => by rw [tF.r2 65 (by decide)]; exact hT.2.2.2 w hw⟩, tJ, tF⟩
    · left
      rw [dn_s (by omega), qi_0, i_nlt (by omega) (by omega), t1, p_ck _ (by omega) (by omega), p_ix (a := oN A + (m - j)) (by omega), qi_8, qi_255, show ((31 : Int32)) = nI 31 from rfl, bq_eq, p_nm, r_sI1 (by decide), t1, qi_1, nI_add (oN A + (m - j)) 1, p_nm, dn_n, p_nm]
      refine ⟨_, _, ⟨j - 1, by omega, rfl, ?_, fun i hi => ?_, fun j j1 => by rw [r_sIj j1, r_sI1 (by decide)]; exact tJ j j1, (tF.sI (by decide)).sI (by decide)⟩, ?_, rfl⟩
      · rw [r_sI0, show oN A + (m - (j - 1)) = oN A + (m - j) + 1 by omega]
      · rw [r_sI1 (by decide)]
        by_cases e : i = oN A + (m - j)
        · rw [e, r_sI0]
          unfold fT
          rw [if_neg (by omega), show m - 1 - (oN A + (m - j) - oN A) = j - 1 by omega]
        · rw [r_sIj e]; exact t2 i (by omega)
      · have e1 : nI (j - 1) - nI 1 + nI 1 = nI (j - 1) := Int32.sub_add_cancel _ _
        rw [e1, nI_add, p_ix (by omega), p_ix (by omega)]; omega
  · have e1 : nI m - nI 1 + nI 1 = nI m := Int32.sub_add_cancel _ _
    rw [e1, p_ix (by omega), FU_v]; omega
  · rw [(hT.2.2.1 i (by omega)).1]
    unfold fT
    rw [if_pos (by omega)]
theorem op_feed {A : Ob} {σ : Mm} (hc : AC A σ) (hm : AM A σ) (x y : Int32) : Ans (f_X10_feed x y) (f_X11_feed x y) σ := by
  have hn := hc.2.2.2.2.2.1.1
  have c41 := hc.2.2.2.2.2.1.2.1
  rcases rng (n := 5) y (by omega) with h | ⟨m, h, rfl⟩
  · refine Ans_of (r := er7 0) (A' := tel A 0) hm ?_ (fun τ hm => ?_)
    · unfold f_X10_feed
      by_cases h1 : y < (1 : Int32)
      · rw [if_pos h1, qi_0]; exact tellC hc (by omega)
      · have h4 : ¬ y ≤ (4 : Int32) := by
          rw [qi_1, Int32.lt_iff_toInt_lt, nI_toInt (by omega)] at h1
          rw [qi_4, Int32.le_iff_toInt_le, nI_toInt (by omega)]
          rcases h with h | h
          · rw [qi_0, Int32.lt_iff_toInt_lt, nI_toInt (by omega)] at h; omega
          · rw [Int32.le_iff_toInt_le, nI_toInt (by omega)] at h; omega
        rw [if_neg h1, if_neg h4, qi_0]; exact tellC hc (by omega)
    · have hin : f_X11_in y (1 : Int32) (4 : Int32) τ = some (nI 0, τ) := by
        unfold f_X11_in f_X11_in_14
        rw [qi_0, p_cb0]
        by_cases h1 : y < (1 : Int32)
        · rw [if_pos h1]
        · have h4 : (4 : Int32) < y := by
            rw [qi_1, Int32.lt_iff_toInt_lt, nI_toInt (by omega)] at h1
            rw [qi_4, Int32.lt_iff_toInt_lt, nI_toInt (by omega)]
            rcases h with h | h
            · rw [qi_0, Int32.lt_iff_toInt_lt, nI_toInt (by omega)] at h; omega
            · rw [Int32.le_iff_toInt_le, nI_toInt (by omega)] at h; omega
          rw [if_neg h1, if_pos h4]
      unfold f_X11_feed
      rw [hin, p_bd, if_pos (show nI 0 = (0 : Int32) from rfl), er_1]
      exact tellM hm (by omega)
  · by_cases m0 : m = 0
    · subst m0
      refine Ans_of (r := er7 0) (A' := tel A 0) hm ?_ (fun τ hm => ?_)
      · unfold f_X10_feed
        rw [if_pos (show nI 0 < (1 : Int32) by decide), qi_0]; exact tellC hc (by omega)
      · unfold f_X11_feed
        rw [qi_1, qi_4, in_bb (by omega) (by omega) (by omega), decide_eq_false (by omega), p_bd, bI_f, if_pos (show nI 0 = (0 : Int32) from rfl), er_1]
        exact tellM hm (by omega)
    · by_cases hs : oN A + m ≤ 120
      · refine Ans_of (r := nI (oN A + m)) (A' := uT A (oN A + m) (fT A x m)) hm ?_ (fun τ hm => ?_)
        · obtain ⟨σ1, a1, a2, a3⟩ := feed_C (m := m) hc (by omega) hs x
          unfold f_X10_feed
          rw [qi_1, qi_4, qi_120, i_nlt (by omega) (by omega), i_le (by omega) (by omega), c41, nI_add, i_le (by omega) hs, a1, p_bd, a2.2.1]
          exact ⟨σ1, rfl, AC_T hc a2 a3, FrC_of a3 (by decide)⟩
        · obtain ⟨σ1, a1, a2, a3, a4⟩ := feed_M (m := m) hm (by omega) hs x
          unfold f_X11_feed
          rw [qi_1, qi_4, in_bb (by omega) (by omega) (by omega), decide_eq_true (by omega), p_bd, bI_t, if_neg (show ¬ nI 1 = (0 : Int32) by decide), hm.2.2.2.2.2.1.2.1, nI_add, qi_120, i_le (by omega) hs, p_nm, a1]
          exact ⟨σ1, rfl, AM_T hm a2 a4 a3, FrM_of a4 (by decide)⟩
      · refine Ans_of (r := er7 1) (A' := tel A 1) hm ?_ (fun τ hm => ?_)
        · unfold f_X10_feed
          rw [qi_1, qi_4, qi_120, i_nlt (by omega) (by omega), i_le (by omega) (by omega), c41, nI_add, i_nle (by omega) (by omega)]
          exact tellC hc (by omega)
        · unfold f_X11_feed
          rw [qi_1, qi_4, in_bb (by omega) (by omega) (by omega), decide_eq_true (by omega), p_bd, bI_t, if_neg (show ¬ nI 1 = (0 : Int32) by decide), hm.2.2.2.2.2.1.2.1, nI_add, qi_120, i_nle (by omega) (by omega), er_2]
          exact tellM hm (by omega)
