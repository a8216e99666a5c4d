/-! PURE: the reference's program is the setup's; it goes through it; its results -/
theorem pS_Of {S : Su} {X : Nat → Bool} {h : Nat} (hh : h < sH S) : pS (PgOf S X) h = fl S X (sF S h) := if_pos hh
theorem pN_Of {S : Su} {X : Nat → Bool} {h : Nat} (hh : h < sH S) : pN (PgOf S X) h = fl S X (sF S h) + (if sT S h = 0 then 0 else fl S X (sT S h - 1)) := if_pos hh
theorem pC_Of (S : Su) (X : Nat → Bool) (h p : Nat) : pC (PgOf S X) h p = if p < fl S X (sF S h) then lc S X (sF S h) p else shf (fl S X (sF S h)) (lc S X (sT S h - 1) (p - fl S X (sF S h))) := rfl
theorem fl_pos {S : Su} {X : Nat → Bool} {c : Nat} (hS : SuV S) (hc : c < sK S) : 1 ≤ fl S X c := by
  have h1 := (hS.2.1 c hc).1
  have h2 := fps_ge X c (sN S c)
  unfold fl
  omega
theorem PgX_Of {S : Su} {X : Nat → Bool} (hS : SuV S) (hX : FX S X) : PgX (PgOf S X) := by
  intro h hh
  have hh : h < sH S := hh
  obtain ⟨a1, a2⟩ := hS.2.2.2.2.1 h hh
  have h1 := hX _ a1
  have h2 := fl_pos (X := X) hS a1
  rw [pS_Of hh, pN_Of hh]
  by_cases d : sT S h = 0
  · rw [if_pos d]; omega
  · rw [if_neg d]
    have h3 := hX (sT S h - 1) (by omega)
    omega
theorem CdM_shf {σ : Mm} {k o : Nat} {f : Nat → Nat} (h : CdM σ k 0 f) : CdM σ k o (shf o f) := by
  have e0 : shf o f 0 = f 0 := if_neg (by omega)
  have e1 : shf o f 1 = f 1 := if_neg (by omega)
  have e2 : shf o f 2 = f 2 := if_neg (by omega)
  have e3 : shf o f 3 = f 3 := if_neg (by omega)
  have e4 : shf o f 4 = o + f 4 := if_pos rfl
  unfold CdM at *
  rw [e0, e1, e2, e3, e4]
  refine ⟨h.1, h.2.1, h.2.2.1, h.2.2.2.1, fun q => ⟨by omega, ?_⟩⟩
  have := (h.2.2.2.2 q).2
  rw [Nat.sub_zero] at this
  rw [this, show o + f 4 - o = f 4 by omega]
theorem LdM_Of {S : Su} {X : Nat → Bool} {σ : Mm} (hS : SuV S) (hC : SeM S σ) (hD : LyD S X (sK S) σ) : LdM (PgOf S X) σ := by
  refine ⟨hC.2.1, fun h hh => ?_, fun h p hh hp => ?_⟩
  · have hh : h < sH S := hh
    obtain ⟨a1, a2⟩ := hS.2.2.2.2.1 h hh
    have h2 := fl_pos (X := X) hS a1
    rw [(hC.2.2.2.2.2.1 h hh).2.1]
    unfold cM
    rw [pS_Of hh, pN_Of hh]
    by_cases d : sT S h = 0
    · rw [if_pos d, if_pos d, if_neg (by omega)]
    · have h3 := fl_pos (X := X) hS (show sT S h - 1 < sK S by omega)
      rw [if_neg d, if_neg d, if_pos (by omega)]
  · have hh : h < sH S := hh
    obtain ⟨a1, a2⟩ := hS.2.2.2.2.1 h hh
    obtain ⟨b1, _, b3⟩ := hC.2.2.2.2.2.1 h hh
    have h6 := hS.1
    rw [pN_Of hh] at hp
    unfold cO bl pO of0
    rw [pS_Of hh, pN_Of hh, pC_Of]
    by_cases d : p < fl S X (sF S h)
    · obtain ⟨d1, d2⟩ := hD _ a1
      rw [if_pos d, if_pos d, if_pos d, if_pos d, if_pos d]
      exact ⟨sF S h, by omega, b1, d1, d2 p d⟩
    · by_cases e : sT S h = 0
      · rw [if_pos e] at hp; omega
      · rw [if_neg e] at hp
        obtain ⟨d1, d2⟩ := hD (sT S h - 1) (by omega)
        rw [if_neg d, if_neg d, if_neg d, if_neg d, if_neg d, if_neg e, if_pos (by omega), if_pos (by omega)]
        refine ⟨sT S h - 1, by omega, b3 e, ?_, CdM_shf (d2 _ (by omega))⟩
        rw [d1, show fl S X (sF S h) + fl S X (sT S h - 1) - fl S X (sF S h) = fl S X (sT S h - 1) by omega]
theorem cv_pF {S : Su} {X : Nat → Bool} (hS : SuV S) {c : Nat} (hc : c < 3) : cv (pF (PgOf S X)) c = sV S c := by
  have h0 := hS.2.2.2.2.2.1 0 (by omega)
  have h1 := hS.2.2.2.2.2.1 1 (by omega)
  have h2 := hS.2.2.2.2.2.1 2 (by omega)
  show cv (sV S 0 + 4 * sV S 1 + 16 * sV S 2) c = sV S c
  unfold cv
  rcases lt3 hc with rfl | rfl | rfl
  · show (sV S 0 + 4 * sV S 1 + 16 * sV S 2) / 1 % 4 = _; omega
  · show (sV S 0 + 4 * sV S 1 + 16 * sV S 2) / 4 % 4 = _; omega
  · show (sV S 0 + 4 * sV S 1 + 16 * sV S 2) / 16 % 4 = _; omega
def gtL : List Nat := [48, 66, 67, 68, 69, 70, 71, 73, 74, 75, 76, 77, 78, 79, 80, 81, 82, 83, 84, 85, 87]
theorem mgo_eq {S : Su} {W : List Nat} {st : Nat} {σ : Mm} (hS : SuV S) (hW : Wok W 42) (hM : WrM W σ) (hC : SeM S σ) (hs : st < 64) :
    ∃ τ υ, f_X11_goesThrough (nI st) σ = some (bI (!big (PgOf S (XF W st))), τ) ∧ MX (PgOf S (XF W st)) υ τ ∧ LyD S (XF W st) (sK S) τ ∧ K4 σ τ ∧ Fr gtL σ τ := by
  have hFX := FX_W (st := st) hS hW
  obtain ⟨υ, e1, e2, e3⟩ := lay_eq hS hW hM hC hs
  have hCu := SeM_lo hC e3
  have hx0 : ∀ h, h < 3 → hd (pF (PgOf S (XF W st))) h = 0 := fun h hh => x0_hd hS hh
  obtain ⟨τ, f1, f2⟩ := mthrough_eq (PgX_Of hS hFX) (PgOf_V hS hFX) (LdM_Of hS hCu e2) hCu.2.2.1 (fun c hc => by rw [cv_pF hS hc]; exact hCu.2.2.2.2.2.2 c hc) hx0 (VS_small (pF_small hS))
  refine ⟨τ, υ, ?_, f2, ?_, ?_, ?_⟩
  · unfold f_X11_goesThrough
    simp only [qi_0, qi_1, qi_2, qi_3, qi_4, qi_5, qi_6, qi_7, qi_8, qi_9, qi_10, qi_11, qi_12, qi_13, qi_14, qi_15, qi_16, qi_17, qi_19, qi_26, qi_31, qi_32, qi_35, qi_40, qi_42, qi_48, qi_50, qi_57, qi_59, qi_63, qi_64, qi_97, qi_120, qi_122, qi_210, qi_255, qi_511, qi_512, qi_1000, qi_6000, qi_13312, qi_14337, qi_16383, qi_16384, qi_524287]
    rw [e1, p_bd, f1]
  · have hF := f2.2.2
    intro d hd
    obtain ⟨d1, d2⟩ := e2 d hd
    refine ⟨by rw [hF.r1 66 (by decide)]; exact d1, fun q hq => CdM_of (d2 q hq) ?_ ?_ ?_ ?_ ?_⟩
    · rw [hF.r1 67 (by decide)]
    · rw [hF.r1 68 (by decide)]
    · rw [hF.r1 69 (by decide)]
    · rw [hF.r1 70 (by decide)]
    · rw [hF.r1 71 (by decide)]
  · intro j j1 j2
    rw [f2.2.1 j j1 j2, e3.r1 48 (by decide)]
  · exact (e3.mo (by intro k hk; revert k; decide)).tr (f2.2.2.mo (by intro k hk; revert k; decide))
def frL : List Nat := [48, 88]
theorem findResults_eq {P : Pg} {σ : Mm} {n : Nat} {F : Nat → Nat} (hP : PgV P) (h50 : σ.1 48 50 = nI n) (hn : n ≤ 6000) (hF : ∀ s, s < n → σ.1 87 s = eI P (F s)) : ∃ τ, f_X11_findResults σ = some ((), τ) ∧ RoM 88 (er P F n) τ ∧ τ.1 48 58 = nI (er P F n).length ∧ (∀ j, j ≠ 58 → τ.1 48 j = σ.1 48 j) ∧ Fr frL σ τ := by
  unfold f_X11_findResults
  simp only [qi_0, qi_1, qi_2, qi_3, qi_4, qi_5, qi_6, qi_7, qi_8, qi_9, qi_10, qi_11, qi_12, qi_13, qi_14, qi_15, qi_16, qi_17, qi_19, qi_26, qi_31, qi_32, qi_35, qi_40, qi_42, qi_48, qi_50, qi_57, qi_59, qi_63, qi_64, qi_97, qi_120, qi_122, qi_210, qi_255, qi_511, qi_512, qi_1000, qi_6000, qi_13312, qi_14337, qi_16383, qi_16384, qi_524287]
  rw [p_nm]
  refine lq1 (F := f_X11_findResults_L7) (fun a υ => ∃ i, i ≤ n ∧ a = nI i ∧ RoM 88 (er P F i) υ ∧ υ.1 48 58 = nI (er P F i).length ∧ (∀ j, j ≠ 58 → υ.1 48 j = σ.1 48 j) ∧ Fr frL σ υ) (fun a _ => n - ix a) (fun o => ∃ τ, o = some ((), τ) ∧ RoM 88 (er P F n) τ ∧ τ.1 48 58 = nI (er P F n).length ∧ (∀ j, j ≠ 58 → τ.1 48 j = σ.1 48 j) ∧ Fr frL σ τ) ?_ FU (nI 0) _ ?_ ⟨0, by omega, rfl, ⟨Srt_nil, fun i hi => by simp [er] at hi, fun i hi => by simp [er] at hi⟩, by rw [r_sI0]; rfl, fun j hj => r_sIj hj, (Fr.rf frL σ).sI (by decide)⟩
  · rintro L a υ ⟨i, hi, rfl, hR, h58, hJ, hFr⟩
    unfold f_X11_findResults_L7 f_X11_findResults_49
    simp only [qi_0, qi_1, qi_2, qi_3, qi_4, qi_5, qi_6, qi_7, qi_8, qi_9, qi_10, qi_11, qi_12, qi_13, qi_14, qi_15, qi_16, qi_17, qi_19, qi_26, qi_31, qi_32, qi_35, qi_40, qi_42, qi_48, qi_50, qi_57, qi_59, qi_63, qi_64, qi_97, qi_120, qi_122, qi_210, qi_255, qi_511, qi_512, qi_1000, qi_6000, qi_13312, qi_14337, qi_16383, qi_16384, qi_524287]
    rw [hJ 50 (by decide), h50]
    by_cases c : n ≤ i
    · right
      have e : i = n := by omega
      subst e
      exact ⟨υ, by rw [i_le (by omega) c], hR, h58, hJ, hFr⟩
    · left
      have he := hF i (by omega)
      have hal : alen 88 = 6001 := rfl
      have hlen := (er_ok hP F i).2.2
      rw [i_nle (by omega) (by omega), p_ck _ (by omega) (by omega), p_ix (a := i) (by omega), hFr.r1 87 (by decide), he]
      by_cases d : iE P (F i) = true
      · have hr := resf_lt3 (F i) hP.1
        have ei : eI P (F i) = nI (rslt P (F i)) := if_pos d
        have eer : er P F (i + 1) = ins (rslt P (F i)) (er P F i) := by rw [er, if_pos d]
        obtain ⟨υ', e1, e2, e3⟩ := comes_eq (k := 88) (v := rslt P (F i)) (cap := 6001) hR hr hal (by omega) (by omega)
        rw [ei, i_le (by unfold rslt; omega) (Nat.zero_le _), p_ck _ (by omega) (by omega), h58, e1, p_bd, p_nm, nI_add, p_nm]
        refine ⟨nI (i + 1), _, ⟨i + 1, by omega, rfl, ?_, ?_, ?_, ?_⟩, ?_, rfl⟩
        · rw [eer]; exact ⟨e2.1, e2.2.1, fun t ht => by rw [r_sI1 (by decide)]; exact e2.2.2 t ht⟩
        · rw [eer, r_sI0]
        · intro j hj
          rw [r_sIj hj, e3.r1 48 (by decide)]; exact hJ j hj
        · exact (hFr.tr (e3.mo (by intro k hk; revert k; decide))).sI (by decide)
        · rw [p_ix (by omega)]; omega
      · have d : iE P (F i) = false := by simpa using d
        have ei : eI P (F i) = -nI 1 := by unfold eI; rw [d]; rfl
        have eer : er P F (i + 1) = er P F i := by rw [er, d]; rfl
        rw [ei, i_m1ge (by omega), p_nm, nI_add, p_nm]
        refine ⟨nI (i + 1), _, ⟨i + 1, by omega, rfl, ?_, ?_, ?_, ?_⟩, ?_, rfl⟩
        · rw [eer]; exact ⟨hR.1, hR.2.1, fun t ht => by rw [r_sI1 (by decide)]; exact hR.2.2 t ht⟩
        · rw [eer, r_sI0, h58]
        · intro j hj
          rw [r_sIj hj]; exact hJ j hj
        · exact hFr.sI (by decide)
        · rw [p_ix (by omega)]; omega
  · rw [p_ix (by omega), FU_v]; omega
