/-! PURE: cell, hand -/
theorem isValue_no {x : Int32} {σ : Mm} (h : x < 0 ∨ nI 4 ≤ x) : f_X10_isValue x σ = some (nI 0, σ) := by
  unfold f_X10_isValue f_X10_isValue_13
  simp only [qi_0, qi_1, qi_2, qi_3, qi_4, qi_5, qi_6, qi_7, qi_8, qi_9, qi_10, qi_11, qi_12, qi_13, qi_14, qi_15, qi_16, qi_17, qi_19, qi_26, qi_31, qi_32, qi_35, qi_40, qi_42, qi_48, qi_50, qi_57, qi_59, qi_63, qi_64, qi_97, qi_120, qi_122, qi_210, qi_255, qi_511, qi_512, qi_1000, qi_6000, qi_13312, qi_14337, qi_16383, qi_16384, qi_524287]
  by_cases h0 : x < nI 0
  · rw [if_pos h0, p_cb0]
  · rw [if_neg h0, if_pos (by rcases h with h | h; exact absurd h h0; exact h), p_cb0]
theorem isValue_yes {v : Nat} {σ : Mm} (h : v < 4) : f_X10_isValue (nI v) σ = some (nI 1, σ) := by
  unfold f_X10_isValue f_X10_isValue_13
  simp only [qi_0, qi_1, qi_2, qi_3, qi_4, qi_5, qi_6, qi_7, qi_8, qi_9, qi_10, qi_11, qi_12, qi_13, qi_14, qi_15, qi_16, qi_17, qi_19, qi_26, qi_31, qi_32, qi_35, qi_40, qi_42, qi_48, qi_50, qi_57, qi_59, qi_63, qi_64, qi_97, qi_120, qi_122, qi_210, qi_255, qi_511, qi_512, qi_1000, qi_6000, qi_13312, qi_14337, qi_16383, qi_16384, qi_524287]
  rw [i_nlt (by omega) (by omega), i_nle (by omega) (by omega), p_cb1]
def Sv (S : Su) (c v : Nat) : Su := (S.1, S.2.1, S.2.2.1, S.2.2.2.1, S.2.2.2.2.1, S.2.2.2.2.2.1, upq (sV S) c v, sM S)
theorem Sv_V {S : Su} {c v : Nat} (h : SuV S) (hv : v < 4) : SuV (Sv S c v) := ⟨h.1, h.2.1, h.2.2.1, h.2.2.2.1, h.2.2.2.2.1, fun d hd => by
  show upq (sV S) c v d < 4
  by_cases e : d = c
  · rw [e, upq_s]; exact hv
  · rw [upq_n e]; exact h.2.2.2.2.2.1 d hd, h.2.2.2.2.2.2⟩
theorem op_cell {A : Ob} {σ : Mm} (hc : AC A σ) (hm : AM A σ) (x y : Int32) : Ans (f_X10_cell x y) (f_X11_cell x y) σ := by
  rcases rng (n := 3) x (by omega) with h | ⟨c, h, rfl⟩
  · refine Ans_of (r := er7 0) (A' := tel A 0) hm ?_ (fun τ hm => ?_)
    · unfold f_X10_cell
      rw [qi_0, qi_3]
      by_cases h0 : x < nI 0
      · rw [if_pos h0]; exact tellC hc (by omega)
      · rw [if_neg h0, if_pos (by rcases h with h | h; exact absurd h h0; exact h)]; exact tellC hc (by omega)
    · unfold f_X11_cell
      rw [qi_0, qi_2, er_1, in_n (by omega) h, p_bd, i_eq rfl]
      exact tellM hm (by omega)
  · rcases rng (n := 4) y (by omega) with h' | ⟨v, h', rfl⟩
    · refine Ans_of (r := er7 0) (A' := tel A 0) hm ?_ (fun τ hm => ?_)
      · unfold f_X10_cell
        rw [qi_0, qi_3, i_nlt (by omega) (by omega), i_nle (by omega) (by omega), isValue_no h', p_bd, i_eq rfl]
        exact tellC hc (by omega)
      · unfold f_X11_cell
        rw [qi_0, qi_2, qi_3, er_1, in_y (by omega) (by omega), p_bd, i_ne (by omega) (by omega) (by omega), in_n (by omega) h', p_bd, i_eq rfl]
        exact tellM hm (by omega)
    · refine Ans_of (r := nI (sV (oS A) c)) (A' := uS A (Sv (oS A) c v)) hm ?_ (fun τ hm => ?_)
      · obtain ⟨c1, c2, c3, c4, c5, c6, c7⟩ := hc.2.1
        have e : ∀ k, k ≠ 12 → (sI σ 12 c (nI v)).1 k = σ.1 k := fun k hk => r_sI1 hk
        obtain ⟨τ', a1, a2, a3, _⟩ := forget_S (τ := sI σ 12 c (nI v)) hc (Sv_V (c := c) hc.1.1 h') ⟨by rw [e 7 (by decide)]; exact c1, by rw [e 7 (by decide)]; exact c2, by rw [e 7 (by decide)]; exact c3, fun c h => by rw [e 8 (by decide)]; exact c4 c h, fun c s h1 h2 => CdC_of (c5 c s h1 h2) (fun r _ => by rw [e 9 (by decide)]), fun g hg => by rw [e 10 (by decide), e 11 (by decide)]; exact c6 g hg, fun d hd => by
            show (sI σ 12 c (nI v)).1 12 d = nI (upq (sV (oS A)) c v d)
            by_cases q : d = c
            · rw [q, r_sI0, upq_s]
            · rw [r_sIj q, upq_n q]; exact c7 d hd⟩ ((Fr.rf _ _).sI (by decide))
        unfold f_X10_cell
        rw [qi_0, qi_3, i_nlt (by omega) (by omega), i_nle (by omega) (by omega), isValue_yes h', p_bd, i_ne (by omega) (by omega) (by omega), p_ck _ h (by omega), p_ix (a := c) (by omega), c7 c h, p_nm, p_ck _ h (by omega), p_nm, a1, p_bd]
        exact ⟨τ', rfl, a2, a3⟩
      · obtain ⟨c0, c7, c11, c49, cS, cH, cV⟩ := hm.2.1
        have hF : Fr smL τ (sI (sI τ 57 c (nI v)) 48 48 (nI 0)) := ((Fr.rf _ _).sI (by decide)).sI (by decide)
        have e : ∀ k, k ≠ 48 → k ≠ 57 → (sI (sI τ 57 c (nI v)) 48 48 (nI 0)).1 k = τ.1 k := fun k hk hk2 => by rw [r_sI1 hk, r_sI1 hk2]
        have e8 : ∀ j, j ≠ 48 → (sI (sI τ 57 c (nI v)) 48 48 (nI 0)).1 48 j = τ.1 48 j := fun j hj => by rw [r_sIj hj, r_sI1 (by decide)]
        unfold f_X11_cell
        rw [qi_0, qi_2, qi_3, in_y (by omega) (by omega), p_bd, i_ne (by omega) (by omega) (by omega), in_y (by omega) (by omega), p_bd, i_ne (by omega) (by omega) (by omega), p_ck _ h (by omega), p_ix (a := c) (by omega), cV c h, p_nm, p_ck _ h (by omega), p_nm, p_cb0, p_nm]
        refine ⟨_, rfl, AM_S hm (Sv_V (c := c) hm.1.1 h') ⟨by rw [e8 0 (by decide)]; exact c0, by rw [e8 7 (by decide)]; exact c7, by rw [e8 11 (by decide)]; exact c11, fun c h => by rw [e 49 (by decide) (by decide)]; exact c49 c h, fun c s h1 h2 => CdS_5 (cS c s h1 h2) (fun d d1 d2 => by rw [e d (by omega) (by omega)]), fun g hg => by rw [e 55 (by decide) (by decide), e 56 (by decide) (by decide)]; exact cH g hg, fun d hd => by
            show (sI (sI τ 57 c (nI v)) 48 48 (nI 0)).1 57 d = nI (upq (sV (oS A)) c v d)
            rw [r_sI1 (by decide)]
            by_cases q : d = c
            · rw [q, r_sI0, upq_s]
            · rw [r_sIj q, upq_n q]; exact cV d hd⟩ hF (fun j hj => e8 j (by omega)) r_sI0, FrM_of hF smL_48⟩
/-- hand -/
def Sh (S : Su) (c t : Nat) : Su := (S.1, S.2.1, S.2.2.1, sH S + 1, upq (sF S) (sH S) c, upq (sT S) (sH S) t, sV S, sM S)
theorem Sh_V {S : Su} {c t : Nat} (h : SuV S) (hH : sH S < 3) (hc : c < sK S) (ht : t ≤ sK S) : SuV (Sh S c t) := ⟨h.1, h.2.1, h.2.2.1, hH, fun g hg => by
  have hg : g < sH S + 1 := hg
  show upq (sF S) (sH S) c g < sK S ∧ upq (sT S) (sH S) t g ≤ sK S
  by_cases e : g = sH S
  · rw [e, upq_s, upq_s]; exact ⟨hc, ht⟩
  · rw [upq_n e, upq_n e]; exact h.2.2.2.2.1 g (by omega), h.2.2.2.2.2.1, h.2.2.2.2.2.2⟩
def hndR (S : Su) : Int32 := if sH S < 3 then nI (sH S) else er7 1
def hndA (A : Ob) (c t : Nat) : Ob := if sH (oS A) < 3 then uS A (Sh (oS A) c t) else tel A 1
theorem hand_C {A : Ob} {σ : Mm} {c t : Nat} (hc : AC A σ) (hk : c < sK (oS A)) (ht : t ≤ sK (oS A)) : ∃ σ1, f_X10_hand_36 (nI c) (tI t) σ = some (hndR (oS A), σ1) ∧ AC (hndA A c t) σ1 ∧ FrC σ σ1 := by
  obtain ⟨c1, c2, c3, c4, c5, c6, c7⟩ := hc.2.1
  unfold f_X10_hand_36 hndR hndA
  rw [qi_1, qi_3, c2]
  by_cases h3 : sH (oS A) < 3
  · have e : ∀ k, k ≠ 7 → k ≠ 10 → k ≠ 11 → (sI (sI (sI σ 10 (sH (oS A)) (nI c)) 11 (sH (oS A)) (tI t)) 7 3 (nI (sH (oS A) + 1))).1 k = σ.1 k := fun k a1 a2 a3 => by rw [r_sI1 a1, r_sI1 a3, r_sI1 a2]
    have e7 : ∀ j, j ≠ 3 → (sI (sI (sI σ 10 (sH (oS A)) (nI c)) 11 (sH (oS A)) (tI t)) 7 3 (nI (sH (oS A) + 1))).1 7 j = σ.1 7 j := fun j hj => by rw [r_sIj hj, r_sI1 (by decide), r_sI1 (by decide)]
    obtain ⟨τ', a1, a2, a3, a4⟩ := forget_S (τ := sI (sI (sI σ 10 (sH (oS A)) (nI c)) 11 (sH (oS A)) (tI t)) 7 3 (nI (sH (oS A) + 1))) hc (Sh_V hc.1.1 h3 hk ht) ⟨by rw [e7 0 (by decide)]; exact c1, r_sI0, by rw [e7 7 (by decide)]; exact c3, fun c h => by rw [e 8 (by decide) (by decide) (by decide)]; exact c4 c h, fun c s h1 h2 => CdC_of (c5 c s h1 h2) (fun r _ => by rw [e 9 (by decide) (by decide) (by decide)]), fun g hg => by
        have hg : g < sH (oS A) + 1 := hg
        show (sI (sI (sI σ 10 (sH (oS A)) (nI c)) 11 (sH (oS A)) (tI t)) 7 3 (nI (sH (oS A) + 1))).1 10 g = nI (upq (sF (oS A)) (sH (oS A)) c g) ∧ (sI (sI (sI σ 10 (sH (oS A)) (nI c)) 11 (sH (oS A)) (tI t)) 7 3 (nI (sH (oS A) + 1))).1 11 g = tI (upq (sT (oS A)) (sH (oS A)) t g)
        have f10 : (sI (sI (sI σ 10 (sH (oS A)) (nI c)) 11 (sH (oS A)) (tI t)) 7 3 (nI (sH (oS A) + 1))).1 10 = (sI σ 10 (sH (oS A)) (nI c)).1 10 := by rw [r_sI1 (by decide), r_sI1 (by decide)]
        have f11 : (sI (sI (sI σ 10 (sH (oS A)) (nI c)) 11 (sH (oS A)) (tI t)) 7 3 (nI (sH (oS A) + 1))).1 11 = (sI (sI σ 10 (sH (oS A)) (nI c)) 11 (sH (oS A)) (tI t)).1 11 := by rw [r_sI1 (by decide)]
        rw [f10, f11]
        by_cases q : g = sH (oS A)
        · rw [q, r_sI0, r_sI0, upq_s, upq_s]; exact ⟨rfl, rfl⟩
        · rw [upq_n q, upq_n q]
          refine ⟨?_, ?_⟩
          · rw [r_sIj q]; exact (c6 g (by omega)).1
          · rw [r_sIj q, r_sI1 (by decide)]; exact (c6 g (by omega)).2, fun d hd => by rw [e 12 (by decide) (by decide) (by decide)]; exact c7 d hd⟩ ((((Fr.rf _ _).sI (by decide)).sI (by decide)).sI (by decide))
    rw [i_lt (by omega) h3, if_pos h3, if_pos h3, p_ck _ h3 (by omega), p_ix (a := sH (oS A)) (by omega), p_nm, r_sI1 (by decide), c2, p_ck _ h3 (by omega), p_ix (a := sH (oS A)) (by omega), p_nm, r_sI1 (by decide), r_sI1 (by decide), c2, nI_add, p_nm, a1, p_bd, a4 7 (by decide), r_sI0, pk_sub (by omega), show sH (oS A) + 1 - 1 = sH (oS A) by omega]
    exact ⟨τ', rfl, a2, a3⟩
  · have := hc.1.1.2.2.2.1
    rw [i_nlt (by omega) (by omega), if_neg h3, if_neg h3]
    exact tellC hc (by omega)
theorem hand_M {A : Ob} {σ : Mm} {c t : Nat} (hm : AM A σ) (hk : c < sK (oS A)) (ht : t ≤ sK (oS A)) : ∃ σ1, f_X11_hand_28 (nI c) (tI t) σ = some (hndR (oS A), σ1) ∧ AM (hndA A c t) σ1 ∧ FrM σ σ1 := by
  obtain ⟨c0, c7, c11, c49, cS, cH, cV⟩ := hm.2.1
  have h6 := hm.1.1.1
  unfold f_X11_hand_28 f_X11_hand_87 hndR hndA
  simp only [qi_0, qi_1, qi_2, qi_3, qi_4, qi_5, qi_6, qi_7, qi_8, qi_9, qi_10, qi_11, qi_12, qi_13, qi_14, qi_15, qi_16, qi_17, qi_19, qi_26, qi_31, qi_32, qi_35, qi_40, qi_42, qi_48, qi_50, qi_57, qi_59, qi_63, qi_64, qi_97, qi_120, qi_122, qi_210, qi_255, qi_511, qi_512, qi_1000, qi_6000, qi_13312, qi_14337, qi_16383, qi_16384, qi_524287]
  rw [c7]
  by_cases h3 : sH (oS A) < 3
  · have hFr : ∀ v : Int32, Fr smL σ (sI (sI (sI (sI (sI σ 55 (2 * sH (oS A)) (nI c)) 55 (2 * sH (oS A) + 1) (tI t)) 56 (sH (oS A)) v) 48 7 (nI (sH (oS A) + 1))) 48 48 (nI 0)) := fun v => (((((Fr.rf _ _).sI (by decide)).sI (by decide)).sI (by decide)).sI (by decide)).sI (by decide)
    have e8 : ∀ (v : Int32) j, j ≠ 7 → j ≠ 48 → (sI (sI (sI (sI (sI σ 55 (2 * sH (oS A)) (nI c)) 55 (2 * sH (oS A) + 1) (tI t)) 56 (sH (oS A)) v) 48 7 (nI (sH (oS A) + 1))) 48 48 (nI 0)).1 48 j = σ.1 48 j := fun v j j1 j2 => by rw [r_sIj j2, r_sIj j1, r_sI1 (by decide), r_sI1 (by decide), r_sI1 (by decide)]
    have e : ∀ (v : Int32) k, k ≠ 48 → k ≠ 55 → k ≠ 56 → (sI (sI (sI (sI (sI σ 55 (2 * sH (oS A)) (nI c)) 55 (2 * sH (oS A) + 1) (tI t)) 56 (sH (oS A)) v) 48 7 (nI (sH (oS A) + 1))) 48 48 (nI 0)).1 k = σ.1 k := fun v k k1 k2 k3 => by rw [r_sI1 k1, r_sI1 k1, r_sI1 k3, r_sI1 k2, r_sI1 k2]
    have fin : ∀ v : Int32, v = nI (if t = 0 then 1 else 2) → AM (uS A (Sh (oS A) c t)) (sI (sI (sI (sI (sI σ 55 (2 * sH (oS A)) (nI c)) 55 (2 * sH (oS A) + 1) (tI t)) 56 (sH (oS A)) v) 48 7 (nI (sH (oS A) + 1))) 48 48 (nI 0)) := by
      intro v hv
      refine AM_S hm (Sh_V hm.1.1 h3 hk ht) ⟨by rw [e8 v 0 (by decide) (by decide)]; exact c0, by rw [r_sIj (by decide), r_sI0]; rfl, by rw [e8 v 11 (by decide) (by decide)]; exact c11, fun c h => by rw [e v 49 (by decide) (by decide) (by decide)]; exact c49 c h, fun c s h1 h2 => CdS_5 (cS c s h1 h2) (fun d d1 d2 => by rw [e v d (by omega) (by omega) (by omega)]), fun g hg => ?_, fun d hd => by rw [e v 57 (by decide) (by decide) (by decide)]; exact cV d hd⟩ (hFr v) (fun j hj => e8 v j (by omega) (by omega)) r_sI0
      have hg : g < sH (oS A) + 1 := hg
      show (sI (sI (sI (sI (sI σ 55 (2 * sH (oS A)) (nI c)) 55 (2 * sH (oS A) + 1) (tI t)) 56 (sH (oS A)) v) 48 7 (nI (sH (oS A) + 1))) 48 48 (nI 0)).1 55 (2 * g) = nI (upq (sF (oS A)) (sH (oS A)) c g) ∧ (sI (sI (sI (sI (sI σ 55 (2 * sH (oS A)) (nI c)) 55 (2 * sH (oS A) + 1) (tI t)) 56 (sH (oS A)) v) 48 7 (nI (sH (oS A) + 1))) 48 48 (nI 0)).1 56 g = nI (if upq (sT (oS A)) (sH (oS A)) t g = 0 then 1 else 2) ∧ (upq (sT (oS A)) (sH (oS A)) t g ≠ 0 → (sI (sI (sI (sI (sI σ 55 (2 * sH (oS A)) (nI c)) 55 (2 * sH (oS A) + 1) (tI t)) 56 (sH (oS A)) v) 48 7 (nI (sH (oS A) + 1))) 48 48 (nI 0)).1 55 (2 * g + 1) = nI (upq (sT (oS A)) (sH (oS A)) t g - 1))
      have f55 : (sI (sI (sI (sI (sI σ 55 (2 * sH (oS A)) (nI c)) 55 (2 * sH (oS A) + 1) (tI t)) 56 (sH (oS A)) v) 48 7 (nI (sH (oS A) + 1))) 48 48 (nI 0)).1 55 = (sI (sI σ 55 (2 * sH (oS A)) (nI c)) 55 (2 * sH (oS A) + 1) (tI t)).1 55 := by rw [r_sI1 (by decide), r_sI1 (by decide), r_sI1 (by decide)]
      have f56 : (sI (sI (sI (sI (sI σ 55 (2 * sH (oS A)) (nI c)) 55 (2 * sH (oS A) + 1) (tI t)) 56 (sH (oS A)) v) 48 7 (nI (sH (oS A) + 1))) 48 48 (nI 0)).1 56 = (sI (sI (sI σ 55 (2 * sH (oS A)) (nI c)) 55 (2 * sH (oS A) + 1) (tI t)) 56 (sH (oS A)) v).1 56 := by rw [r_sI1 (by decide), r_sI1 (by decide)]
      rw [f55, f56]
      by_cases q : g = sH (oS A)
      · rw [q, upq_s, upq_s]
        refine ⟨?_, ?_, fun z => ?_⟩
        · rw [r_sIj (by omega), r_sI0]
        · rw [r_sI0]; exact hv
        · rw [r_sI0]; exact if_neg z
      · obtain ⟨g1, g2, g3⟩ := cH g (by omega)
        rw [upq_n q, upq_n q]
        refine ⟨?_, ?_, fun z => ?_⟩
        · rw [r_sIj (by omega), r_sIj (by omega)]; exact g1
        · rw [r_sIj q, r_sI1 (by decide), r_sI1 (by decide)]; exact g2
        · rw [r_sIj (by omega), r_sIj (by omega)]; exact g3 z
    have e55 : ∀ v : Int32, (sI σ 55 (2 * sH (oS A)) v).1 48 7 = nI (sH (oS A)) := fun v => by rw [r_sI1 (by decide)]; exact c7
    rw [i_ne (by omega) (by omega) (by omega), if_pos h3, if_pos h3, pk_mul, p_ck _ (by omega) (by omega), p_ix (a := 2 * sH (oS A)) (by omega), p_nm, e55, pk_mul, nI_add, p_ck _ (by omega) (by omega), p_ix (a := 2 * sH (oS A) + 1) (by omega), p_nm, r_sI1 (by decide), e55, p_ck _ (by omega) (by omega), p_ix (a := sH (oS A)) (by omega)]
    by_cases t0 : t = 0
    · rw [if_pos (show tI t = -nI 1 from if_pos t0), p_nm, r_sI1 (by decide), r_sI1 (by decide), e55, nI_add, p_nm, p_cb0, p_nm, r_sIj (by decide), r_sI0, pk_sub (by omega), show sH (oS A) + 1 - 1 = sH (oS A) by omega]
      exact ⟨_, rfl, fin _ (by rw [if_pos t0]), FrM_of (hFr _) smL_48⟩
    · have hne : ¬ tI t = -nI 1 := by
        rw [show tI t = nI (t - 1) from if_neg t0, p_m1eq (by omega)]
        exact fun q => q
      rw [if_neg hne, p_ck _ (by omega) (by omega), p_nm, r_sI1 (by decide), r_sI1 (by decide), e55, nI_add, p_nm, p_cb0, p_nm, r_sIj (by decide), r_sI0, pk_sub (by omega), show sH (oS A) + 1 - 1 = sH (oS A) by omega]
      exact ⟨_, rfl, fin _ (by rw [if_neg t0]), FrM_of (hFr _) smL_48⟩
  · have := hm.1.1.2.2.2.1
    rw [i_eq (by omega), if_neg h3, if_neg h3, er_2]
    exact tellM hm (by omega)
theorem op_hand {A : Ob} {σ : Mm} (hc : AC A σ) (hm : AM A σ) (x y : Int32) : Ans (f_X10_hand x y) (f_X11_hand x y) σ := by
  have h6 := hc.1.1.1
  rcases rng (n := sK (oS A)) x (by omega) with h | ⟨c, h, rfl⟩
  · refine Ans_of (r := er7 0) (A' := tel A 0) hm ?_ (fun τ hm => ?_)
    · unfold f_X10_hand
      rw [qi_0, hasCall_no hc.1.1 hc.2.1 h, p_bd, i_eq rfl]; exact tellC hc (by omega)
    · unfold f_X11_hand
      rw [qi_0, er_1, misCall_no hm.1.1 hm.2.1 h, p_bd, i_eq rfl]; exact tellM hm (by omega)
  · by_cases y1 : y = -nI 1
    · refine Ans_of (r := hndR (oS A)) (A' := hndA A c 0) hm ?_ (fun τ hm => ?_)
      · obtain ⟨σ1, a1, a2⟩ := hand_C hc h (Nat.zero_le _)
        unfold f_X10_hand
        rw [qi_0, qi_1, hasCall_yes hc.1.1 hc.2.1 h, p_bd, i_ne (by omega) (by omega) (by omega), if_pos y1, y1]
        exact ⟨σ1, a1, a2⟩
      · obtain ⟨σ1, a1, a2⟩ := hand_M hm h (Nat.zero_le _)
        unfold f_X11_hand
        rw [qi_0, qi_1, misCall_yes hm.1.1 hm.2.1 h, p_bd, i_ne (by omega) (by omega) (by omega), if_pos y1, y1]
        exact ⟨σ1, a1, a2⟩
    · rcases rng (n := sK (oS A)) y (by omega) with h' | ⟨d, h', rfl⟩
      · refine Ans_of (r := er7 0) (A' := tel A 0) hm ?_ (fun τ hm => ?_)
        · unfold f_X10_hand
          rw [qi_0, qi_1, hasCall_yes hc.1.1 hc.2.1 h, p_bd, i_ne (by omega) (by omega) (by omega), if_neg y1, hasCall_no hc.1.1 hc.2.1 h', p_bd, i_eq rfl]; exact tellC hc (by omega)
        · unfold f_X11_hand
          rw [er_1, qi_0, qi_1, misCall_yes hm.1.1 hm.2.1 h, p_bd, i_ne (by omega) (by omega) (by omega), if_neg y1, misCall_no hm.1.1 hm.2.1 h', p_bd, i_eq rfl]; exact tellM hm (by omega)
      · have et : nI d = tI (d + 1) := (if_neg (by omega)).symm
        refine Ans_of (r := hndR (oS A)) (A' := hndA A c (d + 1)) hm ?_ (fun τ hm => ?_)
        · obtain ⟨σ1, a1, a2⟩ := hand_C (t := d + 1) hc h h'
          rw [← et] at a1
          unfold f_X10_hand
          rw [qi_0, qi_1, hasCall_yes hc.1.1 hc.2.1 h, p_bd, i_ne (by omega) (by omega) (by omega), if_neg y1, hasCall_yes hc.1.1 hc.2.1 h', p_bd, i_ne (by omega) (by omega) (by omega)]
          exact ⟨σ1, a1, a2⟩
        · obtain ⟨σ1, a1, a2⟩ := hand_M (t := d + 1) hm h h'
          rw [← et] at a1
          unfold f_X11_hand
          rw [qi_0, qi_1, misCall_yes hm.1.1 hm.2.1 h, p_bd, i_ne (by omega) (by omega) (by omega), if_neg y1, misCall_yes hm.1.1 hm.2.1 h', p_bd, i_ne (by omega) (by omega) (by omega)]
          exact ⟨σ1, a1, a2⟩
