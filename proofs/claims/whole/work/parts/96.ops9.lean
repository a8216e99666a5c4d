/-! PURE: image, undo: both sides -/
theorem take_eq {S : Su} {σ : Mm} {a b : Nat} (hS : SuV S) (hC : SeC S b σ) (hab : a + 5 < b ∨ b + 5 < a) : ∃ τ, f_X5_takeFrom a b σ = some ((), τ) ∧ SeC S a τ ∧ Fr [a, a + 1, a + 2, a + 3, a + 4, a + 5] σ τ := by
  obtain ⟨c1, c2, c3, c4, c5, c6, c7⟩ := hC
  have h6 := hS.1
  have h3 := hS.2.2.2.1
  have mem : ∀ i, i ≤ 5 → a + i ∈ [a, a + 1, a + 2, a + 3, a + 4, a + 5] := fun i hi => by
    rcases (show i = 0 ∨ i = 1 ∨ i = 2 ∨ i = 3 ∨ i = 4 ∨ i = 5 by omega) with rfl | rfl | rfl | rfl | rfl | rfl <;> simp
  unfold f_X5_takeFrom
  rw [qi_0, qi_3, qi_6, qi_210, p_ix (a := 0) (by omega), p_ix (a := 6) (by omega), p_ix (a := 210) (by omega), p_ix (a := 3) (by omega), p_nm, p_nm, p_nm, cpy_ok _ (by omega), p_nm, cpy_ok _ (by omega), p_nm, cpy_ok _ (by omega), p_nm, cpy_ok _ (by omega), p_nm, cpy_ok _ (by omega), p_nm]
  generalize hσ3 : sI (sI (sI σ a 0 (σ.1 b 0)) a 3 ((sI σ a 0 (σ.1 b 0)).1 b 3)) a 7 ((sI (sI σ a 0 (σ.1 b 0)) a 3 ((sI σ a 0 (σ.1 b 0)).1 b 3)).1 b 7) = σ3
  have F3 : Fr [a, a + 1, a + 2, a + 3, a + 4, a + 5] σ σ3 := by
    rw [← hσ3]
    exact (((Fr.rf _ _).sI (mem 0 (by omega))).sI (mem 0 (by omega))).sI (mem 0 (by omega))
  have k3 : ∀ k, k ≠ a → σ3.1 k = σ.1 k := fun k hk => by rw [← hσ3, r_sI1 hk, r_sI1 hk, r_sI1 hk]
  have a0 : σ3.1 a 0 = σ.1 b 0 := by rw [← hσ3, r_sIj (by decide), r_sIj (by decide), r_sI0]
  have a3 : σ3.1 a 3 = σ.1 b 3 := by rw [← hσ3, r_sIj (by decide), r_sI0, r_sI1 (by omega)]
  have a7 : σ3.1 a 7 = σ.1 b 7 := by rw [← hσ3, r_sI0, r_sI1 (by omega), r_sI1 (by omega)]
  clear hσ3
  generalize h4 : sR σ3 (a + 1) (va_cpy (σ3.1 (b + 1)) (σ3.1 (a + 1)) 0 0 6) = σ4
  have k4 : ∀ k, k ≠ a + 1 → σ4.1 k = σ3.1 k := fun k hk => by rw [← h4, r_sR1 hk]
  have b4 : ∀ j, j < 6 → σ4.1 (a + 1) j = σ.1 (b + 1) j := fun j hj => by rw [← h4, r_sR0, vc_lt hj, k3 _ (by omega)]
  have F4 : Fr [a, a + 1, a + 2, a + 3, a + 4, a + 5] σ σ4 := by rw [← h4]; exact F3.sR (mem 1 (by omega))
  clear h4
  generalize h5 : sR σ4 (a + 2) (va_cpy (σ4.1 (b + 2)) (σ4.1 (a + 2)) 0 0 210) = σ5
  have k5 : ∀ k, k ≠ a + 2 → σ5.1 k = σ4.1 k := fun k hk => by rw [← h5, r_sR1 hk]
  have b5 : ∀ j, j < 210 → σ5.1 (a + 2) j = σ.1 (b + 2) j := fun j hj => by rw [← h5, r_sR0, vc_lt hj, k4 _ (by omega), k3 _ (by omega)]
  have F5 : Fr [a, a + 1, a + 2, a + 3, a + 4, a + 5] σ σ5 := by rw [← h5]; exact F4.sR (mem 2 (by omega))
  clear h5
  generalize h7 : sR σ5 (a + 3) (va_cpy (σ5.1 (b + 3)) (σ5.1 (a + 3)) 0 0 3) = σ6
  have k6 : ∀ k, k ≠ a + 3 → σ6.1 k = σ5.1 k := fun k hk => by rw [← h7, r_sR1 hk]
  have b6 : ∀ j, j < 3 → σ6.1 (a + 3) j = σ.1 (b + 3) j := fun j hj => by rw [← h7, r_sR0, vc_lt hj, k5 _ (by omega), k4 _ (by omega), k3 _ (by omega)]
  have F6 : Fr [a, a + 1, a + 2, a + 3, a + 4, a + 5] σ σ6 := by rw [← h7]; exact F5.sR (mem 3 (by omega))
  clear h7
  generalize h8 : sR σ6 (a + 4) (va_cpy (σ6.1 (b + 4)) (σ6.1 (a + 4)) 0 0 3) = σ7
  have k7 : ∀ k, k ≠ a + 4 → σ7.1 k = σ6.1 k := fun k hk => by rw [← h8, r_sR1 hk]
  have b7 : ∀ j, j < 3 → σ7.1 (a + 4) j = σ.1 (b + 4) j := fun j hj => by rw [← h8, r_sR0, vc_lt hj, k6 _ (by omega), k5 _ (by omega), k4 _ (by omega), k3 _ (by omega)]
  have F7 : Fr [a, a + 1, a + 2, a + 3, a + 4, a + 5] σ σ7 := by rw [← h8]; exact F6.sR (mem 4 (by omega))
  clear h8
  generalize h9 : sR σ7 (a + 5) (va_cpy (σ7.1 (b + 5)) (σ7.1 (a + 5)) 0 0 3) = σ8
  have k8 : ∀ k, k ≠ a + 5 → σ8.1 k = σ7.1 k := fun k hk => by rw [← h9, r_sR1 hk]
  have b8 : ∀ j, j < 3 → σ8.1 (a + 5) j = σ.1 (b + 5) j := fun j hj => by rw [← h9, r_sR0, vc_lt hj, k7 _ (by omega), k6 _ (by omega), k5 _ (by omega), k4 _ (by omega), k3 _ (by omega)]
  have F8 : Fr [a, a + 1, a + 2, a + 3, a + 4, a + 5] σ σ8 := by rw [← h9]; exact F7.sR (mem 5 (by omega))
  clear h9
  have ka : σ8.1 a = σ3.1 a := by rw [k8 _ (by omega), k7 _ (by omega), k6 _ (by omega), k5 _ (by omega), k4 _ (by omega)]
  have kb : σ8.1 (a + 1) = σ4.1 (a + 1) := by rw [k8 _ (by omega), k7 _ (by omega), k6 _ (by omega), k5 _ (by omega)]
  have kc : σ8.1 (a + 2) = σ5.1 (a + 2) := by rw [k8 _ (by omega), k7 _ (by omega), k6 _ (by omega)]
  have kd : σ8.1 (a + 3) = σ6.1 (a + 3) := by rw [k8 _ (by omega), k7 _ (by omega)]
  have ke : σ8.1 (a + 4) = σ7.1 (a + 4) := by rw [k8 _ (by omega)]
  refine ⟨σ8, rfl, ⟨by rw [ka, a0]; exact c1, by rw [ka, a3]; exact c2, by rw [ka, a7]; exact c3, fun c hc => by rw [kb, b4 c (by omega)]; exact c4 c hc, fun c s hc hs => ?_, fun g hg => by rw [kd, ke, b6 g (by omega), b7 g (by omega)]; exact c6 g hg, fun c hc => by rw [b8 c hc]; exact c7 c hc⟩, F8⟩
  have hi := idx_lt hS hc hs
  obtain ⟨d1, d2, d3, d4, d5⟩ := c5 c s hc hs
  unfold CdC
  rw [kc, b5 _ (by omega), b5 _ (by omega), b5 _ (by omega), b5 _ (by omega), b5 _ (by omega)]
  exact ⟨d1, d2, d3, d4, d5⟩
theorem op_image {A : Ob} {σ : Mm} (hc : AC A σ) (hm : AM A σ) : Ans f_X10_image f_X11_image σ := by
  refine Ans_of (r := nI 1) (A' := uK A true (oS A)) hm ?_ (fun τ hm => ?_)
  · obtain ⟨υ, a1, a2, a3⟩ := take_eq (a := 31) (b := 7) hc.1.1 hc.2.1 (by omega)
    have hF : Fr [0, 31, 32, 33, 34, 35, 36] σ (sI υ 0 6 (nI 1)) := (a3.mo (by intro k hk; revert k; decide)).sI (by decide)
    unfold f_X10_image
    rw [a1, p_bd, qi_1, p_cb1, p_nm]
    exact ⟨_, rfl, AC_K hc (fun _ => hc.1.1) (by rw [r_sI0]; rfl) (fun _ => SeC_31 a2 (fun k a b => r_sI1 (by omega))) hF, FrC_of hF (by decide)⟩
  · obtain ⟨υ, a1, a2, a3, a4, a5⟩ := passAll_1 (σ := τ)
    unfold f_X11_image
    rw [qi_1, a1, p_bd, p_nm, p_nm, p_nm, p_cb1, p_nm]
    have e8 : υ.1 48 = τ.1 48 := a5.r1 48 (by decide)
    rw [e8, r_sIj (by decide), r_sIj (by decide), e8, r_sIj (by decide), e8]
    have hF : Fr [48, 60] τ (sI (sI (sI (sI υ 48 16 (τ.1 48 0)) 48 17 (τ.1 48 7)) 48 18 (τ.1 48 11)) 48 15 (nI 1)) := ((((a5.mo (by intro k hk; revert k; decide)).sI (by decide)).sI (by decide)).sI (by decide)).sI (by decide)
    generalize hρ : sI (sI (sI (sI υ 48 16 (τ.1 48 0)) 48 17 (τ.1 48 7)) 48 18 (τ.1 48 11)) 48 15 (nI 1) = ρ at *
    have k60 : ρ.1 60 = υ.1 60 := by rw [← hρ, r_sI1 (by decide), r_sI1 (by decide), r_sI1 (by decide), r_sI1 (by decide)]
    have g15 : ρ.1 48 15 = bI true := by rw [← hρ, r_sI0]; rfl
    have g16 : ρ.1 48 16 = τ.1 48 0 := by rw [← hρ, r_sIj (by decide), r_sIj (by decide), r_sIj (by decide), r_sI0]
    have g17 : ρ.1 48 17 = τ.1 48 7 := by rw [← hρ, r_sIj (by decide), r_sIj (by decide), r_sI0]
    have g18 : ρ.1 48 18 = τ.1 48 11 := by rw [← hρ, r_sIj (by decide), r_sI0]
    have gJ : ∀ j, j ≠ 15 → j ≠ 16 → j ≠ 17 → j ≠ 18 → ρ.1 48 j = τ.1 48 j := fun j j1 j2 j3 j4 => by rw [← hρ, r_sIj j1, r_sIj j4, r_sIj j3, r_sIj j2, e8]
    refine ⟨ρ, rfl, AM_K hm (fun _ => hm.1.1) g15 (fun _ => SeM_pt hm.1.1 hm.2.1 ?_ ?_ ?_ (fun j hj => ?_) (fun c j c1 c2 hj => ?_) (fun j hj => ?_) (fun j hj => ?_) (fun j hj => ?_)) hF gJ, FrM_of hF (by decide)⟩
    · rw [rs6_48.1, g16]
    · rw [rs6_48.2.1, g17]
    · rw [rs6_48.2.2, g18]
    · rw [rs6_x.1, k60]; exact (a3 j hj).1
    · rw [rs6_5 c1 c2, k60]; exact a2 c j c1 c2 hj
    · rw [rs6_x.2.1, k60]; exact (a3 j hj).2
    · rw [rs6_x.2.2.1, k60]; exact (a4 j hj).1
    · rw [rs6_x.2.2.2, k60]; exact (a4 j hj).2
theorem op_undo {A : Ob} {σ : Mm} (hc : AC A σ) (hm : AM A σ) : Ans f_X10_undo f_X11_undo σ := by
  cases hB : oB A with
  | false =>
    refine told (e := 3) hc hm (by omega) ?_ (fun τ hm => ?_)
    · unfold f_X10_undo
      rw [hc.2.2.2.1, hB, bI_f, qi_0, i_eq rfl, qi_3]
    · unfold f_X11_undo
      rw [hm.2.2.2.1, hB, bI_f, qi_0, i_eq rfl, er_4]
  | true =>
    have hK := hc.1.2.1 hB
    refine Ans_of (r := nI (sK (oK A))) (A' := uS A (oK A)) hm ?_ (fun τ hm => ?_)
    · obtain ⟨υ, a1, a2, a3⟩ := take_eq (a := 7) (b := 31) hK (hc.2.2.2.2.1 hB) (by omega)
      obtain ⟨τ', b1, b2, b3, b4⟩ := forget_S (τ := υ) hc hK a2 (a3.mo (by intro k hk; revert k; decide))
      unfold f_X10_undo
      rw [hc.2.2.2.1, hB, bI_t, qi_0, i_ne (by omega) (by omega) (by omega), a1, p_bd, b1, p_bd, b4 7 (by decide), a2.1]
      exact ⟨τ', rfl, b2, b3⟩
    · obtain ⟨υ, a1, a2, a3, a4, a5⟩ := passAll_0 (σ := τ)
      have hR := hm.2.2.2.2.1 hB
      have e8 : υ.1 48 = τ.1 48 := a5.r1 48 (by decide)
      unfold f_X11_undo
      rw [hm.2.2.2.1, hB, bI_t, qi_0, i_ne (by omega) (by omega) (by omega), a1, p_bd, p_nm, p_nm, p_nm, p_cb0, p_nm]
      have x17 : (sI υ 48 0 (τ.1 48 16)).1 48 17 = τ.1 48 17 := by rw [r_sIj (by decide), e8]
      have x18 : (sI (sI υ 48 0 (τ.1 48 16)) 48 7 (τ.1 48 17)).1 48 18 = τ.1 48 18 := by rw [r_sIj (by decide), r_sIj (by decide), e8]
      rw [e8, x17, x18]
      have hF : Fr smL τ (sI (sI (sI (sI υ 48 0 (τ.1 48 16)) 48 7 (τ.1 48 17)) 48 11 (τ.1 48 18)) 48 48 (nI 0)) := ((((a5.mo (by intro k hk; revert k; decide)).sI (by decide)).sI (by decide)).sI (by decide)).sI (by decide)
      generalize hρ : sI (sI (sI (sI υ 48 0 (τ.1 48 16)) 48 7 (τ.1 48 17)) 48 11 (τ.1 48 18)) 48 48 (nI 0) = ρ at *
      have kk : ∀ k, k ≠ 48 → ρ.1 k = υ.1 k := fun k hk => by rw [← hρ, r_sI1 hk, r_sI1 hk, r_sI1 hk, r_sI1 hk]
      have g48 : ρ.1 48 48 = nI 0 := by rw [← hρ, r_sI0]
      have g0 : ρ.1 48 0 = τ.1 48 16 := by rw [← hρ, r_sIj (by decide), r_sIj (by decide), r_sIj (by decide), r_sI0]
      have g7 : ρ.1 48 7 = τ.1 48 17 := by rw [← hρ, r_sIj (by decide), r_sIj (by decide), r_sI0]
      have g11 : ρ.1 48 11 = τ.1 48 18 := by rw [← hρ, r_sIj (by decide), r_sI0]
      have gJ : ∀ j, j ≠ 0 → j ≠ 7 → j ≠ 11 → j ≠ 48 → ρ.1 48 j = τ.1 48 j := fun j j1 j2 j3 j4 => by rw [← hρ, r_sIj j4, r_sIj j3, r_sIj j2, r_sIj j1, e8]
      have hC : SeM (oK A) ρ := by
        refine SeM_pt hK hR ?_ ?_ ?_ (fun j hj => ?_) (fun c j c1 c2 hj => ?_) (fun j hj => ?_) (fun j hj => ?_) (fun j hj => ?_)
        · rw [rs6_48.1, g0]
        · rw [rs6_48.2.1, g7]
        · rw [rs6_48.2.2, g11]
        · rw [rs6_x.1, kk 49 (by decide)]; exact (a3 j hj).1
        · rw [rs6_5 c1 c2, kk c (by omega)]; exact a2 c j c1 c2 hj
        · rw [rs6_x.2.1, kk 55 (by decide)]; exact (a3 j hj).2
        · rw [rs6_x.2.2.1, kk 56 (by decide)]; exact (a4 j hj).1
        · rw [rs6_x.2.2.2, kk 57 (by decide)]; exact (a4 j hj).2
      refine ⟨ρ, by rw [hC.1], AM_S hm hK hC hF (fun j hj => gJ j (by omega) (by omega) (by omega) (by omega)) g48, FrM_of hF smL_48⟩
