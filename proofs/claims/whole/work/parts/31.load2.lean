/-! PURE: the class takes over a setup -/
theorem l_shl {v s : Nat} {sh : Int64} (hsh : (sh.toBitVec.smod 64).toNat = s) (hv : v < 18446744073709551616) : lN v <<< sh = lN (v * 2 ^ s) := by
  apply Int64.toBitVec_inj.1
  show BitVec.ofNat 64 v <<< (sh.toBitVec.smod 64).toNat = BitVec.ofNat 64 (v * 2 ^ s)
  rw [hsh]
  apply BitVec.eq_of_toNat_eq
  rw [BitVec.toNat_shiftLeft, BitVec.toNat_ofNat, BitVec.toNat_ofNat, Nat.mod_eq_of_lt (a := v) (by omega), Nat.shiftLeft_eq]
theorem l_or {a b s : Nat} (h : a < 2 ^ s) : lN a ||| lN (b * 2 ^ s) = lN (a + b * 2 ^ s) := by
  apply Int64.toBitVec_inj.1
  show BitVec.ofNat 64 a ||| BitVec.ofNat 64 (b * 2 ^ s) = BitVec.ofNat 64 (a + b * 2 ^ s)
  rw [← BitVec.ofNat_or]
  congr 1
  rw [Nat.mul_comm b, Nat.or_comm, ← Nat.two_pow_add_eq_or_of_lt h, Nat.add_comm]
theorem SeC_of {S : Su} {k : Nat} {σ τ : Mm} (h : SeC S k σ) (e0 : τ.1 k = σ.1 k) (e1 : τ.1 (k + 1) = σ.1 (k + 1)) (e2 : τ.1 (k + 2) = σ.1 (k + 2)) (e3 : τ.1 (k + 3) = σ.1 (k + 3)) (e4 : τ.1 (k + 4) = σ.1 (k + 4)) (e5 : τ.1 (k + 5) = σ.1 (k + 5)) : SeC S k τ := by
  unfold SeC CdC at *
  rw [e0, e1, e2, e3, e4, e5]
  exact h
def ldL : List Nat := [13, 14, 15, 16, 17]
theorem SeC_7 {S : Su} {L : List Nat} {σ τ : Mm} (h : SeC S 7 σ) (hF : Fr L σ τ) (h7 : 7 ∉ L) (h8 : 8 ∉ L) (h9 : 9 ∉ L) (h10 : 10 ∉ L) (h11 : 11 ∉ L) (h12 : 12 ∉ L) : SeC S 7 τ :=
  SeC_of h (hF.r1 7 h7) (hF.r1 8 h8) (hF.r1 9 h9) (hF.r1 10 h10) (hF.r1 11 h11) (hF.r1 12 h12)
theorem shf0 (f : Nat → Nat) : shf 0 f = f := by
  funext r
  unfold shf
  split
  · rename_i h; rw [h, Nat.zero_add]
  · rfl
theorem load_eq {S : Su} {X : Nat → Bool} {fz : Nat} {σ : Mm} (hS : SuV S) (hFX : FX S X) (hC : SeC S 7 σ) (hz : fz < 9223372036854775808) (hX : ∀ k, k < 42 → (fz / 2 ^ k % 2 = 1 ↔ X k = true)) :
    ∃ σ', f_X1_load (lN fz) σ = some ((), σ') ∧ LdC (PgOf S X) σ' ∧ Fr ldL σ σ' := by
  have hH := hS.2.2.2.1
  have hM := hS.2.2.2.2.2.2
  have h73 := hC.2.1
  have h77 := hC.2.2.1
  have v0 := hS.2.2.2.2.2.1 0 (by omega)
  have v1 := hS.2.2.2.2.2.1 1 (by omega)
  have v2 := hS.2.2.2.2.2.1 2 (by omega)
  have c0 : σ.1 12 0 = nI (sV S 0) := hC.2.2.2.2.2.2 0 (by omega)
  have c1 : σ.1 12 1 = nI (sV S 1) := hC.2.2.2.2.2.2 1 (by omega)
  have c2 : σ.1 12 2 = nI (sV S 2) := hC.2.2.2.2.2.2 2 (by omega)
  -- hands
  have hands : ∀ τ, τ.1 13 0 = nI (sH S) → τ.1 13 1 = nI (sM S) → τ.2 13 2 = lN (pF (PgOf S X)) → Fr ldL σ τ → ∃ σ', f_X1_load_67 (lN fz) τ = some ((), σ') ∧ LdC (PgOf S X) σ' ∧ Fr ldL σ σ' := by
    intro τ t0 t1 t2 tF
    unfold f_X1_load_67
    refine lq1 (F := f_X1_load_L70 (lN fz)) (fun a υ => ∃ h, h ≤ 3 ∧ a = nI h ∧ υ.1 13 0 = nI (sH S) ∧ υ.1 13 1 = nI (sM S) ∧ υ.2 13 2 = lN (pF (PgOf S X)) ∧ Fr ldL σ υ ∧ ∀ g, g < h → υ.1 16 g = nI (pS (PgOf S X) g) ∧ υ.1 17 g = nI (pN (PgOf S X) g) ∧ ∀ p, p < pN (PgOf S X) g → CdC υ 14 ((g * 26 + p) * 5) (pC (PgOf S X) g p)) (fun a _ => 3 - ix a) (fun o => ∃ σ', o = some ((), σ') ∧ LdC (PgOf S X) σ' ∧ Fr ldL σ σ') ?_ FU (0 : Int32) τ ?_ ⟨0, by omega, rfl, t0, t1, t2, tF, fun g hg => by omega⟩
    · rintro L a υ ⟨h, hh, rfl, u0, u1, u2, uF, ug⟩
      unfold f_X1_load_L70
      simp only [qi_0, qi_1, qi_2, qi_3, qi_4, qi_5, qi_6, qi_7, qi_8, qi_9, qi_10, qi_11, qi_12, qi_13, qi_14, qi_15, qi_16, qi_17, qi_19, qi_26, qi_31, qi_32, qi_35, qi_40, qi_42, qi_48, qi_50, qi_57, qi_59, qi_63, qi_64, qi_97, qi_120, qi_122, qi_210, qi_255, qi_511, qi_512, qi_1000, qi_6000, qi_13312, qi_14337, qi_16383, qi_16384, qi_524287]
      by_cases c : 3 ≤ h
      · right
        have e : h = 3 := by omega
        subst e
        exact ⟨υ, by rw [i_le (by omega) (by omega)], ⟨u0, u1, u2, fun g hg => ⟨(ug g hg).1, (ug g hg).2.1⟩, fun g p hg hp => (ug g hg).2.2 p hp⟩, uF⟩
      · left
        have hh3 : h < 3 := by omega
        rw [i_nle (by omega) (by omega), u0]
        -- what load_111 does when nothing is to follow
        by_cases hlt : sH S ≤ h
        · rw [i_le (by omega) hlt]
          unfold f_X1_load_111 f_X1_load_174
          simp only [qi_0, qi_1, qi_2, qi_3, qi_4, qi_5, qi_6, qi_7, qi_8, qi_9, qi_10, qi_11, qi_12, qi_13, qi_14, qi_15, qi_16, qi_17, qi_19, qi_26, qi_31, qi_32, qi_35, qi_40, qi_42, qi_48, qi_50, qi_57, qi_59, qi_63, qi_64, qi_97, qi_120, qi_122, qi_210, qi_255, qi_511, qi_512, qi_1000, qi_6000, qi_13312, qi_14337, qi_16383, qi_16384, qi_524287]
          rw [p_ck _ hh3 (by omega), p_ix (a := h) (by omega), p_nm, p_ck _ hh3 (by omega), p_ck _ hh3 (by omega), r_sI0, p_nm, r_sI1 (by decide), r_sI1 (by decide), u0, i_le (by omega) hlt, p_nm, nI_add]
          have eS : pS (PgOf S X) h = 0 := if_neg (by omega)
          have eN : pN (PgOf S X) h = 0 := if_neg (by omega)
          refine ⟨nI (h + 1), _, ⟨h + 1, by omega, rfl, ?_, ?_, ?_, (uF.sI (by decide)).sI (by decide), ?_⟩, ?_, rfl⟩
          · rw [r_sI1 (by decide), r_sI1 (by decide)]; exact u0
          · rw [r_sI1 (by decide), r_sI1 (by decide)]; exact u1
          · rw [r_sI2, r_sI2]; exact u2
          · intro g hg
            by_cases gh : g = h
            · subst gh
              refine ⟨?_, ?_, fun p hp => by rw [eN] at hp; omega⟩
              · rw [r_sI1 (by decide), r_sI0, eS]
              · rw [r_sI0, eN]
            · obtain ⟨w1, w2, w3⟩ := ug g (by omega)
              refine ⟨?_, ?_, fun p hp => ?_⟩
              · rw [r_sI1 (by decide), r_sIj gh]; exact w1
              · rw [r_sIj gh, r_sI1 (by decide)]; exact w2
              · exact CdC_of (w3 p hp) (fun r _ => by rw [r_sI1 (by decide), r_sI1 (by decide)])
          · rw [p_ix (by omega)]; omega
        · have hlt : h < sH S := by omega
          obtain ⟨a1, a2⟩ := hS.2.2.2.2.1 h hlt
          have hCu := SeC_7 hC uF (by decide) (by decide) (by decide) (by decide) (by decide) (by decide)
          have f10 : υ.1 10 h = nI (sF S h) := (hCu.2.2.2.2.2.1 h hlt).1
          have hfl1 := hFX _ a1
          have eS : pS (PgOf S X) h = fl S X (sF S h) := if_pos hlt
          have eN : pN (PgOf S X) h = fl S X (sF S h) + (if sT S h = 0 then 0 else fl S X (sT S h - 1)) := if_pos hlt
          rw [i_nle (by omega) hlt, p_ck _ hh3 (by omega), p_ix (a := h) (by omega), f10]
          obtain ⟨υ1, e1, m1, m2, m3⟩ := layCall_eq (o := 0) hS hCu a1 hh3 (by omega) hz hX
          rw [e1, p_bd, Nat.zero_add]
          rw [Nat.zero_add] at m2
          have fF1 : Fr ldL σ υ1 := uF.tr (m3.mo (by intro k hk; revert k; decide))
          have hC1 := SeC_7 hC fF1 (by decide) (by decide) (by decide) (by decide) (by decide) (by decide)
          have f11 : υ1.1 11 h = tI (sT S h) := (hC1.2.2.2.2.2.1 h hlt).2
          have g0 : υ1.1 13 0 = nI (sH S) := by rw [m3.r1 13 (by decide)]; exact u0
          have g1 : υ1.1 13 1 = nI (sM S) := by rw [m3.r1 13 (by decide)]; exact u1
          have g2 : υ1.2 13 2 = lN (pF (PgOf S X)) := by rw [m3.r2 13 (by decide)]; exact u2
          unfold f_X1_load_111 f_X1_load_174
          simp only [qi_0, qi_1, qi_2, qi_3, qi_4, qi_5, qi_6, qi_7, qi_8, qi_9, qi_10, qi_11, qi_12, qi_13, qi_14, qi_15, qi_16, qi_17, qi_19, qi_26, qi_31, qi_32, qi_35, qi_40, qi_42, qi_48, qi_50, qi_57, qi_59, qi_63, qi_64, qi_97, qi_120, qi_122, qi_210, qi_255, qi_511, qi_512, qi_1000, qi_6000, qi_13312, qi_14337, qi_16383, qi_16384, qi_524287]
          rw [p_ck _ hh3 (by omega), p_ix (a := h) (by omega), p_nm, p_ck _ hh3 (by omega), p_ck _ hh3 (by omega), r_sI0, p_nm, r_sI1 (by decide), r_sI1 (by decide), g0, i_nle (by omega) hlt, p_ck _ hh3 (by omega), r_sI1 (by decide), r_sI1 (by decide), f11]
          obtain ⟨υ2, hυ2⟩ : ∃ υ2, υ2 = sI (sI υ1 16 h (nI (fl S X (sF S h)))) 17 h (nI (fl S X (sF S h))) := ⟨_, rfl⟩
          rw [← hυ2]
          have k13 : υ2.1 13 = υ1.1 13 := by rw [hυ2, r_sI1 (by decide), r_sI1 (by decide)]
          have k132 : υ2.2 13 = υ1.2 13 := by rw [hυ2, r_sI2, r_sI2]
          have k14 : υ2.1 14 = υ1.1 14 := by rw [hυ2, r_sI1 (by decide), r_sI1 (by decide)]
          have k16 : ∀ g, υ2.1 16 g = if g = h then nI (fl S X (sF S h)) else υ1.1 16 g := by
            intro g
            rw [hυ2, r_sI1 (by decide)]
            by_cases q : g = h
            · rw [if_pos q, q, r_sI0]
            · rw [if_neg q, r_sIj q]
          have k17 : ∀ g, υ2.1 17 g = if g = h then nI (fl S X (sF S h)) else υ1.1 17 g := by
            intro g
            rw [hυ2]
            by_cases q : g = h
            · rw [if_pos q, q, r_sI0]
            · rw [if_neg q, r_sIj q, r_sI1 (by decide)]
          have fF2 : Fr ldL σ υ2 := by rw [hυ2]; exact (fF1.sI (by decide)).sI (by decide)
          -- what stays of hands ahead
          have ahead : ∀ g, g < h → υ1.1 16 g = nI (pS (PgOf S X) g) ∧ υ1.1 17 g = nI (pN (PgOf S X) g) ∧ ∀ p, p < pN (PgOf S X) g → CdC υ1 14 ((g * 26 + p) * 5) (pC (PgOf S X) g p) := by
            intro g hg
            obtain ⟨w1, w2, w3⟩ := ug g hg
            have hg26 := ((PgOf_V hS hFX).2.2.1 g (by omega)).2
            refine ⟨by rw [m3.r1 16 (by decide)]; exact w1, by rw [m3.r1 17 (by decide)]; exact w2, fun p hp => ?_⟩
            exact CdC_of (w3 p hp) (fun r hr => m2 _ (by omega))
          have own1 : ∀ p, p < fl S X (sF S h) → CdC υ1 14 ((h * 26 + p) * 5) (pC (PgOf S X) h p) := by
            intro p hp
            have hm := m1 p hp
            rw [shf0, Nat.zero_add] at hm
            have e : pC (PgOf S X) h p = lc S X (sF S h) p := if_pos hp
            rw [e]; exact hm
          by_cases d : sT S h = 0
          · rw [if_pos d, Nat.add_zero] at eN
            rw [show tI (sT S h) = -nI 1 from if_pos d, i_m1lt (by omega), p_nm, nI_add]
            refine ⟨nI (h + 1), υ2, ⟨h + 1, by omega, rfl, by rw [k13]; exact g0, by rw [k13]; exact g1, by rw [k132]; exact g2, fF2, ?_⟩, ?_, rfl⟩
            · intro g hg
              by_cases gh : g = h
              · subst gh
                refine ⟨by rw [k16, if_pos rfl, eS], by rw [k17, if_pos rfl, eN], fun p hp => ?_⟩
                rw [eN] at hp
                exact CdC_of (own1 p hp) (fun r _ => by rw [k14])
              · obtain ⟨w1, w2, w3⟩ := ahead g (by omega)
                refine ⟨by rw [k16, if_neg gh]; exact w1, by rw [k17, if_neg gh]; exact w2, fun p hp => CdC_of (w3 p hp) (fun r _ => by rw [k14])⟩
            · rw [p_ix (by omega)]; omega
          · rw [if_neg d] at eN
            have b1 : sT S h - 1 < sK S := by omega
            have hfl2 := hFX _ b1
            have hK6 := hS.1
            rw [show tI (sT S h) = nI (sT S h - 1) from if_neg d, i_nlt (by omega) (by omega), p_ck _ hh3 (by omega), p_ck _ hh3 (by omega), k16, if_pos rfl]
            have hC2 := SeC_7 hC fF2 (by decide) (by decide) (by decide) (by decide) (by decide) (by decide)
            obtain ⟨υ3, e3, n1, n2, n3⟩ := layCall_eq (o := fl S X (sF S h)) hS hC2 b1 hh3 (by omega) hz hX
            rw [e3, p_bd, p_ck _ hh3 (by omega), p_nm, p_nm, nI_add]
            have fF3 : Fr ldL σ υ3 := fF2.tr (n3.mo (by intro k hk; revert k; decide))
            refine ⟨nI (h + 1), _, ⟨h + 1, by omega, rfl, ?_, ?_, ?_, fF3.sI (by decide), ?_⟩, ?_, rfl⟩
            · rw [r_sI1 (by decide), n3.r1 13 (by decide), k13]; exact g0
            · rw [r_sI1 (by decide), n3.r1 13 (by decide), k13]; exact g1
            · rw [r_sI2, n3.r2 13 (by decide), k132]; exact g2
            · intro g hg
              by_cases gh : g = h
              · subst gh
                refine ⟨by rw [r_sI1 (by decide), n3.r1 16 (by decide), k16, if_pos rfl, eS], by rw [r_sI0, eN], fun p hp => ?_⟩
                rw [eN] at hp
                by_cases q : p < fl S X (sF S g)
                · exact CdC_of (own1 p q) (fun r _ => by rw [r_sI1 (by decide), n2 _ (by omega), k14])
                · have e : pC (PgOf S X) g p = shf (fl S X (sF S g)) (lc S X (sT S g - 1) (p - fl S X (sF S g))) := if_neg q
                  rw [e]
                  have hm := n1 (p - fl S X (sF S g)) (by omega)
                  rw [show fl S X (sF S g) + (p - fl S X (sF S g)) = p by omega] at hm
                  exact CdC_of hm (fun r _ => by rw [r_sI1 (by decide)])
              · obtain ⟨w1, w2, w3⟩ := ahead g (by omega)
                have hg26 := ((PgOf_V hS hFX).2.2.1 g (by omega)).2
                refine ⟨by rw [r_sI1 (by decide), n3.r1 16 (by decide), k16, if_neg gh]; exact w1, by rw [r_sIj gh, n3.r1 17 (by decide), k17, if_neg gh]; exact w2, fun p hp => CdC_of (w3 p hp) (fun r hr => by rw [r_sI1 (by decide), n2 _ (by omega), k14])⟩
            · rw [p_ix (by omega)]; omega
    · show 3 - ix (nI 0) < FU
      rw [p_ix (by omega), FU_v]; omega
  -- first values
  have cells : ∀ τ, τ.1 13 0 = nI (sH S) → τ.1 13 1 = nI (sM S) → Fr ldL σ τ → ∃ σ', fx (fun _ _ => none) FU (f_X1_load_L33 (fun (σ : Mm) => f_X1_load_67 (lN fz) σ) (lN fz)) (nI 0) (sL τ 13 2 (lN 0)) = some ((), σ') ∧ LdC (PgOf S X) σ' ∧ Fr ldL σ σ' := by
    intro τ t0 t1 tF
    have k0 : τ.1 12 0 = nI (sV S 0) := by rw [tF.r1 12 (by decide)]; exact c0
    have k1 : τ.1 12 1 = nI (sV S 1) := by rw [tF.r1 12 (by decide)]; exact c1
    have k2 : τ.1 12 2 = nI (sV S 2) := by rw [tF.r1 12 (by decide)]; exact c2
    have s0 : lN 0 ||| (lN (sV S 0) <<< ((nI 2 * nI 0).toInt64 &&& 63)) = lN (sV S 0) := by
      rw [l_shl (s := 0) (by decide) (by omega), l_or (s := 0) (by decide)]
      congr 1; omega
    have s1 : lN (sV S 0) ||| (lN (sV S 1) <<< ((nI 2 * nI 1).toInt64 &&& 63)) = lN (sV S 0 + 4 * sV S 1) := by
      rw [l_shl (s := 2) (by decide) (by omega), l_or (s := 2) (by omega)]
      congr 1; omega
    have s2 : lN (sV S 0 + 4 * sV S 1) ||| (lN (sV S 2) <<< ((nI 2 * nI 2).toInt64 &&& 63)) = lN (sV S 0 + 4 * sV S 1 + 16 * sV S 2) := by
      rw [l_shl (s := 4) (by decide) (by omega), l_or (s := 4) (by omega)]
      congr 1; omega
    rw [FU_v, show (40000 : Nat) = 39996 + 1 + 1 + 1 + 1 from rfl, p_fx]
    unfold f_X1_load_L33
    simp only [qi_0, qi_1, qi_2, qi_3, qi_4, qi_5, qi_6, qi_7, qi_8, qi_9, qi_10, qi_11, qi_12, qi_13, qi_14, qi_15, qi_16, qi_17, qi_19, qi_26, qi_31, qi_32, qi_35, qi_40, qi_42, qi_48, qi_50, qi_57, qi_59, qi_63, qi_64, qi_97, qi_120, qi_122, qi_210, qi_255, qi_511, qi_512, qi_1000, qi_6000, qi_13312, qi_14337, qi_16383, qi_16384, qi_524287]
    rw [i_nle (by omega) (by omega), p_ck _ (by omega) (by omega), p_ix (by omega), p_nm, r_sL1, k0, r_sL0, nI_l (by omega), s0, p_nm, nI_add, p_fx]
    rw [i_nle (by omega) (by omega), p_ck _ (by omega) (by omega), p_ix (by omega), p_nm, r_sL1, r_sL1, k1, r_sL0, nI_l (by omega), s1, p_nm, nI_add, p_fx]
    rw [i_nle (by omega) (by omega), p_ck _ (by omega) (by omega), p_ix (by omega), p_nm, r_sL1, r_sL1, r_sL1, k2, r_sL0, nI_l (by omega), s2, p_nm, nI_add, p_fx]
    rw [i_le (by omega) (by omega)]
    refine hands _ ?_ ?_ ?_ ?_
    · rw [r_sL1, r_sL1, r_sL1, r_sL1]; exact t0
    · rw [r_sL1, r_sL1, r_sL1, r_sL1]; exact t1
    · rw [r_sL0]; rfl
    · exact (((tF.sL (by decide)).sL (by decide)).sL (by decide)).sL (by decide)
  unfold f_X1_load f_X1_load_22
  simp only [qi_0, qi_1, qi_2, qi_3, qi_4, qi_5, qi_6, qi_7, qi_8, qi_9, qi_10, qi_11, qi_12, qi_13, qi_14, qi_15, qi_16, qi_17, qi_19, qi_26, qi_31, qi_32, qi_35, qi_40, qi_42, qi_48, qi_50, qi_57, qi_59, qi_63, qi_64, qi_97, qi_120, qi_122, qi_210, qi_255, qi_511, qi_512, qi_1000, qi_6000, qi_13312, qi_14337, qi_16383, qi_16384, qi_524287, ql_0, ql_1, ql_3, ql_4, ql_10, ql_12, ql_13, ql_16, ql_42, ql_157, ql_256, ql_16383, ql_524287]
  rw [p_nm, h73, r_sI1 (by decide), h77]
  by_cases m1 : sM S = 1
  · rw [i_eq m1, p_cb1, p_nm, p_nm]
    refine cells _ ?_ ?_ (((Fr.rf _ _).sI (by decide)).sI (by decide))
    · rw [r_sIj (by decide), r_sI0]
    · rw [r_sI0, m1]
  · rw [i_ne (by omega) (by omega) m1, p_cb0, p_nm, p_nm]
    refine cells _ ?_ ?_ (((Fr.rf _ _).sI (by decide)).sI (by decide))
    · rw [r_sIj (by decide), r_sI0]
    · rw [r_sI0, show sM S = 0 by omega]
