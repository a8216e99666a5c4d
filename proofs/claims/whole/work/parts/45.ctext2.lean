/-! PURE: the class reads a call: steps, and the whole -/
theorem readStep_eq {t : Nat → Nat} {n a c place : Nat} {σ : Mm} (hT : TpC t n σ) (ha : a ≤ n) (h31 : σ.1 3 1 = nI a) (h70 : σ.1 7 0 = nI c) (hc : c < 6) (hp : place < 8) :
    ∃ σ', ((∃ f, rst t n place a = .inl f ∧ f_X3_readStep (nI place) σ = some (nI 0, σ') ∧ σ'.1 3 2 = nI f) ∨ ∃ z, rst t n place a = .inr z ∧ place < 7 ∧ f_X3_readStep (nI place) σ = some (nI 1, σ') ∧ σ'.1 3 1 = nI z.1 ∧ CdC σ' 9 ((c * 7 + place) * 5) z.2) ∧ (∀ j, (j < (c * 7 + place) * 5 ∨ (c * 7 + place) * 5 + 5 ≤ j) → σ'.1 9 j = σ.1 9 j) ∧ Fr rdL σ σ' := by
  obtain ⟨σ1, e1, m1, m2, m3, m4, m5⟩ := nextToken_eq hT ha h31
  have hn := hT.1
  obtain ⟨l1, l2, l3, l4⟩ := t_le (t := t) ha
  have hT1 := TpC_fr hT m5
  have hF1 : Fr rdL σ σ1 := m5.mo (by intro k hk; revert k; decide)
  have hk4 : tK t n a ≤ 4 := by unfold tK; split <;> (try split) <;> (try split) <;> (try split) <;> omega
  have keep1 : ∀ j, (j < (c * 7 + place) * 5 ∨ (c * 7 + place) * 5 + 5 ≤ j) → σ1.1 9 j = σ.1 9 j := fun j _ => by rw [m5.r1 9 (by decide)]
  unfold f_X3_readStep rst
  simp only [qi_0, qi_1, qi_2, qi_3, qi_4, qi_5, qi_6, qi_7, qi_8, qi_9, qi_10, qi_11, qi_12, qi_13, qi_14, qi_15, qi_16, qi_17, qi_19, qi_26, qi_31, qi_32, qi_35, qi_40, qi_42, qi_48, qi_50, qi_57, qi_59, qi_63, qi_64, qi_97, qi_120, qi_122, qi_210, qi_255, qi_511, qi_512, qi_1000, qi_6000, qi_13312, qi_14337, qi_16383, qi_16384, qi_524287]
  rw [e1, p_bd, m3]
  by_cases k1 : tK t n a = 1
  · rw [i_eq k1]
    by_cases p7 : place < 7
    · rw [i_lt (by omega) p7, if_pos ⟨k1, p7⟩, latest_eq hT1 l3 l4 m1 m2, p_bd]
      have hb : (c * 7 + place) * 5 + 4 < 210 := by omega
      show ∃ σ', ((∃ f, (match tW t n a with | none => Sum.inl (tS t n a) | some w => rpt t n w place (tE t n a) 4) = .inl f ∧ _) ∨ _) ∧ _
      have htw : tW t n a = wrd t (tS t n a) (tE t n a) 9 := rfl
      rw [← htw]
      cases hw : tW t n a with
      | none =>
        refine ⟨σ1, Or.inl ⟨tS t n a, rfl, ?_, m2⟩, keep1, hF1⟩
        rw [show iO none = -nI 1 from rfl, if_neg (show ¬ nI 0 ≤ -nI 1 by rw [p_m1le]; exact fun q => q), p_cb0]
      | some w =>
        have hw9 := tW_lt hw
        obtain ⟨s2, s3⟩ := stV_ok hw9
        rw [show iO (some w) = nI w from rfl, i_le (by omega) (by omega), p_ck _ hw9 (by omega), p_ix (by omega), s2, m5.r1 7 (by decide), h70, putPart_eq (by omega), p_bd]
        -- the parts
        have loop : ∃ σ', ((∃ f, rpt t n w place (tE t n a) 4 = .inl f ∧ fx (fun _ _ => none) FU (f_X3_readStep_L49 (nI place) (nI w)) (nI 1) (sI σ1 9 ((c * 7 + place) * 5 + 0) (nI (kdw w))) = some (nI 0, σ') ∧ σ'.1 3 2 = nI f) ∨ ∃ z, rpt t n w place (tE t n a) 4 = .inr z ∧ place < 7 ∧ fx (fun _ _ => none) FU (f_X3_readStep_L49 (nI place) (nI w)) (nI 1) (sI σ1 9 ((c * 7 + place) * 5 + 0) (nI (kdw w))) = some (nI 1, σ') ∧ σ'.1 3 1 = nI z.1 ∧ CdC σ' 9 ((c * 7 + place) * 5) z.2) ∧ (∀ j, (j < (c * 7 + place) * 5 ∨ (c * 7 + place) * 5 + 5 ≤ j) → σ'.1 9 j = σ.1 9 j) ∧ Fr rdL σ σ' := by
          refine lq1 (F := f_X3_readStep_L49 (nI place) (nI w)) (fun x τ => ∃ k z, k ≤ 4 ∧ x = nI (k + 1) ∧ rpt t n w place (tE t n a) k = .inr z ∧ τ.1 3 1 = nI z.1 ∧ τ.1 9 ((c * 7 + place) * 5) = nI (kdw w) ∧ (∀ r, 0 < r → r ≤ k → τ.1 9 ((c * 7 + place) * 5 + r) = if hpw w r then nI (z.2 r) else -nI 1) ∧ (∀ j, (j < (c * 7 + place) * 5 ∨ (c * 7 + place) * 5 + 5 ≤ j) → τ.1 9 j = σ.1 9 j) ∧ Fr rdL σ τ) (fun x _ => 6 - ix x) (fun o => ∃ σ', ((∃ f, rpt t n w place (tE t n a) 4 = .inl f ∧ o = some (nI 0, σ') ∧ σ'.1 3 2 = nI f) ∨ ∃ z, rpt t n w place (tE t n a) 4 = .inr z ∧ place < 7 ∧ o = some (nI 1, σ') ∧ σ'.1 3 1 = nI z.1 ∧ CdC σ' 9 ((c * 7 + place) * 5) z.2) ∧ (∀ j, (j < (c * 7 + place) * 5 ∨ (c * 7 + place) * 5 + 5 ≤ j) → σ'.1 9 j = σ.1 9 j) ∧ Fr rdL σ σ') ?_ FU (nI 1) _ ?_ ⟨0, _, by omega, rfl, rfl, by rw [r_sI1 (by decide)]; exact m1, by rw [Nat.add_zero, r_sI0], fun r r0 rk => by omega, fun j hj => by rw [r_sIj (by omega)]; exact keep1 j hj, hF1.sI (by decide)⟩
          · rintro L x τ ⟨k, z, hk, rfl, hz, u1, u2, u3, u4, u5⟩
            have hzn := rpt_le l4 k z hz
            unfold f_X3_readStep_L49 f_X3_readStep_105
            simp only [qi_0, qi_1, qi_2, qi_3, qi_4, qi_5, qi_6, qi_7, qi_8, qi_9, qi_10, qi_11, qi_12, qi_13, qi_14, qi_15, qi_16, qi_17, qi_19, qi_26, qi_31, qi_32, qi_35, qi_40, qi_42, qi_48, qi_50, qi_57, qi_59, qi_63, qi_64, qi_97, qi_120, qi_122, qi_210, qi_255, qi_511, qi_512, qi_1000, qi_6000, qi_13312, qi_14337, qi_16383, qi_16384, qi_524287]
            by_cases ck4 : k = 4
            · right
              subst ck4
              obtain ⟨g1, g2, g3⟩ := rpt_0 4 z hz
              obtain ⟨kd1, kd2, kd3, kd4, kd5⟩ := kdw_ok hw9
              refine ⟨τ, Or.inr ⟨z, hz, p7, by rw [i_le (by omega) (by omega), p_cb1], u1, ?_⟩, u4, u5⟩
              unfold CdC
              rw [g1]
              refine ⟨u2, fun x y => ?_, fun x => ?_, fun x => ?_, fun x => ?_⟩
              · rw [u3 1 (by omega) (by omega), if_pos (kd2 x y)]
              · rw [u3 2 (by omega) (by omega)]
                by_cases hp2 : hpw w 2 = true
                · have := g2 2 (by omega) (by omega) hp2
                  have e : hst 2 place = 3 := rfl
                  rw [if_pos hp2]; exact (if_neg (by omega)).symm
                · rw [if_neg hp2, g3 2 (by omega) (Or.inr (by simpa using hp2))]; rfl
              · rw [u3 3 (by omega) (by omega), if_pos (kd4 x)]
              · rw [u3 4 (by omega) (by omega), if_pos (kd5 x)]
            · rw [i_nle (by omega) (by omega), p_ck _ hw9 (by omega), p_ix (a := w) (by omega)]
              have hc7 : ∀ υ : Mm, Fr rdL σ υ → υ.1 7 0 = nI c := fun υ h => by rw [h.r1 7 (by decide)]; exact h70
              have hst4 : ∀ f, rpt t n w place (tE t n a) (k + 1) = .inl f → rpt t n w place (tE t n a) 4 = .inl f := by
                intro f hf
                have key : ∀ j, rpt t n w place (tE t n a) (k + 1 + j) = .inl f := by
                  intro j
                  induction j with
                  | zero => exact hf
                  | succ j ih => rw [show k + 1 + (j + 1) = k + 1 + j + 1 by omega, rpt, ih]
                have := key (3 - k)
                rw [show k + 1 + (3 - k) = 4 by omega] at this
                exact this
              by_cases hp2 : hpw w (k + 1) = true
              · rw [if_pos ((s3 (k + 1) (by omega)).mpr hp2)]
                have hTt : TpC t n τ := ⟨hT.1, by rw [u5.r1 4 (by decide)]; exact hT.2.1, fun i hi => by rw [u5.r1 5 (by decide)]; exact hT.2.2 i hi⟩
                obtain ⟨τ1, e2, n1, n2, n3, n4, n5⟩ := nextToken_eq hTt hzn u1
                have hF2 : Fr rdL σ τ1 := u5.tr (n5.mo (by intro k hk; revert k; decide))
                have hkz : tK t n z.1 ≤ 4 := by unfold tK; split <;> (try split) <;> (try split) <;> (try split) <;> omega
                have keep2 : ∀ j, τ1.1 9 j = τ.1 9 j := fun j => by rw [n5.r1 9 (by decide)]
                rw [e2, p_bd, n3]
                by_cases kz : tK t n z.1 = 2
                · have hst5 : hst (k + 1) place ≤ 7 := by unfold hst; split <;> (try split) <;> omega
                  rw [i_eq kz, highest_eq (by omega) hp, p_bd, n4 kz]
                  by_cases cv2 : tV t n z.1 ≤ hst (k + 1) place
                  · left
                    have hmin : min 1000 (tV t n z.1) = tV t n z.1 := by omega
                    rw [hmin, i_le (by omega) cv2, p_nm, hc7 _ hF2, putPart_eq (by omega), p_bd, nI_add, p_nm]
                    have hz1 : rpt t n w place (tE t n a) (k + 1) = .inr (tE t n z.1, upq z.2 (k + 1) (tV t n z.1)) := by rw [rpt, hz]; simp only; rw [if_pos hp2, if_pos ⟨kz, cv2⟩]
                    refine ⟨nI (k + 1 + 1), _, ⟨k + 1, _, by omega, rfl, hz1, by rw [r_sI1 (by decide)]; exact n1, by rw [r_sIj (by omega), keep2]; exact u2, ?_, fun j hj => by rw [r_sIj (by omega), keep2]; exact u4 j hj, hF2.sI (by decide)⟩, ?_, rfl⟩
                    · intro r r0 rk
                      by_cases er : r = k + 1
                      · rw [er, r_sI0, if_pos hp2]
                        show _ = nI (upq z.2 (k + 1) (tV t n z.1) (k + 1))
                        rw [upq_s]
                      · rw [r_sIj (by omega), keep2, u3 r r0 (by omega)]
                        show _ = if hpw w r then nI (upq z.2 (k + 1) (tV t n z.1) r) else -nI 1
                        rw [upq_n er]
                    · rw [p_ix (by omega), p_ix (by omega)]; omega
                  · right
                    have hz1 : rpt t n w place (tE t n a) (k + 1) = .inl (tS t n z.1) := by rw [rpt, hz]; simp only; rw [if_pos hp2, if_neg (fun q => cv2 q.2)]
                    refine ⟨τ1, Or.inl ⟨_, hst4 _ hz1, by rw [i_nle (by omega) (by omega), p_cb0], n2⟩, fun j hj => by rw [keep2]; exact u4 j hj, hF2⟩
                · right
                  have hz1 : rpt t n w place (tE t n a) (k + 1) = .inl (tS t n z.1) := by rw [rpt, hz]; simp only; rw [if_pos hp2, if_neg (fun q => kz q.1)]
                  refine ⟨τ1, Or.inl ⟨_, hst4 _ hz1, by rw [i_ne (by omega) (by omega) kz, p_cb0], n2⟩, fun j hj => by rw [keep2]; exact u4 j hj, hF2⟩
              · left
                rw [if_neg (fun q => hp2 ((s3 (k + 1) (by omega)).mp q)), hc7 _ u5, putPart_eq (by omega), p_bd, nI_add, p_nm]
                have hz1 : rpt t n w place (tE t n a) (k + 1) = .inr z := by rw [rpt, hz]; simp only; rw [if_neg hp2]
                refine ⟨nI (k + 1 + 1), _, ⟨k + 1, z, by omega, rfl, hz1, by rw [r_sI1 (by decide)]; exact u1, by rw [r_sIj (by omega)]; exact u2, ?_, fun j hj => by rw [r_sIj (by omega)]; exact u4 j hj, u5.sI (by decide)⟩, ?_, rfl⟩
                · intro r r0 rk
                  by_cases er : r = k + 1
                  · rw [er, r_sI0, if_neg hp2]
                  · rw [r_sIj (by omega)]; exact u3 r r0 (by omega)
                · rw [p_ix (by omega), p_ix (by omega)]; omega
          · rw [p_ix (by omega), FU_v]; omega
        exact loop
    · rw [i_nlt (by omega) (by omega), if_neg (fun q => p7 q.2)]
      exact ⟨σ1, Or.inl ⟨tS t n a, rfl, by rw [p_cb0], m2⟩, keep1, hF1⟩
  · rw [i_ne (by omega) (by omega) k1, if_neg (fun q => k1 q.1)]
    exact ⟨σ1, Or.inl ⟨tS t n a, rfl, by rw [p_cb0], m2⟩, keep1, hF1⟩
/-- a whole call: its fault; or, at its end (true), how many steps; or where it goes on -/
def prl (t : Nat → Nat) (n : Nat) : Nat → Nat ⊕ (Bool × Nat × (Nat → Nat → Nat))
  | 0 => .inr (false, 0, fun _ _ => 0)
  | k + 1 => match prl t n k with
    | .inl f => .inl f
    | .inr y => if y.1 then .inr y else match rst t n k y.2.1 with
      | .inl f => .inl f
      | .inr z => if tK t n z.1 = 0 then .inr (true, k + 1, upq y.2.2 k z.2) else if tK t n z.1 = 3 then .inr (false, tE t n z.1, upq y.2.2 k z.2) else .inl (tS t n z.1)
/-- the new call, or the fault -/
def newC (S : Su) (l : Nat) (g : Nat → Nat → Nat) : Su := (sK S + 1, upq (sN S) (sK S) l, upq (sC S) (sK S) g, S.2.2.2)
theorem rst_le {t : Nat → Nat} {n place a : Nat} {z : Nat × (Nat → Nat)} (ha : a ≤ n) (h : rst t n place a = .inr z) : z.1 ≤ n ∧ place < 7 ∧ CdV z.2 place := by
  unfold rst at h
  split at h
  · rename_i hc
    split at h
    · cases h
    · rename_i w hw
      exact ⟨rpt_le (t_le ha).2.2.2 4 z h, hc.2, rpt_V (tW_lt hw) h⟩
  · cases h
theorem rst_f {t : Nat → Nat} {n place a f : Nat} (hn : n ≤ 120) (ha : a ≤ n) (h : rst t n place a = .inl f) : f ≤ n := by
  have rp : ∀ w b, b ≤ n → ∀ k f, rpt t n w place b k = .inl f → f ≤ n := by
    intro w b hb k
    induction k with
    | zero => intro f h; simp only [rpt] at h; cases h
    | succ k ih =>
      intro f h
      rw [rpt] at h
      cases h1 : rpt t n w place b k with
      | inl f2 => rw [h1] at h; simp only [Sum.inl.injEq] at h; rw [← h]; exact ih f2 h1
      | inr y =>
        rw [h1] at h
        simp only at h
        split at h
        · split at h
          · cases h
          · simp only [Sum.inl.injEq] at h
            rw [← h]; exact (t_le (rpt_le hb k y h1)).2.1
        · cases h
  unfold rst at h
  split at h
  · split at h
    · simp only [Sum.inl.injEq] at h
      rw [← h]; exact (t_le ha).2.1
    · exact rp _ _ (t_le ha).2.2.2 4 f h
  · simp only [Sum.inl.injEq] at h
    rw [← h]; exact (t_le ha).2.1
theorem prl_frz {t : Nat → Nat} {n k f : Nat} (h : prl t n k = .inl f) : ∀ j, prl t n (k + j) = .inl f := by
  intro j
  induction j with
  | zero => exact h
  | succ j ih => rw [show k + (j + 1) = k + j + 1 by omega, prl, ih]
theorem prl_frz2 {t : Nat → Nat} {n k l : Nat} {g : Nat → Nat → Nat} (h : prl t n k = .inr (true, l, g)) : ∀ j, prl t n (k + j) = .inr (true, l, g) := by
  intro j
  induction j with
  | zero => exact h
  | succ j ih => rw [show k + (j + 1) = k + j + 1 by omega, prl, ih]; rfl
theorem prl_ok {t : Nat → Nat} {n : Nat} : ∀ k y, prl t n k = .inr y → (y.1 = false → y.2.1 ≤ n ∧ k ≤ 7 ∧ ∀ s, s < k → CdV (y.2.2 s) s) ∧ (y.1 = true → 1 ≤ y.2.1 ∧ y.2.1 ≤ 7 ∧ ∀ s, s < y.2.1 → CdV (y.2.2 s) s) := by
  intro k
  induction k with
  | zero =>
    intro y h
    simp only [prl, Sum.inr.injEq] at h
    subst h
    exact ⟨fun _ => ⟨by show 0 ≤ n; omega, by omega, fun s hs => by omega⟩, fun q => by cases q⟩
  | succ k ih =>
    intro y h
    rw [prl] at h
    cases h1 : prl t n k with
    | inl f => rw [h1] at h; cases h
    | inr x =>
      rw [h1] at h
      obtain ⟨i1, i2⟩ := ih x h1
      simp only at h
      split at h
      · rename_i hx
        simp only [Sum.inr.injEq] at h
        subst h
        exact ⟨(fun q => by rw [hx] at q; cases q), i2⟩
      · rename_i hx
        have hx : x.1 = false := by simpa using hx
        obtain ⟨j1, j2, j3⟩ := i1 hx
        split at h
        · cases h
        · rename_i z hz
          obtain ⟨z1, z2, z3⟩ := rst_le j1 hz
          have hall : ∀ s, s < k + 1 → CdV (upq x.2.2 k z.2 s) s := by
            intro s hs
            by_cases e : s = k
            · rw [e, upq_s]; exact z3
            · rw [upq_n e]; exact j3 s (by omega)
          split at h
          · simp only [Sum.inr.injEq] at h
            subst h
            exact ⟨(fun q => by cases q), fun _ => ⟨by show 1 ≤ k + 1; omega, by show k + 1 ≤ 7; omega, hall⟩⟩
          · split at h
            · simp only [Sum.inr.injEq] at h
              subst h
              exact ⟨fun _ => ⟨(t_le z1).2.2.2, by omega, hall⟩, (fun q => by cases q)⟩
            · cases h
theorem prl_8 {t : Nat → Nat} {n : Nat} : ∀ y, prl t n 8 = .inr y → y.1 = true := by
  intro y h
  cases hy : y.1 with
  | true => rfl
  | false => have := ((prl_ok 8 y h).1 hy).2.1; omega
theorem faultOf_eq {S : Su} {t : Nat → Nat} {n : Nat} {σ : Mm} (hS : SuV S) (hC : SeC S 7 σ) (hT : TpC t n σ) (hK : sK S < 6) :
    ∃ σ', ((∃ f, prl t n 8 = .inl f ∧ f ≤ n ∧ f_X3_faultOfNewCall σ = some (nI f, σ') ∧ SeC S 7 σ') ∨ ∃ l g, prl t n 8 = .inr (true, l, g) ∧ f_X3_faultOfNewCall σ = some (-nI 1, σ') ∧ SeC (newC S l g) 7 σ') ∧ Fr [3, 7, 8, 9] σ σ' := by
  have hn := hT.1
  have h70 := hC.1
  unfold f_X3_faultOfNewCall
  simp only [qi_0, qi_1, qi_2, qi_3, qi_4, qi_5, qi_6, qi_7, qi_8, qi_9, qi_10, qi_11, qi_12, qi_13, qi_14, qi_15, qi_16, qi_17, qi_19, qi_26, qi_31, qi_32, qi_35, qi_40, qi_42, qi_48, qi_50, qi_57, qi_59, qi_63, qi_64, qi_97, qi_120, qi_122, qi_210, qi_255, qi_511, qi_512, qi_1000, qi_6000, qi_13312, qi_14337, qi_16383, qi_16384, qi_524287]
  rw [p_nm]
  -- what stays of the calls ahead
  have stay : ∀ τ : Mm, (∀ j, j < sK S * 7 * 5 → τ.1 9 j = σ.1 9 j) → Fr rdL σ τ → SeC S 7 τ := by
    intro τ h9 hF
    obtain ⟨a1, a2, a3, a4, a5, a6, a7⟩ := hC
    refine ⟨by rw [hF.r1 7 (by decide)]; exact a1, by rw [hF.r1 7 (by decide)]; exact a2, by rw [hF.r1 7 (by decide)]; exact a3, fun c hc => ?_, fun c s hc hs => ?_, fun h hh => ?_, fun d hd => ?_⟩
    · have : τ.1 8 = σ.1 8 := hF.r1 8 (by decide)
      show τ.1 8 c = _
      rw [this]; exact a4 c hc
    · have h7 := (hS.2.1 c hc).2
      have h1 : CdC σ 9 ((c * 7 + s) * 5) (sC S c s) := a5 c s hc hs
      show CdC τ 9 ((c * 7 + s) * 5) (sC S c s)
      exact CdC_of h1 (fun r hr => h9 _ (by omega))
    · have e1 : τ.1 10 = σ.1 10 := hF.r1 10 (by decide)
      have e2 : τ.1 11 = σ.1 11 := hF.r1 11 (by decide)
      show τ.1 10 h = _ ∧ τ.1 11 h = _
      rw [e1, e2]; exact a6 h hh
    · have e1 : τ.1 12 = σ.1 12 := hF.r1 12 (by decide)
      show τ.1 12 d = _
      rw [e1]; exact a7 d hd
  refine lq1 (F := f_X3_faultOfNewCall_L7 (fun (xq2 : Int32) (σ : Mm) => f_X3_faultOfNewCall_38 xq2 σ)) (fun x τ => ∃ k a g, k ≤ 7 ∧ x = nI k ∧ prl t n k = .inr (false, a, g) ∧ τ.1 3 1 = nI a ∧ (∀ s, s < k → CdC τ 9 ((sK S * 7 + s) * 5) (g s)) ∧ (∀ j, j < sK S * 7 * 5 → τ.1 9 j = σ.1 9 j) ∧ Fr rdL σ τ) (fun x _ => 9 - ix x) (fun o => ∃ σ', ((∃ f, prl t n 8 = .inl f ∧ f ≤ n ∧ o = some (nI f, σ') ∧ SeC S 7 σ') ∨ ∃ l g, prl t n 8 = .inr (true, l, g) ∧ o = some (-nI 1, σ') ∧ SeC (newC S l g) 7 σ') ∧ Fr [3, 7, 8, 9] σ σ') ?_ FU (nI 0) _ ?_ ⟨0, 0, fun _ _ => 0, by omega, rfl, rfl, r_sI0, fun s hs => by omega, fun j _ => by rw [r_sI1 (by decide)], (Fr.rf _ _).sI (by decide)⟩
  · rintro L x τ ⟨k, a, g, hk, rfl, hpr, u1, u2, u3, u4⟩
    obtain ⟨ok1, ok2, ok3⟩ := (prl_ok k _ hpr).1 rfl
    have ok1 : a ≤ n := ok1
    have hTt : TpC t n τ := ⟨hT.1, by rw [u4.r1 4 (by decide)]; exact hT.2.1, fun i hi => by rw [u4.r1 5 (by decide)]; exact hT.2.2 i hi⟩
    obtain ⟨τ1, e1, e2, e3⟩ := readStep_eq hTt ok1 u1 (by rw [u4.r1 7 (by decide)]; exact h70) hK (show k < 8 by omega)
    have hF1 : Fr rdL σ τ1 := u4.tr e3
    have k9 : ∀ j, j < sK S * 7 * 5 → τ1.1 9 j = σ.1 9 j := fun j hj => by rw [e2 j (by omega)]; exact u3 j hj
    unfold f_X3_faultOfNewCall_L7
    simp only [qi_0, qi_1, qi_2, qi_3, qi_4, qi_5, qi_6, qi_7, qi_8, qi_9, qi_10, qi_11, qi_12, qi_13, qi_14, qi_15, qi_16, qi_17, qi_19, qi_26, qi_31, qi_32, qi_35, qi_40, qi_42, qi_48, qi_50, qi_57, qi_59, qi_63, qi_64, qi_97, qi_120, qi_122, qi_210, qi_255, qi_511, qi_512, qi_1000, qi_6000, qi_13312, qi_14337, qi_16383, qi_16384, qi_524287]
    rw [i_nlt (by omega) (by omega)]
    have wide : ∀ τ2, Fr rdL σ τ2 → Fr [3, 7, 8, 9] σ τ2 := fun τ2 h => h.mo (by intro k hk; revert k; decide)
    rcases e1 with ⟨f, hf, r1, r2⟩ | ⟨z, hz, p7, r1, r2, r3⟩
    · right
      have h1 : prl t n (k + 1) = .inl f := by rw [prl, hpr]; simp only [hf]; rfl
      have h8 := prl_frz h1 (7 - k)
      rw [show k + 1 + (7 - k) = 8 by omega] at h8
      rw [r1, p_bd, i_eq rfl, r2]
      exact ⟨τ1, Or.inl ⟨f, h8, rst_f hn ok1 hf, rfl, stay τ1 k9 hF1⟩, wide _ hF1⟩
    · obtain ⟨zn, _, zV⟩ := rst_le ok1 hz
      have hT1 : TpC t n τ1 := ⟨hT.1, by rw [hF1.r1 4 (by decide)]; exact hT.2.1, fun i hi => by rw [hF1.r1 5 (by decide)]; exact hT.2.2 i hi⟩
      obtain ⟨τ2, e4, n1, n2, n3, n4, n5⟩ := nextToken_eq hT1 zn r2
      have hF2 : Fr rdL σ τ2 := hF1.tr (n5.mo (by intro k hk; revert k; decide))
      have k92 : ∀ j, τ2.1 9 j = τ1.1 9 j := fun j => by rw [n5.r1 9 (by decide)]
      have k9' : ∀ j, j < sK S * 7 * 5 → τ2.1 9 j = σ.1 9 j := fun j hj => by rw [k92]; exact k9 j hj
      have hkz : tK t n z.1 ≤ 4 := by unfold tK; split <;> (try split) <;> (try split) <;> (try split) <;> omega
      have code : ∀ s, s < k + 1 → CdC τ2 9 ((sK S * 7 + s) * 5) (upq g k z.2 s) := by
        intro s hs
        by_cases e : s = k
        · rw [e, upq_s]; exact CdC_of r3 (fun r _ => k92 _)
        · rw [upq_n e]
          exact CdC_of (u2 s (by omega)) (fun r hr => by rw [k92, e2 _ (by omega)])
      have hst1 : prl t n (k + 1) = if tK t n z.1 = 0 then .inr (true, k + 1, upq g k z.2) else if tK t n z.1 = 3 then .inr (false, tE t n z.1, upq g k z.2) else .inl (tS t n z.1) := by
        rw [prl, hpr]; simp only [hz]; rfl
      rw [r1, p_bd, i_ne (by omega) (by omega) (by omega), e4, p_bd, n3]
      by_cases c0 : tK t n z.1 = 0
      · right
        rw [if_pos c0] at hst1
        have h8 := prl_frz2 hst1 (7 - k)
        rw [show k + 1 + (7 - k) = 8 by omega] at h8
        rw [i_eq c0]
        unfold f_X3_faultOfNewCall_38
        simp only [qi_0, qi_1, qi_2, qi_3, qi_4, qi_5, qi_6, qi_7, qi_8, qi_9, qi_10, qi_11, qi_12, qi_13, qi_14, qi_15, qi_16, qi_17, qi_19, qi_26, qi_31, qi_32, qi_35, qi_40, qi_42, qi_48, qi_50, qi_57, qi_59, qi_63, qi_64, qi_97, qi_120, qi_122, qi_210, qi_255, qi_511, qi_512, qi_1000, qi_6000, qi_13312, qi_14337, qi_16383, qi_16384, qi_524287]
        have g70 : τ2.1 7 0 = nI (sK S) := by rw [hF2.r1 7 (by decide)]; exact h70
        rw [g70, p_ck _ hK (by omega), p_ix (by omega), nI_add, p_nm, r_sI1 (by decide), g70, nI_add, p_nm]
        obtain ⟨a1, a2, a3, a4, a5, a6, a7⟩ := stay τ2 k9' hF2
        refine ⟨_, Or.inr ⟨k + 1, upq g k z.2, h8, rfl, ?_⟩, ((wide _ hF2).sI (by decide)).sI (by decide)⟩
        refine ⟨r_sI0, by rw [r_sIj (by decide), r_sI1 (by decide)]; exact a2, by rw [r_sIj (by decide), r_sI1 (by decide)]; exact a3, fun c hc => ?_, fun c s hc hs => ?_, fun h hh => ?_, fun d hd => ?_⟩
        · have hc : c < sK S + 1 := hc
          show (sI (sI τ2 8 (sK S) (nI (k + 1))) 7 0 (nI (sK S + 1))).1 8 c = nI (upq (sN S) (sK S) (k + 1) c)
          rw [r_sI1 (by decide)]
          by_cases e : c = sK S
          · rw [e, r_sI0, upq_s]
          · rw [r_sIj e, upq_n e]; exact a4 c (by omega)
        · have hc : c < sK S + 1 := hc
          have hs : s < upq (sN S) (sK S) (k + 1) c := hs
          show CdC (sI (sI τ2 8 (sK S) (nI (k + 1))) 7 0 (nI (sK S + 1))) 9 ((c * 7 + s) * 5) (upq (sC S) (sK S) (upq g k z.2) c s)
          by_cases e : c = sK S
          · rw [e, upq_s] at hs ⊢
            exact CdC_of (code s hs) (fun r _ => by rw [r_sI1 (by decide), r_sI1 (by decide)])
          · rw [upq_n e] at hs ⊢
            have h9 : CdC τ2 9 ((c * 7 + s) * 5) (sC S c s) := a5 c s (by omega) hs
            exact CdC_of h9 (fun r _ => by rw [r_sI1 (by decide), r_sI1 (by decide)])
        · show (sI (sI τ2 8 (sK S) (nI (k + 1))) 7 0 (nI (sK S + 1))).1 10 h = _ ∧ (sI (sI τ2 8 (sK S) (nI (k + 1))) 7 0 (nI (sK S + 1))).1 11 h = _
          rw [r_sI1 (by decide), r_sI1 (by decide), r_sI1 (by decide), r_sI1 (by decide)]; exact a6 h hh
        · show (sI (sI τ2 8 (sK S) (nI (k + 1))) 7 0 (nI (sK S + 1))).1 12 d = _
          rw [r_sI1 (by decide), r_sI1 (by decide)]; exact a7 d hd
      · rw [if_neg c0] at hst1
        rw [i_ne (by omega) (by omega) c0]
        by_cases c3 : tK t n z.1 = 3
        · left
          rw [if_pos c3] at hst1
          rw [i_eq c3, nI_add, p_nm]
          refine ⟨nI (k + 1), τ2, ⟨k + 1, _, _, by omega, rfl, hst1, n1, code, k9', hF2⟩, ?_, rfl⟩
          rw [p_ix (by omega), p_ix (by omega)]; omega
        · right
          rw [if_neg c3] at hst1
          have h8 := prl_frz hst1 (7 - k)
          rw [show k + 1 + (7 - k) = 8 by omega] at h8
          rw [i_ne (by omega) (by omega) c3, n2]
          exact ⟨τ2, Or.inl ⟨_, h8, (t_le zn).2.1, rfl, stay τ2 k9' hF2⟩, wide _ hF2⟩
  · rw [p_ix (by omega), FU_v]; omega
theorem newC_V {S : Su} {t : Nat → Nat} {n l : Nat} {g : Nat → Nat → Nat} (hS : SuV S) (hK : sK S < 6) (h : prl t n 8 = .inr (true, l, g)) : SuV (newC S l g) := by
  obtain ⟨p1, p2, p3⟩ := (prl_ok 8 _ h).2 rfl
  have p1 : 1 ≤ l := p1
  have p2 : l ≤ 7 := p2
  have p3 : ∀ s, s < l → CdV (g s) s := p3
  obtain ⟨a1, a2, a3, a4, a5, a6, a7⟩ := hS
  refine ⟨by show sK S + 1 ≤ 6; omega, fun c hc => ?_, fun c s hc hs => ?_, a4, fun h hh => ?_, a6, a7⟩
  · have hc : c < sK S + 1 := hc
    show 1 ≤ upq (sN S) (sK S) l c ∧ upq (sN S) (sK S) l c ≤ 7
    by_cases e : c = sK S
    · rw [e, upq_s]; exact ⟨p1, p2⟩
    · rw [upq_n e]; exact a2 c (by omega)
  · have hc : c < sK S + 1 := hc
    have hs : s < upq (sN S) (sK S) l c := hs
    show CdV (upq (sC S) (sK S) g c s) s
    by_cases e : c = sK S
    · rw [e, upq_s] at hs ⊢; exact p3 s hs
    · rw [upq_n e] at hs ⊢; exact a3 c s (by omega) hs
  · obtain ⟨b1, b2⟩ := a5 h hh
    exact ⟨by show sF S h < sK S + 1; omega, by show sT S h ≤ sK S + 1; omega⟩
