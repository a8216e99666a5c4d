/-! PURE: a number, a step in the reference -/
def K5 (σ τ : Mm) : Prop := ∀ j, j ≠ 24 → j ≠ 25 → j ≠ 26 → j ≠ 27 → j ≠ 28 → τ.1 48 j = σ.1 48 j
theorem K5_rf (σ : Mm) : K5 σ σ := fun _ _ _ _ _ _ => rfl
theorem K5_tr {σ τ υ : Mm} (h1 : K5 σ τ) (h2 : K5 τ υ) : K5 σ υ := fun j a b c d e => (h2 j a b c d e).trans (h1 j a b c d e)
theorem K5_N {σ τ : Mm} (h : KN σ τ) : K5 σ τ := fun j a b c d _ => h j a b c d
theorem TpM_5 {t : Nat → Nat} {n : Nat} {σ τ : Mm} {L : List Nat} (h : TpM t n σ) (hF : Fr L σ τ) (hK : K5 σ τ) (h1 : 58 ∉ L) (h2 : 65 ∉ L) : TpM t n τ := ⟨h.1, by rw [hK 13 (by decide) (by decide) (by decide) (by decide) (by decide)]; exact h.2.1, fun i hi => by rw [hF.r1 58 h1]; exact h.2.2.1 i hi, fun w hw => by rw [hF.r2 65 h2]; exact h.2.2.2 w hw⟩
/-- where the reader stands: at a fault, or ahead of a place -/
def RS (t : Nat → Nat) (n : Nat) (x : Nat ⊕ (Nat × (Nat → Nat))) (σ : Mm) : Prop := match x with
  | .inl f => f ≤ n ∧ σ.1 48 28 = nI f
  | .inr z => z.1 ≤ n ∧ σ.1 48 28 = -nI 1 ∧ NtM t n z.1 σ
theorem RS_l {t : Nat → Nat} {n f : Nat} {σ : Mm} : RS t n (.inl f) σ = (f ≤ n ∧ σ.1 48 28 = nI f) := rfl
theorem RS_r {t : Nat → Nat} {n : Nat} {z : Nat × (Nat → Nat)} {σ : Mm} : RS t n (.inr z) σ = (z.1 ≤ n ∧ σ.1 48 28 = -nI 1 ∧ NtM t n z.1 σ) := rfl
theorem RS_of {t : Nat → Nat} {n : Nat} {x : Nat ⊕ (Nat × (Nat → Nat))} {σ τ : Mm} (h : RS t n x σ) (e : τ.1 48 = σ.1 48) : RS t n x τ := by
  cases x with
  | inl f => rw [RS_l] at h ⊢; rw [e]; exact h
  | inr z => rw [RS_r] at h ⊢; exact ⟨h.1, by rw [e]; exact h.2.1, NtM_of h.2.2 (fun j _ _ => by rw [e])⟩
theorem mwrong_eq {s : Nat} {σ : Mm} (h28 : σ.1 48 28 = -nI 1) (h25 : σ.1 48 25 = nI s) : f_X11_wrong σ = some ((), sI σ 48 28 (nI s)) := by
  unfold f_X11_wrong
  simp only [qi_0, qi_1, qi_2, qi_3, qi_4, qi_5, qi_6, qi_7, qi_8, qi_9, qi_10, qi_11, qi_12, qi_13, qi_14, qi_15, qi_16, qi_17, qi_19, qi_26, qi_31, qi_32, qi_35, qi_40, qi_42, qi_48, qi_50, qi_57, qi_59, qi_63, qi_64, qi_97, qi_120, qi_122, qi_210, qi_255, qi_511, qi_512, qi_1000, qi_6000, qi_13312, qi_14337, qi_16383, qi_16384, qi_524287]
  rw [h28, if_neg (show ¬ nI 0 ≤ -nI 1 by rw [p_m1le]; exact fun q => q), h25, p_nm]
theorem rpt_s {t : Nat → Nat} {n w place b k : Nat} {z : Nat × (Nat → Nat)} (h : rpt t n w place b k = .inr z) : rpt t n w place b (k + 1) = if hpw w (k + 1) then (if tK t n z.1 = 2 ∧ tV t n z.1 ≤ hst (k + 1) place then .inr (tE t n z.1, upq z.2 (k + 1) (tV t n z.1)) else .inl (tS t n z.1)) else .inr z := by
  rw [rpt, h]
theorem rpt_sl {t : Nat → Nat} {n w place b k f : Nat} (h : rpt t n w place b k = .inl f) : rpt t n w place b (k + 1) = .inl f := by
  rw [rpt, h]
theorem rpt_no {t : Nat → Nat} {n w place b k : Nat} (h : hpw w (k + 1) = false) : rpt t n w place b (k + 1) = rpt t n w place b k := by
  cases hr : rpt t n w place b k with
  | inl f => exact rpt_sl hr
  | inr z => rw [rpt_s hr, h, if_neg (by decide)]
theorem rpt_pre {t : Nat → Nat} {n w place b k : Nat} {z' : Nat × (Nat → Nat)} (h : rpt t n w place b (k + 1) = .inr z') : ∃ z, rpt t n w place b k = .inr z ∧ ∀ r, r ≠ k + 1 → z'.2 r = z.2 r := by
  cases hr : rpt t n w place b k with
  | inl f => rw [rpt_sl hr] at h; cases h
  | inr z =>
    refine ⟨z, rfl, fun r hr' => ?_⟩
    rw [rpt_s hr] at h
    split at h
    · split at h
      · have := Sum.inr.inj h
        rw [← this]
        exact upq_n hr'
      · cases h
    · rw [Sum.inr.inj h]
def Vl (t : Nat → Nat) (n w place b k r : Nat) (v : Int32) : Prop := ∀ z, rpt t n w place b k = .inr z → v = nI (z.2 r)
theorem Vl_s {t : Nat → Nat} {n w place b k r : Nat} {v : Int32} (h : Vl t n w place b k r v) (hr : r ≠ k + 1) : Vl t n w place b (k + 1) r v := by
  intro z' hz'
  obtain ⟨z, h1, h2⟩ := rpt_pre hz'
  rw [h z h1, h2 r hr]
theorem mnum_eq {t : Nat → Nat} {n w place b k : Nat} {σ : Mm} (hT : TpM t n σ) (hp : place < 8) (hk : k < 4) (hw : hpw w (k + 1) = true) (hR : RS t n (rpt t n w place b k) σ) : ∃ v σ', f_X11_number (nI (hst (k + 1) place)) σ = some (v, σ') ∧ RS t n (rpt t n w place b (k + 1)) σ' ∧ Vl t n w place b (k + 1) (k + 1) v ∧ K5 σ σ' ∧ Fr [48] σ σ' := by
  have hn := hT.1
  have hh : hst (k + 1) place < 8 := by unfold hst; split <;> (try split) <;> omega
  unfold f_X11_number
  simp only [qi_0, qi_1, qi_2, qi_3, qi_4, qi_5, qi_6, qi_7, qi_8, qi_9, qi_10, qi_11, qi_12, qi_13, qi_14, qi_15, qi_16, qi_17, qi_19, qi_26, qi_31, qi_32, qi_35, qi_40, qi_42, qi_48, qi_50, qi_57, qi_59, qi_63, qi_64, qi_97, qi_120, qi_122, qi_210, qi_255, qi_511, qi_512, qi_1000, qi_6000, qi_13312, qi_14337, qi_16383, qi_16384, qi_524287]
  cases hr : rpt t n w place b k with
  | inl f =>
    rw [hr, RS_l] at hR
    have h1 := rpt_sl hr
    rw [hR.2, i_nlt (by omega) (by omega), h1]
    refine ⟨_, σ, rfl, by rw [RS_l]; exact hR, fun z hz => ?_, K5_rf σ, Fr.rf _ _⟩
    rw [h1] at hz; cases hz
  | inr z =>
    rw [hr, RS_r] at hR
    obtain ⟨z1, z2, z3⟩ := hR
    obtain ⟨l1, l2, l3, l4⟩ := t_le (t := t) z1
    have h1 := rpt_s hr
    rw [hw, if_pos rfl] at h1
    have tk4 : tK t n z.1 ≤ 4 := by
      unfold tK
      split
      · omega
      · split
        · omega
        · split
          · omega
          · split <;> omega
    rw [z2, if_pos (show -nI 1 < nI 0 by decide), z3.2.2.1]
    have bad : ¬ (tK t n z.1 = 2 ∧ tV t n z.1 ≤ hst (k + 1) place) → ∃ v σ', bd (f_X11_wrong σ) (fun _ σ1 => some (nI 0, σ1)) = some (v, σ') ∧ RS t n (rpt t n w place b (k + 1)) σ' ∧ Vl t n w place b (k + 1) (k + 1) v ∧ K5 σ σ' ∧ Fr [48] σ σ' := by
      intro hb
      rw [if_neg hb] at h1
      rw [mwrong_eq z2 z3.2.1, p_bd, h1]
      refine ⟨_, _, rfl, by rw [RS_l]; exact ⟨l2, r_sI0⟩, fun z' hz' => ?_, fun j _ _ _ _ j5 => r_sIj j5, (Fr.rf _ _).sI (by decide)⟩
      rw [h1] at hz'; cases hz'
    by_cases k2 : tK t n z.1 = 2
    · have hv27 := z3.2.2.2.2 k2
      have hvl : tV t n z.1 < 10000 := by
        unfold tV
        refine nv_lt (fun _ => Or.inr trivial) _ (fun j hj => ?_)
        unfold tK at k2
        split at k2
        · omega
        · split at k2
          · omega
          · split at k2
            · rename_i a1 a2 a3
              have he : tE t n z.1 = rnE isD t n (tS t n z.1) := by
                unfold tE
                rw [if_neg a1, if_neg a2, if_pos a3]
              rw [he] at hj
              exact rnE_all (f := isD) (t := t) (n := n) _ (tS t n z.1) rfl (tS t n z.1 + j) (by omega) (by omega)
            · split at k2 <;> omega
      rw [i_eq k2, hv27]
      by_cases kv : tV t n z.1 ≤ hst (k + 1) place
      · rw [if_pos ⟨k2, kv⟩] at h1
        obtain ⟨σ', e1, e2, e3, e4⟩ := mnext_eq hT l4 z3.1
        rw [i_le (by omega) kv, p_nm, e1, p_bd, h1]
        refine ⟨_, σ', rfl, by rw [RS_r]; exact ⟨l4, by rw [e3 28 (by decide) (by decide) (by decide) (by decide)]; exact z2, e2⟩, fun z' hz' => ?_, K5_N e3, e4⟩
        rw [h1] at hz'
        rw [← Sum.inr.inj hz']
        show _ = nI (upq z.2 (k + 1) (tV t n z.1) (k + 1))
        rw [upq_s]
      · rw [i_nle (by omega) (by omega)]
        exact bad (fun q => kv q.2)
    · rw [i_ne (by omega) (by omega) k2]
      exact bad (fun q => k2 q.1)
