/-! PURE: a text is read in the reference -/
def UK (m : Nat) (σ τ : Mm) : Prop := (∀ c j, 50 ≤ c → c ≤ 54 → j < m → τ.1 c j = σ.1 c j) ∧ K5 σ τ ∧ Fr rsM σ τ
theorem UK_rf (m : Nat) (σ : Mm) : UK m σ σ := ⟨fun _ _ _ _ _ => rfl, K5_rf σ, Fr.rf _ _⟩
theorem UK_s {m k : Nat} {σ τ υ : Mm} (h : UK m σ τ) (h2 : Us k τ υ) (hk : m ≤ k) : UK m σ υ := ⟨fun c j a b d => (h2.1 c j a b (by omega)).trans (h.1 c j a b d), K5_tr h.2.1 h2.2.1, h.2.2.tr h2.2.2⟩
theorem UK_n {m : Nat} {σ τ υ : Mm} (h : UK m σ τ) (h1 : K5 τ υ) (h2 : Fr [48] τ υ) : UK m σ υ := UK_s h (Us_n (k := m) h1 h2) (Nat.le_refl _)
theorem CdS_5 {σ τ : Mm} {k : Nat} {f : Nat → Nat} (h : CdS σ k f) (e : ∀ c, 50 ≤ c → c ≤ 54 → τ.1 c k = σ.1 c k) : CdS τ k f := CdS_of h (e 50 (by omega) (by omega)) (e 51 (by omega) (by omega)) (e 52 (by omega) (by omega)) (e 53 (by omega) (by omega)) (e 54 (by omega) (by omega))
theorem SeM_UK {S : Su} {σ τ : Mm} (hS : SuV S) (hC : SeM S σ) (h : UK (7 * sK S) σ τ) : SeM S τ := by
  obtain ⟨c0, c7, c11, c49, cS, cH, cV⟩ := hC
  obtain ⟨u1, u2, u3⟩ := h
  refine ⟨by rw [u2 0 (by decide) (by decide) (by decide) (by decide) (by decide)]; exact c0, by rw [u2 7 (by decide) (by decide) (by decide) (by decide) (by decide)]; exact c7, by rw [u2 11 (by decide) (by decide) (by decide) (by decide) (by decide)]; exact c11, fun c hc => by rw [u3.r1 49 (by decide)]; exact c49 c hc, fun c s hc hs => ?_, fun g hg => by rw [u3.r1 55 (by decide), u3.r1 56 (by decide)]; exact cH g hg, fun c hc => by rw [u3.r1 57 (by decide)]; exact cV c hc⟩
  have := (hS.2.1 c hc).2
  exact CdS_5 (cS c s hc hs) (fun d d1 d2 => u1 d _ d1 d2 (by omega))
theorem SeM_new {S : Su} {σ τ υ : Mm} {l : Nat} {g : Nat → Nat → Nat} (hS : SuV S) (hC : SeM S σ) (h : UK (7 * sK S) σ τ) (hg : ∀ s, s < l → CdS τ (7 * sK S + s) (g s)) (e0 : υ.1 48 0 = nI (sK S + 1)) (e7 : υ.1 48 7 = τ.1 48 7) (e11 : υ.1 48 11 = τ.1 48 11) (e49 : ∀ c, υ.1 49 c = if c = sK S then nI l else τ.1 49 c) (hF : ∀ c, 50 ≤ c → c ≤ 57 → υ.1 c = τ.1 c) : SeM (newC S l g) υ := by
  obtain ⟨c0, c7, c11, c49, cS, cH, cV⟩ := SeM_UK hS hC h
  refine ⟨e0, by rw [e7]; exact c7, by rw [e11]; exact c11, fun c hc => ?_, fun c s hc hs => ?_, fun g hg => by rw [hF 55 (by omega) (by omega), hF 56 (by omega) (by omega)]; exact cH g hg, fun c hc => by rw [hF 57 (by omega) (by omega)]; exact cV c hc⟩
  · have hc : c < sK S + 1 := hc
    rw [e49 c]
    show _ = nI (upq (sN S) (sK S) l c)
    by_cases e : c = sK S
    · rw [if_pos e, e, upq_s]
    · rw [if_neg e, upq_n e]; exact c49 c (by omega)
  · have hc : c < sK S + 1 := hc
    have hs : s < upq (sN S) (sK S) l c := hs
    show CdS υ (7 * c + s) (upq (sC S) (sK S) g c s)
    by_cases e : c = sK S
    · rw [e, upq_s] at hs
      rw [e, upq_s]
      exact CdS_5 (hg s hs) (fun d d1 d2 => by rw [hF d d1 (by omega)])
    · rw [upq_n e] at hs ⊢
      exact CdS_5 (cS c s (by omega) hs) (fun d d1 d2 => by rw [hF d d1 (by omega)])
theorem prl_sl {t : Nat → Nat} {n k a f : Nat} {g : Nat → Nat → Nat} (h : prl t n k = .inr (false, a, g)) (hr : rst t n k a = .inl f) : prl t n (k + 1) = .inl f := by
  rw [prl, h]
  simp only
  rw [if_neg (by decide), hr]
theorem prl_sr {t : Nat → Nat} {n k a : Nat} {g : Nat → Nat → Nat} {z : Nat × (Nat → Nat)} (h : prl t n k = .inr (false, a, g)) (hr : rst t n k a = .inr z) : prl t n (k + 1) = if tK t n z.1 = 0 then .inr (true, k + 1, upq g k z.2) else if tK t n z.1 = 3 then .inr (false, tE t n z.1, upq g k z.2) else .inl (tS t n z.1) := by
  rw [prl, h]
  simp only
  rw [if_neg (by decide), hr]
/-- where the reader of a text stands -/
def TxG (S : Su) (t : Nat → Nat) (n : Nat) (σ : Mm) (k b : Nat) (τ : Mm) : Prop := UK (7 * sK S) σ τ ∧ k ≤ 8 ∧
  ((b = 1 ∧ ∃ a g, a ≤ n ∧ k ≤ 7 ∧ prl t n k = .inr (false, a, g) ∧ τ.1 48 28 = -nI 1 ∧ NtM t n a τ ∧ ∀ s, s < k → CdS τ (7 * sK S + s) (g s)) ∨
   (b = 0 ∧ ∃ f, f ≤ n ∧ prl t n k = .inl f ∧ τ.1 48 28 = nI f) ∨
   (b = 0 ∧ ∃ a, a ≤ n ∧ prl t n k = .inl (tS t n a) ∧ tK t n a ≠ 0 ∧ τ.1 48 28 = -nI 1 ∧ NtM t n a τ) ∨
   (b = 0 ∧ ∃ a g, a ≤ n ∧ prl t n k = .inr (true, k, g) ∧ tK t n a = 0 ∧ τ.1 48 28 = -nI 1 ∧ NtM t n a τ ∧ ∀ s, s < k → CdS τ (7 * sK S + s) (g s)))
def txM : List Nat := 49 :: rsM
def TxQ (S : Su) (t : Nat → Nat) (n : Nat) (σ : Mm) (o : Option (Int32 × Mm)) : Prop := ∃ σ', (∃ f, prl t n 8 = .inl f ∧ f ≤ n ∧ o = some (-nI 1 - nI f, σ') ∧ SeM S σ' ∧ K5 σ σ' ∧ Fr rsM σ σ') ∨
    ∃ l g, prl t n 8 = .inr (true, l, g) ∧ o = some (nI (sK S), σ') ∧ SeM (newC S l g) σ' ∧ σ'.1 48 13 = nI 0 ∧ σ'.1 48 48 = nI 0 ∧ (∀ j, j ≠ 0 → j ≠ 13 → j ≠ 48 → j ≠ 24 → j ≠ 25 → j ≠ 26 → j ≠ 27 → j ≠ 28 → σ'.1 48 j = σ.1 48 j) ∧ Fr txM σ σ'
theorem prl_up {t : Nat → Nat} {n k f : Nat} (hk : k ≤ 8) (h : prl t n k = .inl f) : prl t n 8 = .inl f := by
  have := prl_frz h (8 - k)
  rw [show k + (8 - k) = 8 by omega] at this
  exact this
theorem prl_up2 {t : Nat → Nat} {n k l : Nat} {g : Nat → Nat → Nat} (hk : k ≤ 8) (h : prl t n k = .inr (true, l, g)) : prl t n 8 = .inr (true, l, g) := by
  have := prl_frz2 h (8 - k)
  rw [show k + (8 - k) = 8 by omega] at this
  exact this
theorem mtx_end {S : Su} {t : Nat → Nat} {n k : Nat} {σ τ : Mm} (hS : SuV S) (hC : SeM S σ) (hK : sK S < 6) (hn' : n ≤ 120) (hG : TxG S t n σ k 0 τ) : TxQ S t n σ (f_X11_text_85 (nI k) τ) := by
  obtain ⟨hU, hk, h⟩ := hG
  unfold f_X11_text_85 f_X11_text_103
  simp only [qi_0, qi_1, qi_2, qi_3, qi_4, qi_5, qi_6, qi_7, qi_8, qi_9, qi_10, qi_11, qi_12, qi_13, qi_14, qi_15, qi_16, qi_17, qi_19, qi_26, qi_31, qi_32, qi_35, qi_40, qi_42, qi_48, qi_50, qi_57, qi_59, qi_63, qi_64, qi_97, qi_120, qi_122, qi_210, qi_255, qi_511, qi_512, qi_1000, qi_6000, qi_13312, qi_14337, qi_16383, qi_16384, qi_524287]
  rcases h with ⟨h, _⟩ | ⟨_, f, hf, hp, h28⟩ | ⟨_, a, ha', hp, hne, h28, hN⟩ | ⟨_, a, g, ha', hp, he, h28, hN, hg⟩
  · omega
  · rw [h28, i_le (by omega) (by omega), i_nlt (by omega) (by omega)]
    exact ⟨τ, Or.inl ⟨f, prl_up hk hp, hf, rfl, SeM_UK hS hC hU, hU.2.1, hU.2.2⟩⟩
  · have l2 := (t_le (t := t) ha').2.1
    have hk4 := tK_le t n a
    have hU2 : UK (7 * sK S) σ (sI τ 48 28 (nI (tS t n a))) := UK_n hU (fun j _ _ _ _ j5 => r_sIj j5) ((Fr.rf _ _).sI (by decide))
    rw [h28, if_neg (show ¬ nI 0 ≤ -nI 1 by rw [p_m1le]; exact fun q => q), hN.2.2.1, i_ne (by omega) (by omega) hne, mwrong_eq h28 hN.2.1, p_bd, r_sI0, i_nlt (by omega) (by omega)]
    exact ⟨_, Or.inl ⟨tS t n a, prl_up hk hp, l2, rfl, SeM_UK hS hC hU2, hU2.2.1, hU2.2.2⟩⟩
  · have h0 : τ.1 48 0 = nI (sK S) := by rw [hU.2.1 0 (by decide) (by decide) (by decide) (by decide) (by decide)]; exact hC.1
    rw [h28, if_neg (show ¬ nI 0 ≤ -nI 1 by rw [p_m1le]; exact fun q => q), hN.2.2.1, i_eq he, if_pos (show -nI 1 < nI 0 by decide), p_nm, r_sIj (by decide), h0, p_ck _ hK (by omega), p_ix (a := sK S) (by omega), p_nm, r_sI1 (by decide), r_sIj (by decide), h0, nI_add, p_nm, p_cb0, p_nm, r_sIj (by decide), r_sI0, pk_sub (by omega), show sK S + 1 - 1 = sK S by omega]
    refine ⟨_, Or.inr ⟨k, g, prl_up2 hk hp, rfl, SeM_new hS hC hU hg ?_ ?_ ?_ (fun c => ?_) (fun c c1 c2 => ?_), ?_, r_sI0, fun j j0 j13 j48 j24 j25 j26 j27 j28 => ?_, ?_⟩⟩
    · rw [r_sIj (by decide), r_sI0]
    · rw [r_sIj (by decide), r_sIj (by decide), r_sI1 (by decide), r_sIj (by decide)]
    · rw [r_sIj (by decide), r_sIj (by decide), r_sI1 (by decide), r_sIj (by decide)]
    · rw [r_sI1 (by decide), r_sI1 (by decide)]
      by_cases e : c = sK S
      · rw [if_pos e, e, r_sI0]
      · rw [if_neg e, r_sIj e, r_sI1 (by decide)]
    · rw [r_sI1 (by omega), r_sI1 (by omega), r_sI1 (by omega), r_sI1 (by omega)]
    · rw [r_sIj (by decide), r_sIj (by decide), r_sI1 (by decide), r_sI0]
    · rw [r_sIj j48, r_sIj j0, r_sI1 (by decide), r_sIj j13]
      exact hU.2.1 j j24 j25 j26 j27 j28
    · exact ((((hU.2.2.mo (by intro j hj; exact List.mem_cons_of_mem _ hj)).sI (by decide)).sI (by decide)).sI (by decide)).sI (by decide)
theorem mtext_eq {S : Su} {t : Nat → Nat} {n : Nat} {σ : Mm} (hS : SuV S) (hC : SeM S σ) (hT : TpM t n σ) (hK : sK S < 6) : TxQ S t n σ (f_X11_text σ) := by
  have hn := hT.1
  have hFa : Fr [48] σ (sI (sI σ 48 24 (nI 0)) 48 28 (-nI 1)) := ((Fr.rf _ _).sI (by decide)).sI (by decide)
  have hKa : K5 σ (sI (sI σ 48 24 (nI 0)) 48 28 (-nI 1)) := fun j j1 _ _ _ j5 => by rw [r_sIj j5, r_sIj j1]
  obtain ⟨σ1, e1, e2, e3, e4⟩ := mnext_eq (TpM_5 hT hFa hKa (by decide) (by decide)) (Nat.zero_le n) (show (sI (sI σ 48 24 (nI 0)) 48 28 (-nI 1)).1 48 24 = nI 0 by rw [r_sIj (by decide), r_sI0])
  have hU1 : UK (7 * sK S) σ σ1 := UK_n (UK_n (UK_rf _ σ) hKa hFa) (K5_N e3) e4
  unfold f_X11_text
  rw [hC.1, qi_6, i_ne (by omega) (by omega) (by omega), qi_0, qi_1, p_nm, p_nm, e1, p_bd]
  refine lq2 (bot := fun _ _ _ => none) (F := f_X11_text_L34 (fun (xq1 : Int32) (σ : Mm) => f_X11_text_85 xq1 σ)) (fun a b τ => ∃ k q, a = nI k ∧ b = nI q ∧ TxG S t n σ k q τ) (fun a b _ => 20 - 2 * ix a + ix b) (TxQ S t n σ) ?_ FU (nI 0) (nI 1) σ1 ?_ ⟨0, 1, rfl, rfl, hU1, by omega, Or.inl ⟨rfl, 0, fun _ _ => 0, Nat.zero_le n, by omega, rfl, by rw [e3 28 (by decide) (by decide) (by decide) (by decide), r_sI0], e2, fun s hs => by omega⟩⟩
  · rintro L a b τ ⟨k, q, rfl, rfl, hG⟩
    unfold f_X11_text_L34 f_X11_text_72 f_X11_text_73
    simp only [qi_0, qi_1, qi_2, qi_3, qi_4, qi_5, qi_6, qi_7, qi_8, qi_9, qi_10, qi_11, qi_12, qi_13, qi_14, qi_15, qi_16, qi_17, qi_19, qi_26, qi_31, qi_32, qi_35, qi_40, qi_42, qi_48, qi_50, qi_57, qi_59, qi_63, qi_64, qi_97, qi_120, qi_122, qi_210, qi_255, qi_511, qi_512, qi_1000, qi_6000, qi_13312, qi_14337, qi_16383, qi_16384, qi_524287]
    by_cases q1 : q = 1
    · subst q1
      obtain ⟨hU, hk8, hh⟩ := hG
      rcases hh with ⟨_, a, g, ha', hk7, hp, h28, hN, hg⟩ | ⟨h, _⟩ | ⟨h, _⟩ | ⟨h, _⟩
      · left
        have hTt := TpM_5 hT hU.2.2 hU.2.1 (by decide) (by decide)
        have h0 : τ.1 48 0 = nI (sK S) := by rw [hU.2.1 0 (by decide) (by decide) (by decide) (by decide) (by decide)]; exact hC.1
        obtain ⟨υ, f1, f2, f3, f4⟩ := mreadStep_eq hTt ha' h28 hN h0 hK (show k < 8 by omega)
        have hUu := UK_s hU f4 (by omega)
        rw [i_ne (by omega) (by omega) (by omega), h28, if_neg (show ¬ nI 0 ≤ -nI 1 by rw [p_m1le]; exact fun q => q), f1, p_bd, nI_add, p_nm]
        have stop : TxG S t n σ (k + 1) 0 υ → ∃ a' b' τ', (∃ k q, a' = nI k ∧ b' = nI q ∧ TxG S t n σ k q τ') ∧ 20 - 2 * ix a' + ix b' < 20 - 2 * ix (nI k) + ix (nI 1) ∧ L (nI (k + 1)) (nI 0) υ = L a' b' τ' := fun h => ⟨_, _, υ, ⟨k + 1, 0, rfl, rfl, h⟩, by rw [p_ix (by omega), p_ix (by omega), p_ix (by omega), p_ix (by omega)]; omega, rfl⟩
        cases hr : rst t n k a with
        | inl f =>
          rw [hr, RS_l] at f2
          rw [f2.2, i_le (by omega) (by omega), if_pos trivial]
          exact stop ⟨hUu, by omega, Or.inr (Or.inl ⟨rfl, f, f2.1, prl_sl hp hr, f2.2⟩)⟩
        | inr z =>
          rw [hr, RS_r] at f2
          obtain ⟨z1, z2, z3⟩ := f2
          have hk4 := tK_le t n z.1
          have hs := prl_sr hp hr
          have hg' : ∀ s, s < k + 1 → CdS υ (7 * sK S + s) (upq g k z.2 s) := fun s hs' => by
            by_cases e : s = k
            · rw [e, upq_s]; exact f3 z hr
            · rw [upq_n e]
              exact CdS_5 (hg s (by omega)) (fun d d1 d2 => f4.1 d _ d1 d2 (by omega))
          have hk7' : k + 1 ≤ 7 := by have := (rst_le ha' hr).2.1; omega
          rw [z2, if_neg (show ¬ nI 0 ≤ -nI 1 by rw [p_m1le]; exact fun q => q), z3.2.2.1]
          by_cases c3 : tK t n z.1 = 3
          · rw [if_neg (by omega), if_pos c3] at hs
            have hTu := TpM_5 hT hUu.2.2 hUu.2.1 (by decide) (by decide)
            obtain ⟨ρ, r1, r2, r3, r4⟩ := mnext_eq hTu (t_le z1).2.2.2 z3.1
            rw [i_eq c3, i_ne (by omega) (by omega) (by omega), r1, p_bd]
            refine ⟨_, _, ρ, ⟨k + 1, 1, rfl, rfl, UK_n hUu (K5_N r3) r4, by omega, Or.inl ⟨rfl, tE t n z.1, upq g k z.2, (t_le z1).2.2.2, hk7', hs, by rw [r3 28 (by decide) (by decide) (by decide) (by decide)]; exact z2, r2, fun s hs' => CdS_5 (hg' s hs') (fun d d1 d2 => by rw [r4.r1 d (by intro q; simp only [List.mem_singleton] at q; omega)])⟩⟩, ?_, rfl⟩
            rw [p_ix (by omega), p_ix (by omega), p_ix (by omega)]; omega
          · rw [i_ne (by omega) (by omega) c3, if_pos trivial]
            by_cases c0 : tK t n z.1 = 0
            · rw [if_pos c0] at hs
              exact stop ⟨hUu, by omega, Or.inr (Or.inr (Or.inr ⟨rfl, z.1, upq g k z.2, z1, hs, c0, z2, z3, hg'⟩))⟩
            · rw [if_neg c0, if_neg c3] at hs
              exact stop ⟨hUu, by omega, Or.inr (Or.inr (Or.inl ⟨rfl, z.1, z1, hs, c0, z2, z3⟩))⟩
      · omega
      · omega
      · omega
    · right
      have q0 : q = 0 := by
        rcases hG.2.2 with ⟨h, _⟩ | ⟨h, _⟩ | ⟨h, _⟩ | ⟨h, _⟩
        · exact absurd h q1
        · exact h
        · exact h
        · exact h
      subst q0
      rw [i_eq rfl]
      exact mtx_end hS hC hK hn hG
  · rw [p_ix (by omega), p_ix (by omega), FU_v]; omega
