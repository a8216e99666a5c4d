/-! PURE: the reference marks the states on short ways, then walks -/
def MkV (σ : Mm) (i : Nat) (p : Prop) : Prop := (p ∧ σ.1 86 i = nI 1) ∨ (¬ p ∧ σ.1 86 i = nI 0)
theorem MkV_1 {σ : Mm} {i : Nat} {p : Prop} (h : p) : MkV (sI σ 86 i (nI 1)) i p := Or.inl ⟨h, r_sI0⟩
theorem MkV_0 {σ : Mm} {i : Nat} {p : Prop} (h : ¬ p) : MkV (sI σ 86 i (nI 0)) i p := Or.inr ⟨h, r_sI0⟩
theorem MkV_j {σ : Mm} {i j : Nat} {v : Int32} {p : Prop} (hj : j ≠ i) (h : MkV σ j p) : MkV (sI σ 86 i v) j p := by
  unfold MkV
  rw [r_sIj hj]
  exact h
theorem MkV_c {σ : Mm} {i : Nat} {p q : Prop} (h : MkV σ i p) (e : p ↔ q) : MkV σ i q := by
  rcases h with ⟨h1, h2⟩ | ⟨h1, h2⟩
  · exact Or.inl ⟨e.mp h1, h2⟩
  · exact Or.inr ⟨fun q => h1 (e.mpr q), h2⟩
def mkq (E : Nat → Prop) (b : Bs) (i d : Nat) : Prop := E i ∨ ∃ d' t, d' < d ∧ G2 b (6 * i + d') = some t ∧ Rch E (G2 b) t
theorem mkq_s {E : Nat → Prop} {b : Bs} {i d : Nat} (h : mkq E b i d) : mkq E b i (d + 1) := by
  rcases h with h | ⟨d', t, h1, h2⟩
  · exact Or.inl h
  · exact Or.inr ⟨d', t, by omega, h2⟩
theorem mkq_n {E : Nat → Prop} {b : Bs} {i d : Nat} (h : ¬ mkq E b i d) (hd : ∀ t, G2 b (6 * i + d) = some t → ¬ Rch E (G2 b) t) : ¬ mkq E b i (d + 1) := by
  rintro (q | ⟨d', t, h1, h2, h3⟩)
  · exact h (Or.inl q)
  · by_cases e : d' = d
    · rw [e] at h2; exact hd t h2 h3
    · exact h (Or.inr ⟨d', t, by omega, h2, h3⟩)
theorem mkq_6 {E : Nat → Prop} {b : Bs} {i : Nat} : mkq E b i 6 ↔ Rch E (G2 b) i := by
  constructor
  · rintro (q | ⟨d', t, h1, h2, h3⟩)
    · exact Rch_0 q
    · exact Rch_s h1 h2 h3
  · intro h
    rcases Rch_inv h with h | ⟨d, t, h1, h2, h3⟩
    · exact Or.inl h
    · exact Or.inr ⟨d, t, h1, h2, h3⟩
section
variable {nx : Nat → Nat → Option Nat} {x0 e r : Nat} {b : Bs} {E : Nat → Prop} {σ : Mm}
theorem mmark_st (hB : BI nx x0 e b) (hN : bN b ≤ 6000) (he : 36000 ≤ e) (h83 : ∀ d, d < 6 * bN b → σ.1 83 d = iO (bG b d)) (h84 : ∀ i, i < bN b → σ.1 84 i = nI (bD b i)) {m : Nat} (c : m ≠ 0) (hm : m ≤ bN b) (K : Mm → Option (Unit × Mm)) (L' : Int32 → Mm → Option (Unit × Mm)) (d : Nat) (υ : Mm) (hd : d < 6) (v1 : MkV υ (m - 1) (mkq E b (m - 1) d)) (v2 : ∀ i, m ≤ i → i < bN b → MkV υ i (Rch E (G2 b) i)) (v3 : Fr [86] σ υ) :
    ∃ σ', (MkV σ' (m - 1) (mkq E b (m - 1) (d + 1)) ∧ (∀ i, m ≤ i → i < bN b → MkV σ' i (Rch E (G2 b) i)) ∧ Fr [86] σ σ') ∧ f_X11_findWay_L34 K (nI r) (nI (m - 1)) L' (nI d) υ = L' (nI (d + 1)) σ' := by
  have hi : m - 1 < bN b := by omega
  have s83 : υ.1 83 (6 * (m - 1) + d) = iO (bG b (6 * (m - 1) + d)) := by rw [v3.r1 83 (by decide)]; exact h83 _ (by omega)
  unfold f_X11_findWay_L34 f_X11_findWay_101 f_X11_findWay_105 f_X11_findWay_106
  simp only [qi_0, qi_1, qi_2, qi_3, qi_4, qi_5, qi_6, qi_7, qi_8, qi_9, qi_10, qi_11, qi_12, qi_13, qi_14, qi_15, qi_16, qi_17, qi_19, qi_26, qi_31, qi_32, qi_35, qi_40, qi_42, qi_48, qi_50, qi_57, qi_59, qi_63, qi_64, qi_97, qi_120, qi_122, qi_210, qi_255, qi_511, qi_512, qi_1000, qi_6000, qi_13312, qi_14337, qi_16383, qi_16384, qi_524287]
  rw [i_nle (by omega) (by omega), pk_mul, nI_add, p_ck _ (by omega) (by omega), p_ix (a := 6 * (m - 1) + d) (by omega), p_nm, p_ck _ (by omega) (by omega), p_ix (a := m - 1) (by omega)]
  have y1 : mkq E b (m - 1) (d + 1) → ∃ σ', (MkV σ' (m - 1) (mkq E b (m - 1) (d + 1)) ∧ (∀ i, m ≤ i → i < bN b → MkV σ' i (Rch E (G2 b) i)) ∧ Fr [86] σ σ') ∧ ck (nI (m - 1)) 6001 (cb (nI 1) (nm (sI υ 86 (m - 1) (nI 1)) (fun σ4 => nm (nI d + nI 1) (fun vq5 => L' vq5 σ4)))) = L' (nI (d + 1)) σ' := by
    intro q
    rw [p_ck _ (by omega) (by omega), p_cb1, p_nm, nI_add, p_nm]
    exact ⟨_, ⟨MkV_1 q, fun i i1 i2 => MkV_j (by omega) (v2 i i1 i2), v3.sI (by decide)⟩, rfl⟩
  have y0 : ¬ mkq E b (m - 1) (d + 1) → ∃ σ', (MkV σ' (m - 1) (mkq E b (m - 1) (d + 1)) ∧ (∀ i, m ≤ i → i < bN b → MkV σ' i (Rch E (G2 b) i)) ∧ Fr [86] σ σ') ∧ ck (nI (m - 1)) 6001 (cb (nI 0) (nm (sI υ 86 (m - 1) (nI 0)) (fun σ4 => nm (nI d + nI 1) (fun vq5 => L' vq5 σ4)))) = L' (nI (d + 1)) σ' := by
    intro q
    rw [p_ck _ (by omega) (by omega), p_cb0, p_nm, nI_add, p_nm]
    exact ⟨_, ⟨MkV_0 q, fun i i1 i2 => MkV_j (by omega) (v2 i i1 i2), v3.sI (by decide)⟩, rfl⟩
  rcases v1 with ⟨v1, w1⟩ | ⟨v1, w1⟩
  · rw [w1, i_ne (by omega) (by omega) (by omega)]
    exact y1 (mkq_s v1)
  · rw [w1, i_eq rfl, s83]
    cases hg : bG b (6 * (m - 1) + d) with
    | none =>
      rw [show iO none = -nI 1 from rfl, i_m1le (by omega)]
      refine y0 (mkq_n v1 (fun t ht => ?_))
      rw [G2_n hg] at ht; cases ht
    | some t =>
      obtain ⟨t1, _⟩ := BI_edge hB hN he (by omega) hg
      have e6 : (6 * (m - 1) + d) / 6 = m - 1 := by omega
      have hno : (bD b t ≠ bD b (m - 1) + 1 ∨ ¬ Rch E (G2 b) t) → ¬ mkq E b (m - 1) (d + 1) := by
        intro q
        refine mkq_n v1 (fun t' ht' => ?_)
        obtain ⟨k1, k2⟩ := G2_s ht'
        rw [hg] at k1
        rw [← Option.some.inj k1] at k2 ⊢
        rw [e6] at k2
        rcases q with q | q
        · exact absurd k2 q
        · exact q
      rw [show iO (some t) = nI t from rfl]
      by_cases c2 : t ≤ m - 1
      · rw [i_le (by omega) c2]
        exact y0 (hno (Or.inl (by have := BI_far hB (m - 1) hi t c2; omega)))
      · rw [i_nle (by omega) (by omega), p_ck _ (by omega) (by omega), p_ix (a := t) (by omega)]
        rcases v2 t (by omega) t1 with ⟨z1, z2⟩ | ⟨z1, z2⟩
        · have s1 : υ.1 84 t = nI (bD b t) := by rw [v3.r1 84 (by decide)]; exact h84 t t1
          have s2 : υ.1 84 (m - 1) = nI (bD b (m - 1)) := by rw [v3.r1 84 (by decide)]; exact h84 _ hi
          have l1 := (BI_D0 hB t1).2
          have l2 := (BI_D0 hB hi).2
          rw [z2, i_ne (by omega) (by omega) (by omega), p_ck _ (by omega) (by omega), p_ck _ (by omega) (by omega), s1, s2, nI_add]
          by_cases c3 : bD b t = bD b (m - 1) + 1
          · rw [i_eq c3]
            exact y1 (Or.inr ⟨d, t, by omega, G2_y hg (by rw [e6]; exact c3), z1⟩)
          · rw [i_ne (by omega) (by omega) c3]
            exact y0 (hno (Or.inl c3))
        · rw [z2, i_eq rfl]
          exact y0 (hno (Or.inr z1))
theorem mmark_in (hB : BI nx x0 e b) (hN : bN b ≤ 6000) (he : 36000 ≤ e) (h83 : ∀ d, d < 6 * bN b → σ.1 83 d = iO (bG b d)) (h84 : ∀ i, i < bN b → σ.1 84 i = nI (bD b i)) {m : Nat} (c : m ≠ 0) (hm : m ≤ bN b) (L : Int32 → Mm → Option (Unit × Mm)) (υ : Mm) (u1 : MkV υ (m - 1) (mkq E b (m - 1) 0)) (u2 : ∀ i, m ≤ i → i < bN b → MkV υ i (Rch E (G2 b) i)) (u3 : Fr [86] σ υ) : ∃ a' τ', (∃ m', m' ≤ bN b ∧ a' = nI m' - nI 1 ∧ (∀ i, m' ≤ i → i < bN b → MkV τ' i (Rch E (G2 b) i)) ∧ Fr [86] σ τ') ∧ ix (a' + nI 1) < ix (nI (m - 1) + nI 1) ∧ fx (fun _ _ => none) FU (f_X11_findWay_L34 (fun (σ : Mm) => f_X11_findWay_113 L (nI r) (nI (m - 1)) σ) (nI r) (nI (m - 1))) (0 : Int32) υ = L a' τ' := by
  rw [qi_0]
  have hi : m - 1 < bN b := by omega
  obtain ⟨ρ, ⟨g1, g2, g3⟩, g4⟩ := lqU (F := f_X11_findWay_L34 (fun (σ : Mm) => f_X11_findWay_113 L (nI r) (nI (m - 1)) σ) (nI r) (nI (m - 1))) (bot := fun _ _ => none) (fun (σ : Mm) => f_X11_findWay_113 L (nI r) (nI (m - 1)) σ) 6 (fun d υ => MkV υ (m - 1) (mkq E b (m - 1) d) ∧ (∀ i, m ≤ i → i < bN b → MkV υ i (Rch E (G2 b) i)) ∧ Fr [86] σ υ) (by
      intro L' υ _
      unfold f_X11_findWay_L34
      simp only [qi_0, qi_1, qi_2, qi_3, qi_4, qi_5, qi_6, qi_7, qi_8, qi_9, qi_10, qi_11, qi_12, qi_13, qi_14, qi_15, qi_16, qi_17, qi_19, qi_26, qi_31, qi_32, qi_35, qi_40, qi_42, qi_48, qi_50, qi_57, qi_59, qi_63, qi_64, qi_97, qi_120, qi_122, qi_210, qi_255, qi_511, qi_512, qi_1000, qi_6000, qi_13312, qi_14337, qi_16383, qi_16384, qi_524287]
      rw [i_le (by omega) (by omega)]) (by
      rintro L' d υ hd ⟨v1, v2, v3⟩
      exact mmark_st hB hN he h83 h84 c hm _ L' d υ hd v1 v2 v3) FU 0 υ (by omega) (by rw [FU_v]; omega) ⟨u1, u2, u3⟩
  rw [g4]
  unfold f_X11_findWay_113
  simp only [qi_0, qi_1, qi_2, qi_3, qi_4, qi_5, qi_6, qi_7, qi_8, qi_9, qi_10, qi_11, qi_12, qi_13, qi_14, qi_15, qi_16, qi_17, qi_19, qi_26, qi_31, qi_32, qi_35, qi_40, qi_42, qi_48, qi_50, qi_57, qi_59, qi_63, qi_64, qi_97, qi_120, qi_122, qi_210, qi_255, qi_511, qi_512, qi_1000, qi_6000, qi_13312, qi_14337, qi_16383, qi_16384, qi_524287]
  rw [dn_n, p_nm]
  refine ⟨nI (m - 1) - nI 1, ρ, ⟨m - 1, by omega, rfl, fun i i1 i2 => ?_, g3⟩, ?_, rfl⟩
  · by_cases e : i = m - 1
    · rw [e]; exact MkV_c g1 mkq_6
    · exact g2 i (by omega) i2
  · have e1 : nI (m - 1) - nI 1 + nI 1 = nI (m - 1) := Int32.sub_add_cancel _ _
    rw [e1, nI_add, p_ix (by omega), p_ix (by omega)]; omega

theorem mmark_eq (hB : BI nx x0 e b) (hN : bN b ≤ 6000) (he : 36000 ≤ e) (hE : ∀ i, i < bN b → (σ.1 87 i = nI r ↔ E i)) (h83 : ∀ d, d < 6 * bN b → σ.1 83 d = iO (bG b d)) (h84 : ∀ i, i < bN b → σ.1 84 i = nI (bD b i)) (K : Mm → Option (Unit × Mm)) :
    ∃ τ, (∀ i, i < bN b → MkV τ i (Rch E (G2 b) i)) ∧ Fr [86] σ τ ∧ fx (fun _ _ => none) FU (f_X11_findWay_L7 K (nI r)) (nI (bN b) - nI 1) σ = K τ := by
  refine lq1 (bot := fun _ _ => none) (F := f_X11_findWay_L7 K (nI r)) (fun a τ => ∃ m, m ≤ bN b ∧ a = nI m - nI 1 ∧ (∀ i, m ≤ i → i < bN b → MkV τ i (Rch E (G2 b) i)) ∧ Fr [86] σ τ) (fun a _ => ix (a + nI 1)) (fun o => ∃ τ, (∀ i, i < bN b → MkV τ i (Rch E (G2 b) i)) ∧ Fr [86] σ τ ∧ o = K τ) ?_ FU _ σ ?_ ⟨bN b, Nat.le_refl _, rfl, fun i h1 h2 => by omega, Fr.rf _ _⟩
  · rintro L a τ ⟨m, hm, rfl, hM, hF⟩
    unfold f_X11_findWay_L7
    simp only [qi_0, qi_1, qi_2, qi_3, qi_4, qi_5, qi_6, qi_7, qi_8, qi_9, qi_10, qi_11, qi_12, qi_13, qi_14, qi_15, qi_16, qi_17, qi_19, qi_26, qi_31, qi_32, qi_35, qi_40, qi_42, qi_48, qi_50, qi_57, qi_59, qi_63, qi_64, qi_97, qi_120, qi_122, qi_210, qi_255, qi_511, qi_512, qi_1000, qi_6000, qi_13312, qi_14337, qi_16383, qi_16384, qi_524287]
    by_cases c : m = 0
    · right
      subst c
      rw [dn_0, i_m1lt (by omega)]
      exact ⟨τ, fun i hi => hM i (by omega) hi, hF, rfl⟩
    · left
      have hi : m - 1 < bN b := by omega
      have h87 : τ.1 87 (m - 1) = σ.1 87 (m - 1) := by rw [hF.r1 87 (by decide)]
      rw [dn_s (by omega), i_nlt (by omega) (by omega), p_ck _ (by omega) (by omega), p_ix (a := m - 1) (by omega), h87]
      have mz : mkq E b (m - 1) 0 ↔ E (m - 1) := ⟨fun q => by
        rcases q with q | ⟨d, t, h, _⟩
        · exact q
        · omega, Or.inl⟩
      by_cases cE : E (m - 1)
      · rw [if_pos ((hE _ hi).mpr cE)]
        unfold f_X11_findWay_31
        rw [p_ck _ (by omega) (by omega), p_cb1, p_ix (a := m - 1) (by omega), p_nm]
        exact mmark_in hB hN he h83 h84 c hm L _ (MkV_1 (mz.mpr cE)) (fun i i1 i2 => MkV_j (by omega) (hM i i1 i2)) (hF.sI (by decide))
      · rw [if_neg (fun q => cE ((hE _ hi).mp q))]
        unfold f_X11_findWay_31
        rw [p_ck _ (by omega) (by omega), p_cb0, p_ix (a := m - 1) (by omega), p_nm]
        exact mmark_in hB hN he h83 h84 c hm L _ (MkV_0 (fun q => cE (mz.mp q))) (fun i i1 i2 => MkV_j (by omega) (hM i i1 i2)) (hF.sI (by decide))
  · have e1 : nI (bN b) - nI 1 + nI 1 = nI (bN b) := Int32.sub_add_cancel _ _
    rw [e1, p_ix (by omega), FU_v]; omega
end
