/-! PURE: the reference walks; the way to the worst -/
section
variable {nx : Nat → Nat → Option Nat} {x0 e r w : Nat} {b : Bs} {E : Nat → Prop} {σ : Mm}
theorem mwalk_eq (hB : BI nx x0 e b) (hN : bN b ≤ 6000) (he : 36000 ≤ e) (hw : w < bN b) (hEw : E w) (hEu : ∀ i, i < bN b → E i → i = w) (hE : ∀ i, i < bN b → (σ.1 87 i = nI r ↔ E i)) (h83 : ∀ d, d < 6 * bN b → σ.1 83 d = iO (bG b d)) (h84 : ∀ i, i < bN b → σ.1 84 i = nI (bD b i)) (hMk : ∀ i, i < bN b → MkV σ i (Rch E (G2 b) i)) :
    ∃ τ, f_X11_findWay_119 (nI r) σ = some ((), τ) ∧ τ.1 48 63 = nI (bD b w) ∧ (∀ i, i < bD b w → τ.1 91 i = nI (mOf (mvp b w i))) ∧ (∀ j, j ≠ 63 → τ.1 48 j = σ.1 48 j) ∧ Fr [48, 91] σ τ := by
  have hDw := (BI_D0 hB hw).2
  unfold f_X11_findWay_119
  simp only [qi_0, qi_1, qi_2, qi_3, qi_4, qi_5, qi_6, qi_7, qi_8, qi_9, qi_10, qi_11, qi_12, qi_13, qi_14, qi_15, qi_16, qi_17, qi_19, qi_26, qi_31, qi_32, qi_35, qi_40, qi_42, qi_48, qi_50, qi_57, qi_59, qi_63, qi_64, qi_97, qi_120, qi_122, qi_210, qi_255, qi_511, qi_512, qi_1000, qi_6000, qi_13312, qi_14337, qi_16383, qi_16384, qi_524287]
  rw [p_nm]
  refine lq1 (F := f_X11_findWay_L126 (nI r)) (fun a τ => ∃ m, m ≤ bD b w ∧ a = nI (anc b w (bD b w - m)) ∧ τ.1 48 63 = nI m ∧ (∀ i, i < m → τ.1 91 i = nI (mOf (mvp b w i))) ∧ (∀ j, j ≠ 63 → τ.1 48 j = σ.1 48 j) ∧ Fr [48, 91] σ τ) (fun _ τ => 6001 - ix (τ.1 48 63)) (fun o => ∃ τ, o = some ((), τ) ∧ τ.1 48 63 = nI (bD b w) ∧ (∀ i, i < bD b w → τ.1 91 i = nI (mOf (mvp b w i))) ∧ (∀ j, j ≠ 63 → τ.1 48 j = σ.1 48 j) ∧ Fr [48, 91] σ τ) ?_ FU (nI 0) _ ?_ ⟨0, by omega, ?_, r_sI0, fun i hi => by omega, fun j hj => r_sIj hj, (Fr.rf _ _).sI (by decide)⟩
  · rintro L a τ ⟨m, hm, rfl, t63, t91, tJ, tF⟩
    obtain ⟨a1, a2⟩ := anc_ok hB hw (bD b w - m) (by omega)
    have h87 : τ.1 87 (anc b w (bD b w - m)) = σ.1 87 (anc b w (bD b w - m)) := by rw [tF.r1 87 (by decide)]
    have hs83 : ∀ d, d < 6 * bN b → τ.1 83 d = iO (bG b d) := fun d hd => by rw [tF.r1 83 (by decide)]; exact h83 d hd
    have hs84 : ∀ i, i < bN b → τ.1 84 i = nI (bD b i) := fun i hi => by rw [tF.r1 84 (by decide)]; exact h84 i hi
    have hsM : ∀ i, i < bN b → MkV τ i (Rch E (G2 b) i) := fun i hi => by unfold MkV; rw [tF.r1 86 (by decide)]; exact hMk i hi
    unfold f_X11_findWay_L126
    simp only [qi_0, qi_1, qi_2, qi_3, qi_4, qi_5, qi_6, qi_7, qi_8, qi_9, qi_10, qi_11, qi_12, qi_13, qi_14, qi_15, qi_16, qi_17, qi_19, qi_26, qi_31, qi_32, qi_35, qi_40, qi_42, qi_48, qi_50, qi_57, qi_59, qi_63, qi_64, qi_97, qi_120, qi_122, qi_210, qi_255, qi_511, qi_512, qi_1000, qi_6000, qi_13312, qi_14337, qi_16383, qi_16384, qi_524287]
    rw [p_ck _ (by omega) (by omega), p_ix (a := anc b w (bD b w - m)) (by omega), h87]
    by_cases c : m = bD b w
    · right
      rw [c, Nat.sub_self, anc, if_pos ((hE w hw).mpr hEw)]
      exact ⟨τ, rfl, by rw [t63, c], fun i hi => t91 i (by omega), tJ, tF⟩
    · left
      obtain ⟨s1, s2, s3, s4, s5, s6⟩ := way_step hB hN he hw hEw hEu (show m < bD b w by omega)
      rw [if_neg (fun q => s2 ((hE _ s1).mp q)), t63, p_ix (a := m) (by omega)]
      generalize hx : anc b w (bD b w - m) = x at *
      generalize hk : mvp b w m = k at *
      generalize hy : anc b w (bD b w - (m + 1)) = y at *
      have e6 : ∀ d, d < 6 → (6 * x + d) / 6 = x := fun d hd => by omega
      have l2 := (BI_D0 hB s1).2
      obtain ⟨g1, g2⟩ := G2_s s4
      rw [e6 k s3] at g2
      obtain ⟨y1, _⟩ := BI_edge hB hN he (show 6 * x + k < 6 * bN b by omega) g1
      have inner : ∀ K : Int32 → Mm → Option (Unit × Mm), fx (fun _ _ => none) FU (f_X11_findWay_L138 K (nI r) (nI x)) (nI 0) τ = K (nI k) τ := by
        intro K
        refine lq1 (F := f_X11_findWay_L138 K (nI r) (nI x)) (fun a υ => ∃ d, d ≤ k ∧ a = nI d ∧ υ = τ) (fun a _ => 6 - ix a) (fun o => o = K (nI k) τ) ?_ FU (nI 0) τ ?_ ⟨0, by omega, rfl, rfl⟩
        · rintro L' a υ ⟨d, hd, rfl, rfl⟩
          have b83 := hs83 (6 * x + d) (by omega)
          unfold f_X11_findWay_L138 f_X11_findWay_198
          simp only [qi_0, qi_1, qi_2, qi_3, qi_4, qi_5, qi_6, qi_7, qi_8, qi_9, qi_10, qi_11, qi_12, qi_13, qi_14, qi_15, qi_16, qi_17, qi_19, qi_26, qi_31, qi_32, qi_35, qi_40, qi_42, qi_48, qi_50, qi_57, qi_59, qi_63, qi_64, qi_97, qi_120, qi_122, qi_210, qi_255, qi_511, qi_512, qi_1000, qi_6000, qi_13312, qi_14337, qi_16383, qi_16384, qi_524287]
          rw [pk_mul, nI_add, p_ck _ (by omega) (by omega), p_ix (a := 6 * x + d) (by omega), b83]
          by_cases cd : d = k
          · right
            rw [cd, g1, show iO (some y) = nI y from rfl, i_nlt (by omega) (by omega), p_ck _ (by omega) (by omega), p_ck _ (by omega) (by omega), p_ix (a := y) (by omega)]
            rcases hsM y y1 with ⟨_, z2⟩ | ⟨z1, _⟩
            · rw [z2, i_ne (by omega) (by omega) (by omega), p_ck _ (by omega) (by omega), p_ck _ (by omega) (by omega), p_ck _ (by omega) (by omega), p_ix (a := x) (by omega), hs84 y y1, hs84 x s1, nI_add, i_eq g2]
            · exact absurd s5 z1
          · left
            rw [p_ix (a := d) (by omega)]
            have fin : nm (nI d + nI 1) (fun vq8 => L' vq8 υ) = L' (nI (d + 1)) υ := by rw [nI_add, p_nm]
            have fin2 : ∀ o, o = L' (nI (d + 1)) υ → ∃ a' υ', (∃ d, d ≤ k ∧ a' = nI d ∧ υ' = υ) ∧ 6 - ix a' < 6 - d ∧ o = L' a' υ' := fun o ho' => ⟨nI (d + 1), υ, ⟨d + 1, by omega, rfl, rfl⟩, by rw [p_ix (by omega)]; omega, ho'⟩
            rw [fin]
            cases hg : bG b (6 * x + d) with
            | none =>
              rw [show iO none = -nI 1 from rfl, i_m1lt (by omega)]
              exact fin2 _ rfl
            | some t =>
              obtain ⟨t1, _⟩ := BI_edge hB hN he (show 6 * x + d < 6 * bN b by omega) hg
              have l1 := (BI_D0 hB t1).2
              rw [show iO (some t) = nI t from rfl, i_nlt (by omega) (by omega), p_ck _ (by omega) (by omega), p_ck _ (by omega) (by omega), p_ix (a := t) (by omega)]
              rcases hsM t t1 with ⟨z1, z2⟩ | ⟨z1, z2⟩
              · have hne : bD b t ≠ bD b x + 1 := fun q => s6 d t (by omega) (G2_y hg (by rw [e6 d (by omega)]; exact q)) z1
                rw [z2, i_ne (by omega) (by omega) (by omega), p_ck _ (by omega) (by omega), p_ck _ (by omega) (by omega), p_ck _ (by omega) (by omega), p_ix (a := x) (by omega), hs84 t t1, hs84 x s1, nI_add, i_ne (by omega) (by omega) hne]
                exact fin2 _ rfl
              · rw [z2, i_eq rfl]
                exact fin2 _ rfl
        · rw [p_ix (by omega), FU_v]; omega
      rw [inner]
      unfold f_X11_findWay_204
      simp only [qi_0, qi_1, qi_2, qi_3, qi_4, qi_5, qi_6, qi_7, qi_8, qi_9, qi_10, qi_11, qi_12, qi_13, qi_14, qi_15, qi_16, qi_17, qi_19, qi_26, qi_31, qi_32, qi_35, qi_40, qi_42, qi_48, qi_50, qi_57, qi_59, qi_63, qi_64, qi_97, qi_120, qi_122, qi_210, qi_255, qi_511, qi_512, qi_1000, qi_6000, qi_13312, qi_14337, qi_16383, qi_16384, qi_524287]
      have b83 := hs83 (6 * x + k) (by omega)
      rw [moveOf_eq s3, p_bd, t63, p_ck _ (by omega) (by omega), p_ix (a := m) (by omega), p_nm, r_sI1 (by decide), t63, nI_add, p_nm, pk_mul, nI_add, p_ck _ (by omega) (by omega), p_ix (a := 6 * x + k) (by omega), r_sI1 (by decide), r_sI1 (by decide), b83, g1, p_nm]
      refine ⟨nI y, _, ⟨m + 1, by omega, by rw [hy], r_sI0, fun i hi => ?_, fun j hj => ?_, (tF.sI (by decide)).sI (by decide)⟩, ?_, rfl⟩
      · rw [r_sI1 (by decide)]
        by_cases ei : i = m
        · rw [ei, r_sI0, hk]
        · rw [r_sIj ei]; exact t91 i (by omega)
      · rw [r_sIj hj, r_sI1 (by decide)]; exact tJ j hj
      · rw [r_sI0, p_ix (by omega)]; omega
  · show 6001 - ix ((sI σ 48 63 (nI 0)).1 48 63) < FU
    rw [FU_v]; omega
  · have h1 := anc_ok hB hw (bD b w) (Nat.le_refl _)
    have h2 := (BI_D0 hB h1.1).1.mp (by omega)
    rw [Nat.sub_zero, h2]
end
def fwM : List Nat := [48, 86, 91]
theorem findWay_eq {P : Pg} {σ : Mm} {r w : Nat} (hP : PgV P) (h0 : VS P (pF P)) (hb : bN (bEnd P) ≤ 6000) (hT : TkM P σ) (hr : r < 262144) (hw : fe P (bF (bEnd P)) r (bN (bEnd P)) = some w) :
    ∃ σ', f_X11_findWay (nI r) σ = some ((), σ') ∧ σ'.1 48 63 = nI (bD (bEnd P) w) ∧ (∀ i, i < bD (bEnd P) w → σ'.1 91 i = nI (mOf (mvp (bEnd P) w i))) ∧ (∀ j, j ≠ 63 → σ'.1 48 j = σ.1 48 j) ∧ Fr fwM σ σ' := by
  obtain ⟨w1, w2, w3⟩ := fe_some hw
  rcases hT with ⟨_, h2, h3, h4, _, _⟩ | ⟨h1, _⟩
  · have hEw : eR P r w := ⟨w2, w3⟩
    have hE : ∀ i, i < bN (bEnd P) → (σ.1 87 i = nI r ↔ eR P r i) := fun i hi => by rw [h4 i hi]; exact eI_iff hP hr
    have h84 : ∀ i, i < bN (bEnd P) → σ.1 84 i = nI (bD (bEnd P) i) := fun i hi => (h2.2.2.1 i hi).2
    unfold f_X11_findWay
    simp only [qi_0, qi_1, qi_2, qi_3, qi_4, qi_5, qi_6, qi_7, qi_8, qi_9, qi_10, qi_11, qi_12, qi_13, qi_14, qi_15, qi_16, qi_17, qi_19, qi_26, qi_31, qi_32, qi_35, qi_40, qi_42, qi_48, qi_50, qi_57, qi_59, qi_63, qi_64, qi_97, qi_120, qi_122, qi_210, qi_255, qi_511, qi_512, qi_1000, qi_6000, qi_13312, qi_14337, qi_16383, qi_16384, qi_524287]
    rw [h2.2.1, p_nm]
    obtain ⟨τ, t1, t2, t3⟩ := mmark_eq (bE_BI P) hb (by omega) hE h3 h84 (fun (σ : Mm) => f_X11_findWay_119 (nI r) σ)
    rw [t3]
    obtain ⟨υ, u1, u2, u3, u4, u5⟩ := mwalk_eq (σ := τ) (bE_BI P) hb (by omega) w1 hEw (eR_uni hP h0 w1 hEw) (fun i hi => by rw [t2.r1 87 (by decide)]; exact hE i hi) (fun d hd => by rw [t2.r1 83 (by decide)]; exact h3 d hd) (fun i hi => by rw [t2.r1 84 (by decide)]; exact h84 i hi) t1
    exact ⟨υ, u1, u2, u3, fun j hj => (u4 j hj).trans (by rw [t2.r1 48 (by decide)]), (t2.mo (by intro k hk; revert k; decide)).tr (u5.mo (by intro k hk; revert k; decide))⟩
  · omega
