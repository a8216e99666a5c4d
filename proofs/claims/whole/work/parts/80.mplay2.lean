/-! PURE: the reference plays a told turn: the whole -/
def p2M : List Nat := [48, 66, 67, 68, 69, 70, 71, 73, 74, 75, 76, 77, 78, 79, 80, 81, 94]
/-- what playing leaves -/
def PlM (S : Su) (x c : Nat) (σ : Mm) : Prop := MR (PgOf S noX) σ x ∧ LdM (PgOf S noX) σ ∧ LyD S noX (sK S) σ ∧ σ.1 48 66 = nI c
theorem mplays_eq {S : Su} {W : List Nat} {σ : Mm} {q n : Nat} (hS : SuV S) (hC : SeM S σ) (hW : Wok W 42) (hM : WrM W σ) (hq : q < 4) (hn' : n ≤ 40) (hs : σ.1 62 q = nI n) (num : Nat → Int64) (hnum : ∀ i, i < n → σ.2 63 (40 * q + i) = num i) :
    ∃ σ', f_X11_plays (nI q) σ = some (nI (ply (PgOf S noX) num n).2.2.2, σ') ∧ PlM S (ply (PgOf S noX) num n).1 (ply (PgOf S noX) num n).2.2.1 σ' ∧ (∀ j, j ≠ 47 → j ≠ 66 → σ'.1 48 j = σ.1 48 j) ∧ Fr p2M σ σ' := by
  have hFX := FX_no hS
  have hP := PgOf_V hS hFX
  have hX := PgX_Of hS hFX
  have hx0 : ∀ h, h < 3 → hd (pF (PgOf S noX)) h = 0 := fun h hh => x0_hd hS hh
  obtain ⟨σ1, a1, a2, a3⟩ := lay_eq (st := 0) hS hW hM hC (by omega)
  rw [XF_0] at a2
  have hC1 := SeM_lo hC a3
  have hL1 := LdM_Of hS hC1 a2
  obtain ⟨σ2, b1, b2, b3⟩ := begins_eq (x0 := pF (PgOf S noX)) hX hP (fun c hc => by rw [cv_pF hS hc]; exact hC1.2.2.2.2.2.2 c hc) hx0
  unfold f_X11_plays
  rw [qi_0, a1, p_bd, b1, p_bd, p_nm]
  obtain ⟨σ3, ⟨c1, c2⟩, e3⟩ := lqU (F := f_X11_plays_L16 (fun (σ : Mm) => f_X11_plays_34 (nI q) σ) (nI q)) (bot := fun _ _ => none) (fun (σ : Mm) => f_X11_plays_34 (nI q) σ) 3 (fun k τ => (∀ i, i < k → τ.1 94 i = -nI 1) ∧ Fr [94] (sI σ2 48 66 (nI 0)) τ) (by
      rintro L τ _
      unfold f_X11_plays_L16
      simp only [qi_0, qi_1, qi_2, qi_3, qi_4, qi_5, qi_6, qi_7, qi_8, qi_9, qi_10, qi_11, qi_12, qi_13, qi_14, qi_15, qi_16, qi_17, qi_19, qi_26, qi_31, qi_32, qi_35, qi_40, qi_42, qi_48, qi_50, qi_57, qi_59, qi_63, qi_64, qi_97, qi_120, qi_122, qi_210, qi_255, qi_511, qi_512, qi_1000, qi_6000, qi_13312, qi_14337, qi_16383, qi_16384, qi_524287]
      rw [i_le (by omega) (by omega)]) (by
      rintro L k τ hk ⟨t1, t2⟩
      unfold f_X11_plays_L16
      simp only [qi_0, qi_1, qi_2, qi_3, qi_4, qi_5, qi_6, qi_7, qi_8, qi_9, qi_10, qi_11, qi_12, qi_13, qi_14, qi_15, qi_16, qi_17, qi_19, qi_26, qi_31, qi_32, qi_35, qi_40, qi_42, qi_48, qi_50, qi_57, qi_59, qi_63, qi_64, qi_97, qi_120, qi_122, qi_210, qi_255, qi_511, qi_512, qi_1000, qi_6000, qi_13312, qi_14337, qi_16383, qi_16384, qi_524287]
      rw [i_nle (by omega) (by omega), p_ck _ (by omega) (by omega), p_ix (a := k) (by omega), p_nm, nI_add, p_nm]
      refine ⟨_, ⟨fun i hi => ?_, t2.sI (by decide)⟩, rfl⟩
      by_cases e : i = k
      · rw [e, r_sI0]
      · rw [r_sIj e]; exact t1 i (by omega)) FU 0 _ (by omega) (by rw [FU_v]; omega) ⟨fun i hi => by omega, Fr.rf _ _⟩
  rw [e3]
  have hF3 : Fr p2M σ σ3 := (((a3.mo (by intro k hk; revert k; decide)).tr (b3.mo (by intro k hk; revert k; decide))).sI (by decide)).tr (c2.mo (by intro k hk; revert k; decide))
  have hJ3 : ∀ j, j ≠ 66 → σ3.1 48 j = σ.1 48 j := fun j hj => by rw [c2.r1 48 (by decide), r_sIj hj, b3.r1 48 (by decide), a3.r1 48 (by decide)]
  have hC3 : SeM S σ3 := SeM_Fr hC hF3 (hJ3 0 (by decide)) (hJ3 7 (by decide)) (hJ3 11 (by decide)) (by decide)
  have hD3 : LyD S noX (sK S) σ3 := LyD_of a2 (by rw [c2.r1 66 (by decide), r_sI1 (by decide), b3.r1 66 (by decide)]) (by rw [c2.r1 67 (by decide), r_sI1 (by decide), b3.r1 67 (by decide)]) (by rw [c2.r1 68 (by decide), r_sI1 (by decide), b3.r1 68 (by decide)]) (by rw [c2.r1 69 (by decide), r_sI1 (by decide), b3.r1 69 (by decide)]) (by rw [c2.r1 70 (by decide), r_sI1 (by decide), b3.r1 70 (by decide)]) (by rw [c2.r1 71 (by decide), r_sI1 (by decide), b3.r1 71 (by decide)])
  have hM3 : MR (PgOf S noX) σ3 (pF (PgOf S noX)) := MR_of b2 (by rw [c2.r1 74 (by decide), r_sI1 (by decide)]) (by rw [c2.r1 75 (by decide), r_sI1 (by decide)]) (by rw [c2.r1 76 (by decide), r_sI1 (by decide)]) (by rw [c2.r1 77 (by decide), r_sI1 (by decide)]) (by rw [c2.r1 78 (by decide), r_sI1 (by decide)]) (by rw [c2.r1 79 (by decide), r_sI1 (by decide)]) (by rw [c2.r1 80 (by decide), r_sI1 (by decide)]) (by rw [c2.r1 81 (by decide), r_sI1 (by decide)])
  obtain ⟨σ4, g1, g2, g3, g4, g5⟩ := mplay_eq (σ := σ3) (q := q) hP hX (LdM_Of hS hC3 hD3) hC3.2.2.1 (VS_small (pF_small hS)) hM3 hq hn' (by rw [hF3.r1 62 (by decide)]; exact hs) (by rw [c2.r1 48 (by decide), r_sI0]) c1 num (fun i hi => by rw [hF3.r2 63 (by decide)]; exact hnum i hi)
  have hF4 : Fr p2M σ σ4 := hF3.tr (g5.mo (by intro k hk; revert k; decide))
  have hJ4 : ∀ j, j ≠ 47 → j ≠ 66 → σ4.1 48 j = σ.1 48 j := fun j j1 j2 => (g4 j j1 j2).trans (hJ3 j j2)
  have hC4 : SeM S σ4 := SeM_Fr hC hF4 (hJ4 0 (by decide) (by decide)) (hJ4 7 (by decide) (by decide)) (hJ4 11 (by decide) (by decide)) (by decide)
  have hD4 : LyD S noX (sK S) σ4 := LyD_of hD3 (g5.r1 66 (by decide)) (g5.r1 67 (by decide)) (g5.r1 68 (by decide)) (g5.r1 69 (by decide)) (g5.r1 70 (by decide)) (g5.r1 71 (by decide))
  exact ⟨σ4, g1, ⟨g2, LdM_Of hS hC4 hD4, hD4, g3⟩, hJ4, hF4⟩
