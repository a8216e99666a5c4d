/-! PURE: the reference goes through all states: the whole of it; its rows of results -/
def MX (P : Pg) (σ τ : Mm) : Prop := ((bN (bEnd P) ≤ 6000 ∧ TuM P (bN (bEnd P)) (bF (bEnd P)) (bD (bEnd P)) τ ∧ (∀ d, d < 6 * bN (bEnd P) → τ.1 83 d = iO (bG (bEnd P) d)) ∧ (∀ s, s < bN (bEnd P) → τ.1 87 s = eI P (bF (bEnd P) s))) ∨ 6000 < bN (bEnd P)) ∧ K4 σ τ ∧ Fr geL σ τ
theorem mthrough_eq {P : Pg} {σ : Mm} (hX : PgX P) (hP : PgV P) (hL : LdM P σ) (h11 : σ.1 48 11 = nI (pL P)) (h57 : ∀ c, c < 3 → σ.1 57 c = nI (cv (pF P) c)) (hx0 : ∀ h, h < 3 → hd (pF P) h = 0) (h0 : VS P (pF P)) :
    ∃ τ, fx (fun _ _ => none) FU (f_X11_goesThrough_L7 (fun (σ : Mm) => f_X11_goesThrough_27 σ)) (nI 0) σ = some (bI (!big P), τ) ∧ MX P σ τ := by
  have hH := hP.1
  -- slots are emptied
  obtain ⟨σ1, ⟨a1, a2⟩, e1⟩ := lqU (F := f_X11_goesThrough_L7 (fun (σ : Mm) => f_X11_goesThrough_27 σ)) (bot := fun _ _ => none) (fun τ => f_X11_goesThrough_27 τ) 16384 (fun k τ => (∀ i, i < k → τ.1 85 i = nI 0) ∧ Fr [85] σ τ) (by
      intro L τ _
      unfold f_X11_goesThrough_L7
      simp only [qi_0, qi_1, qi_2, qi_3, qi_4, qi_5, qi_6, qi_7, qi_8, qi_9, qi_10, qi_11, qi_12, qi_13, qi_14, qi_15, qi_16, qi_17, qi_19, qi_26, qi_31, qi_32, qi_35, qi_40, qi_42, qi_48, qi_50, qi_57, qi_59, qi_63, qi_64, qi_97, qi_120, qi_122, qi_210, qi_255, qi_511, qi_512, qi_1000, qi_6000, qi_13312, qi_14337, qi_16383, qi_16384, qi_524287]
      rw [i_le (by omega) (by omega)]) (by
      intro L k τ hk ⟨h1, h2⟩
      refine ⟨sI τ 85 k (nI 0), ⟨fun i hi => ?_, h2.sI (by decide)⟩, ?_⟩
      · by_cases e : i = k
        · rw [e, r_sI0]
        · rw [r_sIj e]; exact h1 i (by omega)
      · unfold f_X11_goesThrough_L7
        simp only [qi_0, qi_1, qi_2, qi_3, qi_4, qi_5, qi_6, qi_7, qi_8, qi_9, qi_10, qi_11, qi_12, qi_13, qi_14, qi_15, qi_16, qi_17, qi_19, qi_26, qi_31, qi_32, qi_35, qi_40, qi_42, qi_48, qi_50, qi_57, qi_59, qi_63, qi_64, qi_97, qi_120, qi_122, qi_210, qi_255, qi_511, qi_512, qi_1000, qi_6000, qi_13312, qi_14337, qi_16383, qi_16384, qi_524287]
        rw [i_nle (by omega) (by omega), p_ck _ hk (by omega), p_ix (by omega), p_nm, p_nm, nI_add]) FU 0 σ (by omega) (by rw [FU_v]; omega) ⟨fun i hi => by omega, Fr.rf _ _⟩
  rw [e1]
  unfold f_X11_goesThrough_27
  simp only [qi_0, qi_1, qi_2, qi_3, qi_4, qi_5, qi_6, qi_7, qi_8, qi_9, qi_10, qi_11, qi_12, qi_13, qi_14, qi_15, qi_16, qi_17, qi_19, qi_26, qi_31, qi_32, qi_35, qi_40, qi_42, qi_48, qi_50, qi_57, qi_59, qi_63, qi_64, qi_97, qi_120, qi_122, qi_210, qi_255, qi_511, qi_512, qi_1000, qi_6000, qi_13312, qi_14337, qi_16383, qi_16384, qi_524287]
  rw [p_nm]
  have hF1 : Fr geL σ (sI σ1 48 50 (nI 0)) := (a2.mo (by intro k hk; simp only [List.mem_singleton] at hk; rw [hk]; decide)).sI (by decide)
  have hK1 : K4 σ (sI σ1 48 50 (nI 0)) := fun j j1 j2 => by rw [r_sIj j2, a2.r1 48 (by decide)]
  obtain ⟨σ2, e2, hM2, hF2⟩ := begins_eq (σ := sI σ1 48 50 (nI 0)) hX hP (fun c hc => by rw [r_sI1 (by decide), a2.r1 57 (by decide)]; exact h57 c hc) hx0
  have hF2g : Fr geL σ σ2 := hF1.tr (hF2.mo (by intro k hk; revert k; decide))
  have hK2 : K4 σ σ2 := fun j j1 j2 => by rw [hF2.r1 48 (by decide)]; exact hK1 j j1 j2
  have hL2 := LdM_ge hL hF2g hK2
  have h85 : ∀ i, i < 16384 → σ2.1 85 i = nI 0 := fun i hi => by rw [hF2.r1 85 (by decide), r_sI1 (by decide)]; exact a1 i hi
  have hT0 : TuM P 0 (fun _ => pF P) (fun _ => 0) σ2 := by
    refine ⟨by omega, by rw [hF2.r1 48 (by decide), r_sI0], fun j hj => by omega, fun s hs => ⟨0, by omega, h85 s hs⟩, HT_0 (fun s hs => ?_)⟩
    unfold occM
    rw [h85 s hs, if_pos rfl]
  rw [e2, p_bd, pack_eq hX hP hL2.1 h0 hM2, p_bd]
  rcases placeOf_eq (dd := 0) hX hP hT0 (by omega) h0 (fun j hj => by omega) with ⟨j, _, hj, _⟩ | ⟨hid, sl, he, hT'⟩
  · omega
  · rw [he, p_bd]
    have hI0 : MI P σ 0 0 (incM σ2 0 sl (lN (pm P (pF P) (pH P))) (nI 0)) := by
      refine ⟨?_, fun d hd => by omega, fun s hs => by omega, fun j j1 j2 => ?_, ?_⟩
      · have ea : (upq (fun _ => pF P) 0 (pF P)) = (fun _ => pF P) := by
          funext z; unfold upq; split <;> rfl
        have eb : (upq (fun _ => (0 : Nat)) 0 0) = (fun _ => 0) := by
          funext z; unfold upq; split <;> rfl
        rw [ea, eb] at hT'
        exact hT'
      · unfold incM
        rw [r_sI1 (by decide), r_sIj j2, r_sI1 (by decide), r_sL1]; exact hK2 j j1 j2
      · unfold incM
        exact (((hF2g.sL (by decide)).sI (by decide)).sI (by decide)).sI (by decide)
    have bigOf : ∀ e, e ≤ 36006 → 6000 < bN (bfP P e) → 6000 < bN (bEnd P) := fun e h1 h2 => by rw [bEnd_of (Or.inr h2) h1]; exact h2
    -- moves of one state
    have inner : ∀ (s : Nat) (τ : Mm) (K : Mm → Option (Int32 × Mm)), s < 6000 → MI P σ (6 * s) (s + 1) τ → s < bN (bfP P (6 * s)) → bN (bfP P (6 * s)) ≤ 6000 → ∃ τ', fx (fun _ _ => none) FU (f_X11_goesThrough_L100 K (nI s)) (nI 0) τ = K τ' ∧ ((MI P σ (6 * (s + 1)) (s + 1) τ' ∧ s + 1 ≤ bN (bfP P (6 * (s + 1)))) ∨ (6000 < bN (bEnd P) ∧ τ'.1 48 50 = nI 6001 ∧ K4 σ τ' ∧ Fr geL σ τ')) := by
      intro s τ K hs6 hI hs hn
      refine lq1 (F := f_X11_goesThrough_L100 K (nI s)) (fun a υ => ∃ k, k ≤ 6 ∧ a = nI k ∧ MI P σ (6 * s + k) (s + 1) υ ∧ s < bN (bfP P (6 * s + k))) (fun a _ => 7 - ix a) (fun o => ∃ τ', o = K τ' ∧ ((MI P σ (6 * (s + 1)) (s + 1) τ' ∧ s + 1 ≤ bN (bfP P (6 * (s + 1)))) ∨ (6000 < bN (bEnd P) ∧ τ'.1 48 50 = nI 6001 ∧ K4 σ τ' ∧ Fr geL σ τ'))) ?_ FU (nI 0) τ ?_ ⟨0, by omega, rfl, hI, hs⟩
      · rintro L a υ ⟨k, hk, rfl, hI2, hs2⟩
        have hnb := hI2.1.1
        by_cases c : k = 6
        · right
          subst c
          refine ⟨υ, ?_, Or.inl ⟨hI2, hs2⟩⟩
          unfold f_X11_goesThrough_L100
          simp only [qi_0, qi_1, qi_2, qi_3, qi_4, qi_5, qi_6, qi_7, qi_8, qi_9, qi_10, qi_11, qi_12, qi_13, qi_14, qi_15, qi_16, qi_17, qi_19, qi_26, qi_31, qi_32, qi_35, qi_40, qi_42, qi_48, qi_50, qi_57, qi_59, qi_63, qi_64, qi_97, qi_120, qi_122, qi_210, qi_255, qi_511, qi_512, qi_1000, qi_6000, qi_13312, qi_14337, qi_16383, qi_16384, qi_524287]
          rw [i_le (by omega) (by omega)]
        · by_cases cb : 6000 < bN (bfP P (6 * s + k))
          · right
            refine ⟨υ, ?_, Or.inr ⟨bigOf _ (by omega) cb, ?_, hI2.2.2.2.1, hI2.2.2.2.2⟩⟩
            · unfold f_X11_goesThrough_L100
              simp only [qi_0, qi_1, qi_2, qi_3, qi_4, qi_5, qi_6, qi_7, qi_8, qi_9, qi_10, qi_11, qi_12, qi_13, qi_14, qi_15, qi_16, qi_17, qi_19, qi_26, qi_31, qi_32, qi_35, qi_40, qi_42, qi_48, qi_50, qi_57, qi_59, qi_63, qi_64, qi_97, qi_120, qi_122, qi_210, qi_255, qi_511, qi_512, qi_1000, qi_6000, qi_13312, qi_14337, qi_16383, qi_16384, qi_524287]
              rw [i_nle (by omega) (by omega), hI2.1.2.1, i_lt (by omega) cb]
            · rw [hI2.1.2.1, show bN (bfP P (6 * s + k)) = 6001 by omega]
          · left
            obtain ⟨υ', e3, hI3⟩ := mexp_step hX hP hL h11 h0 hI2 hs2 (by omega) (by omega) (by omega) K L
            refine ⟨nI (k + 1), υ', ⟨k + 1, by omega, rfl, hI3, Nat.lt_of_lt_of_le hs2 (bN_mono1 P _)⟩, ?_, e3⟩
            rw [p_ix (by omega), p_ix (by omega)]; omega
      · rw [p_ix (by omega), FU_v]; omega
    have fin : ∀ τ, MX P σ τ → (τ.1 48 50 = nI (bN (bEnd P)) ∧ bN (bEnd P) ≤ 6000) ∨ (τ.1 48 50 = nI 6001 ∧ 6000 < bN (bEnd P)) → ∃ υ, f_X11_goesThrough_209 τ = some (bI (!big P), υ) ∧ MX P σ υ := by
      intro τ hm hc
      unfold f_X11_goesThrough_209
      simp only [qi_0, qi_1, qi_2, qi_3, qi_4, qi_5, qi_6, qi_7, qi_8, qi_9, qi_10, qi_11, qi_12, qi_13, qi_14, qi_15, qi_16, qi_17, qi_19, qi_26, qi_31, qi_32, qi_35, qi_40, qi_42, qi_48, qi_50, qi_57, qi_59, qi_63, qi_64, qi_97, qi_120, qi_122, qi_210, qi_255, qi_511, qi_512, qi_1000, qi_6000, qi_13312, qi_14337, qi_16383, qi_16384, qi_524287]
      unfold big
      rcases hc with ⟨c1, c2⟩ | ⟨c1, c2⟩
      · rw [c1, i_nlt (by omega) c2, p_cb1, decide_eq_false (by omega)]; exact ⟨τ, rfl, hm⟩
      · rw [c1, i_lt (by omega) (by omega), p_cb0, decide_eq_true c2]; exact ⟨τ, rfl, hm⟩
    refine lq1 (F := f_X11_goesThrough_L48 (fun (σ : Mm) => f_X11_goesThrough_209 σ)) (fun a υ => ∃ s, s ≤ 6000 ∧ a = nI s ∧ ((MI P σ (6 * s) s υ ∧ s ≤ bN (bfP P (6 * s))) ∨ (6000 < bN (bEnd P) ∧ υ.1 48 50 = nI 6001 ∧ K4 σ υ ∧ Fr geL σ υ))) (fun a _ => 6001 - ix a) (fun o => ∃ υ, o = some (bI (!big P), υ) ∧ MX P σ υ) ?_ FU (nI 0) _ ?_ ⟨0, by omega, rfl, Or.inl ⟨hI0, by omega⟩⟩
    · rintro L a υ ⟨s, hs, rfl, hI⟩
      unfold f_X11_goesThrough_L48
      simp only [qi_0, qi_1, qi_2, qi_3, qi_4, qi_5, qi_6, qi_7, qi_8, qi_9, qi_10, qi_11, qi_12, qi_13, qi_14, qi_15, qi_16, qi_17, qi_19, qi_26, qi_31, qi_32, qi_35, qi_40, qi_42, qi_48, qi_50, qi_57, qi_59, qi_63, qi_64, qi_97, qi_120, qi_122, qi_210, qi_255, qi_511, qi_512, qi_1000, qi_6000, qi_13312, qi_14337, qi_16383, qi_16384, qi_524287]
      rcases hI with ⟨hI, hsn⟩ | ⟨hb, h50, hK, hF⟩
      · have hnb := hI.1.1
        rw [hI.1.2.1]
        by_cases c : bN (bfP P (6 * s)) ≤ s
        · right
          have he : bEnd P = bfP P (6 * s) := bEnd_of (Or.inl (by omega)) (by omega)
          obtain ⟨x1, x2, x3, x4, x5⟩ := hI
          rw [i_le (by omega) c]
          refine fin υ ⟨Or.inl ?_, x4, x5⟩ (Or.inl ⟨by rw [he]; exact x1.2.1, by rw [he]; omega⟩)
          rw [he]
          exact ⟨by omega, x1, fun d hd => x2 d (by omega), fun j hj => x3 j (by omega)⟩
        · rw [i_nle (by omega) (by omega)]
          by_cases cb : 6000 < bN (bfP P (6 * s))
          · right
            have hbg := bigOf _ (by omega) cb
            rw [i_lt (by omega) cb]
            exact fin υ ⟨Or.inr hbg, hI.2.2.2.1, hI.2.2.2.2⟩ (Or.inr ⟨by rw [hI.1.2.1, show bN (bfP P (6 * s)) = 6001 by omega], hbg⟩)
          · left
            obtain ⟨x1, x2, x3, x4, x5⟩ := hI
            have hVs := bf_VS hP h0 (6 * s) s (by omega)
            have hLu := LdM_ge hL x5 x4
            obtain ⟨υ1, e3, hM1, hF1⟩ := unpack_eq hX hP hLu.1 hVs
            have hF1g : Fr geL σ υ1 := x5.tr (hF1.mo (by intro k hk; revert k; decide))
            have hK1' : K4 σ υ1 := fun j j1 j2 => by rw [hF1.r1 48 (by decide)]; exact x4 j j1 j2
            have hL1 := LdM_ge hL hF1g hK1'
            have hr := resf_lt3 (bF (bfP P (6 * s)) s) hH
            have g96 : ∃ a' σ', (∃ s, s ≤ 6000 ∧ a' = nI s ∧ ((MI P σ (6 * s) s σ' ∧ s ≤ bN (bfP P (6 * s))) ∨ (6000 < bN (bEnd P) ∧ σ'.1 48 50 = nI 6001 ∧ K4 σ σ' ∧ Fr geL σ σ'))) ∧ 6001 - ix a' < 6001 - ix (nI s) ∧ f_X11_goesThrough_96 L (nI s) (nI s) (eI P (bF (bfP P (6 * s)) s)) υ1 = L a' σ' := by
              unfold f_X11_goesThrough_96 f_X11_goesThrough_203
              simp only [qi_0, qi_1, qi_2, qi_3, qi_4, qi_5, qi_6, qi_7, qi_8, qi_9, qi_10, qi_11, qi_12, qi_13, qi_14, qi_15, qi_16, qi_17, qi_19, qi_26, qi_31, qi_32, qi_35, qi_40, qi_42, qi_48, qi_50, qi_57, qi_59, qi_63, qi_64, qi_97, qi_120, qi_122, qi_210, qi_255, qi_511, qi_512, qi_1000, qi_6000, qi_13312, qi_14337, qi_16383, qi_16384, qi_524287]
              rw [p_ck _ (by omega) (by omega), p_ix (a := s) (by omega), p_nm]
              obtain ⟨τ', e4, e5⟩ := inner s (sI υ1 87 s (eI P (bF (bfP P (6 * s)) s))) (fun (σ : Mm) => nm (nI s + nI 1) (fun vq34 => L vq34 σ)) (by omega) ⟨TuM_of x1 (by rw [r_sI1 (by decide), hF1.r1 48 (by decide)]) (by rw [r_sI2, hF1.r2 82 (by decide)]) (by rw [r_sI1 (by decide), hF1.r1 84 (by decide)]) (by rw [r_sI1 (by decide), hF1.r1 85 (by decide)]), fun d hd => by rw [r_sI1 (by decide), hF1.r1 83 (by decide)]; exact x2 d hd, fun j hj => (by
                by_cases e : j = s
                · rw [e, r_sI0]
                · rw [r_sIj e, hF1.r1 87 (by decide)]; exact x3 j (by omega)), fun j j1 j2 => by rw [r_sI1 (by decide)]; exact hK1' j j1 j2, hF1g.sI (by decide)⟩ (by omega) (by omega)
              rw [e4, p_nm, nI_add]
              refine ⟨nI (s + 1), τ', ⟨s + 1, by omega, rfl, e5⟩, ?_, rfl⟩
              rw [p_ix (by omega)]; omega
            rw [i_nlt (by omega) (by omega), p_ck _ (by omega) (by omega), p_ix (a := s) (by omega), (x1.2.2.1 s (by omega)).1, e3, p_bd, mEnd_eq hP hL1 hVs hM1, p_bd]
            rw [p_ix (a := s) (by omega)] at g96
            unfold eI at g96
            cases hE : iE P (bF (bfP P (6 * s)) s) with
            | false =>
              rw [hE] at g96
              rw [bI_f, i_eq rfl]
              exact g96
            | true =>
              rw [hE] at g96
              rw [bI_t, i_ne (by omega) (by omega) (by omega), mRes_eq hP hL1.1 hM1, p_bd]
              exact g96
      · right
        rw [h50]
        by_cases c : 6001 ≤ s
        · omega
        · rw [i_nle (by omega) (by omega), i_lt (by omega) (by omega)]
          exact fin υ ⟨Or.inr hb, hK, hF⟩ (Or.inr ⟨h50, hb⟩)
    · rw [p_ix (by omega), FU_v]; omega
/-- rows of the reference -/
def RoM (k : Nat) (l : List Nat) (σ : Mm) : Prop := Srt l ∧ Bnd l ∧ ∀ i, i < l.length → σ.1 k i = nI (l.getD i 0)
theorem comes_eq {k v cap : Nat} {l : List Nat} {σ : Mm} (hR : RoM k l σ) (hv : v < 262144) (hcap : alen k = cap) (hc : cap ≤ 6001) (hl : l.length < cap) : ∃ σ', f_X11_comes k (nI l.length) (nI v) σ = some (nI (ins v l).length, σ') ∧ RoM k (ins v l) σ' ∧ Fr [k] σ σ' := by
  obtain ⟨hs, hb, h2⟩ := hR
  have hpl := pf_le v l
  -- q: how many are at most v
  obtain ⟨q, hq⟩ : ∃ q, q = if v ∈ l then pf v l + 1 else pf v l := ⟨_, rfl⟩
  have hql : q ≤ l.length := by
    rw [hq]
    split
    · rename_i h; have := ((mem_pf hs).mp h).1; omega
    · exact hpl
  have hge : ∀ i, q ≤ i → i < l.length → v < l.getD i 0 := by
    intro i h1 h3
    rw [hq] at h1
    split at h1
    · rename_i h
      obtain ⟨z1, z2⟩ := (mem_pf hs).mp h
      have := hs (pf v l) i (by omega) h3
      omega
    · rename_i h
      have := pf_ge hs h1 h3
      have hne : l.getD i 0 ≠ v := fun e => h (mem_gd.mpr ⟨i, h3, e⟩)
      omega
  have hle : ∀ i, i < q → l.getD i 0 ≤ v := by
    intro i h1
    rw [hq] at h1
    split at h1
    · rename_i h
      by_cases e : i = pf v l
      · rw [e, ((mem_pf hs).mp h).2]; exact Nat.le_refl _
      · exact Nat.le_of_lt (pf_lt (by omega))
    · exact Nat.le_of_lt (pf_lt h1)
  have rest : ∃ σ', f_X11_comes_21 k (nI l.length) (nI v) (nI q) σ = some (nI (ins v l).length, σ') ∧ RoM k (ins v l) σ' ∧ Fr [k] σ σ' := by
    have new : v ∉ l → ∃ σ', f_X11_comes_36 k (nI l.length) (nI v) (nI q) σ = some (nI (ins v l).length, σ') ∧ RoM k (ins v l) σ' ∧ Fr [k] σ σ' := by
      intro hm
      rw [if_neg hm] at hq
      unfold f_X11_comes_36
      refine lq1 (F := f_X11_comes_L39 k (nI l.length) (nI v) (nI q)) (fun a τ => ∃ i, q ≤ i ∧ i ≤ l.length ∧ a = nI i ∧ (∀ j, j ≤ i → j < l.length → τ.1 k j = nI (l.getD j 0)) ∧ (∀ j, i < j → j ≤ l.length → τ.1 k j = nI (l.getD (j - 1) 0)) ∧ Fr [k] σ τ) (fun a _ => ix a) (fun o => ∃ σ', o = some (nI (ins v l).length, σ') ∧ RoM k (ins v l) σ' ∧ Fr [k] σ σ') ?_ FU (nI l.length) σ ?_ ⟨l.length, hql, by omega, rfl, fun j _ hj => h2 j hj, fun j h1 h3 => by omega, Fr.rf _ _⟩
      · rintro L a τ ⟨i, hi1, hi2, rfl, u1, u2, uF⟩
        unfold f_X11_comes_L39
        simp only [qi_0, qi_1, qi_2, qi_3, qi_4, qi_5, qi_6, qi_7, qi_8, qi_9, qi_10, qi_11, qi_12, qi_13, qi_14, qi_15, qi_16, qi_17, qi_19, qi_26, qi_31, qi_32, qi_35, qi_40, qi_42, qi_48, qi_50, qi_57, qi_59, qi_63, qi_64, qi_97, qi_120, qi_122, qi_210, qi_255, qi_511, qi_512, qi_1000, qi_6000, qi_13312, qi_14337, qi_16383, qi_16384, qi_524287]
        rw [hcap]
        by_cases c : i ≤ q
        · right
          have e : i = q := by omega
          subst e
          rw [i_le (by omega) c, p_ck _ (by omega) (by omega), p_ix (a := i) (by omega), p_nm, nI_add]
          refine ⟨_, by rw [ins_len hm], ⟨ins_srt hs, Bnd_ins hs hb hv, fun j hj => ?_⟩, uF.sI (by simp)⟩
          rw [ins_len hm] at hj
          rw [ins_gd hm, ← hq]
          by_cases e1 : j = i
          · rw [if_neg (by omega), if_pos e1, e1, r_sI0]
          · rw [r_sIj e1, if_neg e1]
            by_cases e2 : j < i
            · rw [if_pos e2]; exact u1 j (by omega) (by omega)
            · rw [if_neg e2]; exact u2 j (by omega) (by omega)
        · left
          rw [i_nle (by omega) (by omega), pk_sub (by omega), p_ck _ (by omega) (by omega), p_ck _ (by omega) (by omega), p_ix (a := i - 1) (by omega), u1 (i - 1) (by omega) (by omega), p_ix (a := i) (by omega), p_nm, dn_n, dn_s (by omega), p_nm]
          refine ⟨nI (i - 1), _, ⟨i - 1, by omega, by omega, rfl, fun j h1 h3 => by rw [r_sIj (by omega)]; exact u1 j (by omega) h3, fun j h1 h3 => ?_, uF.sI (by simp)⟩, ?_, rfl⟩
          · by_cases e : j = i
            · rw [e, r_sI0]
            · rw [r_sIj e]; exact u2 j (by omega) h3
          · rw [p_ix (by omega)]; omega
      · rw [p_ix (by omega), FU_v]; omega
    unfold f_X11_comes_21
    simp only [qi_0, qi_1, qi_2, qi_3, qi_4, qi_5, qi_6, qi_7, qi_8, qi_9, qi_10, qi_11, qi_12, qi_13, qi_14, qi_15, qi_16, qi_17, qi_19, qi_26, qi_31, qi_32, qi_35, qi_40, qi_42, qi_48, qi_50, qi_57, qi_59, qi_63, qi_64, qi_97, qi_120, qi_122, qi_210, qi_255, qi_511, qi_512, qi_1000, qi_6000, qi_13312, qi_14337, qi_16383, qi_16384, qi_524287]
    by_cases hm : v ∈ l
    · rw [if_pos hm] at hq
      obtain ⟨z1, z2⟩ := (mem_pf hs).mp hm
      rw [i_nle (by omega) (by omega), pk_sub (by omega), hcap, p_ck _ (by omega) (by omega), p_ix (by omega), show q - 1 = pf v l by omega, h2 _ z1, i_eq z2]
      refine ⟨σ, by rw [ins_old hs hm], by rw [ins_old hs hm]; exact ⟨hs, hb, h2⟩, Fr.rf _ _⟩
    · by_cases q0 : q = 0
      · have := new hm
        rw [q0] at this ⊢
        rw [i_le (by omega) (by omega)]
        exact this
      · have hbb := hb (q - 1) (by omega)
        have hne : l.getD (q - 1) 0 ≠ v := fun e => hm (mem_gd.mpr ⟨q - 1, by omega, e⟩)
        rw [i_nle (by omega) (by omega), pk_sub (by omega), hcap, p_ck _ (by omega) (by omega), p_ix (by omega), h2 _ (by omega), i_ne (by omega) (by omega) hne]
        exact new hm
  unfold f_X11_comes
  refine lq1 (F := f_X11_comes_L2 (fun (xq3 : Int32) (σ : Mm) => f_X11_comes_21 k (nI l.length) (nI v) xq3 σ) k (nI l.length) (nI v)) (fun a τ => ∃ i, q ≤ i ∧ i ≤ l.length ∧ a = nI i ∧ τ = σ) (fun a _ => ix a) (fun o => ∃ σ', o = some (nI (ins v l).length, σ') ∧ RoM k (ins v l) σ' ∧ Fr [k] σ σ') ?_ FU (nI l.length) σ ?_ ⟨l.length, hql, by omega, rfl, rfl⟩
  · rintro L a τ ⟨i, hi1, hi2, rfl, rfl⟩
    unfold f_X11_comes_L2
    simp only [qi_0, qi_1, qi_2, qi_3, qi_4, qi_5, qi_6, qi_7, qi_8, qi_9, qi_10, qi_11, qi_12, qi_13, qi_14, qi_15, qi_16, qi_17, qi_19, qi_26, qi_31, qi_32, qi_35, qi_40, qi_42, qi_48, qi_50, qi_57, qi_59, qi_63, qi_64, qi_97, qi_120, qi_122, qi_210, qi_255, qi_511, qi_512, qi_1000, qi_6000, qi_13312, qi_14337, qi_16383, qi_16384, qi_524287]
    by_cases i0 : i = 0
    · right
      rw [i_le (by omega) (by omega), show i = q by omega]
      exact rest
    · rw [i_nle (by omega) (by omega), pk_sub (by omega), hcap, p_ck _ (by omega) (by omega), p_ix (a := i - 1) (by omega), h2 _ (by omega)]
      have hbb := hb (i - 1) (by omega)
      by_cases e : i = q
      · right
        rw [i_le (by omega) (hle (i - 1) (by omega)), e]
        exact rest
      · left
        rw [i_nle (by omega) (hge (i - 1) (by omega) (by omega)), dn_n, dn_s (by omega), p_nm]
        refine ⟨nI (i - 1), τ, ⟨i - 1, by omega, by omega, rfl, rfl⟩, ?_, rfl⟩
        rw [p_ix (by omega), p_ix (by omega)]; omega
  · rw [p_ix (by omega), FU_v]; omega
