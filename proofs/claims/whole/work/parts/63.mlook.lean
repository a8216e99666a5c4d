/-! PURE: what the reference knows of a setup; it looks at all -/
def TkM (P : Pg) (σ : Mm) : Prop := (bN (bEnd P) ≤ 6000 ∧ TuM P (bN (bEnd P)) (bF (bEnd P)) (bD (bEnd P)) σ ∧ (∀ d, d < 6 * bN (bEnd P) → σ.1 83 d = iO (bG (bEnd P) d)) ∧ (∀ s, s < bN (bEnd P) → σ.1 87 s = eI P (bF (bEnd P) s)) ∧ σ.1 48 49 = nI 0 ∧ EdM (ends P) σ) ∨ (6000 < bN (bEnd P) ∧ σ.1 48 49 = nI 1)
def K8 (σ τ : Mm) : Prop := ∀ j, j ≠ 47 → j ≠ 48 → j ≠ 49 → j ≠ 50 → j ≠ 58 → j ≠ 60 → τ.1 48 j = σ.1 48 j
def laL : List Nat := [48, 66, 67, 68, 69, 70, 71, 73, 74, 75, 76, 77, 78, 79, 80, 81, 82, 83, 84, 85, 87, 88, 89, 90]
theorem SeM_la {S : Su} {σ τ : Mm} (h : SeM S σ) (hF : Fr laL σ τ) (hK : K8 σ τ) : SeM S τ := SeM_Fr h hF (hK 0 (by decide) (by decide) (by decide) (by decide) (by decide) (by decide)) (hK 7 (by decide) (by decide) (by decide) (by decide) (by decide) (by decide)) (hK 11 (by decide) (by decide) (by decide) (by decide) (by decide) (by decide)) (by decide)
theorem LyD_of {S : Su} {X : Nat → Bool} {c : Nat} {σ τ : Mm} (h : LyD S X c σ) (e66 : τ.1 66 = σ.1 66) (e67 : τ.1 67 = σ.1 67) (e68 : τ.1 68 = σ.1 68) (e69 : τ.1 69 = σ.1 69) (e70 : τ.1 70 = σ.1 70) (e71 : τ.1 71 = σ.1 71) : LyD S X c τ := by
  intro d hd
  obtain ⟨d1, d2⟩ := h d hd
  exact ⟨by rw [e66]; exact d1, fun q hq => CdM_of (d2 q hq) (by rw [e67]) (by rw [e68]) (by rw [e69]) (by rw [e70]) (by rw [e71])⟩
theorem ords_90 {S : Su} (hS : SuV S) : (ords S noX).length ≤ 90 := by
  obtain ⟨b1, b2⟩ := x0_rmt hS
  have h := (ordr_ok (W := wcq S noX) hS.2.2.2.1 8 (x0S S) [] (x0_BV hS) (by omega) Srt_nil (fun i hi => absurd hi (Nat.not_lt_zero _))).2.2
  unfold ords
  have e : ([] : List Nat).length = 0 := rfl
  omega
theorem lookAll_eq {S : Su} {W : List Nat} {σ : Mm} (hS : SuV S) (hC : SeM S σ) (hW : Wok W 42) (hM : WrM W σ) (h48 : σ.1 48 48 = nI 0 ∨ (σ.1 48 48 = nI 1 ∧ TkM (PgOf S noX) σ ∧ GdM (ords S noX) σ)) :
    ∃ σ', f_X11_lookAll σ = some ((), σ') ∧ σ'.1 48 48 = nI 1 ∧ TkM (PgOf S noX) σ' ∧ GdM (ords S noX) σ' ∧ K8 σ σ' ∧ Fr laL σ σ' := by
  unfold f_X11_lookAll
  simp only [qi_0, qi_1, qi_2, qi_3, qi_4, qi_5, qi_6, qi_7, qi_8, qi_9, qi_10, qi_11, qi_12, qi_13, qi_14, qi_15, qi_16, qi_17, qi_19, qi_26, qi_31, qi_32, qi_35, qi_40, qi_42, qi_48, qi_50, qi_57, qi_59, qi_63, qi_64, qi_97, qi_120, qi_122, qi_210, qi_255, qi_511, qi_512, qi_1000, qi_6000, qi_13312, qi_14337, qi_16383, qi_16384, qi_524287]
  rcases h48 with h48 | ⟨h48, hT, hG⟩
  · have hFX := FX_no hS
    have hP := PgOf_V hS hFX
    obtain ⟨τ, υ, e1, e2, e3, e4, e5⟩ := mgo_eq (st := 0) hS hW hM hC (by omega)
    rw [XF_0] at e1 e2 e3
    have h90 := ords_90 hS
    have hFl : Fr laL σ τ := e5.mo (by intro k hk; revert k; decide)
    -- the good ones, then it is fresh
    have fin : ∀ ρ, Fr laL σ ρ → K8 σ ρ → LyD S noX (sK S) ρ → ∃ σ', bd (f_X11_findGoods ρ) (fun _ σ9 => cb (nI 1) (nm (sI σ9 48 48 (nI 1)) (fun σ11 => some ((), σ11)))) = some ((), σ') ∧ σ'.1 48 48 = nI 1 ∧ GdM (ords S noX) σ' ∧ (∀ j, j ≠ 47 → j ≠ 48 → j ≠ 60 → σ'.1 48 j = ρ.1 48 j) ∧ K8 σ σ' ∧ Fr laL σ σ' ∧ Fr oM ρ σ' := by
      intro ρ r1 r2 r3
      obtain ⟨ρ', g1, g2, g3, g4, g5⟩ := findGoods_eq hS hFX (SeM_la hC r1 r2) r3
      rw [g1, p_bd, p_cb1, p_nm]
      refine ⟨_, rfl, r_sI0, ⟨RoM_of g2 (by rw [r_sI1 (by decide)]), by rw [r_sIj (by decide)]; exact g3, h90⟩, fun j j1 j2 j3 => by rw [r_sIj j2]; exact g4 j j1 j3, fun j j1 j2 j3 j4 j5 j6 => ?_, (r1.tr (g5.mo (by intro k hk; revert k; decide))).sI (by decide), g5.sI (by decide)⟩
      rw [r_sIj j2, g4 j j1 j6]
      exact r2 j j1 j2 j3 j4 j5 j6
    rw [h48, i_eq rfl, e1, p_bd]
    unfold f_X11_lookAll_22
    simp only [qi_0, qi_1, qi_2, qi_3, qi_4, qi_5, qi_6, qi_7, qi_8, qi_9, qi_10, qi_11, qi_12, qi_13, qi_14, qi_15, qi_16, qi_17, qi_19, qi_26, qi_31, qi_32, qi_35, qi_40, qi_42, qi_48, qi_50, qi_57, qi_59, qi_63, qi_64, qi_97, qi_120, qi_122, qi_210, qi_255, qi_511, qi_512, qi_1000, qi_6000, qi_13312, qi_14337, qi_16383, qi_16384, qi_524287]
    cases hb : big (PgOf S noX) with
    | false =>
      have hn6 : ¬ 6000 < bN (bEnd (PgOf S noX)) := of_decide_eq_false hb
      have e2' := e2.1.resolve_right hn6
      obtain ⟨m1, m2, m3, m4⟩ := e2'
      have h50 : τ.1 48 50 = nI (bN (bEnd (PgOf S noX))) := m2.2.1
      obtain ⟨ρ, r1, r2, r3, r4, r5⟩ := findResults_eq (P := PgOf S noX) (σ := sI τ 48 49 (nI 0)) (n := bN (bEnd (PgOf S noX))) (F := bF (bEnd (PgOf S noX))) hP (by rw [r_sIj (by decide)]; exact h50) m1 (fun s hs => by rw [r_sI1 (by decide)]; exact m4 s hs)
      have hFr : Fr laL σ ρ := (hFl.sI (by decide)).tr (r5.mo (by intro k hk; revert k; decide))
      have hKr : K8 σ ρ := fun j j1 j2 j3 j4 j5 j6 => by rw [r4 j j5, r_sIj j3]; exact e4 j j1 j4
      have hrt : ∀ k, k ≠ 48 → k ≠ 88 → ρ.1 k = τ.1 k ∧ ρ.2 k = τ.2 k := fun k k1 k2 => by
        have hk : k ∉ frL := by
          intro q
          simp only [frL, List.mem_cons, List.not_mem_nil, or_false] at q
          omega
        exact ⟨by rw [r5.r1 k hk, r_sI1 k1], by rw [r5.r2 k hk, r_sI2]⟩
      have hDr : LyD S noX (sK S) ρ := LyD_of e3 (hrt 66 (by decide) (by decide)).1 (hrt 67 (by decide) (by decide)).1 (hrt 68 (by decide) (by decide)).1 (hrt 69 (by decide) (by decide)).1 (hrt 70 (by decide) (by decide)).1 (hrt 71 (by decide) (by decide)).1
      obtain ⟨σ', f1, f2, f3, f4, f5, f6, f7⟩ := fin ρ hFr hKr hDr
      rw [show bI (!false) = nI 1 from bI_t, i_ne (by omega) (by omega) (by omega), p_cb0, p_nm, r_sI0, i_eq rfl, r1, p_bd, f1]
      refine ⟨σ', rfl, f2, Or.inl ⟨m1, TuM_of m2 ?_ ?_ ?_ ?_, fun d hd => ?_, fun s hs => ?_, ?_, RoM_of r2 (f7.r1 88 (by decide)), ?_, ?_⟩, f3, f5, f6⟩
      · rw [f4 50 (by decide) (by decide) (by decide), r4 50 (by decide), r_sIj (by decide)]
      · rw [f7.r2 82 (by decide), (hrt 82 (by decide) (by decide)).2]
      · rw [f7.r1 84 (by decide), (hrt 84 (by decide) (by decide)).1]
      · rw [f7.r1 85 (by decide), (hrt 85 (by decide) (by decide)).1]
      · rw [f7.r1 83 (by decide), (hrt 83 (by decide) (by decide)).1]; exact m3 d hd
      · rw [f7.r1 87 (by decide), (hrt 87 (by decide) (by decide)).1]; exact m4 s hs
      · rw [f4 49 (by decide) (by decide) (by decide), r4 49 (by decide), r_sI0]
      · rw [f4 58 (by decide) (by decide) (by decide), r3]; rfl
      · have := (er_ok hP (bF (bEnd (PgOf S noX))) (bN (bEnd (PgOf S noX)))).2.2
        unfold ends
        omega
    | true =>
      have hn6 : 6000 < bN (bEnd (PgOf S noX)) := of_decide_eq_true hb
      have hKr : K8 σ (sI τ 48 49 (nI 1)) := fun j j1 j2 j3 j4 j5 j6 => by rw [r_sIj j3]; exact e4 j j1 j4
      have hDr : LyD S noX (sK S) (sI τ 48 49 (nI 1)) := LyD_of e3 (by rw [r_sI1 (by decide)]) (by rw [r_sI1 (by decide)]) (by rw [r_sI1 (by decide)]) (by rw [r_sI1 (by decide)]) (by rw [r_sI1 (by decide)]) (by rw [r_sI1 (by decide)])
      obtain ⟨σ', f1, f2, f3, f4, f5, f6, f7⟩ := fin (sI τ 48 49 (nI 1)) (hFl.sI (by decide)) hKr hDr
      rw [show bI (!true) = nI 0 from bI_f, i_eq rfl, p_cb1, p_nm, r_sI0, i_ne (by omega) (by omega) (by omega), f1]
      exact ⟨σ', rfl, f2, Or.inr ⟨hn6, by rw [f4 49 (by decide) (by decide) (by decide), r_sI0]⟩, f3, f5, f6⟩
  · rw [h48, i_ne (by omega) (by omega) (by omega)]
    exact ⟨σ, rfl, h48, hT, hG, fun j _ _ _ _ _ _ => rfl, Fr.rf _ _⟩
