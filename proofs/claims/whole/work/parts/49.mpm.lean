/-! PURE: the reference packs states -/
def wc (w : Nat) : Nat := if hn w = 0 then 0 else if hn w = 1 then 1 + ho w else 13 + 12 * ho w + hl w
def qd (P : Pg) (x h : Nat) : Nat := 14 * cO P h (pl (hd x h)) + pO P h (pl (hd x h))
def pm (P : Pg) (x : Nat) : Nat → Nat
  | 0 => 16 * cv x 0 + 4 * cv x 1 + cv x 2
  | h + 1 => 157 * (16 * (42 * pm P x h + qd P x h) + (4 * ha (hd x h) + hb (hd x h))) + wc (hd x h)
theorem wc_lt {w : Nat} (hW : WV w) : wc w < 157 := by
  obtain ⟨h1, h2, h3, h4, h5⟩ := hW
  unfold wc
  split
  · omega
  · split <;> omega
theorem qd_lt {P : Pg} {x h : Nat} (hX : PgX P) (hP : PgV P) (hV : VS P x) (hh : h < pH P) : qd P x h < 42 ∧ pO P h (pl (hd x h)) < 14 := by
  have hH := hP.1
  have hpl := (hV.2 h (by omega)).2.1
  have hS := (hP.2.2.1 h (by omega)).1
  unfold qd
  by_cases c : pl (hd x h) < pN P h
  · obtain ⟨q1, q2, q3, q4, q5⟩ := pO_lt hX hh c
    omega
  · obtain ⟨e1, e2⟩ := cO_end (P := P) (show pN P h ≤ pl (hd x h) by omega) hS
    have : cM P h ≤ 2 := by unfold cM; split <;> omega
    rw [e1, e2]; omega
theorem pm_lt {P : Pg} {x : Nat} (hX : PgX P) (hP : PgV P) (hV : VS P x) : ∀ h, h ≤ pH P → pm P x h < 64 * 105504 ^ h := by
  intro h
  induction h with
  | zero =>
    intro _
    have h0 := cv_lt x 0
    have h1 := cv_lt x 1
    have h2 := cv_lt x 2
    show 16 * cv x 0 + 4 * cv x 1 + cv x 2 < 64
    omega
  | succ h ih =>
    intro hh
    have hH := hP.1
    have i1 := ih (by omega)
    have q1 := (qd_lt hX hP hV (show h < pH P by omega)).1
    have w1 := wc_lt (hV.2 h (by omega)).1
    have a1 := ha_lt (hd x h)
    have b1 := hb_lt (hd x h)
    rw [pm, Nat.pow_succ]
    omega
theorem pm_63 {P : Pg} {x h : Nat} (hX : PgX P) (hP : PgV P) (hV : VS P x) (hh : h ≤ pH P) : pm P x h < 100000000000000000 := by
  have hH := hP.1
  have h1 := pm_lt hX hP hV h hh
  have h2 : 105504 ^ h ≤ 105504 ^ 3 := Nat.pow_le_pow_right (by omega) (by omega)
  have h3 : (105504 : Nat) ^ 3 = 1174374765785088 + 0 ∨ True := Or.inr trivial
  have h4 : (105504 : Nat) ^ 3 < 1200000000000000 := by decide
  omega
theorem wc_inj {w w' : Nat} (hw : w < 524288) (hw' : w' < 524288) (hW : WV w) (hW' : WV w') (e : wc w = wc w') : hn w = hn w' ∧ ho w = ho w' ∧ hl w = hl w' := by
  obtain ⟨h1, h2, h3, h4, h5⟩ := hW
  obtain ⟨g1, g2, g3, g4, g5⟩ := hW'
  unfold wc at e
  by_cases a0 : hn w = 0
  · have := h2 a0
    have := h3 (by omega)
    rw [if_pos a0] at e
    by_cases b0 : hn w' = 0
    · have := g2 b0
      have := g3 (by omega)
      omega
    · rw [if_neg b0] at e
      split at e <;> omega
  · rw [if_neg a0] at e
    by_cases b0 : hn w' = 0
    · rw [if_pos b0] at e
      split at e <;> omega
    · rw [if_neg b0] at e
      by_cases a1 : hn w = 1
      · have := h3 (by omega)
        rw [if_pos a1] at e
        by_cases b1 : hn w' = 1
        · have := g3 (by omega)
          rw [if_pos b1] at e
          omega
        · rw [if_neg b1] at e; omega
      · rw [if_neg a1] at e
        by_cases b1 : hn w' = 1
        · rw [if_pos b1] at e; omega
        · rw [if_neg b1] at e; omega
theorem qd_inj {P : Pg} {x y h : Nat} (hX : PgX P) (hP : PgV P) (hV : VS P x) (hV' : VS P y) (hh : h < pH P) (e : qd P x h = qd P y h) : pl (hd x h) = pl (hd y h) := by
  have hH := hP.1
  have hS := (hP.2.2.1 h (by omega)).1
  obtain ⟨g1, g2, g3⟩ := hX h hh
  have p1 := (qd_lt hX hP hV hh).2
  have p2 := (qd_lt hX hP hV' hh).2
  have l1 := (hV.2 h (by omega)).2.1
  have l2 := (hV'.2 h (by omega)).2.1
  unfold qd at e
  have e1 : cO P h (pl (hd x h)) = cO P h (pl (hd y h)) := by omega
  have e2 : pO P h (pl (hd x h)) = pO P h (pl (hd y h)) := by omega
  generalize pl (hd x h) = a at *
  generalize pl (hd y h) = b at *
  unfold cO at e1
  unfold pO at e2
  repeat' split at e1
  all_goals (repeat' split at e2)
  all_goals omega
theorem pm_inj {P : Pg} {x y : Nat} (hX : PgX P) (hP : PgV P) (hV : VS P x) (hV' : VS P y) (e : pm P x (pH P) = pm P y (pH P)) : x = y := by
  have hH := hP.1
  have key : ∀ h, h ≤ pH P → pm P x h = pm P y h → (∀ c, c < 3 → cv x c = cv y c) ∧ ∀ g, g < h → hd x g = hd y g := by
    intro h
    induction h with
    | zero =>
      intro _ e
      have a0 := cv_lt x 0
      have a1 := cv_lt x 1
      have a2 := cv_lt x 2
      have b0 := cv_lt y 0
      have b1 := cv_lt y 1
      have b2 := cv_lt y 2
      have e : 16 * cv x 0 + 4 * cv x 1 + cv x 2 = 16 * cv y 0 + 4 * cv y 1 + cv y 2 := e
      refine ⟨fun c hc => ?_, fun g hg => by omega⟩
      rcases lt3 hc with rfl | rfl | rfl <;> omega
    | succ h ih =>
      intro hh e
      have q1 := (qd_lt hX hP hV (show h < pH P by omega)).1
      have q2 := (qd_lt hX hP hV' (show h < pH P by omega)).1
      have w1 := wc_lt (hV.2 h (by omega)).1
      have w2 := wc_lt (hV'.2 h (by omega)).1
      have a1 := ha_lt (hd x h)
      have b1 := hb_lt (hd x h)
      have a2 := ha_lt (hd y h)
      have b2 := hb_lt (hd y h)
      rw [pm, pm] at e
      have ew : wc (hd x h) = wc (hd y h) := by omega
      have eq : qd P x h = qd P y h := by omega
      have ea : ha (hd x h) = ha (hd y h) ∧ hb (hd x h) = hb (hd y h) := by omega
      have ep : pm P x h = pm P y h := by omega
      obtain ⟨i1, i2⟩ := ih (by omega) ep
      refine ⟨i1, fun g hg => ?_⟩
      by_cases eg : g = h
      · subst eg
        obtain ⟨n1, n2, n3⟩ := wc_inj (hd_lt x g) (hd_lt y g) (hV.2 g (by omega)).1 (hV'.2 g (by omega)).1 ew
        rw [w_eta (hd_lt x g), w_eta (hd_lt y g), qd_inj hX hP hV hV' (by omega) eq, ea.1, ea.2, n1, n2, n3]
      · exact i2 g (by omega)
  obtain ⟨k1, k2⟩ := key (pH P) (Nat.le_refl _) e
  refine st_ext hV.1 hV'.1 k1 (fun g hg => ?_)
  by_cases c : g < pH P
  · exact k2 g c
  · rw [(hV.2 g hg).2.2 (by omega), (hV'.2 g hg).2.2 (by omega)]
theorem waitCode_eq {P : Pg} {σ : Mm} {x h : Nat} (hH : pH P ≤ 3) (hV : VS P x) (hM : MR P σ x) (hh : h < pH P) : f_X11_waitCode (nI h) σ = some (nI (wc (hd x h)), σ) := by
  obtain ⟨m1, m2, m3, m4, m5, m6, m7⟩ := hM.2 h hh
  obtain ⟨w1, w2, w3, w4, w5⟩ := (hV.2 h (by omega)).1
  unfold f_X11_waitCode wc
  simp only [qi_0, qi_1, qi_2, qi_3, qi_4, qi_5, qi_6, qi_7, qi_8, qi_9, qi_10, qi_11, qi_12, qi_13, qi_14, qi_15, qi_16, qi_17, qi_19, qi_26, qi_31, qi_32, qi_35, qi_40, qi_42, qi_48, qi_50, qi_57, qi_59, qi_63, qi_64, qi_97, qi_120, qi_122, qi_210, qi_255, qi_511, qi_512, qi_1000, qi_6000, qi_13312, qi_14337, qi_16383, qi_16384, qi_524287]
  rw [pk_mul, nI_add, p_ck _ (by omega) (by omega), p_ck _ (by omega) (by omega), p_nm, p_ck _ (by omega) (by omega), p_ck _ (by omega) (by omega), p_nm, p_ck _ (by omega) (by omega), p_ix (a := h) (by omega), p_ix (a := 2 * h) (by omega), p_ix (a := 2 * h + 1) (by omega), m5]
  by_cases n0 : hn (hd x h) = 0
  · rw [i_eq n0, if_pos n0]
  · obtain ⟨a1, a2⟩ := m6 (by omega)
    rw [i_ne (by omega) (by omega) n0, if_neg n0, p_ck _ (by omega) (by omega), a1, a2, pk_mul, nI_add, nI_add]
    by_cases n1 : hn (hd x h) = 1
    · rw [i_eq n1, if_pos n1]
      congr 3; omega
    · obtain ⟨b1, b2⟩ := m7 (by omega)
      rw [i_ne (by omega) (by omega) n1, if_neg n1, b1, b2, pk_mul, nI_add, pk_mul, nI_add, nI_add]
      congr 3; omega
theorem pack_eq {P : Pg} {σ : Mm} {x : Nat} (hX : PgX P) (hP : PgV P) (h487 : σ.1 48 7 = nI (pH P)) (hV : VS P x) (hM : MR P σ x) : f_X11_pack σ = some (lN (pm P x (pH P)), σ) := by
  have hH := hP.1
  have c0 := cv_lt x 0
  have c1 := cv_lt x 1
  have c2 := cv_lt x 2
  unfold f_X11_pack
  simp only [qi_0, qi_1, qi_2, qi_3, qi_4, qi_5, qi_6, qi_7, qi_8, qi_9, qi_10, qi_11, qi_12, qi_13, qi_14, qi_15, qi_16, qi_17, qi_19, qi_26, qi_31, qi_32, qi_35, qi_40, qi_42, qi_48, qi_50, qi_57, qi_59, qi_63, qi_64, qi_97, qi_120, qi_122, qi_210, qi_255, qi_511, qi_512, qi_1000, qi_6000, qi_13312, qi_14337, qi_16383, qi_16384, qi_524287, ql_0, ql_1, ql_3, ql_4, ql_10, ql_12, ql_13, ql_16, ql_42, ql_157, ql_256, ql_16383, ql_524287]
  rw [p_ck _ (by omega) (by omega), p_ck _ (by omega) (by omega), p_ck _ (by omega) (by omega), p_ix (a := 0) (by omega), p_ix (a := 1) (by omega), p_ix (a := 2) (by omega), hM.1 0 (by omega), hM.1 1 (by omega), hM.1 2 (by omega), nI_l (by omega), nI_l (by omega), nI_l (by omega), lN_mul, lN_mul, lN_add, lN_add, p_nm]
  refine lq2 (F := f_X11_pack_L34) (fun a b τ => ∃ h, h ≤ pH P ∧ a = lN (pm P x h) ∧ b = nI h ∧ τ = σ) (fun _ b _ => 4 - ix b) (fun o => o = some (lN (pm P x (pH P)), σ)) ?_ FU _ (nI 0) σ ?_ ⟨0, by omega, rfl, rfl, rfl⟩
  · rintro L a b τ ⟨h, hh, rfl, rfl, rfl⟩
    unfold f_X11_pack_L34
    simp only [qi_0, qi_1, qi_2, qi_3, qi_4, qi_5, qi_6, qi_7, qi_8, qi_9, qi_10, qi_11, qi_12, qi_13, qi_14, qi_15, qi_16, qi_17, qi_19, qi_26, qi_31, qi_32, qi_35, qi_40, qi_42, qi_48, qi_50, qi_57, qi_59, qi_63, qi_64, qi_97, qi_120, qi_122, qi_210, qi_255, qi_511, qi_512, qi_1000, qi_6000, qi_13312, qi_14337, qi_16383, qi_16384, qi_524287, ql_0, ql_1, ql_3, ql_4, ql_10, ql_12, ql_13, ql_16, ql_42, ql_157, ql_256, ql_16383, ql_524287]
    rw [h487]
    by_cases c : pH P ≤ h
    · right
      rw [i_le (by omega) c, show h = pH P by omega]
    · left
      obtain ⟨m1, m2, m3, m4, m5, m6, m7⟩ := hM.2 h (by omega)
      have a1 := ha_lt (hd x h)
      have b1 := hb_lt (hd x h)
      have q1 := qd_lt hX hP hV (show h < pH P by omega)
      have w1 := wc_lt (hV.2 h (by omega)).1
      have hc2 : cO P h (pl (hd x h)) ≤ 2 := cO_le h _
      rw [i_nle (by omega) (by omega), p_ck _ (by omega) (by omega), p_ck _ (by omega) (by omega), p_ix (a := h) (by omega), m1, m2, pk_mul, nI_l (by omega), nI_l (by omega), lN_mul, lN_add, lN_add, p_nm, p_ck _ (by omega) (by omega), p_ck _ (by omega) (by omega), m3, m4, pk_mul, nI_l (by omega), nI_l (by omega), lN_mul, lN_add, lN_add, p_nm, waitCode_eq hH hV hM (by omega), p_bd, nI_l (by omega), lN_mul, lN_add, p_nm, p_nm, nI_add]
      refine ⟨lN (pm P x (h + 1)), nI (h + 1), τ, ⟨h + 1, by omega, rfl, rfl, rfl⟩, ?_, ?_⟩
      · rw [p_ix (by omega)]; omega
      · congr 2
        rw [pm]
        unfold qd
        omega
  · rw [p_ix (by omega), FU_v]; omega
