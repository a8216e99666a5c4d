/-! PURE: the reference plays a told turn -/
theorem lc_gt (x y : Int64) : (nI 0 < lg_cmp x y) = (y < x) := by
  have h1 := lc_ge x y
  have h2 := lc_eq x y
  have a1 : nI 0 < lg_cmp x y ↔ (nI 0 ≤ lg_cmp x y ∧ ¬ lg_cmp x y = nI 0) := by
    rw [Int32.lt_iff_toInt_lt, Int32.le_iff_toInt_le]
    constructor
    · intro h
      refine ⟨by omega, fun q => ?_⟩
      rw [q] at h; omega
    · rintro ⟨h, hne⟩
      have : (lg_cmp x y).toInt ≠ (nI 0).toInt := fun q => hne (Int32.toInt_inj.mp q)
      omega
  have a2 : y < x ↔ (y ≤ x ∧ ¬ x = y) := by
    rw [Int64.lt_iff_toInt_lt, Int64.le_iff_toInt_le]
    constructor
    · intro h
      refine ⟨by omega, fun q => ?_⟩
      rw [q] at h; omega
    · rintro ⟨h, hne⟩
      have : x.toInt ≠ y.toInt := fun q => hne (Int64.toInt_inj.mp q)
      omega
  rw [propext a1, propext a2, h1, h2]
theorem can_no {m : Nat} {l : Int32} {σ : Mm} {p : Nat} (h7 : σ.1 48 7 = nI p) (hp : p ≤ 3) (h3 : 3 ≤ m) (h9 : m < 10) : f_X11_can (nI m) l σ = some (nI 0, σ) := by
  unfold f_X11_can
  simp only [qi_0, qi_1, qi_2, qi_3, qi_4, qi_5, qi_6, qi_7, qi_8, qi_9, qi_10, qi_11, qi_12, qi_13, qi_14, qi_15, qi_16, qi_17, qi_19, qi_26, qi_31, qi_32, qi_35, qi_40, qi_42, qi_48, qi_50, qi_57, qi_59, qi_63, qi_64, qi_97, qi_120, qi_122, qi_210, qi_255, qi_511, qi_512, qi_1000, qi_6000, qi_13312, qi_14337, qi_16383, qi_16384, qi_524287]
  rw [i_lt (by omega) h9, i_nlt (by omega) (by omega), h7, i_le (by omega) (by omega), p_cb0]
theorem MR_of {P : Pg} {σ τ : Mm} {x : Nat} (h : MR P σ x) (e74 : τ.1 74 = σ.1 74) (e75 : τ.1 75 = σ.1 75) (e76 : τ.1 76 = σ.1 76) (e77 : τ.1 77 = σ.1 77) (e78 : τ.1 78 = σ.1 78) (e79 : τ.1 79 = σ.1 79) (e80 : τ.1 80 = σ.1 80) (e81 : τ.1 81 = σ.1 81) : MR P τ x := by
  refine ⟨fun c hc => by rw [e74]; exact h.1 c hc, fun g hg => MRh_of (h.2 g hg) ?_ ?_ ?_ ?_ ?_ ?_ ?_ ?_ ?_⟩
  · rw [e75]
  · rw [e76]
  · rw [e77]
  · rw [e78]
  · rw [e79]
  · rw [e80]
  · rw [e81]
  · rw [e80]
  · rw [e81]
def plM : List Nat := [48, 74, 75, 76, 77, 78, 79, 80, 81, 94]
theorem mplay_eq {P : Pg} {σ : Mm} {q n : Nat} (hP : PgV P) (hX : PgX P) (hL : LdM P σ) (h11 : σ.1 48 11 = nI (pL P)) (h0 : VS P (pF P)) (hM : MR P σ (pF P)) (hq : q < 4) (hn' : n ≤ 40) (hs : σ.1 62 q = nI n) (h66 : σ.1 48 66 = nI 0) (h94 : ∀ c, c < 3 → σ.1 94 c = -nI 1) (num : Nat → Int64) (hnum : ∀ i, i < n → σ.2 63 (40 * q + i) = num i) :
    ∃ σ', f_X11_plays_34 (nI q) σ = some (nI (ply P num n).2.2.2, σ') ∧ MR P σ' (ply P num n).1 ∧ σ'.1 48 66 = nI (ply P num n).2.2.1 ∧ (∀ j, j ≠ 47 → j ≠ 66 → σ'.1 48 j = σ.1 48 j) ∧ Fr plM σ σ' := by
  have hok := ply_ok hP h0 num
  have hH := hP.1
  have hl1 := hP.2.1
  unfold f_X11_plays_34
  rw [qi_0]
  refine lq1 (bot := fun _ _ => none) (F := f_X11_plays_L36 (nI q)) (fun a τ => ∃ i, i ≤ n ∧ a = nI i ∧ (ply P num i).2.2.2 = i ∧ MR P τ (ply P num i).1 ∧ τ.1 48 66 = nI (ply P num i).2.2.1 ∧ (∀ c, c < 3 → τ.1 94 c = tI ((ply P num i).2.1 c)) ∧ (∀ j, j ≠ 47 → j ≠ 66 → τ.1 48 j = σ.1 48 j) ∧ Fr plM σ τ) (fun a _ => 41 - ix a) (fun o => ∃ σ', o = some (nI (ply P num n).2.2.2, σ') ∧ MR P σ' (ply P num n).1 ∧ σ'.1 48 66 = nI (ply P num n).2.2.1 ∧ (∀ j, j ≠ 47 → j ≠ 66 → σ'.1 48 j = σ.1 48 j) ∧ Fr plM σ σ') ?_ FU (nI 0) σ ?_ ⟨0, by omega, rfl, rfl, hM, h66, h94, fun j _ _ => rfl, Fr.rf _ _⟩
  · rintro L a τ ⟨i, hi, rfl, hdi, t1, t2, t3, tJ, tF⟩
    obtain ⟨o1, o2, o3, o4⟩ := hok i
    have hLt : LdM P τ := LdM_of hL (tJ 7 (by decide) (by decide)) (tF.r1 55 (by decide)) (tF.r1 56 (by decide)) (tF.r1 66 (by decide)) (tF.r1 67 (by decide)) (tF.r1 68 (by decide)) (tF.r1 69 (by decide)) (tF.r1 70 (by decide)) (tF.r1 71 (by decide))
    have t11 : τ.1 48 11 = nI (pL P) := by rw [tJ 11 (by decide) (by decide)]; exact h11
    have t62 : τ.1 62 q = nI n := by rw [tF.r1 62 (by decide)]; exact hs
    unfold f_X11_plays_L36
    simp only [qi_0, qi_1, qi_2, qi_3, qi_4, qi_5, qi_6, qi_7, qi_8, qi_9, qi_10, qi_11, qi_12, qi_13, qi_14, qi_15, qi_16, qi_17, qi_19, qi_26, qi_31, qi_32, qi_35, qi_40, qi_42, qi_48, qi_50, qi_57, qi_59, qi_63, qi_64, qi_97, qi_120, qi_122, qi_210, qi_255, qi_511, qi_512, qi_1000, qi_6000, qi_13312, qi_14337, qi_16383, qi_16384, qi_524287, ql_0, ql_1, ql_3, ql_4, ql_10, ql_12, ql_13, ql_16, ql_42, ql_157, ql_256, ql_16383, ql_524287, lc_lt, lc_gt]
    rw [p_ck _ (by omega) (by omega), p_ix (a := q) (by omega), t62]
    by_cases c : n ≤ i
    · right
      have e : i = n := by omega
      subst e
      rw [i_le (by omega) c, p_ck _ (by omega) (by omega)]
      exact ⟨τ, by rw [hdi], t1, t2, tJ, tF⟩
    · have t63 : τ.2 63 (40 * q + i) = num i := by rw [tF.r2 63 (by decide)]; exact hnum i (by omega)
      rw [i_nle (by omega) (by omega), pk_mul, nI_add, p_ck _ (by omega) (by omega), p_ix (a := 40 * q + i) (by omega), t63, p_nm]
      -- it ends here
      have stop : ply P num (i + 1) = ply P num i → ∃ σ', some (nI i, τ) = some (nI (ply P num n).2.2.2, σ') ∧ MR P σ' (ply P num n).1 ∧ σ'.1 48 66 = nI (ply P num n).2.2.1 ∧ (∀ j, j ≠ 47 → j ≠ 66 → σ'.1 48 j = σ.1 48 j) ∧ Fr plM σ σ' := by
        intro he
        have hz := ply_frz (P := P) (num := num) (i := i + 1) (by rw [he]; omega) (n - (i + 1))
        rw [show i + 1 + (n - (i + 1)) = n by omega, he] at hz
        rw [hz]
        exact ⟨τ, by rw [hdi], t1, t2, tJ, tF⟩
      have hst : ply P num (i + 1) = match mvN (num i) with
          | none => ply P num i
          | some k => match mv P (pL P) (ply P num i).1 k with
            | none => ply P num i
            | some y => plyX P (ply P num i) k y := by rw [ply, if_neg (by omega)]; rfl
      by_cases v0 : num i < lN 0
      · right
        have e : mvN (num i) = none := if_pos v0
        rw [e] at hst
        rw [if_pos v0]
        exact stop hst
      · obtain ⟨m, hm, em⟩ := pk_lOf v0
        have hm : m < 9223372036854775808 := by omega
        rw [if_neg v0, em]
        have emv : mvN (num i) = if m < 3 then some m else if 10 ≤ m ∧ m < 13 then some (m - 7) else none := by rw [em, mvN_n hm]
        by_cases v12 : 12 < m
        · right
          rw [if_neg (show ¬ m < 3 by omega), if_neg (show ¬ (10 ≤ m ∧ m < 13) by omega)] at emv
          rw [emv] at hst
          rw [if_pos (show lN 12 < lN m by rw [pk_lLT (by omega) (by omega)]; omega)]
          exact stop hst
        · rw [if_neg (show ¬ lN 12 < lN m by rw [pk_lLT (by omega) (by omega)]; omega), lN_i, t11]
          by_cases v3 : 3 ≤ m ∧ m < 10
          · right
            rw [if_neg (show ¬ m < 3 by omega), if_neg (show ¬ (10 ≤ m ∧ m < 13) by omega)] at emv
            rw [emv] at hst
            rw [can_no hLt.1 hH v3.1 v3.2, p_bd, i_eq rfl]
            exact stop hst
          · obtain ⟨k, hk6, ek, emk⟩ : ∃ k, k < 6 ∧ mvN (num i) = some k ∧ m = mOf k := by
              by_cases c3 : m < 3
              · rw [if_pos c3] at emv
                exact ⟨m, by omega, emv, (if_pos c3).symm⟩
              · rw [if_neg c3, if_pos (by omega)] at emv
                exact ⟨m - 7, by omega, emv, by unfold mOf; rw [if_neg (by omega)]; omega⟩
            rw [ek] at hst
            simp only at hst
            rw [emk, can_eq hP hX hLt o1 t1 hk6 (by omega), p_bd]
            cases hmv : mv P (pL P) (ply P num i).1 k with
            | none =>
              right
              rw [hmv] at hst
              simp only at hst
              rw [decide_eq_false (fun z => z rfl), bI_f, i_eq rfl]
              exact stop hst
            | some y =>
              left
              rw [hmv] at hst
              simp only at hst
              obtain ⟨ρ, d1, d2, d3, d4, d5⟩ := does_eq hP hX hLt o1 t1 hk6 hmv
              have hirm : irm (nI (mOf k)) (nI 10) = nI (k % 3) := by
                rw [p_irm (by unfold mOf; split <;> omega) (by omega) (by omega)]
                congr 1
                unfold mOf
                split <;> omega
              have d94 : ∀ c, c < 3 → ρ.1 94 c = tI ((ply P num i).2.1 c) := fun c hc => by rw [d5.r1 94 (by decide)]; exact t3 c hc
              rw [decide_eq_true (by intro z; cases z), bI_t, i_ne (by omega) (by omega) (by omega), t11, d1, p_bd, d4 66 (by decide), t2, nI_add, p_nm, r_sIj (by decide), d3, p_ix (a := i) (by omega)]
              have hMR : ∀ v : Int32, ∀ w : Int32, MR P (sI (sI ρ 48 66 v) 48 66 w) (y) := fun v w => MR_of d2 (by rw [r_sI1 (by decide), r_sI1 (by decide)]) (by rw [r_sI1 (by decide), r_sI1 (by decide)]) (by rw [r_sI1 (by decide), r_sI1 (by decide)]) (by rw [r_sI1 (by decide), r_sI1 (by decide)]) (by rw [r_sI1 (by decide), r_sI1 (by decide)]) (by rw [r_sI1 (by decide), r_sI1 (by decide)]) (by rw [r_sI1 (by decide), r_sI1 (by decide)]) (by rw [r_sI1 (by decide), r_sI1 (by decide)])
              have hMR1 : ∀ v : Int32, MR P (sI ρ 48 66 v) (y) := fun v => MR_of d2 (by rw [r_sI1 (by decide)]) (by rw [r_sI1 (by decide)]) (by rw [r_sI1 (by decide)]) (by rw [r_sI1 (by decide)]) (by rw [r_sI1 (by decide)]) (by rw [r_sI1 (by decide)]) (by rw [r_sI1 (by decide)]) (by rw [r_sI1 (by decide)])
              have hFρ : Fr plM σ ρ := tF.tr (d5.mo (by intro k hk; revert k; decide))
              have hJρ : ∀ j, j ≠ 47 → j ≠ 66 → ρ.1 48 j = σ.1 48 j := fun j j1 j2 => (d4 j j1).trans (tJ j j1 j2)
              unfold plyX at hst
              cases ht : tch P (ply P num i).1 k with
              | none =>
                rw [ht] at hst
                simp only at hst
                unfold f_X11_plays_172
                rw [show iO none = -nI 1 from rfl, i_m1lt (by omega), qi_1, nI_add, p_nm]
                refine ⟨nI (i + 1), _, ⟨i + 1, by omega, rfl, ?_, ?_, ?_, ?_, fun j j1 j2 => by rw [r_sIj j2]; exact hJρ j j1 j2, hFρ.sI (by decide)⟩, ?_, rfl⟩
                · rw [hst]; show _ + 1 = _; rw [hdi]
                · rw [hst]; exact hMR1 _
                · rw [hst, r_sI0]
                · intro c hc
                  rw [hst, r_sI1 (by decide)]; exact d94 c hc
                · rw [p_ix (by omega)]; omega
              | some c =>
                have hc3 := tch_lt hP o1 hk6 (by rw [hmv]; intro z; cases z) ht
                have hl3 := o4 c
                rw [ht] at hst
                simp only at hst
                rw [show iO (some c) = nI c from rfl, i_nlt (by omega) (by omega), hirm, p_nm, p_ck _ hc3 (by omega), p_ix (a := c) (by omega), r_sI1 (by decide), d94 c hc3, r_sI0]
                have hmo : mOf k < 13 := by unfold mOf; split <;> omega
                have fin : ∀ (e v : Nat), v = (if (ply P num i).2.1 c ≠ 0 ∧ (ply P num i).2.1 c ≠ k % 3 + 1 then 5 else 1) → e + 1 = v → ∃ a' σ', (∃ i, i ≤ n ∧ a' = nI i ∧ (ply P num i).2.2.2 = i ∧ MR P σ' (ply P num i).1 ∧ σ'.1 48 66 = nI (ply P num i).2.2.1 ∧ (∀ c, c < 3 → σ'.1 94 c = tI ((ply P num i).2.1 c)) ∧ (∀ j, j ≠ 47 → j ≠ 66 → σ'.1 48 j = σ.1 48 j) ∧ Fr plM σ σ') ∧ 41 - ix a' < 41 - i ∧ f_X11_plays_157 L (nI q) (nI i) (nI (k % 3)) (nI ((ply P num i).2.2.1 + 1)) (nI e) (sI ρ 48 66 (nI ((ply P num i).2.2.1 + 1))) = L a' σ' := by
                  intro e v hv hev
                  unfold f_X11_plays_157 f_X11_plays_172
                  rw [nI_add, p_nm, r_sIj (by decide), r_sIj (by decide), d3, ht, show iO (some c) = nI c from rfl, p_ck _ hc3 (by omega), p_ix (a := c) (by omega), p_nm, qi_1, nI_add, p_nm]
                  refine ⟨nI (i + 1), _, ⟨i + 1, by omega, rfl, ?_, ?_, ?_, ?_, fun j j1 j2 => by rw [r_sI1 (by decide), r_sIj j2, r_sIj j2]; exact hJρ j j1 j2, ((hFρ.sI (by decide)).sI (by decide)).sI (by decide)⟩, ?_, rfl⟩
                  · rw [hst]; show _ + 1 = _; rw [hdi]
                  · rw [hst]
                    exact MR_of (hMR _ _) (by rw [r_sI1 (by decide)]) (by rw [r_sI1 (by decide)]) (by rw [r_sI1 (by decide)]) (by rw [r_sI1 (by decide)]) (by rw [r_sI1 (by decide)]) (by rw [r_sI1 (by decide)]) (by rw [r_sI1 (by decide)]) (by rw [r_sI1 (by decide)])
                  · rw [hst, r_sI1 (by decide), r_sI0]
                    show _ = nI ((ply P num i).2.2.1 + (if (ply P num i).2.1 c ≠ 0 ∧ (ply P num i).2.1 c ≠ k % 3 + 1 then 5 else 1))
                    rw [← hv, ← hev, Nat.add_assoc, Nat.add_comm 1 e]
                  · intro d hd3
                    rw [hst]
                    show _ = tI (upq (ply P num i).2.1 c (k % 3 + 1) d)
                    by_cases e : d = c
                    · rw [e, r_sI0, upq_s]
                      exact (if_neg (by omega)).symm
                    · rw [r_sIj e, upq_n e, r_sI1 (by decide), r_sI1 (by decide)]; exact d94 d hd3
                  · rw [p_ix (by omega)]; omega
                unfold f_X11_plays_156
                rw [qi_0]
                by_cases l0 : (ply P num i).2.1 c = 0
                · rw [show tI ((ply P num i).2.1 c) = -nI 1 from if_pos l0, i_m1lt (by omega)]
                  exact fin 0 1 (by rw [if_neg (fun z => z.1 l0)]) rfl
                · rw [show tI ((ply P num i).2.1 c) = nI ((ply P num i).2.1 c - 1) from if_neg l0, i_nlt (by omega) (by omega), p_ck _ hc3 (by omega)]
                  by_cases l1 : (ply P num i).2.1 c = k % 3 + 1
                  · rw [i_eq (by omega)]
                    exact fin 0 1 (by rw [if_neg (fun z => z.2 l1)]) rfl
                  · rw [i_ne (by omega) (by omega) (by omega)]
                    exact fin 4 5 (by rw [if_pos ⟨l0, l1⟩]) rfl
  · rw [p_ix (by omega), FU_v]; omega
