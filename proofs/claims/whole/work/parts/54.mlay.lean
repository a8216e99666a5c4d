/-! PURE: the setup in the reference; its writes; fences -/
def CdS (σ : Mm) (k : Nat) (f : Nat → Nat) : Prop := σ.1 50 k = nI (f 0) ∧ (1 ≤ f 0 → f 0 ≤ 4 → σ.1 51 k = nI (f 1)) ∧ (f 0 = 2 ∨ f 0 = 3 ∨ f 0 = 4 ∨ f 0 = 7 → σ.1 52 k = vI (f 2)) ∧ (f 0 = 3 → σ.1 53 k = nI (f 3)) ∧ (f 0 = 6 → σ.1 54 k = nI (f 4))
def SeM (S : Su) (σ : Mm) : Prop := σ.1 48 0 = nI (sK S) ∧ σ.1 48 7 = nI (sH S) ∧ σ.1 48 11 = nI (sM S) ∧ (∀ c, c < sK S → σ.1 49 c = nI (sN S c)) ∧ (∀ c s, c < sK S → s < sN S c → CdS σ (7 * c + s) (sC S c s)) ∧ (∀ h, h < sH S → σ.1 55 (2 * h) = nI (sF S h) ∧ σ.1 56 h = nI (if sT S h = 0 then 1 else 2) ∧ (sT S h ≠ 0 → σ.1 55 (2 * h + 1) = nI (sT S h - 1))) ∧ ∀ c, c < 3 → σ.1 57 c = nI (sV S c)
theorem SeM_of {S : Su} {σ τ : Mm} (h : SeM S σ) (e0 : τ.1 48 0 = σ.1 48 0) (e7 : τ.1 48 7 = σ.1 48 7) (e11 : τ.1 48 11 = σ.1 48 11) (e49 : τ.1 49 = σ.1 49) (e50 : τ.1 50 = σ.1 50) (e51 : τ.1 51 = σ.1 51) (e52 : τ.1 52 = σ.1 52) (e53 : τ.1 53 = σ.1 53) (e54 : τ.1 54 = σ.1 54) (e55 : τ.1 55 = σ.1 55) (e56 : τ.1 56 = σ.1 56) (e57 : τ.1 57 = σ.1 57) : SeM S τ := by
  unfold SeM CdS at *
  rw [e0, e7, e11, e49, e50, e51, e52, e53, e54, e55, e56, e57]
  exact h
theorem SeM_Fr {S : Su} {L : List Nat} {σ τ : Mm} (h : SeM S σ) (hF : Fr L σ τ) (e0 : τ.1 48 0 = σ.1 48 0) (e7 : τ.1 48 7 = σ.1 48 7) (e11 : τ.1 48 11 = σ.1 48 11) (hL : ∀ k, k ∈ L → k < 49 ∨ 57 < k) : SeM S τ := by
  have q : ∀ k, 49 ≤ k → k ≤ 57 → k ∉ L := fun k h1 h2 h3 => by have := hL k h3; omega
  exact SeM_of h e0 e7 e11 (hF.r1 49 (q 49 (by omega) (by omega))) (hF.r1 50 (q 50 (by omega) (by omega))) (hF.r1 51 (q 51 (by omega) (by omega))) (hF.r1 52 (q 52 (by omega) (by omega))) (hF.r1 53 (q 53 (by omega) (by omega))) (hF.r1 54 (q 54 (by omega) (by omega))) (hF.r1 55 (q 55 (by omega) (by omega))) (hF.r1 56 (q 56 (by omega) (by omega))) (hF.r1 57 (q 57 (by omega) (by omega)))
def dnB (S : Su) (c n : Nat) : Bool := decide (∃ h, h < n ∧ (sF S h = c ∨ sT S h = c + 1))
theorem dnB_0 (S : Su) (c : Nat) : dnB S c 0 = false := decide_eq_false (fun ⟨_, h, _⟩ => by omega)
theorem dnB_t {S : Su} {c n : Nat} (h : dnB S c n = true) : dnB S c (n + 1) = true := by
  obtain ⟨g, g1, g2⟩ := of_decide_eq_true h
  exact decide_eq_true ⟨g, by omega, g2⟩
theorem dnB_y {S : Su} {c n : Nat} (h : sF S n = c ∨ sT S n = c + 1) : dnB S c (n + 1) = true := decide_eq_true ⟨n, by omega, h⟩
theorem dnB_n {S : Su} {c n : Nat} (h : dnB S c n = false) (h1 : ¬ sF S n = c) (h2 : ¬ sT S n = c + 1) : dnB S c (n + 1) = false := by
  refine decide_eq_false (fun ⟨g, g1, g2⟩ => ?_)
  by_cases e : g = n
  · rw [e] at g2
    rcases g2 with q | q
    · exact h1 q
    · exact h2 q
  · exact of_decide_eq_false h ⟨g, by omega, g2⟩
theorem misDone_eq {S : Su} {σ : Mm} {c : Nat} (hS : SuV S) (hC : SeM S σ) (hc : c < sK S) : f_X11_isDone (nI c) σ = some (bI (isDn S c), σ) := by
  have h6 := hS.1
  have hH := hS.2.2.2.1
  have e0 : isDn S c = dnB S c (sH S) := rfl
  rw [e0]
  unfold f_X11_isDone
  refine lq2 (F := f_X11_isDone_L4 (nI c)) (fun a b τ => ∃ h, h ≤ sH S ∧ a = bI (dnB S c h) ∧ b = nI h ∧ τ = σ) (fun _ b _ => 4 - ix b) (fun o => o = some (bI (dnB S c (sH S)), σ)) ?_ FU (0 : Int32) (0 : Int32) σ ?_ ⟨0, by omega, by rw [dnB_0, bI_f]; rfl, rfl, rfl⟩
  · rintro L a b τ ⟨h, hh, rfl, rfl, rfl⟩
    unfold f_X11_isDone_L4 f_X11_isDone_52 f_X11_isDone_56 f_X11_isDone_57
    simp only [qi_0, qi_1, qi_2, qi_3, qi_4, qi_5, qi_6, qi_7, qi_8, qi_9, qi_10, qi_11, qi_12, qi_13, qi_14, qi_15, qi_16, qi_17, qi_19, qi_26, qi_31, qi_32, qi_35, qi_40, qi_42, qi_48, qi_50, qi_57, qi_59, qi_63, qi_64, qi_97, qi_120, qi_122, qi_210, qi_255, qi_511, qi_512, qi_1000, qi_6000, qi_13312, qi_14337, qi_16383, qi_16384, qi_524287]
    rw [hC.2.1]
    by_cases c0 : sH S ≤ h
    · right
      have e : h = sH S := by omega
      rw [i_le (by omega) c0, e]
      cases dnB S c (sH S) with
      | false => rw [bI_f, p_cb0]
      | true => rw [bI_t, p_cb1]
    · left
      obtain ⟨a1, a2, a3⟩ := hC.2.2.2.2.2.1 h (by omega)
      obtain ⟨b1, b2⟩ := hS.2.2.2.2.1 h (by omega)
      rw [i_nle (by omega) (by omega), p_ix (a := h) (by omega)]
      have fin : ∀ (v : Bool) (o : Option (Int32 × Mm)), dnB S c (h + 1) = v → o = L (bI v) (nI (h + 1)) τ → ∃ a' b' σ', (∃ h, h ≤ sH S ∧ a' = bI (dnB S c h) ∧ b' = nI h ∧ σ' = τ) ∧ 4 - ix b' < 4 - h ∧ o = L a' b' σ' := by
        intro v o hv ho'
        refine ⟨bI v, nI (h + 1), τ, ⟨h + 1, by omega, by rw [hv], rfl, rfl⟩, ?_, ho'⟩
        rw [p_ix (by omega)]; omega
      cases hb : dnB S c h with
      | true =>
        refine fin true _ (dnB_t hb) ?_
        rw [bI_t, i_ne (by omega) (by omega) (by omega), p_nm, nI_add]
      | false =>
        rw [bI_f, i_eq rfl, pk_mul, p_ck _ (by omega) (by omega), p_ix (a := 2 * h) (by omega), a1]
        by_cases e1 : sF S h = c
        · refine fin true _ (dnB_y (Or.inl e1)) ?_
          rw [i_eq e1, p_nm, nI_add, bI_t]
        · rw [i_ne (by omega) (by omega) e1, p_ck _ (by omega) (by omega), a2]
          by_cases t0 : sT S h = 0
          · refine fin false _ (dnB_n hb e1 (by omega)) ?_
            rw [if_pos t0, i_ne (by omega) (by omega) (by omega), p_nm, nI_add, bI_f]
          · rw [if_neg t0, i_eq rfl, nI_add, p_ck _ (by omega) (by omega), p_ix (a := 2 * h + 1) (by omega), a3 t0]
            by_cases e2 : sT S h = c + 1
            · refine fin true _ (dnB_y (Or.inr e2)) ?_
              rw [i_eq (by omega), p_nm, nI_add, bI_t]
            · refine fin false _ (dnB_n hb e1 e2) ?_
              rw [i_ne (by omega) (by omega) (by omega), p_nm, nI_add, bI_f]
  · show 4 - ix (nI 0) < FU
    rw [p_ix (by omega), FU_v]; omega
/-- the writes that may get a fence -/
def WrM (W : List Nat) (σ : Mm) : Prop := σ.1 48 37 = nI W.length ∧ ∀ i, i < W.length → σ.1 72 i = nI (W.getD i 0)
def XFn (W : List Nat) (st k n : Nat) : Bool := decide (∃ i, i < n ∧ W.getD i 0 = k ∧ st / 2 ^ i % 2 = 1)
theorem XFn_0 (W : List Nat) (st k : Nat) : XFn W st k 0 = false := decide_eq_false (fun ⟨_, h, _⟩ => by omega)
theorem XFn_t {W : List Nat} {st k n : Nat} (h : XFn W st k n = true) : XFn W st k (n + 1) = true := by
  obtain ⟨g, g1, g2⟩ := of_decide_eq_true h
  exact decide_eq_true ⟨g, by omega, g2⟩
theorem XFn_y {W : List Nat} {st k n : Nat} (h1 : W.getD n 0 = k) (h2 : st / 2 ^ n % 2 = 1) : XFn W st k (n + 1) = true := decide_eq_true ⟨n, by omega, h1, h2⟩
theorem XFn_n {W : List Nat} {st k n : Nat} (h : XFn W st k n = false) (h1 : ¬ (W.getD n 0 = k ∧ st / 2 ^ n % 2 = 1)) : XFn W st k (n + 1) = false := by
  refine decide_eq_false (fun ⟨g, g1, g2, g3⟩ => ?_)
  by_cases e : g = n
  · rw [e] at g2 g3; exact h1 ⟨g2, g3⟩
  · exact of_decide_eq_false h ⟨g, by omega, g2, g3⟩
theorem isFenced_eq {W : List Nat} {st k : Nat} {σ : Mm} (hW : Wok W 42) (hM : WrM W σ) (hs : st < 64) (hk : k < 42) : f_X11_isFenced (nI k) (nI st) σ = some (bI (XF W st k), σ) := by
  have h6 := hW.1
  have e0 : XF W st k = XFn W st k W.length := rfl
  rw [e0]
  unfold f_X11_isFenced
  refine lq2 (F := f_X11_isFenced_L5 (nI k) (nI st)) (fun a b τ => ∃ h, h ≤ W.length ∧ a = bI (XFn W st k h) ∧ b = nI h ∧ τ = σ) (fun _ b _ => 7 - ix b) (fun o => o = some (bI (XFn W st k W.length), σ)) ?_ FU (0 : Int32) (0 : Int32) σ ?_ ⟨0, by omega, by rw [XFn_0, bI_f]; rfl, rfl, rfl⟩
  · rintro L a b τ ⟨h, hh, rfl, rfl, rfl⟩
    unfold f_X11_isFenced_L5 f_X11_isFenced_39 f_X11_isFenced_43 f_X11_isFenced_44
    simp only [qi_0, qi_1, qi_2, qi_3, qi_4, qi_5, qi_6, qi_7, qi_8, qi_9, qi_10, qi_11, qi_12, qi_13, qi_14, qi_15, qi_16, qi_17, qi_19, qi_26, qi_31, qi_32, qi_35, qi_40, qi_42, qi_48, qi_50, qi_57, qi_59, qi_63, qi_64, qi_97, qi_120, qi_122, qi_210, qi_255, qi_511, qi_512, qi_1000, qi_6000, qi_13312, qi_14337, qi_16383, qi_16384, qi_524287]
    rw [hM.1]
    by_cases c0 : W.length ≤ h
    · right
      have e : h = W.length := by omega
      rw [i_le (by omega) c0, e]
      cases XFn W st k W.length with
      | false => rw [bI_f, p_cb0]
      | true => rw [bI_t, p_cb1]
    · left
      have hw := hW.2.2 h (by omega)
      rw [i_nle (by omega) (by omega), p_ix (a := h) (by omega)]
      have fin : ∀ (v : Bool) (o : Option (Int32 × Mm)), XFn W st k (h + 1) = v → o = L (bI v) (nI (h + 1)) τ → ∃ a' b' σ', (∃ h, h ≤ W.length ∧ a' = bI (XFn W st k h) ∧ b' = nI h ∧ σ' = τ) ∧ 7 - ix b' < 7 - h ∧ o = L a' b' σ' := by
        intro v o hv ho'
        refine ⟨bI v, nI (h + 1), τ, ⟨h + 1, by omega, by rw [hv], rfl, rfl⟩, ?_, ho'⟩
        rw [p_ix (by omega)]; omega
      cases hb : XFn W st k h with
      | true =>
        refine fin true _ (XFn_t hb) ?_
        rw [bI_t, i_ne (by omega) (by omega) (by omega), p_nm, nI_add]
      | false =>
        rw [bI_f, i_eq rfl, p_ck _ (by omega) (by omega), hM.2 h (by omega), bit_i hs (by omega)]
        by_cases e1 : W.getD h 0 = k
        · rw [i_eq e1]
          by_cases e2 : st / 2 ^ h % 2 = 1
          · refine fin true _ (XFn_y e1 e2) ?_
            rw [i_eq e2, p_nm, nI_add, bI_t]
          · refine fin false _ (XFn_n hb (fun q => e2 q.2)) ?_
            rw [i_ne (by omega) (by omega) e2, p_nm, nI_add, bI_f]
        · refine fin false _ (XFn_n hb (fun q => e1 q.1)) ?_
          rw [i_ne (by omega) (by omega) e1, p_nm, nI_add, bI_f]
  · show 7 - ix (nI 0) < FU
    rw [p_ix (by omega), FU_v]; omega
def fwL : List Nat := [48, 72]
theorem findWrites_eq {S : Su} {σ : Mm} (hS : SuV S) (hC : SeM S σ) : ∃ σ', f_X11_findWrites σ = some ((), σ') ∧ WrM (wrs S) σ' ∧ (∀ j, j ≠ 37 → σ'.1 48 j = σ.1 48 j) ∧ Fr fwL σ σ' := by
  have h6 := hS.1
  have hse : ∀ τ, (∀ j, j ≠ 37 → τ.1 48 j = σ.1 48 j) → Fr fwL σ τ → SeM S τ := fun τ h1 h2 => SeM_Fr hC h2 (h1 0 (by decide)) (h1 7 (by decide)) (h1 11 (by decide)) (by decide)
  have inner : ∀ (c : Nat) (τ : Mm) (K : Mm → Option (Unit × Mm)), c < sK S → WrM (wrC S c) τ → (∀ j, j ≠ 37 → τ.1 48 j = σ.1 48 j) → Fr fwL σ τ → ∃ τ', fx (fun _ _ => none) FU (f_X11_findWrites_L17 K (nI c)) (nI 0) τ = K τ' ∧ WrM (wrC S (c + 1)) τ' ∧ (∀ j, j ≠ 37 → τ'.1 48 j = σ.1 48 j) ∧ Fr fwL σ τ' := by
    intro c τ K hc h30 hJ hF
    have h7 := (hS.2.1 c hc).2
    have hbase := wrC_ok hS c (by omega)
    have hnd : isDn S c = false → wrC S (c + 1) = wrC S c := fun q => by rw [wrC, q]; rfl
    have hyd : isDn S c = true → wrC S (c + 1) = wrS S c (sN S c) (wrC S c) := fun q => by rw [wrC, q]; rfl
    refine lq1 (F := f_X11_findWrites_L17 K (nI c)) (fun b υ => ∃ s, s ≤ sN S c ∧ (0 < s → isDn S c = true) ∧ b = nI s ∧ WrM (wrS S c s (wrC S c)) υ ∧ (∀ j, j ≠ 37 → υ.1 48 j = σ.1 48 j) ∧ Fr fwL σ υ) (fun b _ => 8 - ix b) (fun o => ∃ τ', o = K τ' ∧ WrM (wrC S (c + 1)) τ' ∧ (∀ j, j ≠ 37 → τ'.1 48 j = σ.1 48 j) ∧ Fr fwL σ τ') ?_ FU (nI 0) τ ?_ ⟨0, by omega, fun q => by omega, rfl, h30, hJ, hF⟩
    · rintro L b υ ⟨s, hs, hsd, rfl, u1, uJ, u2⟩
      have hCu := hse υ uJ u2
      have h8 := hCu.2.2.2.1 c hc
      have hl6 := (wrS_ok (S := S) (c := c) hbase s).1
      have hn1 := (hS.2.1 c hc).1
      unfold f_X11_findWrites_L17 f_X11_findWrites_84
      simp only [qi_0, qi_1, qi_2, qi_3, qi_4, qi_5, qi_6, qi_7, qi_8, qi_9, qi_10, qi_11, qi_12, qi_13, qi_14, qi_15, qi_16, qi_17, qi_19, qi_26, qi_31, qi_32, qi_35, qi_40, qi_42, qi_48, qi_50, qi_57, qi_59, qi_63, qi_64, qi_97, qi_120, qi_122, qi_210, qi_255, qi_511, qi_512, qi_1000, qi_6000, qi_13312, qi_14337, qi_16383, qi_16384, qi_524287]
      rw [p_ck _ (by omega) (by omega), p_ix (a := c) (by omega), h8]
      by_cases c0 : sN S c ≤ s
      · right
        have e : s = sN S c := by omega
        have hd := hsd (by omega)
        rw [i_le (by omega) c0, hyd hd, ← e]
        exact ⟨υ, rfl, u1, uJ, u2⟩
      · rw [i_nle (by omega) (by omega), misDone_eq hS hCu hc, p_bd]
        cases hd : isDn S c with
        | false =>
          right
          have hs0 : s = 0 := by
            apply Classical.byContradiction
            intro q
            have := hsd (by omega)
            rw [hd] at this; cases this
          subst hs0
          rw [bI_f, i_eq rfl, hnd hd]
          exact ⟨υ, rfl, u1, uJ, u2⟩
        | true =>
          left
          have hcd := hCu.2.2.2.2.1 c s hc (by omega)
          have v1 := (hS.2.2.1 c s hc (by omega)).1
          rw [bI_t, i_ne (by omega) (by omega) (by omega), pk_mul, nI_add, p_ck _ (by omega) (by omega), p_ix (a := 7 * c + s) (by omega), hcd.1]
          by_cases k2 : sC S c s 0 = 2
          · rw [i_eq k2, u1.1]
            by_cases l6 : (wrS S c s (wrC S c)).length < 6
            · have ew : wrS S c (s + 1) (wrC S c) = wrS S c s (wrC S c) ++ [7 * c + s] := by rw [wrS, if_pos ⟨k2, l6⟩]
              rw [i_nle (by omega) l6, p_ck _ (by omega) (by omega), p_ix (a := (wrS S c s (wrC S c)).length) (by omega), p_nm, r_sI1 (by decide), u1.1, nI_add, p_nm, nI_add, p_nm]
              refine ⟨nI (s + 1), sI (sI υ 72 (wrS S c s (wrC S c)).length (nI (7 * c + s))) 48 37 (nI ((wrS S c s (wrC S c)).length + 1)), ⟨s + 1, by omega, fun _ => rfl, rfl, ?_, ?_, (u2.sI (by decide)).sI (by decide)⟩, ?_, rfl⟩
              · rw [ew]
                refine ⟨by rw [r_sI0, List.length_append, List.length_singleton], ?_⟩
                intro i hi
                rw [List.length_append, List.length_singleton] at hi
                rw [gd_app, r_sI1 (by decide)]
                by_cases e : i = (wrS S c s (wrC S c)).length
                · rw [e, r_sI0, if_neg (by omega), if_pos rfl]
                · rw [r_sIj e, if_pos (by omega)]; exact u1.2 i (by omega)
              · intro j hj
                rw [r_sIj hj, r_sI1 (by decide)]; exact uJ j hj
              · rw [p_ix (by omega), p_ix (by omega)]; omega
            · have ew : wrS S c (s + 1) (wrC S c) = wrS S c s (wrC S c) := by rw [wrS, if_neg (fun q => l6 q.2)]
              rw [i_le (by omega) (by omega), p_nm, nI_add]
              refine ⟨nI (s + 1), υ, ⟨s + 1, by omega, fun _ => rfl, rfl, by rw [ew]; exact u1, uJ, u2⟩, ?_, rfl⟩
              rw [p_ix (by omega), p_ix (by omega)]; omega
          · have ew : wrS S c (s + 1) (wrC S c) = wrS S c s (wrC S c) := by rw [wrS, if_neg (fun q => k2 q.1)]
            rw [i_ne (by omega) (by omega) k2, p_nm, nI_add]
            refine ⟨nI (s + 1), υ, ⟨s + 1, by omega, fun _ => rfl, rfl, by rw [ew]; exact u1, uJ, u2⟩, ?_, rfl⟩
            rw [p_ix (by omega), p_ix (by omega)]; omega
    · rw [p_ix (by omega), FU_v]; omega
  unfold f_X11_findWrites
  simp only [qi_0, qi_1, qi_2, qi_3, qi_4, qi_5, qi_6, qi_7, qi_8, qi_9, qi_10, qi_11, qi_12, qi_13, qi_14, qi_15, qi_16, qi_17, qi_19, qi_26, qi_31, qi_32, qi_35, qi_40, qi_42, qi_48, qi_50, qi_57, qi_59, qi_63, qi_64, qi_97, qi_120, qi_122, qi_210, qi_255, qi_511, qi_512, qi_1000, qi_6000, qi_13312, qi_14337, qi_16383, qi_16384, qi_524287]
  rw [p_nm]
  refine lq1 (F := f_X11_findWrites_L7) (fun b υ => ∃ c, c ≤ sK S ∧ b = nI c ∧ WrM (wrC S c) υ ∧ (∀ j, j ≠ 37 → υ.1 48 j = σ.1 48 j) ∧ Fr fwL σ υ) (fun b _ => 7 - ix b) (fun o => ∃ σ', o = some ((), σ') ∧ WrM (wrs S) σ' ∧ (∀ j, j ≠ 37 → σ'.1 48 j = σ.1 48 j) ∧ Fr fwL σ σ') ?_ FU (nI 0) _ ?_ ⟨0, by omega, rfl, ⟨r_sI0 .., fun i hi => absurd hi (Nat.not_lt_zero _)⟩, fun j hj => r_sIj hj, (Fr.rf _ _).sI (by decide)⟩
  · rintro L b υ ⟨c, hc, rfl, u1, uJ, u2⟩
    unfold f_X11_findWrites_L7 f_X11_findWrites_90
    simp only [qi_0, qi_1, qi_2, qi_3, qi_4, qi_5, qi_6, qi_7, qi_8, qi_9, qi_10, qi_11, qi_12, qi_13, qi_14, qi_15, qi_16, qi_17, qi_19, qi_26, qi_31, qi_32, qi_35, qi_40, qi_42, qi_48, qi_50, qi_57, qi_59, qi_63, qi_64, qi_97, qi_120, qi_122, qi_210, qi_255, qi_511, qi_512, qi_1000, qi_6000, qi_13312, qi_14337, qi_16383, qi_16384, qi_524287]
    rw [uJ 0 (by decide), hC.1]
    by_cases c0 : sK S ≤ c
    · right
      have e : c = sK S := by omega
      subst e
      rw [i_le (by omega) c0]
      exact ⟨υ, rfl, u1, uJ, u2⟩
    · left
      obtain ⟨τ', e1, e2, e3, e4⟩ := inner c υ (fun (σ : Mm) => nm (nI c + nI 1) (fun vq7 => L vq7 σ)) (by omega) u1 uJ u2
      rw [i_nle (by omega) (by omega), e1, p_nm, nI_add]
      refine ⟨nI (c + 1), τ', ⟨c + 1, by omega, rfl, e2, e3, e4⟩, ?_, rfl⟩
      rw [p_ix (by omega), p_ix (by omega)]; omega
  · rw [p_ix (by omega), FU_v]; omega
