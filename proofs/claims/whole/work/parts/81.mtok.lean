/-! PURE: tokens in the reference -/
def pkb (f : Nat → Nat) : Nat → Nat
  | 0 => 0
  | i + 1 => 256 * pkb f i + f i
theorem pkb_inj {f g : Nat → Nat} : ∀ c m, (∀ i, i < c → 1 ≤ f i ∧ f i < 256) → (∀ i, i < m → 1 ≤ g i ∧ g i < 256) → pkb f c = pkb g m → c = m ∧ ∀ i, i < m → f i = g i := by
  intro c
  induction c with
  | zero =>
    intro m h1 h2 e
    cases m with
    | zero => exact ⟨rfl, fun i hi => by omega⟩
    | succ m =>
      have := h2 m (by omega)
      have e : 0 = 256 * pkb g m + g m := e
      omega
  | succ c ih =>
    intro m h1 h2 e
    have a1 := h1 c (by omega)
    cases m with
    | zero =>
      have e : 256 * pkb f c + f c = 0 := e
      omega
    | succ m =>
      have a2 := h2 m (by omega)
      have e : 256 * pkb f c + f c = 256 * pkb g m + g m := e
      obtain ⟨i1, i2⟩ := ih m (fun i hi => h1 i (by omega)) (fun i hi => h2 i (by omega)) (by omega)
      subst i1
      refine ⟨rfl, fun i hi => ?_⟩
      by_cases q : i = c
      · rw [q]; omega
      · exact i2 i (by omega)
theorem pkb_lt {f : Nat → Nat} : ∀ c, (∀ i, i < c → f i < 256) → pkb f c < 256 ^ c := by
  intro c
  induction c with
  | zero => intro _; exact Nat.one_pos
  | succ c ih =>
    intro h
    have h1 := ih (fun i hi => h i (by omega))
    have h2 := h c (by omega)
    show 256 * pkb f c + f c < 256 ^ (c + 1)
    rw [Nat.pow_succ]
    omega
theorem pkb_congr {f g : Nat → Nat} : ∀ c, (∀ i, i < c → f i = g i) → pkb f c = pkb g c := by
  intro c
  induction c with
  | zero => intro _; rfl
  | succ c ih =>
    intro h
    show 256 * pkb f c + f c = 256 * pkb g c + g c
    rw [ih (fun i hi => h i (by omega)), h c (by omega)]
def wpk (w : Nat) : Nat := pkb (fun i => (wls.getD w []).getD i 0) (wls.getD w []).length
theorem wls_ok {w : Nat} (hw : w < 9) : (wls.getD w []).length ≤ 5 ∧ wpk w < 1099511627776 ∧ ∀ i, i < (wls.getD w []).length → 1 ≤ (wls.getD w []).getD i 0 ∧ (wls.getD w []).getD i 0 < 256 := co_dec (N := 9) (P := fun w => (wls.getD w []).length ≤ 5 ∧ wpk w < 1099511627776 ∧ ∀ i, i < (wls.getD w []).length → 1 ≤ (wls.getD w []).getD i 0 ∧ (wls.getD w []).getD i 0 < 256) (by decide +kernel) hw
theorem wpk_ne {v w : Nat} (hw : w < 9) (hv : v < w) : wpk v ≠ wpk w := by
  have := co_dec (N := 9) (P := fun w => ∀ v, v < w → wpk v ≠ wpk w) (by decide +kernel) hw
  exact this v hv
theorem wpk_W {t : Nat → Nat} {p q w : Nat} (hw : w < 9) (hL : ∀ i, p ≤ i → i < q → isL (t i) = true) : (wpk w = pkb (fun i => t (p + i)) (q - p)) ↔ isW t p q w = true := by
  obtain ⟨w1, _, w2⟩ := wls_ok hw
  constructor
  · intro h
    obtain ⟨h1, h2⟩ := pkb_inj (wls.getD w []).length (q - p) w2 (fun i hi => by
      have := of_decide_eq_true (hL (p + i) (by omega) (by omega))
      show 1 ≤ t (p + i) ∧ t (p + i) < 256
      omega) h
    exact decide_eq_true ⟨h1, fun i hi => h2 i (by omega)⟩
  · intro h
    obtain ⟨h1, h2⟩ := of_decide_eq_true h
    unfold wpk
    rw [← h1]
    exact pkb_congr _ h2
/-- the tape in the reference -/
def TpM (t : Nat → Nat) (n : Nat) (σ : Mm) : Prop := n ≤ 120 ∧ σ.1 48 13 = nI n ∧ (∀ i, i < n → σ.1 58 i = nI (t i) ∧ t i < 256) ∧ ∀ w, w < 9 → σ.2 65 w = lN (wpk w)
def KN (σ τ : Mm) : Prop := ∀ j, j ≠ 24 → j ≠ 25 → j ≠ 26 → j ≠ 27 → τ.1 48 j = σ.1 48 j
theorem TpM_fr {t : Nat → Nat} {n : Nat} {σ τ : Mm} (h : TpM t n σ) (hF : Fr [48] σ τ) (hK : KN σ τ) : TpM t n τ := ⟨h.1, by rw [hK 13 (by decide) (by decide) (by decide) (by decide)]; exact h.2.1, fun i hi => by rw [hF.r1 58 (by decide)]; exact h.2.2.1 i hi, fun w hw => by rw [hF.r2 65 (by decide)]; exact h.2.2.2 w hw⟩
theorem KN_s {σ τ : Mm} {j : Nat} {v : Int32} (h : KN σ τ) (hj : j = 24 ∨ j = 25 ∨ j = 26 ∨ j = 27) : KN σ (sI τ 48 j v) := by
  intro k k1 k2 k3 k4
  rw [r_sIj (by omega)]
  exact h k k1 k2 k3 k4
theorem in_bb {b lo hi : Nat} {σ : Mm} (hb : b < 1000) (hl : lo < 1000) (hh : hi < 1000) : f_X11_in (nI b) (nI lo) (nI hi) σ = some (bI (decide (lo ≤ b ∧ b ≤ hi)), σ) := by
  unfold f_X11_in f_X11_in_14
  simp only [qi_0, qi_1, qi_2, qi_3, qi_4, qi_5, qi_6, qi_7, qi_8, qi_9, qi_10, qi_11, qi_12, qi_13, qi_14, qi_15, qi_16, qi_17, qi_19, qi_26, qi_31, qi_32, qi_35, qi_40, qi_42, qi_48, qi_50, qi_57, qi_59, qi_63, qi_64, qi_97, qi_120, qi_122, qi_210, qi_255, qi_511, qi_512, qi_1000, qi_6000, qi_13312, qi_14337, qi_16383, qi_16384, qi_524287]
  by_cases c1 : b < lo
  · rw [i_lt (by omega) c1, p_cb0, decide_eq_false (by omega), bI_f]
  · rw [i_nlt (by omega) (by omega)]
    by_cases c2 : hi < b
    · rw [i_lt (by omega) c2, p_cb0, decide_eq_false (by omega), bI_f]
    · rw [i_nlt (by omega) (by omega), p_cb1, decide_eq_true (by omega), bI_t]
theorem byteAt_eq {t : Nat → Nat} {n p : Nat} {σ : Mm} (hT : TpM t n σ) (hp : p ≤ 120) : f_X11_byteAt (nI p) σ = some (if p < n then nI (t p) else -nI 1, σ) := by
  have := hT.1
  unfold f_X11_byteAt
  rw [hT.2.1]
  by_cases c : p < n
  · rw [i_nle (by omega) c, p_ck _ (by omega) (by omega), p_ix (by omega), (hT.2.2.1 p c).1, if_pos c]
  · rw [i_le (by omega) (by omega), if_neg c]; rfl
theorem isLetter_eq {t : Nat → Nat} {n p : Nat} {σ : Mm} (hT : TpM t n σ) (hp : p ≤ 120) : f_X11_isLetter (nI p) σ = some (bI (decide (p < n) && isL (t p)), σ) := by
  unfold f_X11_isLetter
  rw [byteAt_eq hT hp, p_bd]
  by_cases c : p < n
  · have := (hT.2.2.1 p c).2
    rw [if_pos c, qi_97, qi_122, in_bb (by omega) (by omega) (by omega), p_bd, decide_eq_true c, Bool.true_and, show decide (97 ≤ t p ∧ t p ≤ 122) = isL (t p) from rfl, cb_b]
  · rw [if_neg c, decide_eq_false c, Bool.false_and]
    unfold f_X11_in f_X11_in_14
    simp only [qi_0, qi_1, qi_2, qi_3, qi_4, qi_5, qi_6, qi_7, qi_8, qi_9, qi_10, qi_11, qi_12, qi_13, qi_14, qi_15, qi_16, qi_17, qi_19, qi_26, qi_31, qi_32, qi_35, qi_40, qi_42, qi_48, qi_50, qi_57, qi_59, qi_63, qi_64, qi_97, qi_120, qi_122, qi_210, qi_255, qi_511, qi_512, qi_1000, qi_6000, qi_13312, qi_14337, qi_16383, qi_16384, qi_524287]
    rw [i_m1lt (by omega), p_cb0, p_bd, p_cb0, bI_f]
theorem isDigit_eq {t : Nat → Nat} {n p : Nat} {σ : Mm} (hT : TpM t n σ) (hp : p ≤ 120) : f_X11_isDigit (nI p) σ = some (bI (decide (p < n) && isD (t p)), σ) := by
  unfold f_X11_isDigit
  rw [byteAt_eq hT hp, p_bd]
  by_cases c : p < n
  · have := (hT.2.2.1 p c).2
    rw [if_pos c, qi_48, qi_57, in_bb (by omega) (by omega) (by omega), p_bd, decide_eq_true c, Bool.true_and, show decide (48 ≤ t p ∧ t p ≤ 57) = isD (t p) from rfl, cb_b]
  · rw [if_neg c, decide_eq_false c, Bool.false_and]
    unfold f_X11_in f_X11_in_14
    simp only [qi_0, qi_1, qi_2, qi_3, qi_4, qi_5, qi_6, qi_7, qi_8, qi_9, qi_10, qi_11, qi_12, qi_13, qi_14, qi_15, qi_16, qi_17, qi_19, qi_26, qi_31, qi_32, qi_35, qi_40, qi_42, qi_48, qi_50, qi_57, qi_59, qi_63, qi_64, qi_97, qi_120, qi_122, qi_210, qi_255, qi_511, qi_512, qi_1000, qi_6000, qi_13312, qi_14337, qi_16383, qi_16384, qi_524287]
    rw [i_m1lt (by omega), p_cb0, p_bd, p_cb0, bI_f]
/-- which word it is -/
theorem mword_eq {t : Nat → Nat} {n p q : Nat} {σ : Mm} (hT : TpM t n σ) (hpq : p ≤ q) (hq : q ≤ n) (hL : ∀ i, p ≤ i → i < q → isL (t i) = true) : ∃ σ', f_X11_next_126 (lN (pkb (fun i => t (p + i)) (min (q - p) 6))) (nI (q - p)) σ = some ((), σ') ∧ σ'.1 48 26 = nI 1 ∧ σ'.1 48 27 = iO (wrd t p q 9) ∧ (∀ j, j ≠ 26 → j ≠ 27 → σ'.1 48 j = σ.1 48 j) ∧ Fr [48] σ σ' := by
  have hn := hT.1
  unfold f_X11_next_126
  rw [p_nm, p_nm, qi_0, qi_1, show (-nI 1 : Int32) = -nI 1 from rfl]
  refine lq1 (bot := fun _ _ => none) (F := f_X11_next_L139 (lN (pkb (fun i => t (p + i)) (min (q - p) 6))) (nI (q - p))) (fun a τ => ∃ w, w ≤ 9 ∧ a = nI w ∧ τ.1 48 26 = nI 1 ∧ τ.1 48 27 = iO (wrd t p q w) ∧ (∀ j, j ≠ 26 → j ≠ 27 → τ.1 48 j = σ.1 48 j) ∧ Fr [48] σ τ) (fun a _ => 10 - ix a) (fun o => ∃ σ', o = some ((), σ') ∧ σ'.1 48 26 = nI 1 ∧ σ'.1 48 27 = iO (wrd t p q 9) ∧ (∀ j, j ≠ 26 → j ≠ 27 → σ'.1 48 j = σ.1 48 j) ∧ Fr [48] σ σ') ?_ FU (nI 0) _ ?_ ⟨0, by omega, rfl, by rw [r_sIj (by decide), r_sI0], by rw [r_sI0]; rfl, fun j j1 j2 => by rw [r_sIj j2, r_sIj j1], ((Fr.rf _ _).sI (by decide)).sI (by decide)⟩
  · rintro L a τ ⟨w, hw, rfl, t1, t2, t3, t4⟩
    unfold f_X11_next_L139 f_X11_next_170 f_X11_next_174
    simp only [qi_0, qi_1, qi_2, qi_3, qi_4, qi_5, qi_6, qi_7, qi_8, qi_9, qi_10, qi_11, qi_12, qi_13, qi_14, qi_15, qi_16, qi_17, qi_19, qi_26, qi_31, qi_32, qi_35, qi_40, qi_42, qi_48, qi_50, qi_57, qi_59, qi_63, qi_64, qi_97, qi_120, qi_122, qi_210, qi_255, qi_511, qi_512, qi_1000, qi_6000, qi_13312, qi_14337, qi_16383, qi_16384, qi_524287]
    by_cases c9 : w = 9
    · right
      subst c9
      rw [i_le (by omega) (by omega)]
      exact ⟨τ, rfl, t1, t2, t3, t4⟩
    · left
      have h9 : w < 9 := by omega
      have e65 : τ.2 65 w = lN (wpk w) := by rw [t4.r2 65 (by decide)]; exact hT.2.2.2 w h9
      have hwp := (wls_ok h9).2.1
      rw [i_nle (by omega) (by omega), p_ix (a := w) (by omega)]
      have fin : ∀ v : Int32, v = iO (wrd t p q (w + 1)) → ∃ a' τ', (∃ w, w ≤ 9 ∧ a' = nI w ∧ τ'.1 48 26 = nI 1 ∧ τ'.1 48 27 = iO (wrd t p q w) ∧ (∀ j, j ≠ 26 → j ≠ 27 → τ'.1 48 j = σ.1 48 j) ∧ Fr [48] σ τ') ∧ 10 - ix a' < 10 - w ∧ nm (sI τ 48 27 v) (fun σ29 => nm (nI w + nI 1) (fun vq30 => L vq30 σ29)) = L a' τ' := by
        intro v hv
        rw [p_nm, nI_add, p_nm]
        refine ⟨nI (w + 1), _, ⟨w + 1, by omega, rfl, by rw [r_sIj (by decide)]; exact t1, by rw [r_sI0]; exact hv, fun j j1 j2 => by rw [r_sIj j2]; exact t3 j j1 j2, t4.sI (by decide)⟩, ?_, rfl⟩
        rw [p_ix (by omega)]; omega
      have same : isW t p q w = false → iO (wrd t p q w) = iO (wrd t p q (w + 1)) := by
        intro h
        rw [wrd, h]
        cases wrd t p q w with
        | none => rfl
        | some v => rfl
      by_cases c6 : 6 ≤ q - p
      · rw [i_le (by omega) c6]
        refine fin _ (t2.trans (same ?_))
        refine decide_eq_false (fun z => ?_)
        have := z.1
        have := (wls_ok h9).1
        omega
      · have hlt : pkb (fun i => t (p + i)) (q - p) < 1099511627776 := by
          have h1 := pkb_lt (f := fun i => t (p + i)) (q - p) (fun i hi => (hT.2.2.1 (p + i) (by omega)).2)
          have h2 : 256 ^ (q - p) ≤ 256 ^ 5 := Nat.pow_le_pow_right (by omega) (by omega)
          have h3 : (256 : Nat) ^ 5 = 1099511627776 := rfl
          omega
        rw [i_nle (by omega) (by omega), p_ck _ (by omega) (by omega), e65, show min (q - p) 6 = q - p by omega]
        by_cases cw : wpk w = pkb (fun i => t (p + i)) (q - p)
        · rw [if_pos (show lg_cmp (lN (wpk w)) (lN (pkb (fun i => t (p + i)) (q - p))) = nI 0 by rw [lc_eq, cw])]
          refine fin _ ?_
          have hno : wrd t p q w = none := by
            cases hv : wrd t p q w with
            | none => rfl
            | some v =>
              obtain ⟨v1, v2⟩ := wrd_lt hv
              exact absurd (((wpk_W (by omega) hL).mpr v2).trans cw.symm) (wpk_ne h9 v1)
          rw [wrd, hno, (wpk_W h9 hL).mp cw]
          rfl
        · rw [if_neg (show ¬ lg_cmp (lN (wpk w)) (lN (pkb (fun i => t (p + i)) (q - p))) = nI 0 by rw [lc_eq]; intro z; rw [pk_lEQ (by omega) (by omega)] at z; exact cw z)]
          refine fin _ (t2.trans (same ?_))
          cases hb : isW t p q w with
          | false => rfl
          | true => exact absurd ((wpk_W h9 hL).mpr hb) cw
  · rw [p_ix (by omega), FU_v]; omega
