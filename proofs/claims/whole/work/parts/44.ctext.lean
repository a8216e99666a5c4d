/-! PURE: the class reads a call -/
theorem st_len {w : Nat} (hw : w < 9) : stLen.getD w 0 = (wls.getD w []).length ∧ (wls.getD w []).length ≤ 5 ∧ 3 ≤ (wls.getD w []).length := co_dec (N := 9) (P := fun w => stLen.getD w 0 = (wls.getD w []).length ∧ (wls.getD w []).length ≤ 5 ∧ 3 ≤ (wls.getD w []).length) (by decide +kernel) hw
theorem st_byt {w i : Nat} (hw : w < 9) (hi : i < 5) : ((((stByt.getD w []).getD i 0) &&& (255 : Int32)).toUInt32 % 65536).toInt32 = nI ((wls.getD w []).getD i 0) ∧ (wls.getD w []).getD i 0 < 256 :=
  co_dec (N := 9) (P := fun w => ∀ i, i < 5 → ((((stByt.getD w []).getD i 0) &&& (255 : Int32)).toUInt32 % 65536).toInt32 = nI ((wls.getD w []).getD i 0) ∧ (wls.getD w []).getD i 0 < 256) (by decide +kernel) hw i hi
theorem cC_n {β : Type} {b : Nat} (o : Option β) (h : b < 256) : cC (nI b) o = o := by
  unfold cC
  rw [if_pos]
  exact co_dec (N := 256) (P := fun b => ((nI b).toUInt32 % 65536).toInt32 = nI b) (by decide +kernel) h
theorem len_eq {w : Nat} (hw : w < 9) (σ : Mm) : f_J0_length_8abf5 w σ = some (nI (wls.getD w []).length, σ) := by
  obtain ⟨h1, h2, h3⟩ := st_len hw
  unfold f_J0_length_8abf5 f_J0_coder_7d493
  rw [if_neg (show ¬ (1 : Int32) = 0 by decide)]
  have e : cB (0 : Int32) (some ((0 : Int32), σ)) = some ((0 : Int32), σ) := by
    unfold cB
    rw [if_pos (by decide)]
  rw [e, p_bd, h1, show Int32.ofNat (wls.getD w []).length = nI (wls.getD w []).length from rfl, pk_shrN (by omega) _ 0 (by decide), Nat.pow_zero, Nat.div_one]
theorem chr_eq {w i : Nat} (hw : w < 9) (hi : i < (wls.getD w []).length) (σ : Mm) : f_J0_charAt_5068e w (nI i) σ = some (nI ((wls.getD w []).getD i 0), σ) := by
  obtain ⟨h1, h2, h3⟩ := st_len hw
  obtain ⟨b1, b2⟩ := st_byt hw (show i < 5 by omega)
  unfold f_J0_charAt_5068e f_J0_isLatin1_aae02
  rw [if_neg (show ¬ (1 : Int32) = 0 by decide), if_pos (show (0 : Int32) = 0 from rfl), qi_1, p_cb1, p_bd, if_neg (show ¬ nI 1 = (0 : Int32) by decide)]
  unfold f_J1_charAt_3b067 f_J0_checkIndex_df160 f_J3_checkIndex_8e157
  rw [h1, show Int32.ofNat (wls.getD w []).length = nI (wls.getD w []).length from rfl, qi_0, i_nlt (by omega) (by omega), i_lt (by omega) hi, p_bd, p_bd, p_ck _ hi (by omega), p_ix (by omega), qi_0.symm, b1, cC_n _ b2, p_bd, cC_n _ b2]
theorem isLatest_eq {t : Nat → Nat} {n p q w : Nat} {σ : Mm} (hT : TpC t n σ) (hpq : p ≤ q) (hq : q ≤ n) (h1 : σ.1 3 1 = nI q) (h2 : σ.1 3 2 = nI p) (hw : w < 9) : f_X3_isLatest w σ = some (bI (isW t p q w), σ) := by
  obtain ⟨l1, l2, l3⟩ := st_len hw
  have hn := hT.1
  unfold f_X3_isLatest isW
  rw [len_eq hw, p_bd, h1, h2, pk_sub hpq]
  by_cases c : (wls.getD w []).length = q - p
  · rw [i_eq c]
    refine lq1 (F := f_X3_isLatest_L20 w) (fun a τ => ∃ i, i ≤ (wls.getD w []).length ∧ a = nI i ∧ τ = σ ∧ ∀ j, j < i → (wls.getD w []).getD j 0 = t (p + j)) (fun a _ => 6 - ix a) (fun o => o = some (bI (decide ((wls.getD w []).length = q - p ∧ ∀ i, i < (wls.getD w []).length → (wls.getD w []).getD i 0 = t (p + i))), σ)) ?_ FU (0 : Int32) σ ?_ ⟨0, by omega, rfl, rfl, fun j hj => by omega⟩
    · rintro L a τ ⟨i, hi, rfl, rfl, hall⟩
      unfold f_X3_isLatest_L20
      simp only [qi_0, qi_1, qi_2, qi_3, qi_4, qi_5, qi_6, qi_7, qi_8, qi_9, qi_10, qi_11, qi_12, qi_13, qi_14, qi_15, qi_16, qi_17, qi_19, qi_26, qi_31, qi_32, qi_35, qi_40, qi_42, qi_48, qi_50, qi_57, qi_59, qi_63, qi_64, qi_97, qi_120, qi_122, qi_210, qi_255, qi_511, qi_512, qi_1000, qi_6000, qi_13312, qi_14337, qi_16383, qi_16384, qi_524287]
      rw [len_eq hw, p_bd]
      by_cases ci : (wls.getD w []).length ≤ i
      · right
        rw [i_le (by omega) ci, p_cb1, decide_eq_true ⟨c, fun j hj => hall j (by omega)⟩, bI_t]
      · obtain ⟨b1, b2⟩ := st_byt hw (show i < 5 by omega)
        obtain ⟨d1, d2⟩ := hT.2.2 (p + i) (by omega)
        rw [i_nle (by omega) (by omega), chr_eq hw (by omega), p_bd, h2, nI_add, p_ck _ (by omega) (by omega), p_ix (a := p + i) (by omega), d1]
        by_cases ce : (wls.getD w []).getD i 0 = t (p + i)
        · left
          rw [i_eq ce, nI_add, p_nm]
          refine ⟨nI (i + 1), τ, ⟨i + 1, by omega, rfl, rfl, fun j hj => ?_⟩, ?_, rfl⟩
          · by_cases ej : j = i
            · rw [ej]; exact ce
            · exact hall j (by omega)
          · rw [p_ix (by omega), p_ix (by omega)]; omega
        · right
          rw [i_ne (by omega) (by omega) ce, p_cb0, decide_eq_false (fun z => ce (z.2 i (by omega))), bI_f]
    · show 6 - ix (nI 0) < FU
      rw [p_ix (by omega), FU_v]; omega
  · rw [i_ne (by omega) (by omega) c, qi_0, p_cb0, decide_eq_false (fun z => c z.1), bI_f]
theorem wrd_lt {t : Nat → Nat} {p q : Nat} : ∀ {k w : Nat}, wrd t p q k = some w → w < k ∧ isW t p q w = true := by
  intro k
  induction k with
  | zero => intro w h; cases h
  | succ k ih =>
    intro w h
    rw [wrd] at h
    cases h1 : wrd t p q k with
    | some v =>
      rw [h1] at h
      simp only [Option.some.injEq] at h
      subst h
      obtain ⟨a, b⟩ := ih h1
      exact ⟨by omega, b⟩
    | none =>
      rw [h1] at h
      simp only at h
      split at h
      · rename_i hc
        simp only [Option.some.injEq] at h
        subst h
        exact ⟨by omega, hc⟩
      · cases h
theorem wrd_frz {t : Nat → Nat} {p q k w : Nat} (h : wrd t p q k = some w) : ∀ j, wrd t p q (k + j) = some w := by
  intro j
  induction j with
  | zero => exact h
  | succ j ih => rw [show k + (j + 1) = k + j + 1 by omega, wrd, ih]
theorem spell_eq {w : Nat} (hw : w < 9) (σ : Mm) : f_X3_spelling (nI w) σ = some (w, σ) := by
  unfold f_X3_spelling
  have : w = 0 ∨ w = 1 ∨ w = 2 ∨ w = 3 ∨ w = 4 ∨ w = 5 ∨ w = 6 ∨ w = 7 ∨ w = 8 := by omega
  simp only [qi_0, qi_1, qi_2, qi_3, qi_4, qi_5, qi_6, qi_7, qi_8, qi_9, qi_10, qi_11, qi_12, qi_13, qi_14, qi_15, qi_16, qi_17, qi_19, qi_26, qi_31, qi_32, qi_35, qi_40, qi_42, qi_48, qi_50, qi_57, qi_59, qi_63, qi_64, qi_97, qi_120, qi_122, qi_210, qi_255, qi_511, qi_512, qi_1000, qi_6000, qi_13312, qi_14337, qi_16383, qi_16384, qi_524287]
  rcases this with rfl | rfl | rfl | rfl | rfl | rfl | rfl | rfl | rfl
  · rw [i_eq rfl]
  · rw [i_ne (by omega) (by omega) (by omega), i_eq rfl]
  · rw [i_ne (by omega) (by omega) (by omega), i_ne (by omega) (by omega) (by omega), i_eq rfl]
  · rw [i_ne (by omega) (by omega) (by omega), i_ne (by omega) (by omega) (by omega), i_ne (by omega) (by omega) (by omega), i_eq rfl]
  · rw [i_ne (by omega) (by omega) (by omega), i_ne (by omega) (by omega) (by omega), i_ne (by omega) (by omega) (by omega), i_ne (by omega) (by omega) (by omega), i_eq rfl]
  · rw [i_ne (by omega) (by omega) (by omega), i_ne (by omega) (by omega) (by omega), i_ne (by omega) (by omega) (by omega), i_ne (by omega) (by omega) (by omega), i_ne (by omega) (by omega) (by omega), i_eq rfl]
  · rw [i_ne (by omega) (by omega) (by omega), i_ne (by omega) (by omega) (by omega), i_ne (by omega) (by omega) (by omega), i_ne (by omega) (by omega) (by omega), i_ne (by omega) (by omega) (by omega), i_ne (by omega) (by omega) (by omega), i_eq rfl]
  · rw [i_ne (by omega) (by omega) (by omega), i_ne (by omega) (by omega) (by omega), i_ne (by omega) (by omega) (by omega), i_ne (by omega) (by omega) (by omega), i_ne (by omega) (by omega) (by omega), i_ne (by omega) (by omega) (by omega), i_ne (by omega) (by omega) (by omega), i_eq rfl]
  · rw [i_ne (by omega) (by omega) (by omega), i_ne (by omega) (by omega) (by omega), i_ne (by omega) (by omega) (by omega), i_ne (by omega) (by omega) (by omega), i_ne (by omega) (by omega) (by omega), i_ne (by omega) (by omega) (by omega), i_ne (by omega) (by omega) (by omega), i_ne (by omega) (by omega) (by omega)]
theorem latest_eq {t : Nat → Nat} {n p q : Nat} {σ : Mm} (hT : TpC t n σ) (hpq : p ≤ q) (hq : q ≤ n) (h1 : σ.1 3 1 = nI q) (h2 : σ.1 3 2 = nI p) : f_X3_latestWord σ = some (iO (wrd t p q 9), σ) := by
  unfold f_X3_latestWord
  refine lq1 (F := f_X3_latestWord_L2) (fun a τ => ∃ w, w ≤ 9 ∧ a = nI w ∧ τ = σ ∧ wrd t p q w = none) (fun a _ => 10 - ix a) (fun o => o = some (iO (wrd t p q 9), σ)) ?_ FU (0 : Int32) σ ?_ ⟨0, by omega, rfl, rfl, rfl⟩
  · rintro L a τ ⟨w, hw, rfl, rfl, hno⟩
    unfold f_X3_latestWord_L2
    simp only [qi_0, qi_1, qi_2, qi_3, qi_4, qi_5, qi_6, qi_7, qi_8, qi_9, qi_10, qi_11, qi_12, qi_13, qi_14, qi_15, qi_16, qi_17, qi_19, qi_26, qi_31, qi_32, qi_35, qi_40, qi_42, qi_48, qi_50, qi_57, qi_59, qi_63, qi_64, qi_97, qi_120, qi_122, qi_210, qi_255, qi_511, qi_512, qi_1000, qi_6000, qi_13312, qi_14337, qi_16383, qi_16384, qi_524287]
    by_cases c : w = 9
    · right
      subst c
      rw [i_le (by omega) (by omega), hno]; rfl
    · rw [i_nle (by omega) (by omega), spell_eq (by omega), p_bd, isLatest_eq hT hpq hq h1 h2 (by omega), p_bd]
      cases hW : isW t p q w with
      | true =>
        right
        have hs : wrd t p q (w + 1) = some w := by rw [wrd, hno]; simp only; rw [if_pos hW]
        have hf := wrd_frz hs (9 - (w + 1))
        rw [show w + 1 + (9 - (w + 1)) = 9 by omega] at hf
        rw [bI_t, i_ne (by omega) (by omega) (by omega), hf]; rfl
      | false =>
        left
        rw [bI_f, i_eq rfl, nI_add, p_nm]
        refine ⟨nI (w + 1), τ, ⟨w + 1, by omega, rfl, rfl, by rw [wrd, hno]; simp only; rw [hW]; rfl⟩, ?_, rfl⟩
        rw [p_ix (by omega), p_ix (by omega)]; omega
  · show 10 - ix (nI 0) < FU
    rw [p_ix (by omega), FU_v]; omega
/-- a step is read: its fault, or where it ends and its parts -/
def kdw (w : Nat) : Nat := [1, 2, 2, 3, 4, 5, 7, 0, 6].getD w 0
def hpw (w r : Nat) : Bool := decide ([2, 2, 6, 14, 6, 0, 4, 0, 16].getD w 0 / 2 ^ r % 2 = 1)
def hst (r place : Nat) : Nat := if r = 1 then 2 else if r = 4 then place else 3
def rpt (t : Nat → Nat) (n w place a : Nat) : Nat → Nat ⊕ (Nat × (Nat → Nat))
  | 0 => .inr (a, fun r => if r = 0 then kdw w else 4)
  | k + 1 => match rpt t n w place a k with
    | .inl f => .inl f
    | .inr z => if hpw w (k + 1) then (if tK t n z.1 = 2 ∧ tV t n z.1 ≤ hst (k + 1) place then .inr (tE t n z.1, upq z.2 (k + 1) (tV t n z.1)) else .inl (tS t n z.1)) else .inr z
def rst (t : Nat → Nat) (n place a : Nat) : Nat ⊕ (Nat × (Nat → Nat)) := if tK t n a = 1 ∧ place < 7 then (match tW t n a with
    | none => .inl (tS t n a)
    | some w => rpt t n w place (tE t n a) 4) else .inl (tS t n a)
theorem rpt_0 {t : Nat → Nat} {n w place a : Nat} : ∀ k z, rpt t n w place a k = .inr z → z.2 0 = kdw w ∧ (∀ r, 0 < r → r ≤ k → hpw w r = true → z.2 r ≤ hst r place) ∧ (∀ r, 0 < r → (k < r ∨ hpw w r = false) → z.2 r = 4) := by
  intro k
  induction k with
  | zero =>
    intro z h
    simp only [rpt, Sum.inr.injEq] at h
    subst h
    exact ⟨rfl, fun r h1 h2 => by omega, fun r h1 _ => if_neg (by omega)⟩
  | succ k ih =>
    intro z h
    rw [rpt] at h
    cases h1 : rpt t n w place a k with
    | inl f => rw [h1] at h; cases h
    | inr y =>
      rw [h1] at h
      obtain ⟨i1, i2, i3⟩ := ih y h1
      simp only at h
      split at h
      · rename_i hp
        split at h
        · rename_i hc
          simp only [Sum.inr.injEq] at h
          subst h
          refine ⟨(upq_n (f := y.2) (k := k + 1) (j := 0) (v := tV t n y.1) (by omega)).trans i1, fun r r0 rk rp => ?_, fun r r0 hr => ?_⟩
          · show upq y.2 (k + 1) (tV t n y.1) r ≤ _
            by_cases e : r = k + 1
            · rw [e, upq_s]; exact hc.2
            · rw [upq_n e]; exact i2 r r0 (by omega) rp
          · show upq y.2 (k + 1) (tV t n y.1) r = _
            by_cases e : r = k + 1
            · rcases hr with hr | hr
              · omega
              · rw [e, hp] at hr; cases hr
            · rw [upq_n e]
              refine i3 r r0 ?_
              rcases hr with hr | hr
              · left; omega
              · right; exact hr
        · cases h
      · rename_i hp
        have hp : hpw w (k + 1) = false := by simpa using hp
        simp only [Sum.inr.injEq] at h
        subst h
        refine ⟨i1, fun r r0 rk rp => ?_, fun r r0 hr => ?_⟩
        · by_cases e : r = k + 1
          · rw [e, hp] at rp; cases rp
          · exact i2 r r0 (by omega) rp
        · refine i3 r r0 ?_
          rcases hr with hr | hr
          · left; omega
          · right; exact hr
theorem kdw_ok {w : Nat} (hw : w < 9) : kdw w ≤ 7 ∧ (1 ≤ kdw w → kdw w ≤ 4 → hpw w 1 = true) ∧ (kdw w = 3 ∨ kdw w = 4 ∨ kdw w = 7 → hpw w 2 = true) ∧ (kdw w = 3 → hpw w 3 = true) ∧ (kdw w = 6 → hpw w 4 = true) := co_dec (N := 9) (P := fun w => kdw w ≤ 7 ∧ (1 ≤ kdw w → kdw w ≤ 4 → hpw w 1 = true) ∧ (kdw w = 3 ∨ kdw w = 4 ∨ kdw w = 7 → hpw w 2 = true) ∧ (kdw w = 3 → hpw w 3 = true) ∧ (kdw w = 6 → hpw w 4 = true)) (by decide +kernel) hw
theorem rpt_V {t : Nat → Nat} {n w place a : Nat} {z : Nat × (Nat → Nat)} (hw : w < 9) (h : rpt t n w place a 4 = .inr z) : CdV z.2 place := by
  obtain ⟨h1, h2, h3⟩ := rpt_0 4 z h
  obtain ⟨k1, k2, k3, k4, k5⟩ := kdw_ok hw
  unfold CdV
  rw [h1]
  refine ⟨k1, fun a b => ?_, fun a => ?_, fun a => ?_, fun a => ?_, fun a => ?_⟩
  · have := h2 1 (by omega) (by omega) (k2 a b)
    have e : hst 1 place = 2 := rfl
    omega
  · by_cases hp : hpw w 2 = true
    · have := h2 2 (by omega) (by omega) hp
      have e : hst 2 place = 3 := rfl
      omega
    · have := h3 2 (by omega) (Or.inr (by simpa using hp))
      omega
  · have := h2 2 (by omega) (by omega) (k3 a)
    have e : hst 2 place = 3 := rfl
    omega
  · have := h2 3 (by omega) (by omega) (k4 a)
    have e : hst 3 place = 3 := rfl
    omega
  · have := h2 4 (by omega) (by omega) (k5 a)
    have e : hst 4 place = place := rfl
    omega
theorem tW_lt {t : Nat → Nat} {n a w : Nat} (h : tW t n a = some w) : w < 9 := (wrd_lt h).1
theorem rpt_le {t : Nat → Nat} {n w place a : Nat} (ha : a ≤ n) : ∀ k z, rpt t n w place a k = .inr z → z.1 ≤ n := by
  intro k
  induction k with
  | zero =>
    intro z h
    simp only [rpt, Sum.inr.injEq] at h
    subst h
    exact ha
  | succ k ih =>
    intro z h
    rw [rpt] at h
    cases h1 : rpt t n w place a k with
    | inl f => rw [h1] at h; cases h
    | inr y =>
      rw [h1] at h
      have := ih y h1
      simp only at h
      split at h
      · split at h
        · simp only [Sum.inr.injEq] at h
          subst h
          exact (t_le this).2.2.2
        · cases h
      · simp only [Sum.inr.injEq] at h
        subst h
        exact this
theorem stV_ok {w : Nat} (hw : w < 9) : stV2 w = nI (kdw w) ∧ ∀ r, r < 5 → (((stV3 w) >>> (nI r &&& nI 31)) &&& nI 1 = nI 1 ↔ hpw w r = true) := co_dec (N := 9) (P := fun w => stV2 w = nI (kdw w) ∧ ∀ r, r < 5 → (((stV3 w) >>> (nI r &&& nI 31)) &&& nI 1 = nI 1 ↔ hpw w r = true)) (by decide +kernel) hw
def rdL : List Nat := [3, 9]
theorem highest_eq {r place : Nat} (hr : r < 5) (hp : place < 8) (σ : Mm) : f_X3_highestOf (nI r) (nI place) σ = some (nI (hst r place), σ) := by
  unfold f_X3_highestOf hst
  simp only [qi_0, qi_1, qi_2, qi_3, qi_4, qi_5, qi_6, qi_7, qi_8, qi_9, qi_10, qi_11, qi_12, qi_13, qi_14, qi_15, qi_16, qi_17, qi_19, qi_26, qi_31, qi_32, qi_35, qi_40, qi_42, qi_48, qi_50, qi_57, qi_59, qi_63, qi_64, qi_97, qi_120, qi_122, qi_210, qi_255, qi_511, qi_512, qi_1000, qi_6000, qi_13312, qi_14337, qi_16383, qi_16384, qi_524287]
  by_cases h1 : r = 1
  · rw [i_eq h1, if_pos h1]
  · rw [i_ne (by omega) (by omega) h1, if_neg h1]
    by_cases h4 : r = 4
    · rw [i_eq h4, if_pos h4]
    · rw [i_ne (by omega) (by omega) h4, if_neg h4]
