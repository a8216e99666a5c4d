/-! PURE: the next token in the reference -/
def NtM (t : Nat → Nat) (n a : Nat) (σ : Mm) : Prop := σ.1 48 24 = nI (tE t n a) ∧ σ.1 48 25 = nI (tS t n a) ∧ σ.1 48 26 = nI (tK t n a) ∧ (tK t n a = 1 → σ.1 48 27 = iO (tW t n a)) ∧ (tK t n a = 2 → σ.1 48 27 = nI (tV t n a))
theorem NtM_of {t : Nat → Nat} {n a : Nat} {σ τ : Mm} (h : NtM t n a σ) (e : ∀ j, 24 ≤ j → j ≤ 27 → τ.1 48 j = σ.1 48 j) : NtM t n a τ := by
  unfold NtM
  rw [e 24 (by omega) (by omega), e 25 (by omega) (by omega), e 26 (by omega) (by omega), e 27 (by omega) (by omega)]
  exact h
/-- letters -/
theorem mletters_eq {t : Nat → Nat} {n p e : Nat} {σ τ : Mm} (hT : TpM t n σ) (hp : p < n) (hE : e = rnE isL t n p) (h24 : τ.1 48 24 = nI p) (h25 : τ.1 48 25 = nI p) (hK : KN σ τ) (hF : Fr [48] σ τ) :
    ∃ σ', fx (fun _ _ _ => none) FU (f_X11_next_L73 (fun (xq1 : Int64) (xq3 : Int32) (σ : Mm) => f_X11_next_126 xq1 xq3 σ)) (0 : Int64) (0 : Int32) τ = some ((), σ') ∧ σ'.1 48 24 = nI e ∧ σ'.1 48 25 = nI p ∧ σ'.1 48 26 = nI 1 ∧ σ'.1 48 27 = iO (wrd t p e 9) ∧ KN σ σ' ∧ Fr [48] σ σ' := by
  have hn := hT.1
  rw [qi_0, ql_0]
  refine lq2 (bot := fun _ _ _ => none) (F := f_X11_next_L73 (fun (xq1 : Int64) (xq3 : Int32) (σ : Mm) => f_X11_next_126 xq1 xq3 σ)) (fun x c υ => ∃ q, p ≤ q ∧ q ≤ n ∧ e = rnE isL t n q ∧ (∀ i, p ≤ i → i < q → isL (t i) = true) ∧ x = lN (pkb (fun i => t (p + i)) (min (q - p) 6)) ∧ c = nI (q - p) ∧ υ.1 48 24 = nI q ∧ υ.1 48 25 = nI p ∧ KN σ υ ∧ Fr [48] σ υ) (fun _ c _ => 121 - ix c) (fun o => ∃ σ', o = some ((), σ') ∧ σ'.1 48 24 = nI e ∧ σ'.1 48 25 = nI p ∧ σ'.1 48 26 = nI 1 ∧ σ'.1 48 27 = iO (wrd t p e 9) ∧ KN σ σ' ∧ Fr [48] σ σ') ?_ FU (lN 0) (nI 0) τ ?_ ⟨p, Nat.le_refl _, by omega, hE, fun i h1 h2 => by omega, by rw [Nat.sub_self]; rfl, by rw [Nat.sub_self], h24, h25, hK, hF⟩
  · rintro L x c υ ⟨q, hpq, hq, he, hL, rfl, rfl, u24, u25, uK, uF⟩
    have hTu := TpM_fr hT uF uK
    unfold f_X11_next_L73 f_X11_next_109
    simp only [qi_0, qi_1, qi_2, qi_3, qi_4, qi_5, qi_6, qi_7, qi_8, qi_9, qi_10, qi_11, qi_12, qi_13, qi_14, qi_15, qi_16, qi_17, qi_19, qi_26, qi_31, qi_32, qi_35, qi_40, qi_42, qi_48, qi_50, qi_57, qi_59, qi_63, qi_64, qi_97, qi_120, qi_122, qi_210, qi_255, qi_511, qi_512, qi_1000, qi_6000, qi_13312, qi_14337, qi_16383, qi_16384, qi_524287, ql_0, ql_1, ql_3, ql_4, ql_10, ql_12, ql_13, ql_16, ql_42, ql_157, ql_256, ql_16383, ql_524287]
    rw [u24, isLetter_eq hTu (by omega), p_bd]
    by_cases c1 : q < n ∧ isL (t q) = true
    · left
      obtain ⟨c1, c2⟩ := c1
      have hb := (hTu.2.2.1 q c1).2
      rw [decide_eq_true c1, c2, Bool.true_and, bI_t, i_ne (by omega) (by omega) (by omega), p_ix (a := q - p) (by omega)]
      have he' : e = rnE isL t n (q + 1) := by rw [he, rnE_go c1 c2]
      have hL' : ∀ i, p ≤ i → i < q + 1 → isL (t i) = true := fun i h1 h2 => by
        by_cases ei : i = q
        · rw [ei]; exact c2
        · exact hL i h1 (by omega)
      have fin : ∀ x : Int64, x = lN (pkb (fun i => t (p + i)) (min (q + 1 - p) 6)) → ∃ x' c' υ', (∃ q, p ≤ q ∧ q ≤ n ∧ e = rnE isL t n q ∧ (∀ i, p ≤ i → i < q → isL (t i) = true) ∧ x' = lN (pkb (fun i => t (p + i)) (min (q - p) 6)) ∧ c' = nI (q - p) ∧ υ'.1 48 24 = nI q ∧ υ'.1 48 25 = nI p ∧ KN σ υ' ∧ Fr [48] σ υ') ∧ 121 - ix c' < 121 - (q - p) ∧ nm (nI (q - p) + nI 1) (fun vq23 => nm (sI υ 48 24 (υ.1 48 24 + nI 1)) (fun σ24 => L x vq23 σ24)) = L x' c' υ' := by
        intro x hx
        rw [nI_add, p_nm, u24, nI_add, p_nm]
        refine ⟨x, nI (q - p + 1), _, ⟨q + 1, by omega, by omega, he', hL', hx, by rw [show q + 1 - p = q - p + 1 by omega], r_sI0, by rw [r_sIj (by decide)]; exact u25, KN_s uK (by omega), uF.sI (by decide)⟩, ?_, rfl⟩
        rw [p_ix (by omega)]; omega
      by_cases c6 : 6 ≤ q - p
      · rw [i_le (by omega) c6]
        exact fin _ (by rw [show min (q + 1 - p) 6 = min (q - p) 6 by omega])
      · rw [i_nle (by omega) (by omega), u24, byteAt_eq hTu (by omega), p_bd, if_pos c1, nI_l (by omega), lN_mul, lN_add]
        refine fin _ ?_
        rw [show min (q + 1 - p) 6 = q - p + 1 by omega, show min (q - p) 6 = q - p by omega]
        show _ = lN (256 * pkb (fun i => t (p + i)) (q - p) + t (p + (q - p)))
        rw [show p + (q - p) = q by omega]
    · right
      have hb : (decide (q < n) && isL (t q)) = false := by
        cases h1 : isL (t q) with
        | false => rw [Bool.and_false]
        | true => rw [decide_eq_false (fun z => c1 ⟨z, h1⟩)]; rfl
      rw [rnE_stop c1] at he
      obtain ⟨υ', m1, m2, m3, m4, m5⟩ := mword_eq hTu hpq hq hL
      rw [hb, bI_f, i_eq rfl, m1, he]
      exact ⟨υ', rfl, by rw [m4 24 (by decide) (by decide)]; exact u24, by rw [m4 25 (by decide) (by decide)]; exact u25, m2, m3, fun j _ _ j3 j4 => by rw [m4 j j3 j4]; exact uK j (by assumption) (by assumption) j3 j4, uF.tr m5⟩
  · rw [p_ix (by omega), FU_v]; omega
/-- digits -/
theorem mdigits_eq {t : Nat → Nat} {n p e : Nat} {σ τ : Mm} (hT : TpM t n σ) (hp : p < n) (hE : e = rnE isD t n p) (h24 : τ.1 48 24 = nI p) (h25 : τ.1 48 25 = nI p) (h27 : τ.1 48 27 = nI 0) (hK : KN σ τ) (hF : Fr [48] σ τ) :
    ∃ σ', fx (fun _ => none) FU f_X11_next_L197 τ = some ((), σ') ∧ σ'.1 48 24 = nI e ∧ σ'.1 48 25 = nI p ∧ σ'.1 48 26 = nI 2 ∧ σ'.1 48 27 = nI (nv t p (e - p)) ∧ KN σ σ' ∧ Fr [48] σ σ' := by
  have hn := hT.1
  refine lq0 (bot := fun _ => none) (F := f_X11_next_L197) (fun υ => ∃ q, p ≤ q ∧ q ≤ n ∧ e = rnE isD t n q ∧ (∀ i, p ≤ i → i < q → isD (t i) = true) ∧ υ.1 48 24 = nI q ∧ υ.1 48 25 = nI p ∧ υ.1 48 27 = nI (nv t p (q - p)) ∧ KN σ υ ∧ Fr [48] σ υ) (fun υ => 121 - ix (υ.1 48 24)) (fun o => ∃ σ', o = some ((), σ') ∧ σ'.1 48 24 = nI e ∧ σ'.1 48 25 = nI p ∧ σ'.1 48 26 = nI 2 ∧ σ'.1 48 27 = nI (nv t p (e - p)) ∧ KN σ σ' ∧ Fr [48] σ σ') ?_ FU τ ?_ ⟨p, Nat.le_refl _, by omega, hE, fun i h1 h2 => by omega, h24, h25, by rw [Nat.sub_self]; exact h27, hK, hF⟩
  · rintro L υ ⟨q, hpq, hq, he, hD, u24, u25, u27, uK, uF⟩
    have hTu := TpM_fr hT uF uK
    have hnv := nv_lt (t := t) (p := p) (fun _ => Or.inr trivial) (q - p) (fun j hj => hD (p + j) (by omega) (by omega))
    unfold f_X11_next_L197 f_X11_next_245
    simp only [qi_0, qi_1, qi_2, qi_3, qi_4, qi_5, qi_6, qi_7, qi_8, qi_9, qi_10, qi_11, qi_12, qi_13, qi_14, qi_15, qi_16, qi_17, qi_19, qi_26, qi_31, qi_32, qi_35, qi_40, qi_42, qi_48, qi_50, qi_57, qi_59, qi_63, qi_64, qi_97, qi_120, qi_122, qi_210, qi_255, qi_511, qi_512, qi_1000, qi_6000, qi_13312, qi_14337, qi_16383, qi_16384, qi_524287]
    rw [u24, isDigit_eq hTu (by omega), p_bd]
    by_cases c1 : q < n ∧ isD (t q) = true
    · left
      obtain ⟨c1, c2⟩ := c1
      have hdq := of_decide_eq_true c2
      have he' : e = rnE isD t n (q + 1) := by rw [he, rnE_go c1 c2]
      have hD' : ∀ i, p ≤ i → i < q + 1 → isD (t i) = true := fun i h1 h2 => by
        by_cases ei : i = q
        · rw [ei]; exact c2
        · exact hD i h1 (by omega)
      have hns : nv t p (q + 1 - p) = if nv t p (q - p) < 1000 then 10 * nv t p (q - p) + (t q - 48) else nv t p (q - p) := by
        rw [show q + 1 - p = q - p + 1 by omega, nv, show p + (q - p) = q by omega]
      rw [decide_eq_true c1, c2, Bool.true_and, bI_t, i_ne (by omega) (by omega) (by omega), p_ix (a := q) (by omega), u27]
      have fin : ∀ v : Int32, v = nI (nv t p (q + 1 - p)) → ∃ υ', (∃ q, p ≤ q ∧ q ≤ n ∧ e = rnE isD t n q ∧ (∀ i, p ≤ i → i < q → isD (t i) = true) ∧ υ'.1 48 24 = nI q ∧ υ'.1 48 25 = nI p ∧ υ'.1 48 27 = nI (nv t p (q - p)) ∧ KN σ υ' ∧ Fr [48] σ υ') ∧ 121 - ix (υ'.1 48 24) < 121 - q ∧ nm (sI υ 48 27 v) (fun σ17 => nm (sI σ17 48 24 ((σ17.1 48 24) + nI 1)) (fun σ18 => L σ18)) = L υ' := by
        intro v hv
        rw [p_nm, r_sIj (by decide), u24, nI_add, p_nm]
        refine ⟨_, ⟨q + 1, by omega, by omega, he', hD', r_sI0, by rw [r_sIj (by decide), r_sIj (by decide)]; exact u25, by rw [r_sIj (by decide), r_sI0]; exact hv, KN_s (KN_s uK (by omega)) (by omega), (uF.sI (by decide)).sI (by decide)⟩, ?_, rfl⟩
        rw [r_sI0, p_ix (by omega)]; omega
      by_cases c3 : 1000 ≤ nv t p (q - p)
      · rw [i_le (by omega) c3]
        refine fin _ ?_
        rw [hns, if_neg (by omega)]
      · rw [i_nle (by omega) (by omega), u24, byteAt_eq hTu (by omega), p_bd, if_pos c1, pk_mul, nI_add, pk_sub (by omega)]
        refine fin _ ?_
        rw [hns, if_pos (by omega), show 10 * nv t p (q - p) + (t q - 48) = 10 * nv t p (q - p) + t q - 48 by omega]
    · right
      have hb : (decide (q < n) && isD (t q)) = false := by
        cases h1 : isD (t q) with
        | false => rw [Bool.and_false]
        | true => rw [decide_eq_false (fun z => c1 ⟨z, h1⟩)]; rfl
      rw [rnE_stop c1] at he
      rw [hb, bI_f, i_eq rfl, p_nm, he]
      exact ⟨_, rfl, by rw [r_sIj (by decide)]; exact u24, by rw [r_sIj (by decide)]; exact u25, r_sI0, by rw [r_sIj (by decide)]; exact u27, KN_s uK (by omega), uF.sI (by decide)⟩
  · rw [h24, p_ix (by omega), FU_v]; omega
theorem mnext_eq {t : Nat → Nat} {n a : Nat} {σ : Mm} (hT : TpM t n σ) (ha' : a ≤ n) (h24 : σ.1 48 24 = nI a) : ∃ σ', f_X11_next σ = some ((), σ') ∧ NtM t n a σ' ∧ KN σ σ' ∧ Fr [48] σ σ' := by
  have hn := hT.1
  obtain ⟨l1, l2, l3, l4⟩ := t_le (t := t) ha'
  unfold f_X11_next
  refine lq0 (bot := fun _ => none) (F := f_X11_next_L0 (fun (σ : Mm) => f_X11_next_26 σ)) (fun τ => ∃ p, p ≤ n ∧ tS t n a = rnE isB t n p ∧ τ.1 48 24 = nI p ∧ KN σ τ ∧ Fr [48] σ τ) (fun τ => 121 - ix (τ.1 48 24)) (fun o => ∃ σ', o = some ((), σ') ∧ NtM t n a σ' ∧ KN σ σ' ∧ Fr [48] σ σ') ?_ FU σ ?_ ⟨a, ha', rfl, h24, fun j _ _ _ _ => rfl, Fr.rf _ _⟩
  · rintro L τ ⟨p, hp, hps, t24, tK', tF⟩
    have hTt := TpM_fr hT tF tK'
    unfold f_X11_next_L0
    simp only [qi_0, qi_1, qi_2, qi_3, qi_4, qi_5, qi_6, qi_7, qi_8, qi_9, qi_10, qi_11, qi_12, qi_13, qi_14, qi_15, qi_16, qi_17, qi_19, qi_26, qi_31, qi_32, qi_35, qi_40, qi_42, qi_48, qi_50, qi_57, qi_59, qi_63, qi_64, qi_97, qi_120, qi_122, qi_210, qi_255, qi_511, qi_512, qi_1000, qi_6000, qi_13312, qi_14337, qi_16383, qi_16384, qi_524287]
    rw [t24, byteAt_eq hTt (by omega), p_bd]
    have rest : p = tS t n a → ∃ σ', f_X11_next_26 τ = some ((), σ') ∧ NtM t n a σ' ∧ KN σ σ' ∧ Fr [48] σ σ' := by
      intro hpe
      have hE : tE t n a = if n ≤ tS t n a then tS t n a else if isL (t (tS t n a)) then rnE isL t n (tS t n a) else if isD (t (tS t n a)) then rnE isD t n (tS t n a) else tS t n a + 1 := rfl
      have hKK : tK t n a = if n ≤ tS t n a then 0 else if isL (t (tS t n a)) then 1 else if isD (t (tS t n a)) then 2 else if t (tS t n a) = 59 then 3 else 4 := rfl
      have hV : tV t n a = nv t (tS t n a) (tE t n a - tS t n a) := rfl
      have hW : tW t n a = wrd t (tS t n a) (tE t n a) 9 := rfl
      unfold NtM
      generalize tS t n a = s at *
      generalize tE t n a = e at *
      generalize tK t n a = kk at *
      generalize tV t n a = vv at *
      generalize tW t n a = ww at *
      subst hpe
      have hF2 : Fr [48] σ (sI (sI τ 48 25 (nI p)) 48 27 (nI 0)) := (tF.sI (by decide)).sI (by decide)
      have hK2 : KN σ (sI (sI τ 48 25 (nI p)) 48 27 (nI 0)) := KN_s (KN_s tK' (by omega)) (by omega)
      have hT2 := TpM_fr hT hF2 hK2
      have b24 : (sI (sI τ 48 25 (nI p)) 48 27 (nI 0)).1 48 24 = nI p := by rw [r_sIj (by decide), r_sIj (by decide)]; exact t24
      have b25 : (sI (sI τ 48 25 (nI p)) 48 27 (nI 0)).1 48 25 = nI p := by rw [r_sIj (by decide), r_sI0]
      unfold f_X11_next_26
      rw [t24, p_nm, show sI (sI τ 48 25 (nI p)) 48 27 (0 : Int32) = sI (sI τ 48 25 (nI p)) 48 27 (nI 0) from by rw [qi_0], p_nm, b24, hT2.2.1]
      by_cases c : n ≤ p
      · rw [if_pos c] at hE hKK
        rw [i_eq (by omega), p_nm, qi_0]
        refine ⟨_, rfl, ⟨?_, ?_, ?_, fun z => by omega, fun z => by omega⟩, KN_s hK2 (by omega), hF2.sI (by decide)⟩
        · rw [r_sIj (by decide), hE]; exact b24
        · rw [r_sIj (by decide)]; exact b25
        · rw [r_sI0, hKK]
      · have cp : p < n := by omega
        rw [if_neg c] at hE hKK
        rw [i_ne (by omega) (by omega) (by omega), isLetter_eq hT2 (by omega), p_bd, decide_eq_true cp, Bool.true_and]
        have hbp := (hT2.2.2.1 p cp).2
        cases hLt : isL (t p) with
        | true =>
          rw [hLt, if_pos rfl] at hE hKK
          obtain ⟨υ, u1, u2, u3, u4, u5, u6, u7⟩ := mletters_eq hT cp hE b24 b25 hK2 hF2
          rw [bI_t, if_neg (show ¬ nI 1 = (0 : Int32) by decide), u1]
          exact ⟨υ, rfl, ⟨u2, u3, by rw [hKK]; exact u4, fun _ => by rw [hW]; exact u5, fun z => by omega⟩, u6, u7⟩
        | false =>
          rw [hLt, if_neg (by decide)] at hE hKK
          rw [bI_f, if_pos (show nI 0 = (0 : Int32) from rfl), b24, isDigit_eq hT2 (by omega), p_bd, decide_eq_true cp, Bool.true_and]
          cases hDt : isD (t p) with
          | true =>
            rw [hDt, if_pos rfl] at hE hKK
            obtain ⟨υ, u1, u2, u3, u4, u5, u6, u7⟩ := mdigits_eq hT cp hE b24 b25 r_sI0 hK2 hF2
            rw [bI_t, if_neg (show ¬ nI 1 = (0 : Int32) by decide), u1]
            exact ⟨υ, rfl, ⟨u2, u3, by rw [hKK]; exact u4, fun z => by omega, fun _ => by rw [hV]; exact u5⟩, u6, u7⟩
          | false =>
            rw [hDt, if_neg (by decide)] at hE hKK
            rw [bI_f, if_pos (show nI 0 = (0 : Int32) from rfl), b24, byteAt_eq hT2 (by omega), p_bd, if_pos cp]
            have fin : ∀ v : Nat, kk = v → 3 ≤ v → ∃ σ', f_X11_next_288 (nI v) (sI (sI τ 48 25 (nI p)) 48 27 (nI 0)) = some ((), σ') ∧ (σ'.1 48 24 = nI e ∧ σ'.1 48 25 = nI p ∧ σ'.1 48 26 = nI kk ∧ (kk = 1 → σ'.1 48 27 = iO ww) ∧ (kk = 2 → σ'.1 48 27 = nI vv)) ∧ KN σ σ' ∧ Fr [48] σ σ' := by
              intro v hv h3
              unfold f_X11_next_288
              rw [p_nm, r_sIj (by decide), b24, qi_1, nI_add, p_nm]
              refine ⟨_, rfl, ⟨by rw [r_sI0, hE], ?_, ?_, fun z => by omega, fun z => by omega⟩, KN_s (KN_s hK2 (by omega)) (by omega), (hF2.sI (by decide)).sI (by decide)⟩
              · rw [r_sIj (by decide), r_sIj (by decide)]; exact b25
              · rw [r_sIj (by decide), r_sI0, hv]
            rw [qi_59, qi_3, qi_4]
            by_cases c59 : t p = 59
            · rw [i_eq c59]
              exact fin 3 (by rw [hKK, if_pos c59]) (by omega)
            · rw [i_ne (by omega) (by omega) c59]
              exact fin 4 (by rw [hKK, if_neg c59]) (by omega)
    by_cases c1 : p < n ∧ isB (t p) = true
    · left
      obtain ⟨c1, c2⟩ := c1
      have c32 : t p = 32 := of_decide_eq_true c2
      rw [if_pos c1, i_eq c32, t24, nI_add, p_nm, p_ix (a := p) (by omega)]
      refine ⟨_, ⟨p + 1, by omega, by rw [hps, rnE_go c1 c2], r_sI0, KN_s tK' (by omega), tF.sI (by decide)⟩, ?_, rfl⟩
      rw [r_sI0, p_ix (by omega)]; omega
    · right
      rw [rnE_stop c1] at hps
      by_cases c2 : p < n
      · have hbp := (hTt.2.2.1 p c2).2
        have hne : t p ≠ 32 := fun z => c1 ⟨c2, decide_eq_true z⟩
        rw [if_pos c2, i_ne (by omega) (by omega) hne]
        exact rest hps.symm
      · rw [if_neg c2, i_m1ne0 (by omega)]
        exact rest hps.symm
  · rw [h24, p_ix (by omega), FU_v]; omega
