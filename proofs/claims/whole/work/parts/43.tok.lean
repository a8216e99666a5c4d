/-! PURE: tokens, and the class's reader -/
def isL (b : Nat) : Bool := decide (97 ≤ b ∧ b ≤ 122)
def isD (b : Nat) : Bool := decide (48 ≤ b ∧ b ≤ 57)
def isB (b : Nat) : Bool := decide (b = 32)
/-- how far a run goes -/
def rnl (f : Nat → Bool) (t : Nat → Nat) (n : Nat) : Nat → Nat → Nat
  | 0, p => p
  | k + 1, p => if p < n ∧ f (t p) = true then rnl f t n k (p + 1) else p
def rnE (f : Nat → Bool) (t : Nat → Nat) (n p : Nat) : Nat := rnl f t n (n - p) p
theorem rnE_stop {f : Nat → Bool} {t : Nat → Nat} {n p : Nat} (h : ¬ (p < n ∧ f (t p) = true)) : rnE f t n p = p := by
  unfold rnE
  cases h1 : n - p with
  | zero => rfl
  | succ k => rw [rnl, if_neg h]
theorem rnE_go {f : Nat → Bool} {t : Nat → Nat} {n p : Nat} (h1 : p < n) (h2 : f (t p) = true) : rnE f t n p = rnE f t n (p + 1) := by
  unfold rnE
  rw [show n - p = n - (p + 1) + 1 by omega, rnl, if_pos ⟨h1, h2⟩]
theorem rnE_ge {f : Nat → Bool} {t : Nat → Nat} {n : Nat} : ∀ k p, n - p = k → p ≤ rnE f t n p ∧ (p ≤ n → rnE f t n p ≤ n) := by
  intro k
  induction k with
  | zero => intro p h; rw [rnE_stop (fun q => by omega)]; omega
  | succ k ih =>
    intro p h
    by_cases c : p < n ∧ f (t p) = true
    · rw [rnE_go c.1 c.2]
      have := ih (p + 1) (by omega)
      omega
    · rw [rnE_stop c]; omega
theorem rnE_le {f : Nat → Bool} {t : Nat → Nat} {n p : Nat} (h : p ≤ n) : p ≤ rnE f t n p ∧ rnE f t n p ≤ n := ⟨(rnE_ge _ p rfl).1, (rnE_ge _ p rfl).2 h⟩
theorem rnE_all {f : Nat → Bool} {t : Nat → Nat} {n : Nat} : ∀ k p, n - p = k → ∀ q, p ≤ q → q < rnE f t n p → f (t q) = true := by
  intro k
  induction k with
  | zero => intro p h q h1 h2; rw [rnE_stop (fun q => by omega)] at h2; omega
  | succ k ih =>
    intro p h q h1 h2
    by_cases c : p < n ∧ f (t p) = true
    · rw [rnE_go c.1 c.2] at h2
      by_cases e : q = p
      · rw [e]; exact c.2
      · exact ih (p + 1) (by omega) q (by omega) h2
    · rw [rnE_stop c] at h2; omega
/-- the value of digits, as far as it matters -/
def nv (t : Nat → Nat) (p : Nat) : Nat → Nat
  | 0 => 0
  | i + 1 => if nv t p i < 1000 then 10 * nv t p i + (t (p + i) - 48) else nv t p i
theorem nv_lt {t : Nat → Nat} {p : Nat} (h : ∀ i, t (p + i) - 48 ≤ 9 ∨ True) : ∀ i, (∀ j, j < i → isD (t (p + j)) = true) → nv t p i < 10000 := by
  intro i
  induction i with
  | zero => intro _; exact (by show 0 < 10000; omega)
  | succ i ih =>
    intro hd
    have h1 := ih (fun j hj => hd j (by omega))
    have h2 := of_decide_eq_true (hd i (by omega))
    rw [nv]
    split <;> omega
def tS (t : Nat → Nat) (n a : Nat) : Nat := rnE isB t n a
def tK (t : Nat → Nat) (n a : Nat) : Nat := if n ≤ tS t n a then 0 else if isL (t (tS t n a)) then 1 else if isD (t (tS t n a)) then 2 else if t (tS t n a) = 59 then 3 else 4
def tE (t : Nat → Nat) (n a : Nat) : Nat := if n ≤ tS t n a then tS t n a else if isL (t (tS t n a)) then rnE isL t n (tS t n a) else if isD (t (tS t n a)) then rnE isD t n (tS t n a) else tS t n a + 1
def tV (t : Nat → Nat) (n a : Nat) : Nat := nv t (tS t n a) (tE t n a - tS t n a)
theorem t_le {t : Nat → Nat} {n a : Nat} (h : a ≤ n) : a ≤ tS t n a ∧ tS t n a ≤ n ∧ tS t n a ≤ tE t n a ∧ tE t n a ≤ n := by
  have h1 := rnE_le (f := isB) (t := t) h
  have hs : tS t n a = rnE isB t n a := rfl
  have h2 := rnE_le (f := isL) (t := t) (n := n) (p := tS t n a) (by omega)
  have h3 := rnE_le (f := isD) (t := t) (n := n) (p := tS t n a) (by omega)
  refine ⟨by omega, by omega, ?_⟩
  unfold tE
  split
  · omega
  · split
    · omega
    · split <;> omega
def wls : List (List Nat) := [[114, 101, 97, 100], [119, 114, 105, 116, 101], [112, 117, 116], [115, 119, 97, 112], [97, 100, 100], [102, 101, 110, 99, 101], [115, 101, 116], [107, 101, 101, 112], [97, 103, 97, 105, 110]]
/-- bytes p .. q - 1 are the word w -/
def isW (t : Nat → Nat) (p q w : Nat) : Bool := decide ((wls.getD w []).length = q - p ∧ ∀ i, i < (wls.getD w []).length → (wls.getD w []).getD i 0 = t (p + i))
def wrd (t : Nat → Nat) (p q : Nat) : Nat → Option Nat
  | 0 => none
  | w + 1 => match wrd t p q w with
    | some v => some v
    | none => if isW t p q w then some w else none
def tW (t : Nat → Nat) (n a : Nat) : Option Nat := wrd t (tS t n a) (tE t n a) 9
/-- the tape in the class -/
def TpC (t : Nat → Nat) (n : Nat) (σ : Mm) : Prop := n ≤ 120 ∧ σ.1 4 1 = nI n ∧ ∀ i, i < n → σ.1 5 i = nI (t i) ∧ t i < 256
theorem isIn_eq {b lo hi : Nat} {σ : Mm} (hb : b < 256) (hl : lo < 256) (hh : hi < 256) : f_X3_isIn (nI b) (nI lo) (nI hi) σ = some (bI (decide (lo ≤ b ∧ b ≤ hi)), σ) := by
  unfold f_X3_isIn f_X3_isIn_14
  simp only [qi_0, qi_1, qi_2, qi_3, qi_4, qi_5, qi_6, qi_7, qi_8, qi_9, qi_10, qi_11, qi_12, qi_13, qi_14, qi_15, qi_16, qi_17, qi_19, qi_26, qi_31, qi_32, qi_35, qi_40, qi_42, qi_48, qi_50, qi_57, qi_59, qi_63, qi_64, qi_97, qi_120, qi_122, qi_210, qi_255, qi_511, qi_512, qi_1000, qi_6000, qi_13312, qi_14337, qi_16383, qi_16384, qi_524287]
  by_cases c1 : b < lo
  · rw [i_lt (by omega) c1, p_cb0, decide_eq_false (by omega), bI_f]
  · rw [i_nlt (by omega) (by omega)]
    by_cases c2 : hi < b
    · rw [i_lt (by omega) c2, p_cb0, decide_eq_false (by omega), bI_f]
    · rw [i_nlt (by omega) (by omega), p_cb1, decide_eq_true (by omega), bI_t]
theorem TpC_fr {t : Nat → Nat} {n : Nat} {σ τ : Mm} (h : TpC t n σ) (hF : Fr [3] σ τ) : TpC t n τ := ⟨h.1, by rw [hF.r1 4 (by decide)]; exact h.2.1, fun i hi => by rw [hF.r1 5 (by decide)]; exact h.2.2 i hi⟩
theorem nextToken_eq {t : Nat → Nat} {n a : Nat} {σ : Mm} (hT : TpC t n σ) (ha : a ≤ n) (h31 : σ.1 3 1 = nI a) :
    ∃ σ', f_X3_nextToken σ = some ((), σ') ∧ σ'.1 3 1 = nI (tE t n a) ∧ σ'.1 3 2 = nI (tS t n a) ∧ σ'.1 3 3 = nI (tK t n a) ∧ (tK t n a = 2 → σ'.1 3 4 = nI (min 1000 (tV t n a))) ∧ Fr [3] σ σ' := by
  have hn := hT.1
  obtain ⟨l1, l2, l3, l4⟩ := t_le (t := t) ha
  unfold f_X3_nextToken
  -- blanks
  refine lq0 (F := f_X3_nextToken_L0 (fun (σ : Mm) => f_X3_nextToken_44 σ)) (fun τ => ∃ p, p ≤ n ∧ tS t n a = rnE isB t n p ∧ τ.1 3 1 = nI p ∧ Fr [3] σ τ) (fun τ => 121 - ix (τ.1 3 1)) (fun o => ∃ σ', o = some ((), σ') ∧ σ'.1 3 1 = nI (tE t n a) ∧ σ'.1 3 2 = nI (tS t n a) ∧ σ'.1 3 3 = nI (tK t n a) ∧ (tK t n a = 2 → σ'.1 3 4 = nI (min 1000 (tV t n a))) ∧ Fr [3] σ σ') ?_ FU σ ?_ ⟨a, ha, rfl, h31, Fr.rf _ _⟩
  · rintro L τ ⟨p, hp, hps, h1, hF⟩
    have hTt := TpC_fr hT hF
    have rest : p = tS t n a → ∃ σ', f_X3_nextToken_44 τ = some ((), σ') ∧ σ'.1 3 1 = nI (tE t n a) ∧ σ'.1 3 2 = nI (tS t n a) ∧ σ'.1 3 3 = nI (tK t n a) ∧ (tK t n a = 2 → σ'.1 3 4 = nI (min 1000 (tV t n a))) ∧ Fr [3] σ σ' := by
      intro hpe
      have hE : tE t n a = if n ≤ tS t n a then tS t n a else if isL (t (tS t n a)) then rnE isL t n (tS t n a) else if isD (t (tS t n a)) then rnE isD t n (tS t n a) else tS t n a + 1 := rfl
      have hK : tK t n a = if n ≤ tS t n a then 0 else if isL (t (tS t n a)) then 1 else if isD (t (tS t n a)) then 2 else if t (tS t n a) = 59 then 3 else 4 := rfl
      have hV : tV t n a = nv t (tS t n a) (tE t n a - tS t n a) := rfl
      generalize tS t n a = s at *
      generalize tE t n a = e at *
      generalize tK t n a = kk at *
      generalize tV t n a = vv at *
      subst hpe
      unfold f_X3_nextToken_44 f_X3_nextToken_287
      simp only [qi_0, qi_1, qi_2, qi_3, qi_4, qi_5, qi_6, qi_7, qi_8, qi_9, qi_10, qi_11, qi_12, qi_13, qi_14, qi_15, qi_16, qi_17, qi_19, qi_26, qi_31, qi_32, qi_35, qi_40, qi_42, qi_48, qi_50, qi_57, qi_59, qi_63, qi_64, qi_97, qi_120, qi_122, qi_210, qi_255, qi_511, qi_512, qi_1000, qi_6000, qi_13312, qi_14337, qi_16383, qi_16384, qi_524287]
      rw [p_nm, h1, r_sIj (by decide), h1, r_sI1 (by decide), hTt.2.1]
      have hF2 : Fr [3] σ (sI τ 3 2 (nI p)) := hF.sI (by decide)
      by_cases c : n ≤ p
      · rw [if_pos c] at hE hK
        rw [i_nlt (by omega) c, p_nm]
        refine ⟨_, rfl, by rw [r_sIj (by decide), r_sIj (by decide), hE]; exact h1, by rw [r_sIj (by decide), r_sI0], by rw [r_sI0, hK], fun q => by omega, hF2.sI (by decide)⟩
      · rw [if_neg c] at hE hK
        obtain ⟨b1, b2⟩ := hTt.2.2 p (by omega)
        have b1' : (sI τ 3 2 (nI p)).1 5 p = nI (t p) := by rw [r_sI1 (by decide)]; exact b1
        rw [i_lt (by omega) (by omega), p_ck _ (by omega) (by omega), p_ix (by omega), b1', isIn_eq b2 (by omega) (by omega), p_bd]
        cases hLt : isL (t p) with
        | true =>
          rw [hLt] at hE hK
          have hE : e = rnE isL t n p := hE
          have hK : kk = 1 := hK
          rw [show decide (97 ≤ t p ∧ t p ≤ 122) = true from hLt, bI_t, i_ne (by omega) (by omega) (by omega), p_nm]
          refine lq0 (F := f_X3_nextToken_L101) (fun υ => ∃ q, q ≤ n ∧ e = rnE isL t n q ∧ υ.1 3 1 = nI q ∧ υ.1 3 2 = nI p ∧ υ.1 3 3 = nI 1 ∧ Fr [3] σ υ) (fun υ => 121 - ix (υ.1 3 1)) (fun o => ∃ σ', o = some ((), σ') ∧ σ'.1 3 1 = nI e ∧ σ'.1 3 2 = nI p ∧ σ'.1 3 3 = nI kk ∧ (kk = 2 → σ'.1 3 4 = nI (min 1000 vv)) ∧ Fr [3] σ σ') ?_ FU _ ?_ ⟨p, hp, hE, by rw [r_sIj (by decide), r_sIj (by decide)]; exact h1, by rw [r_sIj (by decide), r_sI0], r_sI0, hF2.sI (by decide)⟩
          · rintro L2 υ ⟨q, hq, hqe, u1, u2, u3, uF⟩
            have hTu := TpC_fr hT uF
            unfold f_X3_nextToken_L101
            simp only [qi_0, qi_1, qi_2, qi_3, qi_4, qi_5, qi_6, qi_7, qi_8, qi_9, qi_10, qi_11, qi_12, qi_13, qi_14, qi_15, qi_16, qi_17, qi_19, qi_26, qi_31, qi_32, qi_35, qi_40, qi_42, qi_48, qi_50, qi_57, qi_59, qi_63, qi_64, qi_97, qi_120, qi_122, qi_210, qi_255, qi_511, qi_512, qi_1000, qi_6000, qi_13312, qi_14337, qi_16383, qi_16384, qi_524287]
            rw [u1, hTu.2.1]
            by_cases cq : n ≤ q
            · right
              rw [i_le (by omega) cq]
              rw [rnE_stop (fun z => by omega)] at hqe
              exact ⟨υ, rfl, by rw [hqe]; exact u1, u2, by rw [hK]; exact u3, fun z => by omega, uF⟩
            · obtain ⟨d1, d2⟩ := hTu.2.2 q (by omega)
              rw [i_nle (by omega) (by omega), p_ck _ (by omega) (by omega), p_ix (by omega), d1, isIn_eq d2 (by omega) (by omega), p_bd]
              cases hLq : isL (t q) with
              | false =>
                right
                rw [rnE_stop (fun z => by rw [hLq] at z; cases z.2)] at hqe
                rw [show decide (97 ≤ t q ∧ t q ≤ 122) = false from hLq, bI_f, i_eq rfl]
                exact ⟨υ, rfl, by rw [hqe]; exact u1, u2, by rw [hK]; exact u3, fun z => by omega, uF⟩
              | true =>
                left
                rw [rnE_go (by omega) hLq] at hqe
                rw [show decide (97 ≤ t q ∧ t q ≤ 122) = true from hLq, bI_t, i_ne (by omega) (by omega) (by omega), u1, nI_add, p_nm]
                refine ⟨_, ⟨q + 1, by omega, hqe, r_sI0, by rw [r_sIj (by decide)]; exact u2, by rw [r_sIj (by decide)]; exact u3, uF.sI (by decide)⟩, ?_, rfl⟩
                rw [r_sI0, p_ix (by omega)]; omega
          · rw [r_sIj (by decide), r_sIj (by decide), h1, p_ix (by omega), FU_v]; omega
        | false =>
          rw [hLt] at hE hK
          rw [show decide (97 ≤ t p ∧ t p ≤ 122) = false from hLt, bI_f, i_eq rfl]
          rw [r_sIj (by decide), h1, p_ck _ (by omega) (by omega), p_ix (by omega), b1', isIn_eq b2 (by omega) (by omega), p_bd]
          cases hDt : isD (t p) with
          | true =>
            rw [hDt] at hE hK
            have hE : e = rnE isD t n p := hE
            have hK : kk = 2 := hK
            rw [show decide (48 ≤ t p ∧ t p ≤ 57) = true from hDt, bI_t, i_ne (by omega) (by omega) (by omega), p_nm, p_nm]
            have hall := rnE_all (f := isD) (t := t) (n := n) _ p rfl
            rw [← hE] at hall
            refine lq0 (F := f_X3_nextToken_L182) (fun υ => ∃ q, p ≤ q ∧ q ≤ n ∧ e = rnE isD t n q ∧ q ≤ e ∧ υ.1 3 1 = nI q ∧ υ.1 3 2 = nI p ∧ υ.1 3 3 = nI 2 ∧ υ.1 3 4 = nI (min 1000 (nv t p (q - p))) ∧ Fr [3] σ υ) (fun υ => 121 - ix (υ.1 3 1)) (fun o => ∃ σ', o = some ((), σ') ∧ σ'.1 3 1 = nI e ∧ σ'.1 3 2 = nI p ∧ σ'.1 3 3 = nI kk ∧ (kk = 2 → σ'.1 3 4 = nI (min 1000 vv)) ∧ Fr [3] σ σ') ?_ FU _ ?_ ⟨p, by omega, hp, hE, by have := rnE_le (f := isD) (t := t) hp; omega, by rw [r_sIj (by decide), r_sIj (by decide), r_sIj (by decide)]; exact h1, by rw [r_sIj (by decide), r_sIj (by decide), r_sI0], by rw [r_sIj (by decide), r_sI0], by rw [r_sI0, Nat.sub_self]; rfl, (hF2.sI (by decide)).sI (by decide)⟩
            · rintro L2 υ ⟨q, hpq, hq, hqe, hqle, u1, u2, u3, u4, uF⟩
              have hTu := TpC_fr hT uF
              unfold f_X3_nextToken_L182
              simp only [qi_0, qi_1, qi_2, qi_3, qi_4, qi_5, qi_6, qi_7, qi_8, qi_9, qi_10, qi_11, qi_12, qi_13, qi_14, qi_15, qi_16, qi_17, qi_19, qi_26, qi_31, qi_32, qi_35, qi_40, qi_42, qi_48, qi_50, qi_57, qi_59, qi_63, qi_64, qi_97, qi_120, qi_122, qi_210, qi_255, qi_511, qi_512, qi_1000, qi_6000, qi_13312, qi_14337, qi_16383, qi_16384, qi_524287]
              rw [u1, hTu.2.1]
              by_cases cq : n ≤ q
              · right
                rw [i_le (by omega) cq]
                rw [rnE_stop (fun z => by omega)] at hqe
                exact ⟨υ, rfl, by rw [hqe]; exact u1, u2, by rw [hK]; exact u3, fun _ => by rw [u4, hV, hqe], uF⟩
              · obtain ⟨d1, d2⟩ := hTu.2.2 q (by omega)
                rw [i_nle (by omega) (by omega), p_ck _ (by omega) (by omega), p_ix (by omega), d1, isIn_eq d2 (by omega) (by omega), p_bd]
                cases hDq : isD (t q) with
                | false =>
                  right
                  rw [rnE_stop (fun z => by rw [hDq] at z; cases z.2)] at hqe
                  rw [show decide (48 ≤ t q ∧ t q ≤ 57) = false from hDq, bI_f, i_eq rfl]
                  exact ⟨υ, rfl, by rw [hqe]; exact u1, u2, by rw [hK]; exact u3, fun _ => by rw [u4, hV, hqe], uF⟩
                | true =>
                  left
                  rw [rnE_go (by omega) hDq] at hqe
                  have hdq := of_decide_eq_true hDq
                  have hle2 := rnE_le (f := isD) (t := t) (show q + 1 ≤ n by omega)
                  have hnv : min 1000 (nv t p (q + 1 - p)) = min 1000 (min 1000 (nv t p (q - p)) * 10 + t q - 48) := by
                    rw [show q + 1 - p = q - p + 1 by omega, nv, show p + (q - p) = q by omega]
                    split <;> omega
                  have hm : f_J9_min_7cf53 (nI 1000) (nI (min 1000 (nv t p (q - p)) * 10 + t q - 48)) υ = some (nI (min 1000 (nv t p (q + 1 - p))), υ) := by
                    unfold f_J9_min_7cf53
                    rw [hnv]
                    by_cases cm : min 1000 (nv t p (q - p)) * 10 + t q - 48 < 1000
                    · rw [i_lt (by omega) cm, show min 1000 (min 1000 (nv t p (q - p)) * 10 + t q - 48) = min 1000 (nv t p (q - p)) * 10 + t q - 48 by omega]
                    · rw [i_nlt (by omega) (by omega), show min 1000 (min 1000 (nv t p (q - p)) * 10 + t q - 48) = 1000 by omega]
                  rw [show decide (48 ≤ t q ∧ t q ≤ 57) = true from hDq, bI_t, i_ne (by omega) (by omega) (by omega), u1, p_ck _ (by omega) (by omega), u4, pk_mul, p_ix (a := q) (by omega), d1, nI_add, pk_sub (by omega), hm, p_bd, p_nm, r_sIj (by decide), u1, nI_add, p_nm]
                  refine ⟨_, ⟨q + 1, by omega, by omega, hqe, by omega, r_sI0, by rw [r_sIj (by decide), r_sIj (by decide)]; exact u2, by rw [r_sIj (by decide), r_sIj (by decide)]; exact u3, by rw [r_sIj (by decide), r_sI0], (uF.sI (by decide)).sI (by decide)⟩, ?_, rfl⟩
                  rw [r_sI0, p_ix (by omega)]; omega
            · rw [r_sIj (by decide), r_sIj (by decide), r_sIj (by decide), h1, p_ix (by omega), FU_v]; omega
          | false =>
            rw [hDt] at hE hK
            have hE : e = p + 1 := hE
            have hK : kk = if t p = 59 then 3 else 4 := hK
            rw [show decide (48 ≤ t p ∧ t p ≤ 57) = false from hDt, bI_f, i_eq rfl]
            rw [r_sIj (by decide), h1, p_ck _ (by omega) (by omega), p_ix (by omega), b1']
            by_cases cs : t p = 59
            · rw [if_pos cs] at hK
              rw [i_eq cs, p_nm, r_sIj (by decide), r_sIj (by decide), h1, nI_add, p_nm]
              exact ⟨_, rfl, by rw [r_sI0, hE], by rw [r_sIj (by decide), r_sIj (by decide), r_sI0], by rw [r_sIj (by decide), r_sI0, hK], fun z => by omega, (hF2.sI (by decide)).sI (by decide)⟩
            · rw [if_neg cs] at hK
              rw [i_ne (by omega) (by omega) cs, p_nm, r_sIj (by decide), r_sIj (by decide), h1, nI_add, p_nm]
              exact ⟨_, rfl, by rw [r_sI0, hE], by rw [r_sIj (by decide), r_sIj (by decide), r_sI0], by rw [r_sIj (by decide), r_sI0, hK], fun z => by omega, (hF2.sI (by decide)).sI (by decide)⟩
    unfold f_X3_nextToken_L0
    simp only [qi_0, qi_1, qi_2, qi_3, qi_4, qi_5, qi_6, qi_7, qi_8, qi_9, qi_10, qi_11, qi_12, qi_13, qi_14, qi_15, qi_16, qi_17, qi_19, qi_26, qi_31, qi_32, qi_35, qi_40, qi_42, qi_48, qi_50, qi_57, qi_59, qi_63, qi_64, qi_97, qi_120, qi_122, qi_210, qi_255, qi_511, qi_512, qi_1000, qi_6000, qi_13312, qi_14337, qi_16383, qi_16384, qi_524287]
    rw [h1, hTt.2.1]
    by_cases c : n ≤ p
    · right
      rw [i_le (by omega) c]
      exact rest (by rw [hps, rnE_stop (fun z => by omega)])
    · obtain ⟨b1, b2⟩ := hTt.2.2 p (by omega)
      rw [i_nle (by omega) (by omega), p_ck _ (by omega) (by omega), p_ix (by omega), b1]
      by_cases c32 : t p = 32
      · left
        rw [i_eq c32, p_nm, nI_add]
        rw [rnE_go (by omega) (decide_eq_true c32)] at hps
        refine ⟨_, ⟨p + 1, by omega, hps, r_sI0, hF.sI (by decide)⟩, ?_, rfl⟩
        rw [r_sI0, p_ix (by omega)]; omega
      · right
        rw [i_ne (by omega) (by omega) c32]
        exact rest (by rw [hps, rnE_stop (fun z => c32 (of_decide_eq_true z.2))])
  · rw [h31, p_ix (by omega), FU_v]; omega
