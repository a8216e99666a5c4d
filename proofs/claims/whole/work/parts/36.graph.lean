/-! PURE: ends have no way on; the way to a state; states that lead to an end -/
theorem stp_none {P : Pg} {lt x h : Nat} (hp : pl (hd x h) < pN P h) (h0 : stp P lt x h = none) : hn (hd x h) ≠ 0 := by
  intro hz
  unfold stp stpf at h0
  rw [if_neg (by omega)] at h0
  split at h0
  · cases h0
  · split at h0
    · split at h0
      · cases h0
      · rw [if_neg (by omega)] at h0
        split at h0 <;> cases h0
    · split at h0
      · split at h0 <;> cases h0
      · split at h0
        · cases h0
        · split at h0
          · cases h0
          · split at h0
            · split at h0 <;> cases h0
            · split at h0 <;> cases h0
theorem end_iff {P : Pg} {x : Nat} (hP : PgV P) (hV : VS P x) : iE P x = true ↔ ∀ k, k < 6 → mv P (pL P) x k = none := by
  unfold iE
  rw [decide_eq_true_iff]
  have hH := hP.1
  constructor
  · intro h k hk
    unfold mv
    by_cases c : k < 3
    · rw [if_pos c]
      unfold stp stpf
      rw [if_pos]
      by_cases e : k < pH P
      · exact (h k e).1
      · rw [hP.2.2.2.1 k (by omega)]; exact Nat.zero_le _
    · rw [if_neg c]
      unfold arr arrf
      rw [if_pos]
      by_cases e : k - 3 < pH P
      · exact (h (k - 3) e).2
      · rw [(hV.2 (k - 3) (by omega)).2.2 (by omega)]; rfl
  · intro h g hg
    have h1 := h g (by omega)
    have h2 := h (g + 3) (by omega)
    unfold mv at h1 h2
    rw [if_pos (by omega)] at h1
    rw [if_neg (by omega), show g + 3 - 3 = g by omega] at h2
    have hz : hn (hd x g) = 0 := by
      unfold arr arrf at h2
      split at h2
      · assumption
      · cases h2
    refine ⟨?_, hz⟩
    apply Nat.not_lt.mp
    intro q
    exact stp_none q h1 hz
theorem bE_VS {P : Pg} (hP : PgV P) (h0 : VS P (pF P)) : ∀ j, j < bN (bEnd P) → VS P (bF (bEnd P) j) := bf_VS hP h0 36006
theorem bE_BI (P : Pg) : BI (nxP P) (pF P) 36006 (bEnd P) := bf_BI P 36006
/-- the way back from a state -/
def anc (b : Bs) (w : Nat) : Nat → Nat
  | 0 => w
  | k + 1 => bC b (anc b w k) / 6
theorem BI_D0 {nx : Nat → Nat → Option Nat} {x0 e : Nat} {b : Bs} (h : BI nx x0 e b) {j : Nat} (hj : j < bN b) : (bD b j = 0 ↔ j = 0) ∧ bD b j ≤ j := by
  obtain ⟨h1, h2, h3, h4, h5, h6, h7⟩ := h
  induction j using Nat.strongRecOn with
  | _ j ih =>
    by_cases c : j = 0
    · subst c; rw [h7]; exact ⟨by omega, by omega⟩
    · obtain ⟨a1, a2, a3, a4, a5⟩ := h3 j (by omega) hj
      have := ih (bC b j / 6) (by omega) (by omega)
      rw [a5]
      omega
theorem anc_ok {nx : Nat → Nat → Option Nat} {x0 e : Nat} {b : Bs} (h : BI nx x0 e b) {w : Nat} (hw : w < bN b) : ∀ k, k ≤ bD b w → anc b w k < bN b ∧ bD b (anc b w k) = bD b w - k := by
  intro k
  induction k with
  | zero => intro _; exact ⟨hw, rfl⟩
  | succ k ih =>
    intro hk
    obtain ⟨a1, a2⟩ := ih (by omega)
    have h0 : anc b w k ≠ 0 := fun q => by
      have := (BI_D0 h a1).1.mpr q
      omega
    obtain ⟨c1, c2, c3, c4, c5⟩ := h.2.2.1 (anc b w k) (by omega) a1
    rw [anc]
    exact ⟨by omega, by omega⟩
/-- move i of the way to w -/
def mvp (b : Bs) (w i : Nat) : Nat := bC b (anc b w (bD b w - 1 - i)) % 6
/-- the first end with a result -/
def fe (P : Pg) (F : Nat → Nat) (r : Nat) : Nat → Option Nat
  | 0 => none
  | n + 1 => match fe P F r n with
    | some j => some j
    | none => if iE P (F n) = true ∧ rslt P (F n) = r then some n else none
theorem fe_some {P : Pg} {F : Nat → Nat} {r : Nat} : ∀ {n j : Nat}, fe P F r n = some j → j < n ∧ iE P (F j) = true ∧ rslt P (F j) = r := by
  intro n
  induction n with
  | zero => intro j h; cases h
  | succ n ih =>
    intro j h
    rw [fe] at h
    cases h1 : fe P F r n with
    | some i =>
      rw [h1] at h
      simp only [Option.some.injEq] at h
      subst h
      obtain ⟨a, b⟩ := ih h1
      exact ⟨by omega, b⟩
    | none =>
      rw [h1] at h
      simp only at h
      split at h
      · rename_i hc
        simp only [Option.some.injEq] at h
        subst h
        exact ⟨by omega, hc⟩
      · cases h
theorem fe_ex {P : Pg} {F : Nat → Nat} {r : Nat} : ∀ n, r ∈ er P F n → ∃ j, fe P F r n = some j := by
  intro n
  induction n with
  | zero => intro h; cases h
  | succ n ih =>
    intro h
    rw [fe]
    cases h1 : fe P F r n with
    | some i => exact ⟨i, rfl⟩
    | none =>
      rw [er] at h
      have hn : r ∉ er P F n := fun q => by obtain ⟨j, hj⟩ := ih q; rw [hj] at h1; cases h1
      split at h
      · rename_i hE
        rw [mem_ins] at h
        rcases h with h | h
        · exact ⟨n, by simp only; rw [if_pos ⟨hE, h.symm⟩]⟩
        · exact absurd h hn
      · exact absurd h hn
/-- the class's way -/
theorem dn_0 : nI 0 - nI 1 = -nI 1 := by decide
theorem dn_s {m : Nat} (h : 0 < m) : nI m - nI 1 = nI (m - 1) := pk_sub (by omega)
theorem dn_n (a : Nat) : nI a + -nI 1 = nI a - nI 1 := by rw [Int32.sub_eq_add_neg]
theorem back_eq {b : Bs} {nx : Nat → Nat → Option Nat} {x0 e w : Nat} {σ : Mm} (hB : BI nx x0 e b) (hN : bN b ≤ 6000) (hw : w < bN b) (h0 : σ.1 22 0 = -nI 1) (hC : ∀ j, 0 < j → j < bN b → σ.1 22 j = nI (bC b j)) (h7 : σ.1 18 7 = nI (bN b)) :
    ∃ σ', f_X9_walkTo_55 (nI w) σ = some (nI (bD b w), σ') ∧ (∀ i, i < bD b w → σ'.1 25 i = nI (mvp b w i)) ∧ Fr [25] σ σ' := by
  have hDw := (BI_D0 hB hw).2
  have hCb : ∀ j, 0 < j → j < bN b → bC b j < 36000 := fun j j0 jn => by have := (hB.2.2.1 j j0 jn).2.1; omega
  have fill : ∃ σ', f_X9_walkTo_98 (nI w) (nI (bD b w)) σ = some (nI (bD b w), σ') ∧ (∀ i, i < bD b w → σ'.1 25 i = nI (mvp b w i)) ∧ Fr [25] σ σ' := by
    unfold f_X9_walkTo_98
    simp only [qi_0, qi_1, qi_2, qi_3, qi_4, qi_5, qi_6, qi_7, qi_8, qi_9, qi_10, qi_11, qi_12, qi_13, qi_14, qi_15, qi_16, qi_17, qi_19, qi_26, qi_31, qi_32, qi_35, qi_40, qi_42, qi_48, qi_50, qi_57, qi_59, qi_63, qi_64, qi_97, qi_120, qi_122, qi_210, qi_255, qi_511, qi_512, qi_1000, qi_6000, qi_13312, qi_14337, qi_16383, qi_16384, qi_524287]
    rw [p_nm]
    refine lq2 (F := f_X9_walkTo_L107 (nI (bD b w))) (fun x y τ => ∃ k, k ≤ bD b w ∧ x = nI (anc b w k) ∧ y = nI (bD b w - k) - nI 1 ∧ (∀ i, bD b w - k ≤ i → i < bD b w → τ.1 25 i = nI (mvp b w i)) ∧ Fr [25] σ τ) (fun _ y _ => ix (y + nI 1)) (fun o => ∃ σ', o = some (nI (bD b w), σ') ∧ (∀ i, i < bD b w → σ'.1 25 i = nI (mvp b w i)) ∧ Fr [25] σ σ') ?_ FU (nI w) _ σ ?_ ⟨0, by omega, rfl, rfl, fun i h1 h2 => by omega, Fr.rf _ _⟩
    · rintro L x y τ ⟨k, hk, rfl, rfl, hm, hF⟩
      unfold f_X9_walkTo_L107
      simp only [qi_0, qi_1, qi_2, qi_3, qi_4, qi_5, qi_6, qi_7, qi_8, qi_9, qi_10, qi_11, qi_12, qi_13, qi_14, qi_15, qi_16, qi_17, qi_19, qi_26, qi_31, qi_32, qi_35, qi_40, qi_42, qi_48, qi_50, qi_57, qi_59, qi_63, qi_64, qi_97, qi_120, qi_122, qi_210, qi_255, qi_511, qi_512, qi_1000, qi_6000, qi_13312, qi_14337, qi_16383, qi_16384, qi_524287]
      by_cases c : bD b w - k = 0
      · right
        rw [c, dn_0, i_m1lt (by omega)]
        exact ⟨τ, rfl, fun i hi => hm i (by omega) hi, hF⟩
      · left
        obtain ⟨a1, a2⟩ := anc_ok hB hw k hk
        have hne : anc b w k ≠ 0 := fun q => by have := (BI_D0 hB a1).1.mpr q; omega
        have hcb := hCb _ (by omega) a1
        have h22 : τ.1 22 (anc b w k) = nI (bC b (anc b w k)) := by rw [hF.r1 22 (by decide)]; exact hC _ (by omega) a1
        rw [dn_s (by omega), i_nlt (by omega) (by omega), p_ck _ (by omega) (by omega), p_ck _ (by omega) (by omega), p_ix (a := bD b w - k - 1) (by omega), p_ix (a := anc b w k) (by omega), h22, p_irm (by omega) (by omega) (by omega), p_nm, p_ck _ (by omega) (by omega), r_sI1 (by decide), h22, p_idv (by omega) (by omega) (by omega), p_nm, dn_n, p_nm]
        refine ⟨nI (anc b w (k + 1)), _, sI τ 25 (bD b w - k - 1) (nI (bC b (anc b w k) % 6)), ⟨k + 1, by omega, rfl, rfl, ?_, hF.sI (by decide)⟩, ?_, by rw [show bD b w - (k + 1) = bD b w - k - 1 by omega]; rfl⟩
        · intro i h1 h2
          by_cases ei : i = bD b w - k - 1
          · rw [ei, r_sI0]
            unfold mvp
            rw [show bD b w - 1 - (bD b w - k - 1) = k by omega]
          · rw [r_sIj ei]; exact hm i (by omega) h2
        · have e1 : nI (bD b w - (k + 1)) - nI 1 + nI 1 = nI (bD b w - (k + 1)) := Int32.sub_add_cancel _ _
          rw [e1, nI_add, p_ix (by omega), p_ix (by omega)]; omega
    · have e1 : nI (bD b w) - nI 1 + nI 1 = nI (bD b w) := Int32.sub_add_cancel _ _
      rw [e1, p_ix (by omega), FU_v]; omega
  unfold f_X9_walkTo_55
  refine lq2 (F := f_X9_walkTo_L61 (fun (xq4 : Int32) (σ : Mm) => f_X9_walkTo_98 (nI w) xq4 σ) (nI w)) (fun x y τ => ∃ k, k ≤ bD b w ∧ x = nI k ∧ y = nI (anc b w k) ∧ τ = σ) (fun x _ _ => 6001 - ix x) (fun o => ∃ σ', o = some (nI (bD b w), σ') ∧ (∀ i, i < bD b w → σ'.1 25 i = nI (mvp b w i)) ∧ Fr [25] σ σ') ?_ FU (0 : Int32) (nI w) σ ?_ ⟨0, by omega, rfl, rfl, rfl⟩
  · rintro L x y τ ⟨k, hk, rfl, rfl, rfl⟩
    unfold f_X9_walkTo_L61
    simp only [qi_0, qi_1, qi_2, qi_3, qi_4, qi_5, qi_6, qi_7, qi_8, qi_9, qi_10, qi_11, qi_12, qi_13, qi_14, qi_15, qi_16, qi_17, qi_19, qi_26, qi_31, qi_32, qi_35, qi_40, qi_42, qi_48, qi_50, qi_57, qi_59, qi_63, qi_64, qi_97, qi_120, qi_122, qi_210, qi_255, qi_511, qi_512, qi_1000, qi_6000, qi_13312, qi_14337, qi_16383, qi_16384, qi_524287]
    obtain ⟨a1, a2⟩ := anc_ok hB hw k hk
    rw [h7, i_nle (by omega) (by omega), p_ck _ (by omega) (by omega), p_ix (a := anc b w k) (by omega)]
    by_cases c : anc b w k = 0
    · right
      have hkD : k = bD b w := by have := (BI_D0 hB a1).1.mpr c; omega
      rw [c, h0, i_m1lt (by omega), hkD]
      exact fill
    · left
      have hcb := hCb _ (by omega) a1
      have hkD : k ≠ bD b w := fun q => c ((BI_D0 hB a1).1.mp (by omega))
      rw [hC _ (by omega) a1, i_nlt (by omega) (by omega), p_nm, p_ck _ (by omega) (by omega), p_idv (by omega) (by omega) (by omega), p_nm, nI_add]
      refine ⟨nI (k + 1), nI (anc b w (k + 1)), τ, ⟨k + 1, by omega, rfl, rfl, rfl⟩, ?_, rfl⟩
      rw [p_ix (by omega), p_ix (by omega)]; omega
  · show 6001 - ix (nI 0) < FU
    rw [p_ix (by omega), FU_v]; omega
theorem walkTo_eq {P : Pg} {σ : Mm} {r w : Nat} (hP : PgV P) (hL : LdC P σ) (h0 : VS P (pF P)) (hT : TkC P σ) (hb : bN (bEnd P) ≤ 6000) (hr : r < 262144) (hw : fe P (bF (bEnd P)) r (bN (bEnd P)) = some w) :
    ∃ σ', f_X9_walkTo (nI r) σ = some (nI (bD (bEnd P) w), σ') ∧ (∀ i, i < bD (bEnd P) w → σ'.1 25 i = nI (mvp (bEnd P) w i)) ∧ Fr [25] σ σ' := by
  rcases hT with ⟨h1, h2, h3, h4, h5, h6, h7⟩ | ⟨h1, _⟩
  · obtain ⟨hw1, hw2, hw3⟩ := fe_some hw
    have hback := back_eq (bE_BI P) hb hw1 h5 h6 h2.2.1
    unfold f_X9_walkTo f_X9_walkTo_43
    refine lq1 (F := f_X9_walkTo_L5 (fun (xq4 : Int32) (σ : Mm) => f_X9_walkTo_55 xq4 σ) (fun (σ : Mm) => f_X9_walkTo_55 (0 : Int32) σ) (nI r) (0 : Int32)) (fun x τ => ∃ i, i ≤ w ∧ x = nI i ∧ τ = σ) (fun x _ => 6001 - ix x) (fun o => ∃ σ', o = some (nI (bD (bEnd P) w), σ') ∧ (∀ i, i < bD (bEnd P) w → σ'.1 25 i = nI (mvp (bEnd P) w i)) ∧ Fr [25] σ σ') ?_ FU (0 : Int32) σ ?_ ⟨0, by omega, rfl, rfl⟩
    · rintro L x τ ⟨i, hi, rfl, rfl⟩
      have hVi := bE_VS hP h0 i (by omega)
      have h19 := h2.2.2.1 i (by omega)
      unfold f_X9_walkTo_L5 f_X9_walkTo_49
      simp only [qi_0, qi_1, qi_2, qi_3, qi_4, qi_5, qi_6, qi_7, qi_8, qi_9, qi_10, qi_11, qi_12, qi_13, qi_14, qi_15, qi_16, qi_17, qi_19, qi_26, qi_31, qi_32, qi_35, qi_40, qi_42, qi_48, qi_50, qi_57, qi_59, qi_63, qi_64, qi_97, qi_120, qi_122, qi_210, qi_255, qi_511, qi_512, qi_1000, qi_6000, qi_13312, qi_14337, qi_16383, qi_16384, qi_524287]
      rw [h2.2.1, i_nle (by omega) (by omega), p_ck _ (by omega) (by omega), p_ix (a := i) (by omega), h19, isEnd_eq hP hL hVi, p_bd]
      have hfi : i < w → ¬ (iE P (bF (bEnd P) i) = true ∧ rslt P (bF (bEnd P) i) = r) := by
        intro hlt hc
        have key : ∀ n, i < n → ∃ j, j ≤ i ∧ fe P (bF (bEnd P)) r n = some j := by
          intro n
          induction n with
          | zero => intro q; omega
          | succ n ih =>
            intro q
            rw [fe]
            by_cases e : i < n
            · obtain ⟨j, j1, j2⟩ := ih e
              rw [j2]; exact ⟨j, j1, rfl⟩
            · have e : i = n := by omega
              subst e
              cases hf : fe P (bF (bEnd P)) r i with
              | some j => exact ⟨j, by have := (fe_some hf).1; omega, rfl⟩
              | none => exact ⟨i, by omega, by simp only; rw [if_pos hc]⟩
        obtain ⟨j, j1, j2⟩ := key (bN (bEnd P)) (by omega)
        rw [hw] at j2
        simp only [Option.some.injEq] at j2
        omega
      have hrr : rslt P (bF (bEnd P) i) < 262144 := resf_lt3 _ hP.1
      by_cases c : i = w
      · right
        subst c
        rw [hw2, bI_t, i_ne (by omega) (by omega) (by omega), p_ck _ (by omega) (by omega), h19, resultOf_eq hP hL hVi, p_bd, i_eq hw3]
        exact hback
      · left
        have hno := hfi (by omega)
        by_cases d : iE P (bF (bEnd P) i) = true
        · have hne : rslt P (bF (bEnd P) i) ≠ r := fun q => hno ⟨d, q⟩
          rw [d, bI_t, i_ne (by omega) (by omega) (by omega), p_ck _ (by omega) (by omega), h19, resultOf_eq hP hL hVi, p_bd, i_ne (by omega) (by omega) hne, p_nm, nI_add]
          refine ⟨nI (i + 1), τ, ⟨i + 1, by omega, rfl, rfl⟩, ?_, rfl⟩
          rw [p_ix (by omega)]; omega
        · have d : iE P (bF (bEnd P) i) = false := by simpa using d
          rw [d, bI_f, i_eq rfl, p_nm, nI_add]
          refine ⟨nI (i + 1), τ, ⟨i + 1, by omega, rfl, rfl⟩, ?_, rfl⟩
          rw [p_ix (by omega)]; omega
    · show 6001 - ix (nI 0) < FU
      rw [p_ix (by omega), FU_v]; omega
  · omega
/-- states that lead to an end -/
def rcp (E : Nat → Prop) (G : Nat → Option Nat) : Nat → Nat → Prop
  | 0, i => E i
  | k + 1, i => rcp E G k i ∨ ∃ e t, e < 6 ∧ G (6 * i + e) = some t ∧ rcp E G k t
def Rch (E : Nat → Prop) (G : Nat → Option Nat) (i : Nat) : Prop := ∃ k, rcp E G k i
theorem Rch_0 {E : Nat → Prop} {G : Nat → Option Nat} {i : Nat} (h : E i) : Rch E G i := ⟨0, h⟩
theorem Rch_s {E : Nat → Prop} {G : Nat → Option Nat} {i e t : Nat} (he : e < 6) (hG : G (6 * i + e) = some t) (h : Rch E G t) : Rch E G i := by
  obtain ⟨k, hk⟩ := h
  exact ⟨k + 1, Or.inr ⟨e, t, he, hG, hk⟩⟩
theorem Rch_min {E : Nat → Prop} {G : Nat → Option Nat} {n : Nat} {m : Nat → Bool} (hG : ∀ d t, d < 6 * n → G d = some t → t < n) (h0 : ∀ i, i < n → E i → m i = true) (hs : ∀ i e t, i < n → e < 6 → G (6 * i + e) = some t → m t = true → m i = true) {i : Nat} (hi : i < n) (h : Rch E G i) : m i = true := by
  obtain ⟨k, hk⟩ := h
  induction k generalizing i with
  | zero => exact h0 i hi hk
  | succ k ih =>
    rcases hk with hk | ⟨e, t, he, hG1, hk⟩
    · exact ih hi hk
    · exact hs i e t hi he hG1 (ih (hG _ t (by omega) hG1) hk)
def cT (m : Nat → Bool) : Nat → Nat
  | 0 => 0
  | n + 1 => cT m n + (if m n then 1 else 0)
theorem cT_le (m : Nat → Bool) : ∀ n, cT m n ≤ n := by
  intro n
  induction n with
  | zero => exact Nat.le_refl _
  | succ n ih => rw [cT]; split <;> omega
theorem cT_congr {m m' : Nat → Bool} : ∀ n, (∀ i, i < n → m i = m' i) → cT m n = cT m' n := by
  intro n
  induction n with
  | zero => intro _; rfl
  | succ n ih => intro h; rw [cT, cT, ih (fun i hi => h i (by omega)), h n (by omega)]
theorem cT_up {m : Nat → Bool} {i : Nat} (hm : m i = false) : ∀ n, i < n → cT (upq m i true) n = cT m n + 1 := by
  intro n
  induction n with
  | zero => intro h; omega
  | succ n ih =>
    intro h
    rw [cT, cT]
    by_cases e : i = n
    · subst e
      rw [upq_s, hm, cT_congr i (fun j hj => upq_n (by omega))]
      simp
    · rw [upq_n (by omega), ih (by omega)]
      omega
theorem cT_0 : ∀ n, cT (fun _ => false) n = 0 := by
  intro n
  induction n with
  | zero => rfl
  | succ n ih => rw [cT, ih]; rfl
noncomputable def rchB (E : Nat → Prop) (G : Nat → Option Nat) (i : Nat) : Bool := @decide (Rch E G i) (Classical.propDecidable _)
theorem rchB_t {E : Nat → Prop} {G : Nat → Option Nat} {i : Nat} : rchB E G i = true ↔ Rch E G i := by
  unfold rchB
  exact @decide_eq_true_iff _ (Classical.propDecidable _)
/-- marks that are sound and closed are the states that lead to an end -/
theorem rch_of {E : Nat → Prop} {G : Nat → Option Nat} {n : Nat} {m : Nat → Bool} (hG : ∀ d t, d < 6 * n → G d = some t → t < n) (hsound : ∀ i, i < n → m i = true → Rch E G i) (h0 : ∀ i, i < n → E i → m i = true) (hs : ∀ i e t, i < n → e < 6 → G (6 * i + e) = some t → m t = true → m i = true) : ∀ i, i < n → m i = rchB E G i := by
  intro i hi
  cases h1 : m i with
  | true => exact (rchB_t.mpr (hsound i hi h1)).symm
  | false =>
    cases h2 : rchB E G i with
    | false => rfl
    | true =>
      have := Rch_min hG h0 hs hi (rchB_t.mp h2)
      rw [h1] at this
      cases this
def eP (P : Pg) (i : Nat) : Prop := iE P (bF (bEnd P) i) = true
noncomputable def stk (P : Pg) : Nat := bN (bEnd P) - cT (rchB (eP P) (bG (bEnd P))) (bN (bEnd P))
/-- edges of all states -/
theorem edge_ok {P : Pg} (hb : bN (bEnd P) ≤ 6000) : ∀ d t, d < 6 * bN (bEnd P) → bG (bEnd P) d = some t → t < bN (bEnd P) := by
  intro d t hd ht
  rcases (bE_BI P).2.2.2.2.1 d (by have : bN (bEnd P) ≤ 6000 := hb; omega) hd hb with ⟨h1, _⟩ | ⟨j, h1, h2, _⟩
  · have h1 : bG (bEnd P) d = none := h1
    rw [ht] at h1; cases h1
  · have h2 : bG (bEnd P) d = some j := h2
    rw [ht] at h2
    simp only [Option.some.injEq] at h2
    rw [h2]; exact h1
theorem eP_iff {P : Pg} (hP : PgV P) (h0 : VS P (pF P)) (hb : bN (bEnd P) ≤ 6000) {i : Nat} (hi : i < bN (bEnd P)) : eP P i ↔ ∀ e, e < 6 → bG (bEnd P) (6 * i + e) = none := by
  unfold eP
  rw [end_iff hP (bE_VS hP h0 i hi)]
  have h5 := (bE_BI P).2.2.2.2.1
  constructor
  · intro h e he
    rcases h5 (6 * i + e) (by omega) (by show 6 * i + e < 6 * bN (bEnd P); omega) hb with ⟨h1, _⟩ | ⟨j, h1, h2, h3, _⟩
    · exact h1
    · rw [show (6 * i + e) / 6 = i by omega, show (6 * i + e) % 6 = e by omega] at h3
      have := h e he
      have h3 : mv P (pL P) (bF (bEnd P) i) e = _ := h3
      rw [this] at h3; cases h3
  · intro h e he
    rcases h5 (6 * i + e) (by omega) (by show 6 * i + e < 6 * bN (bEnd P); omega) hb with ⟨_, h1⟩ | ⟨j, h1, h2, h3, _⟩
    · rw [show (6 * i + e) / 6 = i by omega, show (6 * i + e) % 6 = e by omega] at h1
      exact h1
    · have h2 : bG (bEnd P) (6 * i + e) = some j := h2
      rw [h e he] at h2; cases h2
