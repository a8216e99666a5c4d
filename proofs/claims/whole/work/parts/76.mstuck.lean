/-! PURE: states without an end in the reference -/
theorem upq_id {α : Type} {f : Nat → α} {k : Nat} {v : α} (h : v = f k) : upq f k v = f := by
  funext j
  by_cases e : j = k
  · rw [e, upq_s, h]
  · rw [upq_n e]
theorem mst_in {n i : Nat} {G : Nat → Option Nat} {m : Nat → Bool} {g : Bool} {σ υ : Mm} (hn' : n ≤ 6000) (hi : i < n) (hG : ∀ d t, d < 6 * n → G d = some t → t < n) (h83 : ∀ d, d < 6 * n → σ.1 83 d = iO (G d)) (hF : Fr [86] σ υ) (hm : ∀ t, t < n → υ.1 86 t = bI (m t)) (K : Int32 → Mm → Option (Int32 × Mm)) :
    ∃ r : Bool, ∃ υ', (r = true ↔ ∃ e t, e < 6 ∧ G (6 * i + e) = some t ∧ m t = true) ∧ Fr [86] σ υ' ∧ (∀ t, t < n → υ'.1 86 t = bI (upq m i (m i || r) t)) ∧ fx (fun _ _ _ => none) FU (f_X11_stuck_L76 K (nI i)) (bI g) (0 : Int32) υ = K (bI (g || (!m i && r))) υ' := by
  rw [qi_0]
  refine lq2 (bot := fun _ _ _ => none) (F := f_X11_stuck_L76 K (nI i)) (fun a c υ => ∃ d q, d ≤ 6 ∧ c = nI d ∧ a = bI (g || (!m i && q)) ∧ (q = true ↔ ∃ e t, e < d ∧ G (6 * i + e) = some t ∧ m t = true) ∧ Fr [86] σ υ ∧ (∀ t, t < n → υ.1 86 t = bI (upq m i (m i || q) t))) (fun _ c _ => 7 - ix c) (fun o => ∃ r : Bool, ∃ υ', (r = true ↔ ∃ e t, e < 6 ∧ G (6 * i + e) = some t ∧ m t = true) ∧ Fr [86] σ υ' ∧ (∀ t, t < n → υ'.1 86 t = bI (upq m i (m i || r) t)) ∧ o = K (bI (g || (!m i && r))) υ') ?_ FU (bI g) (nI 0) υ ?_ ⟨0, false, by omega, rfl, by rw [Bool.and_false, Bool.or_false], ⟨(fun q => by cases q), fun ⟨e, t, h, _⟩ => by omega⟩, hF, fun t ht => ?_⟩
  · rintro L a c υ ⟨d, q, hd, rfl, rfl, hq, hF, hm⟩
    unfold f_X11_stuck_L76
    simp only [qi_0, qi_1, qi_2, qi_3, qi_4, qi_5, qi_6, qi_7, qi_8, qi_9, qi_10, qi_11, qi_12, qi_13, qi_14, qi_15, qi_16, qi_17, qi_19, qi_26, qi_31, qi_32, qi_35, qi_40, qi_42, qi_48, qi_50, qi_57, qi_59, qi_63, qi_64, qi_97, qi_120, qi_122, qi_210, qi_255, qi_511, qi_512, qi_1000, qi_6000, qi_13312, qi_14337, qi_16383, qi_16384, qi_524287]
    by_cases c6 : d = 6
    · right
      subst c6
      rw [i_le (by omega) (by omega)]
      exact ⟨q, υ, hq, hF, hm, rfl⟩
    · rw [i_nle (by omega) (by omega), p_ck _ (by omega) (by omega), p_ix (a := i) (by omega), hm i hi, upq_s]
      cases hv : (m i || q) with
      | true =>
        right
        rw [bI_t, i_ne (by omega) (by omega) (by omega)]
        cases hqq : q with
        | true =>
          refine ⟨true, υ, ⟨fun _ => ?_, fun _ => rfl⟩, hF, fun t ht => by rw [hm t ht, hqq], rfl⟩
          obtain ⟨e, t, e1, e2⟩ := hq.mp hqq
          exact ⟨e, t, by omega, e2⟩
        | false =>
          have hmi : m i = true := by rw [hqq, Bool.or_false] at hv; exact hv
          by_cases hx : ∃ e t, e < 6 ∧ G (6 * i + e) = some t ∧ m t = true
          · exact ⟨true, υ, ⟨fun _ => hx, fun _ => rfl⟩, hF, fun t ht => by rw [hm t ht, hqq, hmi]; rfl, by rw [hmi]; rfl⟩
          · exact ⟨false, υ, ⟨(fun z => by cases z), fun z => absurd z hx⟩, hF, fun t ht => by rw [hm t ht, hqq], rfl⟩
      | false =>
        left
        have hmi : m i = false := by cases h : m i with
          | true => rw [h] at hv; cases hv
          | false => rfl
        have hqq : q = false := by cases h : q with
          | true => rw [h, Bool.or_true] at hv; cases hv
          | false => rfl
        subst hqq
        rw [hmi, Bool.or_false] at hm
        rw [upq_id hmi.symm] at hm
        have hno : ¬ ∃ e t, e < d ∧ G (6 * i + e) = some t ∧ m t = true := fun z => by have := hq.mpr z; cases this
        rw [hmi, Bool.not_false, Bool.true_and, Bool.or_false, bI_f, i_eq rfl, pk_mul, nI_add, p_ck _ (by omega) (by omega), p_ix (a := 6 * i + d) (by omega), hF.r1 83 (by decide), h83 _ (by omega), p_nm]
        -- not marked
        have n0 : (∀ t, G (6 * i + d) = some t → m t = false) → ∃ a' c' υ', (∃ d q, d ≤ 6 ∧ c' = nI d ∧ a' = bI (g || (!false && q)) ∧ (q = true ↔ ∃ e t, e < d ∧ G (6 * i + e) = some t ∧ m t = true) ∧ Fr [86] σ υ' ∧ (∀ t, t < n → υ'.1 86 t = bI (upq m i (false || q) t))) ∧ 7 - ix c' < 7 - ix (nI d) ∧ f_X11_stuck_129 L (bI g) (nI i) (nI d) (nI i) (nI 0) υ = L a' c' υ' := by
          intro hz
          refine ⟨bI g, nI (d + 1), sI υ 86 i (nI 0), ⟨d + 1, false, by omega, rfl, by rw [Bool.and_false, Bool.or_false], ⟨(fun z => by cases z), fun ⟨e, t, e1, e2, e3⟩ => ?_⟩, hF.sI (by decide), fun t ht => ?_⟩, ?_, ?_⟩
          · by_cases e4 : e = d
            · rw [e4] at e2; rw [hz t e2] at e3; cases e3
            · exact absurd ⟨e, t, by omega, e2, e3⟩ hno
          · rw [Bool.or_false]
            by_cases e : t = i
            · rw [e, r_sI0, upq_s, bI_f]
            · rw [r_sIj e, upq_n e]; exact hm t ht
          · rw [p_ix (by omega), p_ix (by omega)]; omega
          · unfold f_X11_stuck_129 f_X11_stuck_143 f_X11_stuck_148
            simp only [qi_0, qi_1, qi_2, qi_3, qi_4, qi_5, qi_6, qi_7, qi_8, qi_9, qi_10, qi_11, qi_12, qi_13, qi_14, qi_15, qi_16, qi_17, qi_19, qi_26, qi_31, qi_32, qi_35, qi_40, qi_42, qi_48, qi_50, qi_57, qi_59, qi_63, qi_64, qi_97, qi_120, qi_122, qi_210, qi_255, qi_511, qi_512, qi_1000, qi_6000, qi_13312, qi_14337, qi_16383, qi_16384, qi_524287]
            rw [p_ck _ (by omega) (by omega), p_ix (a := i) (by omega), p_cb0, p_nm]
            cases g with
            | true => rw [bI_t, i_ne (by omega) (by omega) (by omega), nI_add, p_nm]
            | false => rw [bI_f, i_eq rfl, p_ck _ (by omega) (by omega), r_sI0, i_eq rfl, nI_add, p_nm]
        cases hg : G (6 * i + d) with
        | none =>
          rw [show iO none = -nI 1 from rfl, i_m1lt (by omega)]
          unfold f_X11_stuck_128
          exact n0 (fun t z => by rw [hg] at z; cases z)
        | some t =>
          have ht := hG _ t (by omega) hg
          rw [show iO (some t) = nI t from rfl, i_nlt (by omega) (by omega), p_ck _ (by omega) (by omega), p_ix (a := t) (by omega), hm t ht]
          cases hmt : m t with
          | false =>
            rw [bI_f, i_eq rfl]
            unfold f_X11_stuck_128
            exact n0 (fun t' z => by rw [hg] at z; rw [← Option.some.inj z]; exact hmt)
          | true =>
            rw [bI_t, i_ne (by omega) (by omega) (by omega)]
            unfold f_X11_stuck_129 f_X11_stuck_143 f_X11_stuck_148
            simp only [qi_0, qi_1, qi_2, qi_3, qi_4, qi_5, qi_6, qi_7, qi_8, qi_9, qi_10, qi_11, qi_12, qi_13, qi_14, qi_15, qi_16, qi_17, qi_19, qi_26, qi_31, qi_32, qi_35, qi_40, qi_42, qi_48, qi_50, qi_57, qi_59, qi_63, qi_64, qi_97, qi_120, qi_122, qi_210, qi_255, qi_511, qi_512, qi_1000, qi_6000, qi_13312, qi_14337, qi_16383, qi_16384, qi_524287]
            rw [p_ck _ (by omega) (by omega), p_ix (a := i) (by omega), p_cb1, p_nm]
            refine ⟨nI 1, nI (d + 1), sI υ 86 i (nI 1), ⟨d + 1, true, by omega, rfl, ?_, ⟨fun _ => ⟨d, t, by omega, hg, hmt⟩, fun _ => rfl⟩, hF.sI (by decide), fun t' ht' => ?_⟩, ?_, ?_⟩
            · cases g <;> rfl
            · rw [Bool.or_true]
              by_cases e : t' = i
              · rw [e, r_sI0, upq_s, bI_t]
              · rw [r_sIj e, upq_n e]; exact hm t' ht'
            · rw [p_ix (by omega), p_ix (by omega)]; omega
            · cases g with
              | true => rw [bI_t, i_ne (by omega) (by omega) (by omega), nI_add, p_nm]
              | false => rw [bI_f, i_eq rfl, p_ck _ (by omega) (by omega), r_sI0, i_ne (by omega) (by omega) (by omega), nI_add, p_nm]
  · rw [p_ix (by omega), FU_v]; omega
  · rw [Bool.or_false, upq_id rfl]; exact hm t ht
/-- one sweep -/
theorem mst_sw {n : Nat} {E : Nat → Prop} {G : Nat → Option Nat} {m : Nat → Bool} {σ υ : Mm} (hn' : n ≤ 6000) (hG : ∀ d t, d < 6 * n → G d = some t → t < n) (h83 : ∀ d, d < 6 * n → σ.1 83 d = iO (G d)) (hF : Fr [86] σ υ) (hm : ∀ t, t < n → υ.1 86 t = bI (m t)) (hso : ∀ i, i < n → m i = true → Rch E G i) (K : Int32 → Mm → Option (Int32 × Mm)) :
    ∃ (g' : Bool) (m' : Nat → Bool) (υ' : Mm), Fr [86] σ υ' ∧ (∀ t, t < n → υ'.1 86 t = bI (m' t)) ∧ (∀ i, i < n → m' i = true → Rch E G i) ∧ (∀ i, m i = true → m' i = true) ∧ cT m n ≤ cT m' n ∧ (g' = true → cT m n < cT m' n) ∧ (g' = false → m' = m ∧ ∀ i e t, i < n → e < 6 → G (6 * i + e) = some t → m t = true → m i = true) ∧ fx (fun _ _ _ => none) FU (f_X11_stuck_L70 K) (nI 0) (nI n - nI 1) υ = K (bI g') υ' := by
  refine lq2 (bot := fun _ _ _ => none) (F := f_X11_stuck_L70 K) (fun a b υ => ∃ k g m', k ≤ n ∧ a = bI g ∧ b = nI k - nI 1 ∧ Fr [86] σ υ ∧ (∀ t, t < n → υ.1 86 t = bI (m' t)) ∧ (∀ i, i < n → m' i = true → Rch E G i) ∧ (∀ i, m i = true → m' i = true) ∧ cT m n ≤ cT m' n ∧ (g = true → cT m n < cT m' n) ∧ (g = false → m' = m ∧ ∀ i e t, k ≤ i → i < n → e < 6 → G (6 * i + e) = some t → m t = true → m i = true)) (fun _ b _ => ix (b + nI 1)) (fun o => ∃ (g' : Bool) (m' : Nat → Bool) (υ' : Mm), Fr [86] σ υ' ∧ (∀ t, t < n → υ'.1 86 t = bI (m' t)) ∧ (∀ i, i < n → m' i = true → Rch E G i) ∧ (∀ i, m i = true → m' i = true) ∧ cT m n ≤ cT m' n ∧ (g' = true → cT m n < cT m' n) ∧ (g' = false → m' = m ∧ ∀ i e t, i < n → e < 6 → G (6 * i + e) = some t → m t = true → m i = true) ∧ o = K (bI g') υ') ?_ FU (nI 0) (nI n - nI 1) υ ?_ ⟨n, false, m, Nat.le_refl _, rfl, rfl, hF, hm, hso, fun i h => h, Nat.le_refl _, (fun q => by cases q), fun _ => ⟨rfl, fun i e t h1 h2 => by omega⟩⟩
  · rintro L a b υ ⟨k, g, m', hk, rfl, rfl, uF, um, us, uu, uc, ug, un⟩
    unfold f_X11_stuck_L70
    by_cases c : k = 0
    · right
      subst c
      rw [qi_0, dn_0, i_m1lt (by omega)]
      exact ⟨g, m', υ, uF, um, us, uu, uc, ug, fun q => ⟨(un q).1, fun i e t h1 => (un q).2 i e t (by omega) h1⟩, rfl⟩
    · left
      obtain ⟨r, υ', r1, r2, r3, r4⟩ := mst_in (i := k - 1) (g := g) hn' (by omega) hG h83 uF um (fun (xq1 : Int32) (σ : Mm) => f_X11_stuck_155 L xq1 (nI (k - 1)) σ)
      have lt0 : ¬ nI (k - 1) < (0 : Int32) := by rw [qi_0]; exact nI_nlt (by omega) (by omega)
      have ms : ix (nI (k - 1) - nI 1 + nI 1) < ix (nI (k - 1) + nI 1) := by
        have e1 : nI (k - 1) - nI 1 + nI 1 = nI (k - 1) := Int32.sub_add_cancel _ _
        rw [e1, nI_add, p_ix (by omega), p_ix (by omega)]; omega
      rw [dn_s (by omega), if_neg lt0, r4]
      unfold f_X11_stuck_155
      rw [show (-1 : Int32) = -nI 1 from rfl, dn_n, p_nm]
      refine ⟨_, _, _, ?_, ms, rfl⟩
      by_cases cc : m' (k - 1) = false ∧ r = true
      · obtain ⟨c1, c2⟩ := cc
        have hup := cT_up c1 n (by omega)
        rw [c1, c2, Bool.false_or] at r3
        refine ⟨k - 1, true, upq m' (k - 1) true, by omega, by rw [c1, c2]; cases g <;> rfl, rfl, r2, r3, fun i hi q => ?_, fun i q => ?_, by omega, fun _ => by omega, (fun q => by cases q)⟩
        · by_cases e : i = k - 1
          · obtain ⟨d, t, d1, d2, d3⟩ := r1.mp c2
            rw [e]
            exact Rch_s d1 d2 (us t (hG _ t (by omega) d2) d3)
          · rw [upq_n e] at q; exact us i hi q
        · by_cases e : i = k - 1
          · rw [e, upq_s]
          · rw [upq_n e]; exact uu i q
      · have hb2 : (m' (k - 1) || r) = m' (k - 1) := by
          cases h1 : m' (k - 1) with
          | true => rfl
          | false =>
            cases h2 : r with
            | true => exact absurd ⟨h1, h2⟩ cc
            | false => rfl
        have hb3 : (g || (!m' (k - 1) && r)) = g := by
          cases h1 : m' (k - 1) with
          | true => cases g <;> rfl
          | false =>
            cases h2 : r with
            | true => exact absurd ⟨h1, h2⟩ cc
            | false => cases g <;> rfl
        rw [upq_id hb2] at r3
        rw [hb3]
        refine ⟨k - 1, g, m', by omega, rfl, rfl, r2, r3, us, uu, uc, ug, fun q => ⟨(un q).1, fun i e t h1 h2 h3 h4 h5 => ?_⟩⟩
        by_cases e : i = k - 1
        · rw [e] at h4 ⊢
          have em := (un q).1
          have hr := r1.mpr ⟨_, t, h3, h4, by rw [em]; exact h5⟩
          rw [em] at cc
          cases h6 : m (k - 1) with
          | true => rfl
          | false => exact absurd ⟨h6, hr⟩ cc
        · exact (un q).2 i _ t (by omega) h2 h3 h4 h5
  · have e1 : nI n - nI 1 + nI 1 = nI n := Int32.sub_add_cancel _ _
    rw [e1, p_ix (by omega), FU_v]; omega
