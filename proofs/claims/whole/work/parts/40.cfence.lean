/-! PURE: fences -/
def isDn (S : Su) (c : Nat) : Bool := decide (∃ h, h < sH S ∧ (sF S h = c ∨ sT S h = c + 1))
def wrS (S : Su) (c : Nat) : Nat → List Nat → List Nat
  | 0, l => l
  | s + 1, l => if sC S c s 0 = 2 ∧ (wrS S c s l).length < 6 then wrS S c s l ++ [7 * c + s] else wrS S c s l
def wrC (S : Su) : Nat → List Nat
  | 0 => []
  | c + 1 => if isDn S c then wrS S c (sN S c) (wrC S c) else wrC S c
def wrs (S : Su) : List Nat := wrC S (sK S)
/-- rising, below a bound, at most six -/
def Wok (l : List Nat) (b : Nat) : Prop := l.length ≤ 6 ∧ (∀ i j, i < j → j < l.length → l.getD i 0 < l.getD j 0) ∧ ∀ i, i < l.length → l.getD i 0 < b
theorem gd_app {l : List Nat} {v i : Nat} : (l ++ [v]).getD i 0 = if i < l.length then l.getD i 0 else if i = l.length then v else 0 := by
  rw [List.getD_eq_getElem?_getD, List.getElem?_append]
  by_cases h : i < l.length
  · rw [if_pos h, if_pos h, List.getD_eq_getElem?_getD]
  · rw [if_neg h, if_neg h]
    by_cases e : i = l.length
    · rw [if_pos e, e, Nat.sub_self]; rfl
    · rw [if_neg e]
      have : ([v] : List Nat)[i - l.length]? = none := by
        rw [List.getElem?_eq_none_iff]
        simp only [List.length_singleton]
        omega
      rw [this]; rfl
theorem Wok_app {l : List Nat} {v : Nat} (h : Wok l v) (hl : l.length < 6) : Wok (l ++ [v]) (v + 1) := by
  obtain ⟨h1, h2, h3⟩ := h
  refine ⟨by rw [List.length_append, List.length_singleton]; omega, fun i j hij hj => ?_, fun i hi => ?_⟩
  · rw [List.length_append, List.length_singleton] at hj
    rw [gd_app, gd_app, if_pos (show i < l.length by omega)]
    by_cases e : j < l.length
    · rw [if_pos e]; exact h2 i j hij e
    · rw [if_neg e, if_pos (by omega)]; exact h3 i (by omega)
  · rw [List.length_append, List.length_singleton] at hi
    rw [gd_app]
    by_cases e : i < l.length
    · rw [if_pos e]; have := h3 i e; omega
    · rw [if_neg e, if_pos (by omega)]; omega
theorem Wok_mono {l : List Nat} {b b' : Nat} (h : Wok l b) (hb : b ≤ b') : Wok l b' := ⟨h.1, h.2.1, fun i hi => Nat.lt_of_lt_of_le (h.2.2 i hi) hb⟩
theorem wrS_ok {S : Su} {c : Nat} {l : List Nat} (h : Wok l (7 * c)) : ∀ s, Wok (wrS S c s l) (7 * c + s) := by
  intro s
  induction s with
  | zero => exact h
  | succ s ih =>
    rw [wrS]
    split
    · rename_i hc
      exact Wok_mono (Wok_app ih hc.2) (by omega)
    · exact Wok_mono ih (by omega)
theorem wrC_ok {S : Su} (hS : SuV S) : ∀ c, c ≤ sK S → Wok (wrC S c) (7 * c) := by
  intro c
  induction c with
  | zero => intro _; exact ⟨by show 0 ≤ 6; omega, fun i j _ hj => absurd hj (Nat.not_lt_zero _), fun i hi => absurd hi (Nat.not_lt_zero _)⟩
  | succ c ih =>
    intro hc
    have h7 := (hS.2.1 c (by omega)).2
    rw [wrC]
    split
    · exact Wok_mono (wrS_ok (ih (by omega)) _) (by omega)
    · exact Wok_mono (ih (by omega)) (by omega)
theorem wrs_ok {S : Su} (hS : SuV S) : Wok (wrs S) 42 := Wok_mono (wrC_ok hS _ (Nat.le_refl _)) (by have := hS.1; omega)
def XF (W : List Nat) (st k : Nat) : Bool := decide (∃ i, i < W.length ∧ W.getD i 0 = k ∧ st / 2 ^ i % 2 = 1)
theorem XF_0 (W : List Nat) : XF W 0 = noX := by
  funext k
  unfold XF noX
  apply decide_eq_false
  rintro ⟨i, _, _, h⟩
  rw [Nat.zero_div] at h
  omega
/-- with at most six fences no call has more than thirteen places -/
theorem fps_cnt (X : Nat → Bool) (c : Nat) : ∀ s, fps X c s ≤ 2 * s ∧ (fps X c s = 2 * s → ∀ t, t < s → X (7 * c + t) = true) := by
  intro s
  induction s with
  | zero => exact ⟨Nat.le_refl _, fun _ t ht => by omega⟩
  | succ s ih =>
    rw [fps]
    by_cases h : X (7 * c + s) = true
    · rw [if_pos h]
      refine ⟨by omega, fun q t ht => ?_⟩
      by_cases e : t = s
      · rw [e]; exact h
      · exact ih.2 (by omega) t (by omega)
    · rw [if_neg h]
      exact ⟨by omega, fun q => by omega⟩
theorem FX_W {S : Su} {W : List Nat} {st : Nat} (hS : SuV S) (hW : Wok W 42) : FX S (XF W st) := by
  intro c hc
  have h7 := (hS.2.1 c hc).2
  obtain ⟨h1, h2⟩ := fps_cnt (XF W st) c (sN S c)
  unfold fl
  apply Nat.not_lt.mp
  intro q
  have h7e : sN S c = 7 := by omega
  have hall := h2 (by omega)
  have hex : ∀ t, t < 7 → ∃ i, i < W.length ∧ W.getD i 0 = 7 * c + t := by
    intro t ht
    have := of_decide_eq_true (hall t (by omega))
    obtain ⟨i, i1, i2, _⟩ := this
    exact ⟨i, i1, i2⟩
  obtain ⟨a0, b0, c0⟩ := hex 0 (by omega)
  obtain ⟨a1, b1, c1⟩ := hex 1 (by omega)
  obtain ⟨a2, b2, c2⟩ := hex 2 (by omega)
  obtain ⟨a3, b3, c3⟩ := hex 3 (by omega)
  obtain ⟨a4, b4, c4⟩ := hex 4 (by omega)
  obtain ⟨a5, b5, c5⟩ := hex 5 (by omega)
  obtain ⟨a6, b6, c6⟩ := hex 6 (by omega)
  obtain ⟨i, j, hij, hj, he⟩ := pigeon 6 (fun t => if t = 0 then a0 else if t = 1 then a1 else if t = 2 then a2 else if t = 3 then a3 else if t = 4 then a4 else if t = 5 then a5 else a6) (by
    intro t _
    have := hW.1
    split
    · omega
    · split
      · omega
      · split
        · omega
        · split
          · omega
          · split
            · omega
            · split <;> omega)
  have hv : ∀ t, t ≤ 6 → W.getD (if t = 0 then a0 else if t = 1 then a1 else if t = 2 then a2 else if t = 3 then a3 else if t = 4 then a4 else if t = 5 then a5 else a6) 0 = 7 * c + t := by
    intro t ht
    have : t = 0 ∨ t = 1 ∨ t = 2 ∨ t = 3 ∨ t = 4 ∨ t = 5 ∨ t = 6 := by omega
    rcases this with rfl | rfl | rfl | rfl | rfl | rfl | rfl
    · exact c0
    · exact c1
    · exact c2
    · exact c3
    · exact c4
    · exact c5
    · exact c6
  have e1 := hv i (by omega)
  have e2 := hv j hj
  have he : (if i = 0 then a0 else if i = 1 then a1 else if i = 2 then a2 else if i = 3 then a3 else if i = 4 then a4 else if i = 5 then a5 else a6) = (if j = 0 then a0 else if j = 1 then a1 else if j = 2 then a2 else if j = 3 then a3 else if j = 4 then a4 else if j = 5 then a5 else a6) := he
  rw [he, e2] at e1
  omega
/-- the class finds the writes -/
theorem isDone_eq {S : Su} {σ : Mm} {c : Nat} (hS : SuV S) (hC : SeC S 7 σ) (hc : c < sK S) : f_X5_isDone (nI c) σ = some (bI (isDn S c), σ) := by
  have h6 := hS.1
  have hH := hS.2.2.2.1
  unfold f_X5_isDone
  refine lq1 (F := f_X5_isDone_L2 (nI c)) (fun a τ => ∃ h, h ≤ sH S ∧ a = nI h ∧ τ = σ ∧ ∀ g, g < h → ¬ (sF S g = c ∨ sT S g = c + 1)) (fun a _ => 4 - ix a) (fun o => o = some (bI (isDn S c), σ)) ?_ FU (0 : Int32) σ ?_ ⟨0, by omega, rfl, rfl, fun g hg => by omega⟩
  · rintro L a τ ⟨h, hh, rfl, rfl, hno⟩
    unfold f_X5_isDone_L2
    simp only [qi_0, qi_1, qi_2, qi_3, qi_4, qi_5, qi_6, qi_7, qi_8, qi_9, qi_10, qi_11, qi_12, qi_13, qi_14, qi_15, qi_16, qi_17, qi_19, qi_26, qi_31, qi_32, qi_35, qi_40, qi_42, qi_48, qi_50, qi_57, qi_59, qi_63, qi_64, qi_97, qi_120, qi_122, qi_210, qi_255, qi_511, qi_512, qi_1000, qi_6000, qi_13312, qi_14337, qi_16383, qi_16384, qi_524287]
    rw [hC.2.1]
    by_cases c0 : sH S ≤ h
    · right
      have e : isDn S c = false := decide_eq_false (fun ⟨g, g1, g2⟩ => hno g (by omega) g2)
      rw [i_le (by omega) c0, p_cb0, e, bI_f]
    · obtain ⟨a1, a2⟩ := hC.2.2.2.2.2.1 h (by omega)
      have a1 : τ.1 10 h = nI (sF S h) := a1
      have a2 : τ.1 11 h = tI (sT S h) := a2
      obtain ⟨b1, b2⟩ := hS.2.2.2.2.1 h (by omega)
      rw [i_nle (by omega) (by omega), p_ck _ (by omega) (by omega), p_ix (a := h) (by omega), a1]
      by_cases e1 : sF S h = c
      · right
        have e : isDn S c = true := decide_eq_true ⟨h, by omega, Or.inl e1⟩
        rw [i_eq e1, p_cb1, e, bI_t]
      · rw [i_ne (by omega) (by omega) e1, p_ck _ (by omega) (by omega), a2]
        by_cases e2 : sT S h = c + 1
        · right
          have e : isDn S c = true := decide_eq_true ⟨h, by omega, Or.inr e2⟩
          rw [show tI (sT S h) = nI (sT S h - 1) from if_neg (by omega), i_eq (by omega), p_cb1, e, bI_t]
        · left
          have hne : ¬ tI (sT S h) = nI c := by
            intro q
            by_cases t0 : sT S h = 0
            · rw [show tI (sT S h) = -nI 1 from if_pos t0] at q
              have := p_m1eq (a := c) (by omega)
              rw [q] at this
              exact this.mp rfl
            · rw [show tI (sT S h) = nI (sT S h - 1) from if_neg t0, nI_eq (by omega) (by omega)] at q
              omega
          rw [if_neg hne, p_nm, nI_add]
          refine ⟨nI (h + 1), τ, ⟨h + 1, by omega, rfl, rfl, fun g hg => ?_⟩, ?_, rfl⟩
          · by_cases eg : g = h
            · rw [eg]; exact fun q => by rcases q with q | q; exact e1 q; exact e2 q
            · exact hno g (by omega)
          · rw [p_ix (by omega)]; omega
  · show 4 - ix (nI 0) < FU
    rw [p_ix (by omega), FU_v]; omega
theorem places_eq {S : Su} {σ : Mm} (hS : SuV S) (hC : SeC S 7 σ) : ∃ σ', f_X7_findFencePlaces σ = some (nI (wrs S).length, σ') ∧ (∀ i, i < (wrs S).length → σ'.1 30 i = nI ((wrs S).getD i 0)) ∧ Fr [30] σ σ' := by
  have h6 := hS.1
  have inner : ∀ (c : Nat) (τ : Mm) (K : Int32 → Mm → Option (Int32 × Mm)), c < sK S → (∀ i, i < (wrC S c).length → τ.1 30 i = nI ((wrC S c).getD i 0)) → Fr [30] σ τ → ∃ τ', fx (fun _ _ _ => none) FU (f_X7_findFencePlaces_L17 K (nI c)) (nI (wrC S c).length) (nI 0) τ = K (nI (wrC S (c + 1)).length) τ' ∧ (∀ i, i < (wrC S (c + 1)).length → τ'.1 30 i = nI ((wrC S (c + 1)).getD i 0)) ∧ Fr [30] σ τ' := by
    intro c τ K hc h30 hF
    have h7 := (hS.2.1 c hc).2
    have hbase := wrC_ok hS c (by omega)
    have hnd : isDn S c = false → wrC S (c + 1) = wrC S c := fun q => by rw [wrC, q]; rfl
    have hyd : isDn S c = true → wrC S (c + 1) = wrS S c (sN S c) (wrC S c) := fun q => by rw [wrC, q]; rfl
    have hCt := SeC_7 hC hF (by decide) (by decide) (by decide) (by decide) (by decide) (by decide)
    refine lq2 (F := f_X7_findFencePlaces_L17 K (nI c)) (fun a b υ => ∃ s, s ≤ sN S c ∧ (0 < s → isDn S c = true) ∧ a = nI (wrS S c s (wrC S c)).length ∧ b = nI s ∧ (∀ i, i < (wrS S c s (wrC S c)).length → υ.1 30 i = nI ((wrS S c s (wrC S c)).getD i 0)) ∧ Fr [30] σ υ) (fun _ b _ => 8 - ix b) (fun o => ∃ τ', o = K (nI (wrC S (c + 1)).length) τ' ∧ (∀ i, i < (wrC S (c + 1)).length → τ'.1 30 i = nI ((wrC S (c + 1)).getD i 0)) ∧ Fr [30] σ τ') ?_ FU _ (nI 0) τ ?_ ⟨0, by omega, fun q => by omega, rfl, rfl, h30, hF⟩
    · rintro L a b υ ⟨s, hs, hsd, rfl, rfl, u1, u2⟩
      have hCu := SeC_7 hC u2 (by decide) (by decide) (by decide) (by decide) (by decide) (by decide)
      have h8 : υ.1 8 c = nI (sN S c) := hCu.2.2.2.1 c hc
      have hl6 := (wrS_ok (S := S) (c := c) hbase s).1
      have hn1 := (hS.2.1 c hc).1
      unfold f_X7_findFencePlaces_L17 f_X7_findFencePlaces_76
      simp only [qi_0, qi_1, qi_2, qi_3, qi_4, qi_5, qi_6, qi_7, qi_8, qi_9, qi_10, qi_11, qi_12, qi_13, qi_14, qi_15, qi_16, qi_17, qi_19, qi_26, qi_31, qi_32, qi_35, qi_40, qi_42, qi_48, qi_50, qi_57, qi_59, qi_63, qi_64, qi_97, qi_120, qi_122, qi_210, qi_255, qi_511, qi_512, qi_1000, qi_6000, qi_13312, qi_14337, qi_16383, qi_16384, qi_524287]
      rw [p_ck _ (by omega) (by omega), p_ix (a := c) (by omega), h8]
      by_cases c0 : sN S c ≤ s
      · right
        have e : s = sN S c := by omega
        have hd := hsd (by omega)
        rw [i_le (by omega) c0, hyd hd, ← e]
        exact ⟨υ, rfl, u1, u2⟩
      · rw [i_nle (by omega) (by omega), isDone_eq hS hCu hc, p_bd]
        cases hd : isDn S c with
        | false =>
          right
          have hs0 : s = 0 := by
            apply Classical.byContradiction
            intro q
            have := hsd (by omega)
            rw [hd] at this; cases this
          subst hs0
          rw [bI_f, i_eq rfl, hnd hd]
          exact ⟨υ, rfl, u1, u2⟩
        | true =>
          left
          have hcd : CdC υ 9 ((c * 7 + s) * 5) (sC S c s) := hCu.2.2.2.2.1 c s hc (by omega)
          have v1 := (hS.2.2.1 c s hc (by omega)).1
          rw [bI_t, i_ne (by omega) (by omega) (by omega), partOf_eq (by omega), p_bd, Nat.add_zero, hcd.1]
          by_cases k2 : sC S c s 0 = 2
          · rw [i_eq k2]
            by_cases l6 : (wrS S c s (wrC S c)).length < 6
            · have ew : wrS S c (s + 1) (wrC S c) = wrS S c s (wrC S c) ++ [7 * c + s] := by rw [wrS, if_pos ⟨k2, l6⟩]
              rw [i_nle (by omega) l6, p_ck _ (by omega) (by omega), p_ix (a := (wrS S c s (wrC S c)).length) (by omega), p_nm, pk_mul, nI_add, nI_add, p_nm, nI_add, p_nm]
              refine ⟨nI ((wrS S c s (wrC S c)).length + 1), nI (s + 1), sI υ 30 (wrS S c s (wrC S c)).length (nI (c * 7 + s)), ⟨s + 1, by omega, fun _ => rfl, by rw [ew, List.length_append, List.length_singleton], rfl, ?_, u2.sI (by decide)⟩, ?_, rfl⟩
              · rw [ew]
                intro i hi
                rw [List.length_append, List.length_singleton] at hi
                rw [gd_app]
                by_cases e : i = (wrS S c s (wrC S c)).length
                · rw [e, r_sI0, if_neg (by omega), if_pos rfl, show c * 7 + s = 7 * c + s by omega]
                · rw [r_sIj e, if_pos (by omega)]; exact u1 i (by omega)
              · rw [p_ix (by omega), p_ix (by omega)]; omega
            · have ew : wrS S c (s + 1) (wrC S c) = wrS S c s (wrC S c) := by rw [wrS, if_neg (fun q => l6 q.2)]
              rw [i_le (by omega) (by omega), p_nm, nI_add]
              refine ⟨nI (wrS S c s (wrC S c)).length, nI (s + 1), υ, ⟨s + 1, by omega, fun _ => rfl, by rw [ew], rfl, by rw [ew]; exact u1, u2⟩, ?_, rfl⟩
              rw [p_ix (by omega), p_ix (by omega)]; omega
          · have ew : wrS S c (s + 1) (wrC S c) = wrS S c s (wrC S c) := by rw [wrS, if_neg (fun q => k2 q.1)]
            rw [i_ne (by omega) (by omega) k2, p_nm, nI_add]
            refine ⟨nI (wrS S c s (wrC S c)).length, nI (s + 1), υ, ⟨s + 1, by omega, fun _ => rfl, by rw [ew], rfl, by rw [ew]; exact u1, u2⟩, ?_, rfl⟩
            rw [p_ix (by omega), p_ix (by omega)]; omega
    · rw [p_ix (by omega), FU_v]; omega
  unfold f_X7_findFencePlaces
  refine lq2 (F := f_X7_findFencePlaces_L4) (fun a b υ => ∃ c, c ≤ sK S ∧ a = nI (wrC S c).length ∧ b = nI c ∧ (∀ i, i < (wrC S c).length → υ.1 30 i = nI ((wrC S c).getD i 0)) ∧ Fr [30] σ υ) (fun _ b _ => 7 - ix b) (fun o => ∃ σ', o = some (nI (wrs S).length, σ') ∧ (∀ i, i < (wrs S).length → σ'.1 30 i = nI ((wrs S).getD i 0)) ∧ Fr [30] σ σ') ?_ FU (0 : Int32) (0 : Int32) σ ?_ ⟨0, by omega, rfl, rfl, fun i hi => absurd hi (Nat.not_lt_zero _), Fr.rf _ _⟩
  · rintro L a b υ ⟨c, hc, rfl, rfl, u1, u2⟩
    unfold f_X7_findFencePlaces_L4 f_X7_findFencePlaces_82
    simp only [qi_0, qi_1, qi_2, qi_3, qi_4, qi_5, qi_6, qi_7, qi_8, qi_9, qi_10, qi_11, qi_12, qi_13, qi_14, qi_15, qi_16, qi_17, qi_19, qi_26, qi_31, qi_32, qi_35, qi_40, qi_42, qi_48, qi_50, qi_57, qi_59, qi_63, qi_64, qi_97, qi_120, qi_122, qi_210, qi_255, qi_511, qi_512, qi_1000, qi_6000, qi_13312, qi_14337, qi_16383, qi_16384, qi_524287]
    rw [u2.r1 7 (by decide), hC.1]
    by_cases c0 : sK S ≤ c
    · right
      have e : c = sK S := by omega
      subst e
      rw [i_le (by omega) c0]
      exact ⟨υ, rfl, u1, u2⟩
    · left
      obtain ⟨τ', e1, e2, e3⟩ := inner c υ (fun (xq1 : Int32) (σ : Mm) => nm (nI c + nI 1) (fun vq8 => L xq1 vq8 σ)) (by omega) u1 u2
      rw [i_nle (by omega) (by omega), e1, p_nm, nI_add]
      refine ⟨nI (wrC S (c + 1)).length, nI (c + 1), τ', ⟨c + 1, by omega, rfl, rfl, e2, e3⟩, ?_, rfl⟩
      rw [p_ix (by omega), p_ix (by omega)]; omega
  · show 7 - ix (nI 0) < FU
    rw [p_ix (by omega), FU_v]; omega
/-- fences as bits -/
def fzf (W : List Nat) (st : Nat) : Nat → Nat
  | 0 => 0
  | i + 1 => fzf W st i + (if st / 2 ^ i % 2 = 1 then 2 ^ (W.getD i 0) else 0)
theorem fzf_lt {W : List Nat} {b st : Nat} (hW : Wok W b) : ∀ i, i ≤ W.length → ∀ w, (∀ j, j < i → W.getD j 0 < w) → fzf W st i < 2 ^ w := by
  intro i
  induction i with
  | zero => intro _ w _; exact Nat.two_pow_pos w
  | succ i ih =>
    intro hi w hw
    have h1 := ih (by omega) (W.getD i 0) (fun j hj => hW.2.1 j i hj (by omega))
    have h2 : 2 ^ (W.getD i 0 + 1) ≤ 2 ^ w := Nat.pow_le_pow_right (by omega) (hw i (by omega))
    rw [Nat.pow_succ] at h2
    rw [fzf]
    split <;> omega
theorem fzf_bit {W : List Nat} {b st : Nat} (hW : Wok W b) : ∀ i, i ≤ W.length → ∀ k, (fzf W st i / 2 ^ k % 2 = 1 ↔ ∃ j, j < i ∧ W.getD j 0 = k ∧ st / 2 ^ j % 2 = 1) := by
  intro i
  induction i with
  | zero =>
    intro _ k
    constructor
    · intro h
      rw [fzf, Nat.zero_div] at h
      omega
    · rintro ⟨j, hj, _⟩; omega
  | succ i ih =>
    intro hi k
    have hlt := fzf_lt (st := st) hW i (by omega) (W.getD i 0) (fun j hj => hW.2.1 j i hj (by omega))
    have ihk := ih (by omega) k
    rw [fzf]
    by_cases hb : st / 2 ^ i % 2 = 1
    · rw [if_pos hb]
      have e : fzf W st i + 2 ^ W.getD i 0 = 2 ^ W.getD i 0 * 1 + fzf W st i := by omega
      have ht : ∀ x y : Nat, (x / 2 ^ y % 2 = 1) ↔ x.testBit y = true := by
        intro x y
        rw [Nat.testBit_eq_decide_div_mod_eq, decide_eq_true_iff]
      rw [e, ht, Nat.testBit_two_pow_mul_add _ hlt]
      rw [ht] at ihk
      by_cases c1 : k < W.getD i 0
      · rw [if_pos c1, ihk]
        constructor
        · rintro ⟨j, j1, j2, j3⟩; exact ⟨j, by omega, j2, j3⟩
        · rintro ⟨j, j1, j2, j3⟩
          by_cases ej : j = i
          · rw [ej] at j2; omega
          · exact ⟨j, by omega, j2, j3⟩
      · rw [if_neg c1]
        by_cases c2 : k = W.getD i 0
        · rw [c2, Nat.sub_self]
          constructor
          · intro _; exact ⟨i, by omega, rfl, hb⟩
          · intro _; rfl
        · have : (1 : Nat).testBit (k - W.getD i 0) = false := Nat.testBit_lt_two_pow (Nat.one_lt_two_pow (by omega))
          rw [this]
          constructor
          · intro q; cases q
          · rintro ⟨j, j1, j2, j3⟩
            by_cases ej : j = i
            · rw [ej] at j2; omega
            · have := hW.2.1 j i (by omega) (by omega); omega
    · rw [if_neg hb, Nat.add_zero, ihk]
      constructor
      · rintro ⟨j, j1, j2, j3⟩; exact ⟨j, by omega, j2, j3⟩
      · rintro ⟨j, j1, j2, j3⟩
        by_cases ej : j = i
        · rw [ej] at j3; exact absurd j3 hb
        · exact ⟨j, by omega, j2, j3⟩
theorem fzf_X {W : List Nat} {st : Nat} (hW : Wok W 42) : ∀ k, k < 42 → (fzf W st W.length / 2 ^ k % 2 = 1 ↔ XF W st k = true) := by
  intro k _
  rw [fzf_bit hW _ (Nat.le_refl _)]
  unfold XF
  rw [decide_eq_true_iff]
theorem bit_i {st i : Nat} (hs : st < 64) (hi : i < 6) : (nI st >>> (nI i &&& nI 31)) &&& nI 1 = nI (st / 2 ^ i % 2) := by
  have : i = 0 ∨ i = 1 ∨ i = 2 ∨ i = 3 ∨ i = 4 ∨ i = 5 := by omega
  rcases this with rfl | rfl | rfl | rfl | rfl | rfl
  · rw [pk_shrN (by omega) _ 0 (by decide), and_1]
  · rw [pk_shrN (by omega) _ 1 (by decide), and_1]
  · rw [pk_shrN (by omega) _ 2 (by decide), and_1]
  · rw [pk_shrN (by omega) _ 3 (by decide), and_1]
  · rw [pk_shrN (by omega) _ 4 (by decide), and_1]
  · rw [pk_shrN (by omega) _ 5 (by decide), and_1]
theorem l_am {w : Nat} (hw : w < 64) : (((nI w).toInt64 &&& 63).toBitVec.smod 64).toNat = w := by
  rw [nI_l (by omega)]
  have key : ∀ w, w < 64 → ((lN w &&& 63).toBitVec.smod 64).toNat = w := fun w hw => co_dec (N := 64) (P := fun w => ((lN w &&& 63).toBitVec.smod 64).toNat = w) (by decide +kernel) hw
  exact key w hw
