/-! PURE: the class's fewest fences; the way to the worst -/
def trF (S : Su) (W : List Nat) (st : Nat) : Nat := if big (PgOf S (XF W st)) then 2 else if lbd (ords S noX) (ends (PgOf S (XF W st))) = none then 1 else 0
def ones (k : Nat) : Nat := k % 2 + k / 2 % 2 + k / 4 % 2 + k / 8 % 2 + k / 16 % 2 + k / 32 % 2
def rsF (S : Su) (W : List Nat) (k : Nat) : Option (Option Nat) := if trF S W k = 2 then some none else if trF S W k = 1 then some (some k) else none
def fnn (S : Su) (W : List Nat) (n : Nat) : Nat → Option (Option Nat)
  | 0 => none
  | k + 1 => match fnn S W n k with
    | some r => some r
    | none => if ones k = n then rsF S W k else none
def fot (S : Su) (W : List Nat) : Nat → Option (Option Nat)
  | 0 => none
  | n + 1 => match fot S W n with
    | some r => some r
    | none => fnn S W n (2 ^ W.length)
def fI (o : Option (Option Nat)) : Int32 := match o with
  | none => -nI 1
  | some none => -2
  | some (some k) => nI k
theorem fI_n : fI none = -nI 1 := (rfl)
theorem fI_sn : fI (some none) = -2 := (rfl)
theorem fI_ss (k : Nat) : fI (some (some k)) = nI k := (rfl)
def f64 (o : Option (Option Nat)) : Prop := ∀ k, o = some (some k) → k < 64
theorem rsF_64 {S : Su} {W : List Nat} {k : Nat} (hk : k < 64) : f64 (rsF S W k) := by
  intro j h
  unfold rsF at h
  split at h
  · cases h
  · split at h
    · simp only [Option.some.injEq] at h; omega
    · cases h
theorem fnn_64 {S : Su} {W : List Nat} {n : Nat} : ∀ k, k ≤ 64 → f64 (fnn S W n k) := by
  intro k
  induction k with
  | zero => intro _ j h; cases h
  | succ k ih =>
    intro hk j h
    rw [fnn] at h
    cases h1 : fnn S W n k with
    | some r => rw [h1] at h; simp only at h; rw [h] at h1; exact ih (by omega) j h1
    | none =>
      rw [h1] at h
      simp only at h
      split at h
      · exact rsF_64 (by omega) j h
      · cases h
theorem p2_64 {n : Nat} (h : n ≤ 6) : 2 ^ n ≤ 64 := by
  have : 2 ^ n ≤ 2 ^ 6 := Nat.pow_le_pow_right (by omega) h
  omega
theorem fot_64 {S : Su} {W : List Nat} (hW : W.length ≤ 6) : ∀ n, f64 (fot S W n) := by
  intro n
  induction n with
  | zero => intro j h; cases h
  | succ n ih =>
    intro j h
    rw [fot] at h
    cases h1 : fot S W n with
    | some r => rw [h1] at h; simp only at h; rw [h] at h1; exact ih j h1
    | none => rw [h1] at h; exact fnn_64 _ (p2_64 hW) j h
theorem fI_m1 {o : Option (Option Nat)} (h : f64 o) : (fI o = -nI 1) ↔ o = none := by
  cases o with
  | none => exact ⟨fun _ => rfl, fun _ => rfl⟩
  | some r =>
    cases r with
    | none => exact ⟨fun q => absurd q (by decide), fun q => by cases q⟩
    | some k =>
      have hk := h k rfl
      rw [fI_ss, p_m1eq (by omega)]
      exact ⟨fun q => q.elim, fun q => by cases q⟩
theorem fnn_frz {S : Su} {W : List Nat} {n k : Nat} {r : Option Nat} (h : fnn S W n k = some r) : ∀ j, fnn S W n (k + j) = some r := by
  intro j
  induction j with
  | zero => exact h
  | succ j ih => rw [show k + (j + 1) = k + j + 1 by omega, fnn, ih]
theorem fot_frz {S : Su} {W : List Nat} {n : Nat} {r : Option Nat} (h : fot S W n = some r) : ∀ j, fot S W (n + j) = some r := by
  intro j
  induction j with
  | zero => exact h
  | succ j ih => rw [show n + (j + 1) = n + j + 1 by omega, fot, ih]
theorem ones_0 {k : Nat} (hk : k < 64) (h : ones k = 0) : k = 0 := co_dec (N := 64) (P := fun k => ones k = 0 → k = 0) (by decide +kernel) hk h
theorem fnn_0 {S : Su} {W : List Nat} : ∀ k, 1 ≤ k → k ≤ 64 → fnn S W 0 k = rsF S W 0 := by
  intro k
  induction k with
  | zero => intro h; omega
  | succ k ih =>
    intro _ h2
    rw [fnn]
    by_cases c : k = 0
    · subst c
      have h0 : fnn S W 0 0 = none := by rw [fnn]
      rw [h0]
      simp only
      rw [if_pos (by decide)]
    · rw [ih (by omega) (by omega)]
      cases h : rsF S W 0 with
      | some r => rfl
      | none =>
        simp only
        rw [if_neg (fun q => c (ones_0 (by omega) q))]
def bcx (x : Int32) : Int32 :=
  let v1 := x - ((x.toUInt32 >>> (((1 : Int32)).toUInt32 &&& Int32.toUInt32 31)).toInt32 &&& (1431655765 : Int32))
  let v2 := (v1 &&& (858993459 : Int32)) + ((v1.toUInt32 >>> (((2 : Int32)).toUInt32 &&& Int32.toUInt32 31)).toInt32 &&& (858993459 : Int32))
  let v3 := (v2 + (v2.toUInt32 >>> (((4 : Int32)).toUInt32 &&& Int32.toUInt32 31)).toInt32) &&& (252645135 : Int32)
  let v4 := v3 + (v3.toUInt32 >>> (((8 : Int32)).toUInt32 &&& Int32.toUInt32 31)).toInt32
  let v5 := v4 + (v4.toUInt32 >>> (((16 : Int32)).toUInt32 &&& Int32.toUInt32 31)).toInt32
  v5 &&& (63 : Int32)
theorem bitCount_eq {k : Nat} (hk : k < 64) (σ : Mm) : f_J6_bitCount_0f7a4 (nI k) σ = some (nI (ones k), σ) := by
  have e : f_J6_bitCount_0f7a4 (nI k) σ = some (bcx (nI k), σ) := rfl
  have key : ∀ k, k < 64 → bcx (nI k) = nI (ones k) := fun k hk => co_dec (N := 64) (P := fun k => bcx (nI k) = nI (ones k)) (by decide +kernel) hk
  rw [e, key k hk]
theorem try_eq {S : Su} {σ : Mm} {st : Nat} (hS : SuV S) (hC : SeC S 7 σ) (hSl : SlR σ) (hR : RoC 28 (ords S noX) σ) (hst : st < 64) (h30 : ∀ i, i < (wrs S).length → σ.1 30 i = nI ((wrs S).getD i 0)) :
    ∃ σ', f_X7_tryFences (nI st) (nI (wrs S).length) σ = some (fI (rsF S (wrs S) st), σ') ∧ SlR σ' ∧ Fr goL σ σ' := by
  have hW := wrs_ok hS
  have hl6 := hW.1
  have run : ∃ σ', f_X7_tryFences_42 (nI st) (lN (fzf (wrs S) st (wrs S).length)) σ = some (fI (rsF S (wrs S) st), σ') ∧ SlR σ' ∧ Fr goL σ σ' := by
    have hz : fzf (wrs S) st (wrs S).length < 2 ^ 42 := fzf_lt hW _ (Nat.le_refl _) 42 (fun j hj => hW.2.2 j hj)
    obtain ⟨σ1, e1, m1, m2, m3⟩ := through_eq (X := XF (wrs S) st) hS (FX_W hS hW) hC (by omega) (fzf_X hW) hSl
    unfold f_X7_tryFences_42
    simp only [qi_0, qi_1, qi_2, qi_3, qi_4, qi_5, qi_6, qi_7, qi_8, qi_9, qi_10, qi_11, qi_12, qi_13, qi_14, qi_15, qi_16, qi_17, qi_19, qi_26, qi_31, qi_32, qi_35, qi_40, qi_42, qi_48, qi_50, qi_57, qi_59, qi_63, qi_64, qi_97, qi_120, qi_122, qi_210, qi_255, qi_511, qi_512, qi_1000, qi_6000, qi_13312, qi_14337, qi_16383, qi_16384, qi_524287]
    rw [e1, p_bd, TkC_8 m1]
    unfold rsF trF
    cases hb : big (PgOf S (XF (wrs S) st)) with
    | true =>
      rw [bI_t, i_ne (by omega) (by omega) (by omega)]
      exact ⟨σ1, rfl, m2, m3⟩
    | false =>
      have hbn : bN (bEnd (PgOf S (XF (wrs S) st))) ≤ 6000 := by
        unfold big at hb
        have := of_decide_eq_false hb
        omega
      have hRe : RoC 26 (ends (PgOf S (XF (wrs S) st))) σ1 := by
        rcases m1 with ⟨_, _, _, _, _, _, h7⟩ | ⟨h1, _⟩
        · exact h7
        · omega
      rw [bI_f, i_eq rfl, leastBad_eq hRe (RoC_of hR (by rw [m3.r1 28 (by decide)]) (m3.r1 29 (by decide))), p_bd]
      cases hl : lbd (ords S noX) (ends (PgOf S (XF (wrs S) st))) with
      | none =>
        rw [show iO none = -nI 1 from rfl, if_neg (show ¬ nI 0 ≤ -nI 1 by rw [p_m1le]; exact fun q => q)]
        exact ⟨σ1, rfl, m2, m3⟩
      | some r =>
        have := lbd_lt hRe.2.1 hl
        rw [show iO (some r) = nI r from rfl, i_le (by omega) (by omega)]
        exact ⟨σ1, rfl, m2, m3⟩
  unfold f_X7_tryFences
  refine lq2 (F := f_X7_tryFences_L6 (fun (xq4 : Int64) (σ : Mm) => f_X7_tryFences_42 (nI st) xq4 σ) (nI st) (nI (wrs S).length)) (fun a b τ => ∃ i, i ≤ (wrs S).length ∧ a = lN (fzf (wrs S) st i) ∧ b = nI i ∧ τ = σ) (fun _ b _ => 7 - ix b) (fun o => ∃ σ', o = some (fI (rsF S (wrs S) st), σ') ∧ SlR σ' ∧ Fr goL σ σ') ?_ FU (0 : Int64) (0 : Int32) σ ?_ ⟨0, by omega, rfl, rfl, rfl⟩
  · rintro L a b τ ⟨i, hi, rfl, rfl, rfl⟩
    unfold f_X7_tryFences_L6 f_X7_tryFences_36
    simp only [qi_0, qi_1, qi_2, qi_3, qi_4, qi_5, qi_6, qi_7, qi_8, qi_9, qi_10, qi_11, qi_12, qi_13, qi_14, qi_15, qi_16, qi_17, qi_19, qi_26, qi_31, qi_32, qi_35, qi_40, qi_42, qi_48, qi_50, qi_57, qi_59, qi_63, qi_64, qi_97, qi_120, qi_122, qi_210, qi_255, qi_511, qi_512, qi_1000, qi_6000, qi_13312, qi_14337, qi_16383, qi_16384, qi_524287, ql_0, ql_1, ql_3, ql_4, ql_10, ql_12, ql_13, ql_16, ql_42, ql_157, ql_256, ql_16383, ql_524287]
    by_cases c : (wrs S).length ≤ i
    · right
      have e : i = (wrs S).length := by omega
      subst e
      rw [i_le (by omega) c]
      exact run
    · left
      have hw42 := hW.2.2 i (by omega)
      have hlt := fzf_lt (st := st) hW i hi ((wrs S).getD i 0) (fun j hj => hW.2.1 j i hj (by omega))
      have hb2 : st / 2 ^ i % 2 < 2 := Nat.mod_lt _ (by omega)
      rw [i_nle (by omega) (by omega), bit_i hst (by omega)]
      by_cases hb : st / 2 ^ i % 2 = 1
      · have e2 := l_or (b := 1) hlt
        rw [Nat.one_mul] at e2
        rw [i_eq hb, p_ck _ (by omega) (by omega), p_ix (a := i) (by omega), h30 i (by omega), l_shl (l_am (by omega)) (by omega), Nat.one_mul, e2, p_nm, p_nm, nI_add]
        refine ⟨lN (fzf (wrs S) st (i + 1)), nI (i + 1), τ, ⟨i + 1, by omega, rfl, rfl, rfl⟩, ?_, by rw [fzf, if_pos hb]⟩
        rw [p_ix (by omega)]; omega
      · rw [i_ne (by omega) (by omega) hb, p_nm, nI_add]
        refine ⟨lN (fzf (wrs S) st (i + 1)), nI (i + 1), τ, ⟨i + 1, by omega, rfl, rfl, rfl⟩, ?_, by rw [fzf, if_neg hb, show fzf (wrs S) st i + 0 = fzf (wrs S) st i from Nat.add_zero _]⟩
        rw [p_ix (by omega), p_ix (by omega)]; omega
  · show 7 - ix (nI 0) < FU
    rw [p_ix (by omega), FU_v]; omega
def fcs (S : Su) : Option (Option Nat) := fot S (wrs S) ((wrs S).length + 1)
def feL : List Nat := [6, 13, 14, 15, 16, 17, 18, 19, 20, 21, 22, 23, 26, 27, 28, 29, 30]
theorem few_eq {S : Su} {σ : Mm} (hS : SuV S) (hC : SeC S 7 σ) (hSl : SlR σ) (h66 : σ.1 6 6 = nI 0 ∨ (σ.1 6 6 = nI 1 ∧ TkC (PgOf S noX) σ)) (h67 : σ.1 6 7 = nI 0 ∨ (σ.1 6 7 = nI 1 ∧ RoC 28 (ords S noX) σ)) :
    ∃ σ', f_X7_fewestFences σ = some (fI (fcs S), σ') ∧ SlR σ' ∧ (σ'.1 6 6 = nI 0 ∨ (σ'.1 6 6 = nI 1 ∧ TkC (PgOf S noX) σ')) ∧ (σ'.1 6 7 = nI 1 ∧ RoC 28 (ords S noX) σ') ∧ Fr feL σ σ' := by
  have hW := wrs_ok hS
  have hl6 := hW.1
  obtain ⟨σ1, e1, m1, m2, m3, m4⟩ := ordered_eq hS hC h67
  have hC1 := SeC_7 hC m4 (by decide) (by decide) (by decide) (by decide) (by decide) (by decide)
  have h66' : σ1.1 6 6 = nI 0 ∨ (σ1.1 6 6 = nI 1 ∧ TkC (PgOf S noX) σ1) := by
    rw [m3 6 (by decide)]
    rcases h66 with h | ⟨h, hT⟩
    · exact Or.inl h
    · exact Or.inr ⟨h, TkC_fr hT m4 (by decide)⟩
  obtain ⟨σ2, e2, n1, n2, n3, n4, n5⟩ := tooLarge_eq hS hC1 (SlR_of hSl (m4.r1 20 (by decide))) h66'
  have hR2 : RoC 28 (ords S noX) σ2 := RoC_of m1 (by rw [n5.r1 28 (by decide)]) (n5.r1 29 (by decide))
  have h672 : σ2.1 6 7 = nI 1 := by rw [n4 7 (by decide)]; exact m2
  have hC2 := SeC_7 hC1 n5 (by decide) (by decide) (by decide) (by decide) (by decide) (by decide)
  have hF2 : Fr feL σ σ2 := (m4.mo (by intro k hk; revert k; decide)).tr (n5.mo (by intro k hk; revert k; decide))
  have hf1 : fot S (wrs S) 1 = rsF S (wrs S) 0 := by
    have h2 : 1 ≤ 2 ^ (wrs S).length := Nat.two_pow_pos _
    rw [fot, fot]
    exact fnn_0 _ h2 (p2_64 hl6)
  have hfr : ∀ r, rsF S (wrs S) 0 = some r → fcs S = some r := by
    intro r h
    have := fot_frz (n := 1) (by rw [hf1]; exact h) (wrs S).length
    rw [show 1 + (wrs S).length = (wrs S).length + 1 by omega] at this
    exact this
  unfold f_X7_fewestFences
  simp only [qi_0, qi_1, qi_2, qi_3, qi_4, qi_5, qi_6, qi_7, qi_8, qi_9, qi_10, qi_11, qi_12, qi_13, qi_14, qi_15, qi_16, qi_17, qi_19, qi_26, qi_31, qi_32, qi_35, qi_40, qi_42, qi_48, qi_50, qi_57, qi_59, qi_63, qi_64, qi_97, qi_120, qi_122, qi_210, qi_255, qi_511, qi_512, qi_1000, qi_6000, qi_13312, qi_14337, qi_16383, qi_16384, qi_524287]
  rw [e1, p_bd, e2, p_bd]
  cases hb : big (PgOf S noX) with
  | true =>
    have hr0 : rsF S (wrs S) 0 = some none := by unfold rsF trF; rw [XF_0, hb]; rfl
    rw [bI_t, i_ne (by omega) (by omega) (by omega), hfr _ hr0]
    exact ⟨σ2, rfl, n2, Or.inr ⟨n3, n1⟩, ⟨h672, hR2⟩, hF2⟩
  | false =>
    have hbn : bN (bEnd (PgOf S noX)) ≤ 6000 := by
      unfold big at hb
      have := of_decide_eq_false hb
      omega
    have hRe : RoC 26 (ends (PgOf S noX)) σ2 := by
      rcases n1 with ⟨_, _, _, _, _, _, h7⟩ | ⟨h1, _⟩
      · exact h7
      · omega
    rw [bI_f, i_eq rfl, leastBad_eq hRe hR2, p_bd]
    cases hl : lbd (ords S noX) (ends (PgOf S noX)) with
    | none =>
      have hr0 : rsF S (wrs S) 0 = some (some 0) := by
        have ht : trF S (wrs S) 0 = 1 := by unfold trF; rw [XF_0, hb, hl]; rfl
        unfold rsF; rw [ht]; rfl
      rw [show iO none = -nI 1 from rfl, if_neg (show ¬ nI 0 ≤ -nI 1 by rw [p_m1le]; exact fun q => q), hfr _ hr0]
      exact ⟨σ2, rfl, n2, Or.inr ⟨n3, n1⟩, ⟨h672, hR2⟩, hF2⟩
    | some r =>
      have hrl := lbd_lt hRe.2.1 hl
      have hr0 : rsF S (wrs S) 0 = none := by
        have ht : trF S (wrs S) 0 = 0 := by unfold trF; rw [XF_0, hb, hl]; rfl
        unfold rsF; rw [ht]; rfl
      rw [hr0] at hf1
      rw [show iO (some r) = nI r from rfl, i_le (by omega) (by omega)]
      obtain ⟨σ3, e3, q1, q2⟩ := places_eq hS hC2
      rw [e3, p_bd]
      have hF3 : Fr feL σ σ3 := hF2.tr (q2.mo (by intro k hk; revert k; decide))
      -- what stays over tries
      have stay : ∀ τ υ : Mm, Fr goL τ υ → SeC S 7 τ → RoC 28 (ords S noX) τ → (∀ i, i < (wrs S).length → τ.1 30 i = nI ((wrs S).getD i 0)) → SeC S 7 υ ∧ RoC 28 (ords S noX) υ ∧ (∀ i, i < (wrs S).length → υ.1 30 i = nI ((wrs S).getD i 0)) := by
        intro τ υ hF h1 h2 h3
        exact ⟨SeC_7 h1 hF (by decide) (by decide) (by decide) (by decide) (by decide) (by decide), RoC_of h2 (by rw [hF.r1 28 (by decide)]) (hF.r1 29 (by decide)), fun i hi => by rw [hF.r1 30 (by decide)]; exact h3 i hi⟩
      -- sets of one size
      have inner : ∀ (n : Nat) (τ : Mm) (K : Int32 → Mm → Option (Int32 × Mm)), n ≤ 6 → SeC S 7 τ → SlR τ → RoC 28 (ords S noX) τ → (∀ i, i < (wrs S).length → τ.1 30 i = nI ((wrs S).getD i 0)) → τ.1 6 7 = nI 1 → Fr feL σ τ → ∃ τ', fx (fun _ _ _ => none) FU (f_X7_fewestFences_L49 K (nI (wrs S).length) (nI n)) (-nI 1) (nI 0) τ = K (fI (fnn S (wrs S) n (2 ^ (wrs S).length))) τ' ∧ SeC S 7 τ' ∧ SlR τ' ∧ RoC 28 (ords S noX) τ' ∧ (∀ i, i < (wrs S).length → τ'.1 30 i = nI ((wrs S).getD i 0)) ∧ τ'.1 6 7 = nI 1 ∧ Fr feL σ τ' := by
        intro n τ K hn t1 t2 t3 t4 t5 t6
        have hp64 := p2_64 hl6
        refine lq2 (F := f_X7_fewestFences_L49 K (nI (wrs S).length) (nI n)) (fun a b υ => ∃ k, k ≤ 2 ^ (wrs S).length ∧ a = fI (fnn S (wrs S) n k) ∧ b = nI k ∧ SeC S 7 υ ∧ SlR υ ∧ RoC 28 (ords S noX) υ ∧ (∀ i, i < (wrs S).length → υ.1 30 i = nI ((wrs S).getD i 0)) ∧ υ.1 6 7 = nI 1 ∧ Fr feL σ υ) (fun _ b _ => 65 - ix b) (fun o => ∃ τ', o = K (fI (fnn S (wrs S) n (2 ^ (wrs S).length))) τ' ∧ SeC S 7 τ' ∧ SlR τ' ∧ RoC 28 (ords S noX) τ' ∧ (∀ i, i < (wrs S).length → τ'.1 30 i = nI ((wrs S).getD i 0)) ∧ τ'.1 6 7 = nI 1 ∧ Fr feL σ τ') ?_ FU _ (nI 0) τ ?_ ⟨0, Nat.zero_le _, by rw [fnn, fI_n], rfl, t1, t2, t3, t4, t5, t6⟩
        · rintro L a b υ ⟨k, hk, rfl, rfl, u1, u2, u3, u4, u5, u6⟩
          have h64 := fnn_64 (S := S) (W := wrs S) (n := n) k (by omega)
          unfold f_X7_fewestFences_L49 f_X7_fewestFences_81
          simp only [qi_0, qi_1, qi_2, qi_3, qi_4, qi_5, qi_6, qi_7, qi_8, qi_9, qi_10, qi_11, qi_12, qi_13, qi_14, qi_15, qi_16, qi_17, qi_19, qi_26, qi_31, qi_32, qi_35, qi_40, qi_42, qi_48, qi_50, qi_57, qi_59, qi_63, qi_64, qi_97, qi_120, qi_122, qi_210, qi_255, qi_511, qi_512, qi_1000, qi_6000, qi_13312, qi_14337, qi_16383, qi_16384, qi_524287]
          rw [shl1 (by omega)]
          by_cases c : 2 ^ (wrs S).length ≤ k
          · right
            have e : k = 2 ^ (wrs S).length := by omega
            rw [i_le (by omega) c, ← e]
            exact ⟨υ, rfl, u1, u2, u3, u4, u5, u6⟩
          · rw [i_nle (by omega) (by omega)]
            cases hfn : fnn S (wrs S) n k with
            | some rr =>
              right
              have hne : ¬ fI (some rr) = -nI 1 := by
                rw [hfn] at h64
                rw [fI_m1 h64]; intro q; cases q
              have hfz := fnn_frz hfn (2 ^ (wrs S).length - k)
              rw [show k + (2 ^ (wrs S).length - k) = 2 ^ (wrs S).length by omega] at hfz
              rw [if_neg hne, hfz]
              exact ⟨υ, rfl, u1, u2, u3, u4, u5, u6⟩
            | none =>
              left
              rw [fI_n, if_pos rfl, bitCount_eq (by omega), p_bd]
              have ho : ones k ≤ 6 := by unfold ones; omega
              by_cases d : ones k = n
              · obtain ⟨υ', g1, g2, g3⟩ := try_eq (st := k) hS u1 u2 u3 (by omega) u4
                obtain ⟨w1, w2, w3⟩ := stay υ υ' g3 u1 u3 u4
                rw [i_eq d, g1, p_bd, p_nm, nI_add]
                refine ⟨fI (fnn S (wrs S) n (k + 1)), nI (k + 1), υ', ⟨k + 1, by omega, rfl, rfl, w1, g2, w2, w3, by rw [g3.r1 6 (by decide)]; exact u5, u6.tr (g3.mo (by intro k hk; revert k; decide))⟩, ?_, by rw [fnn, hfn]; simp only; rw [if_pos d]⟩
                rw [p_ix (by omega), p_ix (by omega)]; omega
              · rw [i_ne (by omega) (by omega) d, p_nm, nI_add]
                refine ⟨fI (fnn S (wrs S) n (k + 1)), nI (k + 1), υ, ⟨k + 1, by omega, rfl, rfl, u1, u2, u3, u4, u5, u6⟩, ?_, by rw [fnn, hfn]; simp only; rw [if_neg d, fI_n]⟩
                rw [p_ix (by omega), p_ix (by omega)]; omega
        · rw [p_ix (by omega), FU_v]; omega
      obtain ⟨s1, s2⟩ : SeC S 7 σ3 ∧ RoC 28 (ords S noX) σ3 := ⟨SeC_7 hC2 q2 (by decide) (by decide) (by decide) (by decide) (by decide) (by decide), RoC_of hR2 (by rw [q2.r1 28 (by decide)]) (q2.r1 29 (by decide))⟩
      refine lq2 (F := f_X7_fewestFences_L35 (nI (wrs S).length)) (fun a b υ => ∃ n, 1 ≤ n ∧ n ≤ (wrs S).length + 1 ∧ a = fI (fot S (wrs S) n) ∧ b = nI n ∧ SeC S 7 υ ∧ SlR υ ∧ RoC 28 (ords S noX) υ ∧ (∀ i, i < (wrs S).length → υ.1 30 i = nI ((wrs S).getD i 0)) ∧ υ.1 6 7 = nI 1 ∧ Fr feL σ υ) (fun _ b _ => 9 - ix b) (fun o => ∃ σ', o = some (fI (fcs S), σ') ∧ SlR σ' ∧ (σ'.1 6 6 = nI 0 ∨ (σ'.1 6 6 = nI 1 ∧ TkC (PgOf S noX) σ')) ∧ (σ'.1 6 7 = nI 1 ∧ RoC 28 (ords S noX) σ') ∧ Fr feL σ σ') ?_ FU _ (nI 1) σ3 ?_ ⟨1, by omega, by omega, by rw [hf1, fI_n], rfl, s1, SlR_of n2 (q2.r1 20 (by decide)), s2, q1, by rw [q2.r1 6 (by decide)]; exact h672, hF3⟩
      · rintro L a b υ ⟨n, hn1, hn, rfl, rfl, u1, u2, u3, u4, u5, u6⟩
        have h64 := fot_64 (S := S) hl6 n
        have fin : ∀ x : Int32, ∃ σ', some (x, sI υ 6 6 (nI 0)) = some (x, σ') ∧ SlR σ' ∧ (σ'.1 6 6 = nI 0 ∨ (σ'.1 6 6 = nI 1 ∧ TkC (PgOf S noX) σ')) ∧ (σ'.1 6 7 = nI 1 ∧ RoC 28 (ords S noX) σ') ∧ Fr feL σ σ' := by
          intro x
          exact ⟨_, rfl, SlR_of u2 (r_sI1 (by decide)), Or.inl r_sI0, ⟨by rw [r_sIj (by decide)]; exact u5, RoC_of u3 (by rw [r_sI1 (by decide)]) (r_sI1 (by decide))⟩, u6.sI (by decide)⟩
        unfold f_X7_fewestFences_L35 f_X7_fewestFences_87
        simp only [qi_0, qi_1, qi_2, qi_3, qi_4, qi_5, qi_6, qi_7, qi_8, qi_9, qi_10, qi_11, qi_12, qi_13, qi_14, qi_15, qi_16, qi_17, qi_19, qi_26, qi_31, qi_32, qi_35, qi_40, qi_42, qi_48, qi_50, qi_57, qi_59, qi_63, qi_64, qi_97, qi_120, qi_122, qi_210, qi_255, qi_511, qi_512, qi_1000, qi_6000, qi_13312, qi_14337, qi_16383, qi_16384, qi_524287]
        by_cases c : (wrs S).length < n
        · right
          have e : n = (wrs S).length + 1 := by omega
          rw [i_lt (by omega) c, p_cb0, p_nm, show fI (fot S (wrs S) n) = fI (fcs S) by rw [e]; rfl]
          exact fin _
        · rw [i_nlt (by omega) (by omega)]
          cases hfo : fot S (wrs S) n with
          | some rr =>
            right
            have hne : ¬ fI (some rr) = -nI 1 := by
              rw [hfo] at h64
              rw [fI_m1 h64]; intro q; cases q
            have hfz := fot_frz hfo ((wrs S).length + 1 - n)
            rw [show n + ((wrs S).length + 1 - n) = (wrs S).length + 1 by omega] at hfz
            have hfz : fcs S = some rr := hfz
            rw [if_neg hne, p_cb0, p_nm, ← hfz]
            exact fin _
          | none =>
            left
            obtain ⟨υ', g1, w1, w2, w3, w4, w5, w6⟩ := inner n υ (fun (xq3 : Int32) (σ : Mm) => nm (nI n + nI 1) (fun vq16 => L xq3 vq16 σ)) (by omega) u1 u2 u3 u4 u5 u6
            rw [fI_n, if_pos rfl, g1, p_nm, nI_add]
            refine ⟨fI (fot S (wrs S) (n + 1)), nI (n + 1), υ', ⟨n + 1, by omega, by omega, rfl, rfl, w1, w2, w3, w4, w5, w6⟩, ?_, by rw [fot, hfo]⟩
            rw [p_ix (by omega), p_ix (by omega)]; omega
      · rw [p_ix (by omega), FU_v]; omega
/-- the end with the least bad result -/
def wst (S : Su) : Option Nat := (lbd (ords S noX) (ends (PgOf S noX))).bind (fun r => fe (PgOf S noX) (bF (bEnd (PgOf S noX))) r (bN (bEnd (PgOf S noX))))
theorem wst_n {S : Su} (h : lbd (ords S noX) (ends (PgOf S noX)) = none) : wst S = none := by
  unfold wst
  rw [h, Option.bind_none]
theorem wst_s {S : Su} {r w : Nat} (h : lbd (ords S noX) (ends (PgOf S noX)) = some r) (hw : fe (PgOf S noX) (bF (bEnd (PgOf S noX))) r (bN (bEnd (PgOf S noX))) = some w) : wst S = some w := by
  unfold wst
  rw [h, Option.bind_some, hw]
def wwL : List Nat := [6, 13, 14, 15, 16, 17, 25, 28, 29]
theorem worst_eq {S : Su} {σ : Mm} (hS : SuV S) (hC : SeC S 7 σ) (hT : TkC (PgOf S noX) σ) (hb : bN (bEnd (PgOf S noX)) ≤ 6000) (h67 : σ.1 6 7 = nI 0 ∨ (σ.1 6 7 = nI 1 ∧ RoC 28 (ords S noX) σ)) :
    ∃ σ', ((wst S = none ∧ lbd (ords S noX) (ends (PgOf S noX)) = none ∧ f_X7_walkToWorst σ = some (-nI 1, σ')) ∨ ∃ w, wst S = some w ∧ w < bN (bEnd (PgOf S noX)) ∧ f_X7_walkToWorst σ = some (nI (bD (bEnd (PgOf S noX)) w), σ') ∧ ∀ i, i < bD (bEnd (PgOf S noX)) w → σ'.1 25 i = nI (mvp (bEnd (PgOf S noX)) w i)) ∧ (σ'.1 6 7 = nI 1 ∧ RoC 28 (ords S noX) σ') ∧ (∀ j, j ≠ 7 → σ'.1 6 j = σ.1 6 j) ∧ Fr wwL σ σ' := by
  have hP := PgOf_V hS (FX_no hS)
  obtain ⟨σ1, e1, m1, m2, m3, m4⟩ := ordered_eq hS hC h67
  have hC1 := SeC_7 hC m4 (by decide) (by decide) (by decide) (by decide) (by decide) (by decide)
  have hT1 : TkC (PgOf S noX) σ1 := TkC_fr hT m4 (by decide)
  have hRe : RoC 26 (ends (PgOf S noX)) σ1 := by
    rcases hT1 with ⟨_, _, _, _, _, _, h7⟩ | ⟨h1, _⟩
    · exact h7
    · omega
  unfold f_X7_walkToWorst
  simp only [qi_0, qi_1, qi_2, qi_3, qi_4, qi_5, qi_6, qi_7, qi_8, qi_9, qi_10, qi_11, qi_12, qi_13, qi_14, qi_15, qi_16, qi_17, qi_19, qi_26, qi_31, qi_32, qi_35, qi_40, qi_42, qi_48, qi_50, qi_57, qi_59, qi_63, qi_64, qi_97, qi_120, qi_122, qi_210, qi_255, qi_511, qi_512, qi_1000, qi_6000, qi_13312, qi_14337, qi_16383, qi_16384, qi_524287, ql_0, ql_1, ql_3, ql_4, ql_10, ql_12, ql_13, ql_16, ql_42, ql_157, ql_256, ql_16383, ql_524287]
  rw [e1, p_bd, leastBad_eq hRe m1, p_bd]
  cases hl : lbd (ords S noX) (ends (PgOf S noX)) with
  | none =>
    refine ⟨σ1, Or.inl ⟨wst_n hl, rfl, ?_⟩, ⟨m2, m1⟩, m3, m4.mo (by intro k hk; revert k; decide)⟩
    rw [show iO none = -nI 1 from rfl, if_neg (show ¬ nI 0 ≤ -nI 1 by rw [p_m1le]; exact fun q => q)]
  | some r =>
    have hrl := lbd_lt hRe.2.1 hl
    obtain ⟨w, hw⟩ := fe_ex (P := PgOf S noX) (F := bF (bEnd (PgOf S noX))) (bN (bEnd (PgOf S noX))) (lbd_mem hl)
    obtain ⟨σ2, e2, n1, n2⟩ := load_eq (fz := 0) hS (FX_no hS) hC1 (by omega) noX_0
    obtain ⟨σ3, e3, q1, q2⟩ := walkTo_eq hP n1 (VS_small (pF_small hS)) (TkC_fr hT1 n2 (by decide)) hb hrl hw
    refine ⟨σ3, Or.inr ⟨w, wst_s hl hw, (fe_some hw).1, ?_, q1⟩, ⟨by rw [q2.r1 6 (by decide), n2.r1 6 (by decide)]; exact m2, RoC_of m1 (by rw [q2.r1 28 (by decide), n2.r1 28 (by decide)]) (by rw [q2.r1 29 (by decide), n2.r1 29 (by decide)])⟩, fun j hj => by rw [q2.r1 6 (by decide), n2.r1 6 (by decide)]; exact m3 j hj, ?_⟩
    · rw [show iO (some r) = nI r from rfl, i_le (by omega) (by omega), e2, p_bd, e3, p_bd]
    · exact (m4.mo (by intro k hk; revert k; decide)).tr ((n2.mo (by intro k hk; revert k; decide)).tr (q2.mo (by intro k hk; revert k; decide)))
