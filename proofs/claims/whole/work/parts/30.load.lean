/-! PURE: what is set up (calls, hands, first values, the machine); its program, with fences -/
abbrev Su : Type := Nat × (Nat → Nat) × (Nat → Nat → Nat → Nat) × Nat × (Nat → Nat) × (Nat → Nat) × (Nat → Nat) × Nat
def sK (S : Su) : Nat := S.1
def sN (S : Su) : Nat → Nat := S.2.1
def sC (S : Su) : Nat → Nat → Nat → Nat := S.2.2.1
def sH (S : Su) : Nat := S.2.2.2.1
def sF (S : Su) : Nat → Nat := S.2.2.2.2.1
def sT (S : Su) : Nat → Nat := S.2.2.2.2.2.1
def sV (S : Su) : Nat → Nat := S.2.2.2.2.2.2.1
def sM (S : Su) : Nat := S.2.2.2.2.2.2.2
def SuV (S : Su) : Prop := sK S ≤ 6 ∧ (∀ c, c < sK S → 1 ≤ sN S c ∧ sN S c ≤ 7) ∧ (∀ c s, c < sK S → s < sN S c → CdV (sC S c s) s) ∧ sH S ≤ 3 ∧ (∀ h, h < sH S → sF S h < sK S ∧ sT S h ≤ sK S) ∧ (∀ c, c < 3 → sV S c < 4) ∧ sM S ≤ 1
def SeC (S : Su) (k : Nat) (σ : Mm) : Prop := σ.1 k 0 = nI (sK S) ∧ σ.1 k 3 = nI (sH S) ∧ σ.1 k 7 = nI (sM S) ∧ (∀ c, c < sK S → σ.1 (k + 1) c = nI (sN S c)) ∧ (∀ c s, c < sK S → s < sN S c → CdC σ (k + 2) ((c * 7 + s) * 5) (sC S c s)) ∧ (∀ h, h < sH S → σ.1 (k + 3) h = nI (sF S h) ∧ σ.1 (k + 4) h = tI (sT S h)) ∧ (∀ c, c < 3 → σ.1 (k + 5) c = nI (sV S c))
/-- places of steps in a call with fences -/
def fps (X : Nat → Bool) (c : Nat) : Nat → Nat
  | 0 => 0
  | s + 1 => fps X c s + 1 + (if X (7 * c + s) then 1 else 0)
def stf (S : Su) (X : Nat → Bool) (c s : Nat) (r : Nat) : Nat := if r = 4 then fps X c (sC S c s 4) else sC S c s r
def lcf (S : Su) (X : Nat → Bool) (c : Nat) : Nat → Nat → Nat → Nat
  | 0 => fun _ _ => 0
  | n + 1 => fun q r => if q = fps X c n then stf S X c n r else if q = fps X c n + 1 then (if r = 0 then 5 else 0) else lcf S X c n q r
def fl (S : Su) (X : Nat → Bool) (c : Nat) : Nat := fps X c (sN S c)
def lc (S : Su) (X : Nat → Bool) (c : Nat) : Nat → Nat → Nat := lcf S X c (sN S c)
def shf (o : Nat) (f : Nat → Nat) (r : Nat) : Nat := if r = 4 then o + f 4 else f r
def PgOf (S : Su) (X : Nat → Bool) : Pg :=
  (sH S, sM S, sV S 0 + 4 * sV S 1 + 16 * sV S 2,
   (fun h => if h < sH S then fl S X (sF S h) else 0),
   (fun h => if h < sH S then fl S X (sF S h) + (if sT S h = 0 then 0 else fl S X (sT S h - 1)) else 0),
   (fun h p => if p < fl S X (sF S h) then lc S X (sF S h) p else shf (fl S X (sF S h)) (lc S X (sT S h - 1) (p - fl S X (sF S h)))))
def FX (S : Su) (X : Nat → Bool) : Prop := ∀ c, c < sK S → fl S X c ≤ 13
theorem fps_lt (X : Nat → Bool) (c : Nat) : ∀ s t, s < t → fps X c s < fps X c t := by
  intro s t
  induction t with
  | zero => intro h; omega
  | succ t ih =>
    intro h
    rw [fps]
    by_cases e : s = t
    · subst e; omega
    · have := ih (by omega); omega
theorem fps_le (X : Nat → Bool) (c : Nat) {s t : Nat} (h : s ≤ t) : fps X c s ≤ fps X c t := by
  by_cases e : s = t
  · rw [e]; exact Nat.le_refl _
  · exact Nat.le_of_lt (fps_lt X c s t (by omega))
theorem fps_ge (X : Nat → Bool) (c : Nat) : ∀ s, s ≤ fps X c s := by
  intro s
  induction s with
  | zero => exact Nat.zero_le _
  | succ s ih => rw [fps]; omega
theorem lcf_keep (S : Su) (X : Nat → Bool) (c : Nat) : ∀ n m q, n ≤ m → q < fps X c n → lcf S X c m q = lcf S X c n q := by
  intro n m
  induction m with
  | zero => intro q h1 h2; have : n = 0 := by omega
            rw [this]
  | succ m ih =>
    intro q h1 h2
    by_cases e : n = m + 1
    · rw [e]
    · rw [← ih q (by omega) h2]
      funext r
      have h3 := fps_le X c (show n ≤ m by omega)
      show (if q = fps X c m then _ else if q = fps X c m + 1 then _ else lcf S X c m q r) = _
      rw [if_neg (by omega), if_neg (by omega)]
theorem lcf_V {S : Su} {X : Nat → Bool} {c : Nat} (hS : SuV S) (hc : c < sK S) : ∀ n, n ≤ sN S c → ∀ q, q < fps X c n → CdV (lcf S X c n q) q := by
  intro n
  induction n with
  | zero => intro _ q hq; exact absurd hq (Nat.not_lt_zero _)
  | succ n ih =>
    intro hn q hq
    by_cases e : q = fps X c n
    · have hf : lcf S X c (n + 1) q = stf S X c n := by
        funext r
        show (if q = fps X c n then _ else _) = _
        rw [if_pos e]
      obtain ⟨v1, v2, v3, v4, v5, v6⟩ := hS.2.2.1 c n hc (by omega)
      rw [hf]
      refine ⟨v1, v2, v3, v4, v5, fun h6 => ?_⟩
      show fps X c (sC S c n 4) ≤ q
      rw [e]
      exact fps_le X c (v6 h6)
    · by_cases e2 : q = fps X c n + 1
      · have hf : lcf S X c (n + 1) q = fun r => if r = 0 then 5 else 0 := by
          funext r
          show (if q = fps X c n then _ else if q = fps X c n + 1 then _ else _) = _
          rw [if_neg e, if_pos e2]
        rw [hf]
        refine ⟨by show (5 : Nat) ≤ 7; omega, fun _ h => absurd h (by show ¬ (5 : Nat) ≤ 4; omega), fun h => absurd h (by show ¬ (5 : Nat) = 2; omega), fun h => absurd h (by show ¬ ((5 : Nat) = 3 ∨ (5 : Nat) = 4 ∨ (5 : Nat) = 7); omega), fun h => absurd h (by show ¬ (5 : Nat) = 3; omega), fun h => absurd h (by show ¬ (5 : Nat) = 6; omega)⟩
      · rw [fps] at hq
        have hq2 : q < fps X c n := by split at hq <;> omega
        rw [lcf_keep S X c n (n + 1) q (by omega) hq2]
        exact ih (by omega) q hq2
theorem CdV_shf {f : Nat → Nat} {p o : Nat} (h : CdV f p) : CdV (shf o f) (o + p) := by
  obtain ⟨v1, v2, v3, v4, v5, v6⟩ := h
  exact ⟨v1, v2, v3, v4, v5, fun h6 => by show o + f 4 ≤ o + p; have := v6 h6; omega⟩
theorem PgOf_V {S : Su} {X : Nat → Bool} (hS : SuV S) (hX : FX S X) : PgV (PgOf S X) := by
  have hlt := hS.2.2.2.2.1
  refine ⟨hS.2.2.2.1, hS.2.2.2.2.2.2, fun h hh => ?_, fun h hh => ?_, fun h p hh hp => ?_⟩
  · show (if h < sH S then fl S X (sF S h) else 0) ≤ (if h < sH S then fl S X (sF S h) + (if sT S h = 0 then 0 else fl S X (sT S h - 1)) else 0) ∧ (if h < sH S then fl S X (sF S h) + (if sT S h = 0 then 0 else fl S X (sT S h - 1)) else 0) ≤ 26
    by_cases c : h < sH S
    · rw [if_pos c, if_pos c]
      obtain ⟨a1, a2⟩ := hlt h c
      have h1 := hX _ a1
      by_cases d : sT S h = 0
      · rw [if_pos d]; omega
      · rw [if_neg d]
        have h2 := hX (sT S h - 1) (by omega)
        omega
    · rw [if_neg c, if_neg c]; omega
  · show (if h < sH S then fl S X (sF S h) + (if sT S h = 0 then 0 else fl S X (sT S h - 1)) else 0) = 0
    have hh : sH S ≤ h := hh
    rw [if_neg (by omega)]
  · have hp : p < (if h < sH S then fl S X (sF S h) + (if sT S h = 0 then 0 else fl S X (sT S h - 1)) else 0) := hp
    show CdV (if p < fl S X (sF S h) then lc S X (sF S h) p else shf (fl S X (sF S h)) (lc S X (sT S h - 1) (p - fl S X (sF S h)))) p
    by_cases c : h < sH S
    · rw [if_pos c] at hp
      obtain ⟨a1, a2⟩ := hlt h c
      by_cases d : p < fl S X (sF S h)
      · rw [if_pos d]; exact lcf_V hS a1 _ (Nat.le_refl _) p d
      · rw [if_neg d]
        by_cases e : sT S h = 0
        · rw [if_pos e] at hp; omega
        · rw [if_neg e] at hp
          have h3 := CdV_shf (o := fl S X (sF S h)) (lcf_V (X := X) hS (show sT S h - 1 < sK S by omega) _ (Nat.le_refl _) (p - fl S X (sF S h)) (show p - fl S X (sF S h) < fl S X (sT S h - 1) by omega))
          rw [show fl S X (sF S h) + (p - fl S X (sF S h)) = p by omega] at h3
          exact h3
    · rw [if_neg c] at hp; omega
theorem VS_small {P : Pg} {x : Nat} (h : x < 64) : VS P x := by
  refine ⟨by omega, fun g hg => ?_⟩
  have e : hd x g = 0 := by
    unfold hd
    rcases lt3 hg with rfl | rfl | rfl
    · rw [hw0]; omega
    · rw [hw1]; omega
    · rw [hw2]; omega
  rw [e]
  exact ⟨⟨by decide, fun _ => rfl, fun _ => rfl, by decide, by decide⟩, Nat.zero_le _, fun _ => rfl⟩
theorem pF_small {S : Su} {X : Nat → Bool} (hS : SuV S) : pF (PgOf S X) < 64 := by
  have h0 := hS.2.2.2.2.2.1 0 (by omega)
  have h1 := hS.2.2.2.2.2.1 1 (by omega)
  have h2 := hS.2.2.2.2.2.1 2 (by omega)
  show sV S 0 + 4 * sV S 1 + 16 * sV S 2 < 64
  omega
theorem CdC_of {σ τ : Mm} {k b k' b' : Nat} {f : Nat → Nat} (h : CdC σ k b f) (e : ∀ r, r < 5 → τ.1 k' (b' + r) = σ.1 k (b + r)) : CdC τ k' b' f := by
  obtain ⟨c1, c2, c3, c4, c5⟩ := h
  have e0 := e 0 (by omega)
  rw [Nat.add_zero, Nat.add_zero] at e0
  exact ⟨by rw [e0]; exact c1, fun a b => by rw [e 1 (by omega)]; exact c2 a b, fun a => by rw [e 2 (by omega)]; exact c3 a, fun a => by rw [e 3 (by omega)]; exact c4 a, fun a => by rw [e 4 (by omega)]; exact c5 a⟩
theorem sh_am {k : Nat} (hk : k < 64) : (nI k).toInt64.toUInt64 &&& Int64.toUInt64 63 = UInt64.ofNat k := by
  rw [nI_l (by omega)]
  show UInt64.ofNat k &&& UInt64.ofNat 63 = UInt64.ofNat k
  apply UInt64.toNat_inj.1
  rw [UInt64.toNat_and, UInt64.toNat_ofNat', UInt64.toNat_ofNat', show 63 % 2 ^ 64 = 2 ^ 6 - 1 from rfl, Nat.and_two_pow_sub_one_eq_mod]
  rw [Nat.mod_eq_of_lt (a := k) (by omega)]
  exact Nat.mod_eq_of_lt hk
theorem l_and1 (n : Nat) : lN n &&& lN 1 = lN (n % 2) := by
  apply Int64.toBitVec_inj.1
  show BitVec.ofNat 64 n &&& BitVec.ofNat 64 1 = BitVec.ofNat 64 (n % 2)
  rw [← BitVec.ofNat_and, Nat.and_one_is_mod]
theorem partOf_eq {c s r : Nat} {σ : Mm} (hb : (c * 7 + s) * 5 + r < 210) : f_X5_partOf (nI c) (nI s) (nI r) σ = some (σ.1 9 ((c * 7 + s) * 5 + r), σ) := by
  unfold f_X5_partOf
  simp only [qi_0, qi_1, qi_2, qi_3, qi_4, qi_5, qi_6, qi_7, qi_8, qi_9, qi_10, qi_11, qi_12, qi_13, qi_14, qi_15, qi_16, qi_17, qi_19, qi_26, qi_31, qi_32, qi_35, qi_40, qi_42, qi_48, qi_50, qi_57, qi_59, qi_63, qi_64, qi_97, qi_120, qi_122, qi_210, qi_255, qi_511, qi_512, qi_1000, qi_6000, qi_13312, qi_14337, qi_16383, qi_16384, qi_524287, pk_mul, nI_add]
  rw [p_ck _ hb (by omega), p_ix (by omega)]
/-- the copy of a step's five parts -/
theorem lay48 {c s h p : Nat} {σ : Mm} {fz : Int64} (hb : (c * 7 + s) * 5 + 4 < 210) (hB : (h * 26 + p) * 5 + 4 < 390) (K : Mm → Option (Int32 × Mm)) :
    ∃ σ', fx (fun _ _ => none) FU (f_X1_layCall_L48 K (nI c) (nI h) fz (nI p) (nI s) (nI ((h * 26 + p) * 5))) (nI 0) σ = K σ' ∧ (∀ r, r < 5 → σ'.1 14 ((h * 26 + p) * 5 + r) = σ.1 9 ((c * 7 + s) * 5 + r)) ∧ (∀ j, (j < (h * 26 + p) * 5 ∨ (h * 26 + p) * 5 + 5 ≤ j) → σ'.1 14 j = σ.1 14 j) ∧ Fr [14] σ σ' := by
  obtain ⟨σ', ⟨a1, a2, a3⟩, e⟩ := lqU (F := f_X1_layCall_L48 K (nI c) (nI h) fz (nI p) (nI s) (nI ((h * 26 + p) * 5))) (bot := fun _ _ => none) K 5 (fun n τ => (∀ r, r < n → τ.1 14 ((h * 26 + p) * 5 + r) = σ.1 9 ((c * 7 + s) * 5 + r)) ∧ (∀ j, (j < (h * 26 + p) * 5 ∨ (h * 26 + p) * 5 + 5 ≤ j) → τ.1 14 j = σ.1 14 j) ∧ Fr [14] σ τ) (by
      intro L τ _
      unfold f_X1_layCall_L48
      simp only [qi_0, qi_1, qi_2, qi_3, qi_4, qi_5, qi_6, qi_7, qi_8, qi_9, qi_10, qi_11, qi_12, qi_13, qi_14, qi_15, qi_16, qi_17, qi_19, qi_26, qi_31, qi_32, qi_35, qi_40, qi_42, qi_48, qi_50, qi_57, qi_59, qi_63, qi_64, qi_97, qi_120, qi_122, qi_210, qi_255, qi_511, qi_512, qi_1000, qi_6000, qi_13312, qi_14337, qi_16383, qi_16384, qi_524287]
      rw [i_le (by omega) (by omega)]) (by
      intro L n τ hn ⟨h1, h2, h3⟩
      refine ⟨sI τ 14 ((h * 26 + p) * 5 + n) (σ.1 9 ((c * 7 + s) * 5 + n)), ⟨?_, ?_, h3.sI (by decide)⟩, ?_⟩
      · intro r hr
        by_cases e : r = n
        · rw [e, r_sI0]
        · rw [r_sIj (by omega)]; exact h1 r (by omega)
      · intro j hj
        rw [r_sIj (by omega)]; exact h2 j hj
      · unfold f_X1_layCall_L48
        simp only [qi_0, qi_1, qi_2, qi_3, qi_4, qi_5, qi_6, qi_7, qi_8, qi_9, qi_10, qi_11, qi_12, qi_13, qi_14, qi_15, qi_16, qi_17, qi_19, qi_26, qi_31, qi_32, qi_35, qi_40, qi_42, qi_48, qi_50, qi_57, qi_59, qi_63, qi_64, qi_97, qi_120, qi_122, qi_210, qi_255, qi_511, qi_512, qi_1000, qi_6000, qi_13312, qi_14337, qi_16383, qi_16384, qi_524287]
        rw [i_nle (by omega) (by omega), partOf_eq (by omega), p_bd, nI_add, p_ck _ (by omega) (by omega), p_ix (by omega), p_nm, p_nm, nI_add, h3.r1 9 (by decide)]) FU 0 σ (by omega) (by rw [FU_v]; omega) ⟨fun r hr => by omega, fun _ _ => rfl, Fr.rf _ _⟩
  exact ⟨σ', e, a1, a2, a3⟩
def lyL : List Nat := [14, 15]
theorem layCall_eq {S : Su} {X : Nat → Bool} {c h o fz : Nat} {σ : Mm} (hS : SuV S) (hC : SeC S 7 σ) (hc : c < sK S) (hh : h < 3) (ho : o + fl S X c ≤ 26) (hz : fz < 9223372036854775808) (hX : ∀ k, k < 42 → (fz / 2 ^ k % 2 = 1 ↔ X k = true)) :
    ∃ σ', f_X1_layCall (nI c) (nI h) (nI o) (lN fz) σ = some (nI (o + fl S X c), σ') ∧ (∀ q, q < fl S X c → CdC σ' 14 ((h * 26 + (o + q)) * 5) (shf o (lc S X c q))) ∧ (∀ j, (j < (h * 26 + o) * 5 ∨ (h * 26 + (o + fl S X c)) * 5 ≤ j) → σ'.1 14 j = σ.1 14 j) ∧ Fr lyL σ σ' := by
  have hk6 := hS.1
  obtain ⟨hn1, hn7⟩ := hS.2.1 c hc
  have h8 : σ.1 8 c = nI (sN S c) := hC.2.2.2.1 c hc
  unfold f_X1_layCall
  refine lq2 (F := f_X1_layCall_L7 (nI c) (nI h) (lN fz)) (fun a b τ => ∃ n, n ≤ sN S c ∧ a = nI (o + fps X c n) ∧ b = nI n ∧ (∀ s, s < n → τ.1 15 s = nI (o + fps X c s)) ∧ (∀ q, q < fps X c n → CdC τ 14 ((h * 26 + (o + q)) * 5) (shf o (lcf S X c n q))) ∧ (∀ j, (j < (h * 26 + o) * 5 ∨ (h * 26 + (o + fl S X c)) * 5 ≤ j) → τ.1 14 j = σ.1 14 j) ∧ Fr lyL σ τ) (fun _ b _ => 8 - ix b) (fun out => ∃ σ', out = some (nI (o + fl S X c), σ') ∧ (∀ q, q < fl S X c → CdC σ' 14 ((h * 26 + (o + q)) * 5) (shf o (lc S X c q))) ∧ (∀ j, (j < (h * 26 + o) * 5 ∨ (h * 26 + (o + fl S X c)) * 5 ≤ j) → σ'.1 14 j = σ.1 14 j) ∧ Fr lyL σ σ') ?_ FU (nI o) (0 : Int32) σ ?_ ⟨0, by omega, rfl, rfl, fun s hs => by omega, fun q hq => absurd hq (Nat.not_lt_zero _), fun _ _ => rfl, Fr.rf _ _⟩
  · rintro L a b τ ⟨n, hn, rfl, rfl, g15, g14, gk, gF⟩
    have hfn : fps X c n ≤ fl S X c := fps_le X c hn
    unfold f_X1_layCall_L7
    simp only [qi_0, qi_1, qi_2, qi_3, qi_4, qi_5, qi_6, qi_7, qi_8, qi_9, qi_10, qi_11, qi_12, qi_13, qi_14, qi_15, qi_16, qi_17, qi_19, qi_26, qi_31, qi_32, qi_35, qi_40, qi_42, qi_48, qi_50, qi_57, qi_59, qi_63, qi_64, qi_97, qi_120, qi_122, qi_210, qi_255, qi_511, qi_512, qi_1000, qi_6000, qi_13312, qi_14337, qi_16383, qi_16384, qi_524287]
    rw [p_ck _ (show c < 6 by omega) (by omega), p_ix (a := c) (by omega), gF.r1 8 (by decide), h8]
    by_cases e : sN S c ≤ n
    · right
      have e : n = sN S c := by omega
      subst e
      exact ⟨τ, by rw [i_le (by omega) (Nat.le_refl _)]; rfl, g14, gk, gF⟩
    · left
      have hlt := fps_lt X c n (sN S c) (by omega)
      have hlt2 : fps X c (n + 1) ≤ fl S X c := fps_le X c (by omega)
      have hfl : fl S X c = fps X c (sN S c) := rfl
      have hcd := hC.2.2.2.2.1 c n hc (by omega)
      obtain ⟨v1, v2, v3, v4, v5, v6⟩ := hS.2.2.1 c n hc (by omega)
      rw [i_nle (by omega) (by omega), i_nle (by omega) (by omega), p_ck _ (by omega) (by omega), p_ix (a := n) (by omega), p_nm, pk_mul, nI_add, pk_mul, p_nm]
      obtain ⟨σ1, e1, m1, m2, m3⟩ := lay48 (c := c) (s := n) (h := h) (p := o + fps X c n) (σ := sI τ 15 n (nI (o + fps X c n))) (fz := lN fz) (by omega) (by omega) (fun σ => f_X1_layCall_79 L (nI c) (nI h) (lN fz) (nI (o + fps X c n)) (nI n) (nI ((h * 26 + (o + fps X c n)) * 5)) σ)
      rw [e1]
      have f9 : ∀ j, σ1.1 9 j = σ.1 9 j := fun j => by rw [m3.r1 9 (by decide), r_sI1 (by decide), gF.r1 9 (by decide)]
      have f9' : ∀ j, (sI τ 15 n (nI (o + fps X c n))).1 9 j = σ.1 9 j := fun j => by rw [r_sI1 (by decide), gF.r1 9 (by decide)]
      have f15 : ∀ s, s < n + 1 → σ1.1 15 s = nI (o + fps X c s) := by
        intro s hs
        rw [m3.r1 15 (by decide)]
        by_cases q : s = n
        · rw [q, r_sI0]
        · rw [r_sIj q]; exact g15 s (by omega)
      have f14 : ∀ j, (j < (h * 26 + (o + fps X c n)) * 5 ∨ (h * 26 + (o + fps X c n)) * 5 + 5 ≤ j) → σ1.1 14 j = τ.1 14 j := fun j hj => by rw [m2 j hj, r_sI1 (by decide)]
      have fF : Fr lyL σ σ1 := (gF.sI (by decide)).tr (m3.mo (by intro k hk; simp only [List.mem_singleton] at hk; rw [hk]; decide))
      have hcd9 : CdC σ 9 ((c * 7 + n) * 5) (sC S c n) := hcd
      have hcd1 : CdC σ1 14 ((h * 26 + (o + fps X c n)) * 5) (sC S c n) := CdC_of hcd9 (fun r hr => by rw [m1 r hr, f9'])
      -- the place that an again goes on with
      have h79 : ∃ σ2, f_X1_layCall_79 L (nI c) (nI h) (lN fz) (nI (o + fps X c n)) (nI n) (nI ((h * 26 + (o + fps X c n)) * 5)) σ1 = f_X1_layCall_113 L (nI c) (nI h) (lN fz) (nI (o + fps X c n)) (nI n) σ2 ∧ CdC σ2 14 ((h * 26 + (o + fps X c n)) * 5) (shf o (stf S X c n)) ∧ (∀ j, (j < (h * 26 + (o + fps X c n)) * 5 ∨ (h * 26 + (o + fps X c n)) * 5 + 5 ≤ j) → σ2.1 14 j = σ1.1 14 j) ∧ Fr [14] σ1 σ2 := by
        unfold f_X1_layCall_79
        simp only [qi_0, qi_1, qi_2, qi_3, qi_4, qi_5, qi_6, qi_7, qi_8, qi_9, qi_10, qi_11, qi_12, qi_13, qi_14, qi_15, qi_16, qi_17, qi_19, qi_26, qi_31, qi_32, qi_35, qi_40, qi_42, qi_48, qi_50, qi_57, qi_59, qi_63, qi_64, qi_97, qi_120, qi_122, qi_210, qi_255, qi_511, qi_512, qi_1000, qi_6000, qi_13312, qi_14337, qi_16383, qi_16384, qi_524287]
        rw [p_ck _ (by omega) (by omega), p_ix (by omega), hcd1.1]
        by_cases k6 : sC S c n 0 = 6
        · have g6 := v6 k6
          have c5 := hcd9.2.2.2.2 k6
          rw [i_eq k6, partOf_eq (by omega), p_bd, f9, c5, p_ck _ (by omega) (by omega), nI_add, p_ck _ (by omega) (by omega), p_ix (by omega), p_ix (by omega), f15 _ (by omega), p_nm]
          refine ⟨_, rfl, ?_, fun j hj => r_sIj (by omega), (Fr.rf _ _).sI (by decide)⟩
          refine ⟨by rw [r_sIj (by omega)]; exact hcd1.1, fun a b => absurd b (by show ¬ sC S c n 0 ≤ 4; omega), fun a => absurd a (by show ¬ (sC S c n 0 = 2 ∨ sC S c n 0 = 3 ∨ sC S c n 0 = 4 ∨ sC S c n 0 = 7); omega), fun a => absurd a (by show ¬ sC S c n 0 = 3; omega), fun _ => by rw [r_sI0]; rfl⟩
        · rw [i_ne (by omega) (by omega) k6]
          refine ⟨σ1, rfl, ?_, fun _ _ => rfl, Fr.rf _ _⟩
          obtain ⟨c1, c2, c3, c4, c5⟩ := hcd1
          exact ⟨c1, c2, c3, c4, fun a => absurd a k6⟩
      obtain ⟨σ2, e2, m4, m5, m6⟩ := h79
      rw [e2]
      unfold f_X1_layCall_113 f_X1_layCall_158
      simp only [qi_0, qi_1, qi_2, qi_3, qi_4, qi_5, qi_6, qi_7, qi_8, qi_9, qi_10, qi_11, qi_12, qi_13, qi_14, qi_15, qi_16, qi_17, qi_19, qi_26, qi_31, qi_32, qi_35, qi_40, qi_42, qi_48, qi_50, qi_57, qi_59, qi_63, qi_64, qi_97, qi_120, qi_122, qi_210, qi_255, qi_511, qi_512, qi_1000, qi_6000, qi_13312, qi_14337, qi_16383, qi_16384, qi_524287, ql_0, ql_1, ql_3, ql_4, ql_10, ql_12, ql_13, ql_16, ql_42, ql_157, ql_256, ql_16383, ql_524287, pk_mul, nI_add]
      rw [p_nm]
      have hsh : ((lN fz).toUInt64 >>> ((nI (c * 7 + n)).toInt64.toUInt64 &&& Int64.toUInt64 63)).toInt64 &&& lN 1 = lN (fz / 2 ^ (c * 7 + n) % 2) := by
        rw [sh_am (by omega), ush (by omega) (by omega), l_and1]
      rw [hsh]
      have hcomm : c * 7 + n = 7 * c + n := by omega
      have hXn := hX (c * 7 + n) (by omega)
      have old : ∀ τ2 : Mm, (∀ j, (j < (h * 26 + (o + fps X c n)) * 5 ∨ (h * 26 + (o + fps X c n)) * 5 + 10 ≤ j) → τ2.1 14 j = τ.1 14 j) → ∀ q, q < fps X c n → CdC τ2 14 ((h * 26 + (o + q)) * 5) (shf o (lcf S X c (n + 1) q)) := by
        intro τ2 ht q hq
        rw [lcf_keep S X c n (n + 1) q (by omega) hq]
        exact CdC_of (g14 q hq) (fun r hr => ht _ (by omega))
      by_cases fx1 : X (7 * c + n) = true
      · have hfs : fps X c (n + 1) = fps X c n + 2 := by rw [fps, if_pos fx1]
        rw [if_pos (show lg_cmp (lN (fz / 2 ^ (c * 7 + n) % 2)) (lN 1) = nI 0 by rw [lc_eq, hXn.mpr (by rw [hcomm]; exact fx1)])]
        rw [i_nle (by omega) (by omega), nI_add, pk_mul, p_ck _ (by omega) (by omega), p_ix (by omega), p_nm, nI_add, p_nm, p_nm]
        refine ⟨nI (o + fps X c (n + 1)), nI (n + 1), sI σ2 14 ((h * 26 + (o + fps X c n + 1)) * 5) (nI 5), ⟨n + 1, by omega, rfl, rfl, ?_, ?_, ?_, ?_⟩, ?_, ?_⟩
        · intro s hs
          rw [r_sI1 (by decide), m6.r1 15 (by decide)]; exact f15 s hs
        · intro q hq
          rw [hfs] at hq
          by_cases q1 : q < fps X c n
          · exact old _ (fun j hj => by rw [r_sIj (by omega), m5 j (by omega), f14 j (by omega)]) q q1
          · by_cases q2 : q = fps X c n
            · have hf : lcf S X c (n + 1) q = stf S X c n := by
                funext r
                show (if q = fps X c n then _ else _) = _
                rw [if_pos q2]
              rw [hf, q2]
              exact CdC_of m4 (fun r hr => r_sIj (by omega))
            · have q3 : q = fps X c n + 1 := by omega
              have hf : lcf S X c (n + 1) q = fun r => if r = 0 then 5 else 0 := by
                funext r
                show (if q = fps X c n then _ else if q = fps X c n + 1 then _ else _) = _
                rw [if_neg q2, if_pos q3]
              rw [hf, q3]
              refine ⟨by rw [show o + (fps X c n + 1) = o + fps X c n + 1 by omega, r_sI0]; rfl, fun _ b => absurd b (by show ¬ (5 : Nat) ≤ 4; omega), fun a => absurd a (by show ¬ ((5 : Nat) = 2 ∨ (5 : Nat) = 3 ∨ (5 : Nat) = 4 ∨ (5 : Nat) = 7); omega), fun a => absurd a (by show ¬ (5 : Nat) = 3; omega), fun a => absurd a (by show ¬ (5 : Nat) = 6; omega)⟩
        · intro j hj
          rw [r_sIj (by omega), m5 j (by omega), f14 j (by omega)]; exact gk j hj
        · exact (fF.tr (m6.mo (by intro k hk; simp only [List.mem_singleton] at hk; rw [hk]; decide))).sI (by decide)
        · rw [p_ix (by omega)]; omega
        · rw [hfs, show o + fps X c n + 1 + 1 = o + (fps X c n + 2) by omega]
      · have hfs : fps X c (n + 1) = fps X c n + 1 := by rw [fps, if_neg fx1]
        rw [if_neg (show ¬ lg_cmp (lN (fz / 2 ^ (c * 7 + n) % 2)) (lN 1) = nI 0 by
          rw [lc_eq, pk_lEQ (by omega) (by omega)]
          exact fun q => fx1 (by rw [← hcomm]; exact hXn.mp q))]
        rw [p_nm]
        refine ⟨nI (o + fps X c (n + 1)), nI (n + 1), σ2, ⟨n + 1, by omega, rfl, rfl, ?_, ?_, ?_, ?_⟩, ?_, ?_⟩
        · intro s hs
          rw [m6.r1 15 (by decide)]; exact f15 s hs
        · intro q hq
          rw [hfs] at hq
          by_cases q1 : q < fps X c n
          · exact old _ (fun j hj => by rw [m5 j (by omega), f14 j (by omega)]) q q1
          · have q2 : q = fps X c n := by omega
            have hf : lcf S X c (n + 1) q = stf S X c n := by
              funext r
              show (if q = fps X c n then _ else _) = _
              rw [if_pos q2]
            rw [hf, q2]
            exact m4
        · intro j hj
          rw [m5 j (by omega), f14 j (by omega)]; exact gk j hj
        · exact fF.tr (m6.mo (by intro k hk; simp only [List.mem_singleton] at hk; rw [hk]; decide))
        · rw [p_ix (by omega)]; omega
        · rw [hfs, show o + fps X c n + 1 = o + (fps X c n + 1) by omega]
  · show 8 - ix (nI 0) < FU
    rw [p_ix (by omega), FU_v]; omega
