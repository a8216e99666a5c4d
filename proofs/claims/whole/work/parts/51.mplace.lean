/-! PURE: the reference finds a state's place -/
theorem l_and (u : Int64) (k : Nat) (hk : k ≤ 64) : u &&& lN (2 ^ k - 1) = lN (u.toBitVec.toNat % 2 ^ k) := by
  have hu : u = lN u.toBitVec.toNat := by
    apply Int64.toBitVec_inj.1
    show u.toBitVec = BitVec.ofNat 64 u.toBitVec.toNat
    rw [BitVec.ofNat_toNat, BitVec.setWidth_eq]
  conv => lhs; rw [hu]
  apply Int64.toBitVec_inj.1
  show BitVec.ofNat 64 u.toBitVec.toNat &&& BitVec.ofNat 64 (2 ^ k - 1) = BitVec.ofNat 64 (u.toBitVec.toNat % 2 ^ k)
  rw [← BitVec.ofNat_and, Nat.and_two_pow_sub_one_eq_mod]
def hsR (z : Nat) : Nat := ((lN z ^^^ (lN z >>> ((17 : Int32).toInt64 &&& 63))) ^^^ (lN z >>> ((35 : Int32).toInt64 &&& 63))).toBitVec.toNat % 16384
theorem hsR_lt (z : Nat) : hsR z < 16384 := Nat.mod_lt _ (by decide)
theorem hsR_eq (z : Nat) : (((lN z ^^^ (lN z >>> ((17 : Int32).toInt64 &&& 63))) ^^^ (lN z >>> ((35 : Int32).toInt64 &&& 63))) &&& (16383 : Int64)).toInt32 = nI (hsR z) := by
  have e : (16383 : Int64) = lN (2 ^ 14 - 1) := rfl
  rw [e, l_and _ 14 (by omega), lN_i]
  rfl
def occM (σ : Mm) (s : Nat) : Option Nat := if σ.1 85 s = nI 0 then none else some (ix (σ.1 85 s) - 1)
def PlR (σ : Mm) : Prop := ∀ s, s < 16384 → ∃ v, v ≤ 6001 ∧ σ.1 85 s = nI v
def hsP (P : Pg) (y : Nat) : Nat := hsR (pm P y (pH P))
def TuM (P : Pg) (n : Nat) (F D : Nat → Nat) (σ : Mm) : Prop := n ≤ 6001 ∧ σ.1 48 50 = nI n ∧ (∀ j, j < n → σ.2 82 j = lN (pm P (F j) (pH P)) ∧ σ.1 84 j = nI (D j)) ∧ PlR σ ∧ HT (occM σ) (hsP P) F n
theorem TuM_of {P : Pg} {n : Nat} {F D : Nat → Nat} {σ τ : Mm} (h : TuM P n F D σ) (e50 : τ.1 48 50 = σ.1 48 50) (e82 : τ.2 82 = σ.2 82) (e84 : τ.1 84 = σ.1 84) (e85 : τ.1 85 = σ.1 85) : TuM P n F D τ := by
  have e : occM τ = occM σ := by
    funext s
    unfold occM
    rw [e85]
  obtain ⟨t1, t2, t3, t4, t5⟩ := h
  refine ⟨t1, by rw [e50]; exact t2, fun j hj => by rw [e82, e84]; exact t3 j hj, fun s hs => by rw [e85]; exact t4 s hs, by rw [e]; exact t5⟩
def incM (σ : Mm) (n s : Nat) (z : Int64) (d : Int32) : Mm := sI (sI (sI (sL σ 82 n z) 84 n d) 48 50 (nI (n + 1))) 85 s (nI (n + 1))
theorem TuM_inc {P : Pg} {σ : Mm} {n t y dd : Nat} {F D : Nat → Nat} (hT : TuM P n F D σ) (hn : n < 6001) (hb : ∀ t', t' < t → occM σ ((hsP P y + t') % 16384) ≠ none) (ht : t < 16384) (ho : occM σ ((hsP P y + t) % 16384) = none) : TuM P (n + 1) (upq F n y) (upq D n dd) (incM σ n ((hsP P y + t) % 16384) (lN (pm P y (pH P))) (nI dd)) := by
  obtain ⟨_, h1, h2, h3, h4⟩ := hT
  have hs : (hsP P y + t) % 16384 < 16384 := Nat.mod_lt _ (by decide)
  generalize hsd : (hsP P y + t) % 16384 = s at *
  have e85 : ∀ q, (incM σ n s (lN (pm P y (pH P))) (nI dd)).1 85 q = if q = s then nI (n + 1) else σ.1 85 q := by
    intro q
    unfold incM
    by_cases c : q = s
    · rw [if_pos c, c, r_sI0]
    · rw [if_neg c, r_sIj c, r_sI1 (by decide), r_sI1 (by decide), r_sL1]
  refine ⟨by omega, by unfold incM; rw [r_sI1 (by decide), r_sI0], fun j hj => ?_, fun q hq => ?_, ?_⟩
  · unfold incM
    rw [r_sI2, r_sI2, r_sI2, r_sI1 (by decide), r_sI1 (by decide)]
    by_cases c : j = n
    · rw [c, r_sL0, r_sI0, upq_s, upq_s]; exact ⟨rfl, rfl⟩
    · rw [r_sLj c, r_sIj c, r_sL1, upq_n c, upq_n c]; exact h2 j (by omega)
  · rw [e85]
    by_cases c : q = s
    · rw [if_pos c]; exact ⟨n + 1, by omega, rfl⟩
    · rw [if_neg c]; exact h3 q hq
  · rw [← hsd] at hs ho
    refine HT_put (t := t) (y := y) h4 hb ht ho ?_ ?_ (fun j hj => upq_n (by omega)) upq_s
    · rw [hsd]
      unfold occM
      rw [e85, if_pos rfl, p_ix (by omega), if_neg (fun q => by have := (nI_eq (by omega) (by omega)).mp q; omega)]
      rfl
    · intro q hq hne
      rw [hsd] at hne
      unfold occM
      rw [e85, if_neg hne]
theorem placeOf_eq {P : Pg} {σ : Mm} {n y dd : Nat} {F D : Nat → Nat} (hX : PgX P) (hP : PgV P) (hT : TuM P n F D σ) (hn : n < 6001) (hy : VS P y) (hF : ∀ j, j < n → VS P (F j)) :
    (∃ j, idx F y n ≠ none ∧ j < n ∧ F j = y ∧ f_X11_placeOf (lN (pm P y (pH P))) (nI dd) σ = some (nI j, σ)) ∨
    (idx F y n = none ∧ ∃ s, f_X11_placeOf (lN (pm P y (pH P))) (nI dd) σ = some (nI n, incM σ n s (lN (pm P y (pH P))) (nI dd)) ∧ TuM P (n + 1) (upq F n y) (upq D n dd) (incM σ n s (lN (pm P y (pH P))) (nI dd))) := by
  have hT0 := hT
  obtain ⟨_, h1, h2, h3, h4⟩ := hT
  obtain ⟨t, ht, hbf, hend⟩ := HT_probe h4 (by omega) y
  have hm : ∀ t, (hsP P y + t) % 16384 < 16384 := fun t => Nat.mod_lt _ (by decide)
  have hhs : hsP P y < 16384 := hsR_lt _
  have p63 : ∀ z, VS P z → pm P z (pH P) < 9223372036854775808 := fun z hz => by have := pm_63 hX hP hz (Nat.le_refl _); omega
  have hcmp : ∀ j, j < n → (lg_cmp (lN (pm P (F j) (pH P))) (lN (pm P y (pH P))) = nI 0) = (F j = y) := by
    intro j hj
    rw [lc_eq, pk_lEQ (by have := p63 _ (hF j hj); omega) (by have := p63 _ hy; omega)]
    apply propext
    exact ⟨fun e => pm_inj hX hP (hF j hj) hy e, fun e => by rw [e]⟩
  have hocc : ∀ s, s < 16384 → ∀ j, occM σ s = some j → j < n → σ.1 85 s = nI (j + 1) := by
    intro s hs j ho hj
    obtain ⟨v, hv, hq⟩ := h3 s hs
    unfold occM at ho
    rw [hq] at ho ⊢
    split at ho
    · cases ho
    · rename_i hne
      rw [p_ix (by omega)] at ho
      simp only [Option.some.injEq] at ho
      have hv0 : v ≠ 0 := fun e => hne (by rw [e])
      rw [show v = j + 1 by omega]
  have hu : ∀ (Q : Option (Int32 × Mm) → Prop) (K : Int32 → Mm → Option (Int32 × Mm)), Q (K (nI ((hsP P y + t) % 16384)) σ) → (∀ L, f_X11_placeOf_L18 K (lN (pm P y (pH P))) (nI dd) L (nI ((hsP P y + t) % 16384)) σ = K (nI ((hsP P y + t) % 16384)) σ) → Q (fx (fun _ _ => none) FU (f_X11_placeOf_L18 K (lN (pm P y (pH P))) (nI dd)) (nI (hsP P y)) σ) := by
    intro Q K hQ hLs
    refine lq1 (F := f_X11_placeOf_L18 K (lN (pm P y (pH P))) (nI dd)) (fun a τ => ∃ u, u ≤ t ∧ a = nI ((hsP P y + u) % 16384) ∧ τ = σ) (fun a _ => t - (ix a + 16384 - hsP P y) % 16384) Q ?_ FU _ σ ?_ ⟨0, by omega, by rw [Nat.add_zero, Nat.mod_eq_of_lt hhs], rfl⟩
    · rintro L a τ ⟨u, hu, rfl, rfl⟩
      by_cases c : u = t
      · right; subst c; rw [hLs]; exact hQ
      · left
        obtain ⟨j, hj, ho, hf⟩ := hbf u (by omega)
        have hmu := hm u
        have h85 := hocc _ hmu j ho hj
        refine ⟨nI ((hsP P y + (u + 1)) % 16384), τ, ⟨u + 1, by omega, rfl, rfl⟩, ?_, ?_⟩
        · rw [p_ix (by omega), p_ix (by omega)]; omega
        · unfold f_X11_placeOf_L18
          simp only [qi_0, qi_1, qi_2, qi_3, qi_4, qi_5, qi_6, qi_7, qi_8, qi_9, qi_10, qi_11, qi_12, qi_13, qi_14, qi_15, qi_16, qi_17, qi_19, qi_26, qi_31, qi_32, qi_35, qi_40, qi_42, qi_48, qi_50, qi_57, qi_59, qi_63, qi_64, qi_97, qi_120, qi_122, qi_210, qi_255, qi_511, qi_512, qi_1000, qi_6000, qi_13312, qi_14337, qi_16383, qi_16384, qi_524287]
          rw [p_ck _ hmu (by omega), p_ix (by omega), h85, i_ne (by omega) (by omega) (by omega), p_ck _ hmu (by omega), pk_sub (by omega), show j + 1 - 1 = j by omega, p_ck _ (by omega) (by omega), p_ix (by omega), (h2 j hj).1, if_neg (show ¬ lg_cmp (lN (pm P (F j) (pH P))) (lN (pm P y (pH P))) = nI 0 by rw [hcmp j hj]; exact hf), nI_add, and_16383, p_nm]
          congr 2
          omega
    · rw [p_ix (by omega), FU_v]; omega
  have hmt := hm t
  unfold f_X11_placeOf
  rw [p_nm, hsR_eq, show hsR (pm P y (pH P)) = hsP P y from rfl]
  rcases hend with ⟨ho, hi⟩ | ⟨j, hj, ho, hf⟩
  · right
    refine ⟨hi, (hsP P y + t) % 16384, ?_, ?_⟩
    · have h85 : σ.1 85 ((hsP P y + t) % 16384) = nI 0 := by
        unfold occM at ho
        split at ho
        · assumption
        · cases ho
      refine hu (fun o => o = some (nI n, incM σ n ((hsP P y + t) % 16384) (lN (pm P y (pH P))) (nI dd))) (fun (xq4 : Int32) (σ : Mm) => f_X11_placeOf_60 (lN (pm P y (pH P))) (nI dd) xq4 σ) ?_ (fun L => ?_)
      · show f_X11_placeOf_60 (lN (pm P y (pH P))) (nI dd) (nI ((hsP P y + t) % 16384)) σ = _
        unfold f_X11_placeOf_60 incM
        simp only [qi_0, qi_1, qi_2, qi_3, qi_4, qi_5, qi_6, qi_7, qi_8, qi_9, qi_10, qi_11, qi_12, qi_13, qi_14, qi_15, qi_16, qi_17, qi_19, qi_26, qi_31, qi_32, qi_35, qi_40, qi_42, qi_48, qi_50, qi_57, qi_59, qi_63, qi_64, qi_97, qi_120, qi_122, qi_210, qi_255, qi_511, qi_512, qi_1000, qi_6000, qi_13312, qi_14337, qi_16383, qi_16384, qi_524287]
        rw [p_ck _ hmt (by omega), p_ix (a := (hsP P y + t) % 16384) (by omega), h85, i_eq rfl, h1, p_ck _ (by omega) (by omega), p_ix (a := n) (by omega), p_nm, r_sL1, h1, p_ck _ (by omega) (by omega), p_ix (a := n) (by omega), p_nm, r_sI1 (by decide), r_sL1, h1, nI_add, p_nm, p_ck _ hmt (by omega), r_sI0, p_nm, p_ck _ hmt (by omega), r_sI0, pk_sub (by omega)]
        rfl
      · unfold f_X11_placeOf_L18
        simp only [qi_0, qi_1, qi_2, qi_3, qi_4, qi_5, qi_6, qi_7, qi_8, qi_9, qi_10, qi_11, qi_12, qi_13, qi_14, qi_15, qi_16, qi_17, qi_19, qi_26, qi_31, qi_32, qi_35, qi_40, qi_42, qi_48, qi_50, qi_57, qi_59, qi_63, qi_64, qi_97, qi_120, qi_122, qi_210, qi_255, qi_511, qi_512, qi_1000, qi_6000, qi_13312, qi_14337, qi_16383, qi_16384, qi_524287]
        rw [p_ck _ hmt (by omega), p_ix (by omega), h85, i_eq rfl]
    · refine TuM_inc hT0 hn (fun t' ht' => ?_) ht ho
      obtain ⟨j, hj, hj2, _⟩ := hbf t' ht'
      rw [hj2]; intro q; cases q
  · left
    refine ⟨j, fun q => idx_none q j hj hf, hj, hf, ?_⟩
    have h85 := hocc _ hmt j ho hj
    refine hu (fun o => o = some (nI j, σ)) (fun (xq4 : Int32) (σ : Mm) => f_X11_placeOf_60 (lN (pm P y (pH P))) (nI dd) xq4 σ) ?_ (fun L => ?_)
    · show f_X11_placeOf_60 (lN (pm P y (pH P))) (nI dd) (nI ((hsP P y + t) % 16384)) σ = _
      unfold f_X11_placeOf_60
      simp only [qi_0, qi_1, qi_2, qi_3, qi_4, qi_5, qi_6, qi_7, qi_8, qi_9, qi_10, qi_11, qi_12, qi_13, qi_14, qi_15, qi_16, qi_17, qi_19, qi_26, qi_31, qi_32, qi_35, qi_40, qi_42, qi_48, qi_50, qi_57, qi_59, qi_63, qi_64, qi_97, qi_120, qi_122, qi_210, qi_255, qi_511, qi_512, qi_1000, qi_6000, qi_13312, qi_14337, qi_16383, qi_16384, qi_524287]
      rw [p_ck _ hmt (by omega), p_ix (a := (hsP P y + t) % 16384) (by omega), h85, i_ne (by omega) (by omega) (by omega), p_ck _ hmt (by omega), pk_sub (by omega)]
      rfl
    · unfold f_X11_placeOf_L18
      simp only [qi_0, qi_1, qi_2, qi_3, qi_4, qi_5, qi_6, qi_7, qi_8, qi_9, qi_10, qi_11, qi_12, qi_13, qi_14, qi_15, qi_16, qi_17, qi_19, qi_26, qi_31, qi_32, qi_35, qi_40, qi_42, qi_48, qi_50, qi_57, qi_59, qi_63, qi_64, qi_97, qi_120, qi_122, qi_210, qi_255, qi_511, qi_512, qi_1000, qi_6000, qi_13312, qi_14337, qi_16383, qi_16384, qi_524287]
      rw [p_ck _ hmt (by omega), p_ix (by omega), h85, i_ne (by omega) (by omega) (by omega), p_ck _ hmt (by omega), pk_sub (by omega), show j + 1 - 1 = j by omega, p_ck _ (by omega) (by omega), p_ix (by omega), (h2 j hj).1, if_pos (show lg_cmp (lN (pm P (F j) (pH P))) (lN (pm P y (pH P))) = nI 0 by rw [hcmp j hj]; exact hf)]
