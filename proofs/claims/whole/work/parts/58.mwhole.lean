/-! PURE: a whole call in the reference -/
theorem nI_dec {a : Nat} (h : 1 ≤ a) : nI a + -nI 1 = nI (a - 1) := by
  obtain ⟨b, rfl⟩ : ∃ b, a = b + 1 := ⟨a - 1, by omega⟩
  rw [dn_n, ← nI_add, Int32.sub_eq_add_neg, Int32.add_assoc, Int32.add_right_neg, Int32.add_zero, Nat.add_sub_cancel]
theorem wholeCall_eq {S : Su} {X : Nat → Bool} {P : Pg} {c h o x y : Nat} {σ : Mm} (hS : SuV S) (hFX : FX S X) (hc : c < sK S) (hP : PgV P) (hX : PgX P) (hL : LdM P σ) (hh : h < 3) (hhP : h < pH P) (hV : VS P x) (hA : AV (fl S X c) y) (hp : pl (hd y 0) < fl S X c) (ho : o + fl S X c ≤ 26) (hN : o + fl S X c ≤ pN P h) (hC : ∀ p, p < fl S X c → pC P h (o + p) = shf o (lc S X c p)) (h0 : of0 P h o = o) (hb0 : bl P h o = fl S X c) (hM : MR P σ (Uq h o x y)) :
    ∃ r σ', f_X11_wholeCall (nI h) σ = some (r, σ') ∧ ((rn (gQ S X c) (tQ S X c) 13312 y = none ∧ r = nI 0) ∨ ∃ z, rn (gQ S X c) (tQ S X c) 13312 y = some z ∧ r = nI 1 ∧ MR P σ' (Uq h o x z)) ∧ (∀ j, j ≠ 47 → σ'.1 48 j = σ.1 48 j) ∧ Fr mL σ σ' := by
  have hfl := hFX c hc
  have hx := hV.1
  have hPS := (hP.2.2.1 h hh).1
  have way := alone_way hS hFX hc hA hp
  have aend := fun i => alone_end (i := i) hS hFX hc hA hp
  have hcO2 := cO_le (P := P) h o
  have nxO : ∀ p, p ≤ fl S X c → cO P h (o + p) = if p = fl S X c then cO P h o + 1 else cO P h o := by
    intro p hp'
    obtain ⟨n1, n2⟩ := cO_next (p := o) (q := o + p) hX hhP hPS (by omega) (by omega) (by omega)
    rw [h0, hb0] at n1 n2
    by_cases e : p = fl S X c
    · rw [if_pos e]; exact (n1 (by omega)).1
    · rw [if_neg e]; exact (n2 (by omega)).1
  have h75 : ∀ (τ : Mm) (z : Nat), AV (fl S X c) z → MR P τ (Uq h o x z) → τ.1 75 h = nI (if pl (hd z 0) = fl S X c then cO P h o + 1 else cO P h o) := by
    intro τ z hz hMz
    obtain ⟨hpl, k, a, b, hk, h1, h2, hy⟩ := AV_hd hfl hz
    have := (hMz.2 h hhP).1
    rw [Uq_hd hh (by omega), pl_mkw (by omega), nxO _ hpl] at this
    exact this
  have hst : σ.1 75 h = nI (cO P h o) := by
    rw [h75 σ y hA hM, if_neg (by omega)]
  unfold f_X11_wholeCall
  simp only [qi_0, qi_1, qi_2, qi_3, qi_4, qi_5, qi_6, qi_7, qi_8, qi_9, qi_10, qi_11, qi_12, qi_13, qi_14, qi_15, qi_16, qi_17, qi_19, qi_26, qi_31, qi_32, qi_35, qi_40, qi_42, qi_48, qi_50, qi_57, qi_59, qi_63, qi_64, qi_97, qi_120, qi_122, qi_210, qi_255, qi_511, qi_512, qi_1000, qi_6000, qi_13312, qi_14337, qi_16383, qi_16384, qi_524287]
  rw [p_ck _ hh (by omega), p_ix (a := h) (by omega), p_nm, hst]
  have e13 := alone_bound (m := 14337) hS hFX hc hA hp (by omega)
  rw [← e13]
  refine lq1 (F := f_X11_wholeCall_L11 (fun (σ : Mm) => f_X11_wholeCall_37 (nI h) (nI (cO P h o)) σ) (nI h) (nI (cO P h o))) (fun a τ => ∃ i, i ≤ 14337 ∧ a = nI (14337 - i) ∧ AV (fl S X c) (itr (gQ S X c) i y) ∧ MR P τ (Uq h o x (itr (gQ S X c) i y)) ∧ (∀ j, 1 ≤ j → j < i → tQ S X c (itr (gQ S X c) j y) = false) ∧ (∀ j, j ≠ 47 → τ.1 48 j = σ.1 48 j) ∧ Fr mL σ τ) (fun a _ => ix a) (fun out => ∃ r σ', out = some (r, σ') ∧ ((rn (gQ S X c) (tQ S X c) 14337 y = none ∧ r = nI 0) ∨ ∃ z, rn (gQ S X c) (tQ S X c) 14337 y = some z ∧ r = nI 1 ∧ MR P σ' (Uq h o x z)) ∧ (∀ j, j ≠ 47 → σ'.1 48 j = σ.1 48 j) ∧ Fr mL σ σ') ?_ FU (nI 14337) σ ?_ ⟨0, by omega, rfl, hA, hM, fun j h1 h2 => by omega, fun j _ => rfl, Fr.rf _ _⟩
  · rintro L a τ ⟨i, hi, rfl, uA, uM, uT, uJ, uF⟩
    have hu := h75 τ _ uA uM
    unfold f_X11_wholeCall_L11 f_X11_wholeCall_37
    simp only [qi_0, qi_1, qi_2, qi_3, qi_4, qi_5, qi_6, qi_7, qi_8, qi_9, qi_10, qi_11, qi_12, qi_13, qi_14, qi_15, qi_16, qi_17, qi_19, qi_26, qi_31, qi_32, qi_35, qi_40, qi_42, qi_48, qi_50, qi_57, qi_59, qi_63, qi_64, qi_97, qi_120, qi_122, qi_210, qi_255, qi_511, qi_512, qi_1000, qi_6000, qi_13312, qi_14337, qi_16383, qi_16384, qi_524287]
    rw [p_ck _ hh (by omega), p_ix (a := h) (by omega), hu]
    by_cases ce : pl (hd (itr (gQ S X c) i y) 0) = fl S X c
    · right
      have hi1 : 1 ≤ i := by
        apply Nat.not_lt.mp
        intro q
        have : i = 0 := by omega
        subst this
        have ce : pl (hd y 0) = fl S X c := ce
        omega
      rw [if_pos ce, i_ne (by omega) (by omega) (by omega), p_ck _ hh (by omega), i_nle (by omega) (by omega), p_cb1]
      exact ⟨nI 1, τ, rfl, Or.inr ⟨_, rn_some 14337 y i hi1 hi (decide_eq_true (by omega)) uT, rfl, uM⟩, uJ, uF⟩
    · obtain ⟨hpl, _⟩ := AV_hd hfl uA
      have hT' : ∀ j, 1 ≤ j → j ≤ i → tQ S X c (itr (gQ S X c) j y) = false := by
        intro j h1 h2
        by_cases ej : j = i
        · rw [ej]; exact decide_eq_false (by omega)
        · exact uT j h1 (by omega)
      rw [if_neg ce, i_eq rfl]
      by_cases c14 : i = 14337
      · right
        rw [i_le (by omega) (by omega), p_ck _ hh (by omega), i_le (by omega) (Nat.le_refl _), p_cb0]
        exact ⟨nI 0, τ, rfl, Or.inl ⟨rn_none 14337 y (fun j h1 h2 => hT' j h1 (by omega)), rfl⟩, uJ, uF⟩
      · left
        obtain ⟨a1, a2⟩ := way i hT'
        obtain ⟨s1, s2, s3⟩ := alone_step (P := P) hS hFX hc hh hx a1 a2 ho hN hC
        have hVi := VS_Uq hh hhP hfl ho hN hV a1
        have hLu : LdM P τ := LdM_of hL (uJ 7 (by decide)) (uF.r1 55 (by decide)) (uF.r1 56 (by decide)) (uF.r1 66 (by decide)) (uF.r1 67 (by decide)) (uF.r1 68 (by decide)) (uF.r1 69 (by decide)) (uF.r1 70 (by decide)) (uF.r1 71 (by decide))
        obtain ⟨τ', f1, f2, _, f4, f5⟩ := stepsOn_eq (lt := 0) hP hX hLu hVi uM hhP (by omega) s1
        rw [i_nle (by omega) (by omega), f1, p_bd, nI_dec (by omega), p_nm]
        refine ⟨nI (14337 - i - 1), τ', ⟨i + 1, by omega, by rw [show 14337 - (i + 1) = 14337 - i - 1 by omega], by rw [itr_s]; exact s3, by rw [itr_s]; exact f2, fun j h1 h2 => hT' j h1 (by omega), fun j hj => by rw [f4 j hj]; exact uJ j hj, uF.tr f5⟩, ?_, rfl⟩
        rw [p_ix (by omega), p_ix (by omega)]; omega
  · rw [p_ix (by omega), FU_v]; omega
