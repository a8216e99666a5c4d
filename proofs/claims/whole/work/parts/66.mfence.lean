/-! PURE: the fewest fences in the reference -/
def fcI (o : Option (Option Nat)) : Int32 := match o with
  | none => -1000000004
  | some none => -1000000007
  | some (some k) => nI k
def fdO (o : Option (Option Nat)) (σ : Mm) : Mm := match o with
  | none => fd σ 3
  | some none => fd σ 6
  | some (some _) => σ
theorem fcI_n : fcI none = -1000000004 := (rfl)
theorem fcI_sn : fcI (some none) = -1000000007 := (rfl)
theorem fcI_ss (k : Nat) : fcI (some (some k)) = nI k := (rfl)
theorem fdO_n (σ : Mm) : fdO none σ = fd σ 3 := (rfl)
theorem fdO_sn (σ : Mm) : fdO (some none) σ = fd σ 6 := (rfl)
theorem fdO_ss (k : Nat) (σ : Mm) : fdO (some (some k)) σ = σ := (rfl)
theorem m7_ne {k : Nat} (hk : k < 64) : ¬ nI k = (-1000000007 : Int32) := co_dec (N := 64) (P := fun k => ¬ nI k = (-1000000007 : Int32)) (by decide +kernel) hk
theorem fnn_s (S : Su) (W : List Nat) (n k : Nat) (h : fnn S W n k = none) : fnn S W n (k + 1) = if ones k = n then rsF S W k else none := by
  rw [fnn, h]
theorem fot_s (S : Su) (W : List Nat) (n : Nat) (h : fot S W n = none) : fot S W (n + 1) = fnn S W n (2 ^ W.length) := by
  rw [fot, h]
theorem bwA_1 {S : Su} {W : List Nat} {k : Nat} (h : rsF S W k = none) : bwA S (XF W k) = nI 1 := by
  unfold rsF trF at h
  unfold bwA
  by_cases hb : big (PgOf S (XF W k)) = true
  · rw [if_pos hb, if_pos rfl] at h; cases h
  · rw [if_neg hb] at h ⊢
    by_cases hl : lbd (ords S noX) (ends (PgOf S (XF W k))) = none
    · rw [if_pos hl, if_neg (by decide), if_pos rfl] at h; cases h
    · rw [if_neg (fun q => hl ((lbd_cbd _ _).mpr q))]
theorem bwA_s {S : Su} {W : List Nat} {k : Nat} {r : Option Nat} (h : rsF S W k = some r) : (r = none ∧ bwA S (XF W k) = (-1000000007 : Int32)) ∨ (r = some k ∧ bwA S (XF W k) = nI 0) := by
  unfold rsF trF at h
  unfold bwA
  by_cases hb : big (PgOf S (XF W k)) = true
  · rw [if_pos hb, if_pos rfl] at h
    left
    rw [if_pos hb]
    exact ⟨(Option.some.inj h).symm, rfl⟩
  · rw [if_neg hb] at h ⊢
    by_cases hl : lbd (ords S noX) (ends (PgOf S (XF W k))) = none
    · rw [if_pos hl, if_neg (by decide), if_pos rfl] at h
      right
      rw [if_pos ((lbd_cbd _ _).mp hl)]
      exact ⟨(Option.some.inj h).symm, rfl⟩
    · rw [if_neg hl, if_neg (by decide), if_neg (by decide)] at h; cases h
theorem WrM_la {W : List Nat} {σ τ : Mm} (h : WrM W σ) (hF : Fr laL σ τ) (hK : K7 σ τ) : WrM W τ := by
  unfold WrM at *
  rw [hK 37 (by decide) (by decide) (by decide) (by decide), hF.r1 72 (by decide)]
  exact h
theorem SeM_7 {S : Su} {σ τ : Mm} (h : SeM S σ) (hF : Fr laL σ τ) (hK : K7 σ τ) : SeM S τ := SeM_la h hF (fun j j1 _ _ j4 j5 j6 => hK j j1 j4 j5 j6)
/-- sets with n fences -/
theorem mset_eq {S : Su} {W : List Nat} {n : Nat} {σ τ : Mm} (hS : SuV S) (hC : SeM S σ) (hW : Wok W 42) (hM : WrM W σ) (hn' : n ≤ W.length) (hF : Fr laL σ τ) (hK : K7 σ τ) (K : Mm → Option (Int32 × Mm)) :
    ∃ τ', K7 σ τ' ∧ Fr laL σ τ' ∧ fx (fun _ _ => none) FU (f_X11_fences_L21 (fun (xq2 : Int32) (xq3 : Int32) (σ : Mm) => f_X11_fences_53 xq2 xq3 σ) K (nI n)) (nI 0) τ = (match fnn S W n (2 ^ W.length) with
      | none => K τ'
      | some r => some (fcI (some r), fdO (some r) τ')) := by
  have h6 := hW.1
  have h64 := p2_64 h6
  refine lq1 (F := f_X11_fences_L21 (fun (xq2 : Int32) (xq3 : Int32) (σ : Mm) => f_X11_fences_53 xq2 xq3 σ) K (nI n)) (fun a υ => ∃ k, k ≤ 2 ^ W.length ∧ a = nI k ∧ fnn S W n k = none ∧ K7 σ υ ∧ Fr laL σ υ) (fun a _ => 65 - ix a) (fun o => ∃ τ', K7 σ τ' ∧ Fr laL σ τ' ∧ o = (match fnn S W n (2 ^ W.length) with
      | none => K τ'
      | some r => some (fcI (some r), fdO (some r) τ'))) ?_ FU (nI 0) τ ?_ ⟨0, Nat.zero_le _, rfl, by rw [fnn], hK, hF⟩
  · rintro L a υ ⟨k, hk, rfl, hno, uK, uF⟩
    have hMu := WrM_la hM uF uK
    unfold f_X11_fences_L21 f_X11_fences_72 f_X11_fences_53
    simp only [qi_0, qi_1, qi_2, qi_3, qi_4, qi_5, qi_6, qi_7, qi_8, qi_9, qi_10, qi_11, qi_12, qi_13, qi_14, qi_15, qi_16, qi_17, qi_19, qi_26, qi_31, qi_32, qi_35, qi_40, qi_42, qi_48, qi_50, qi_57, qi_59, qi_63, qi_64, qi_97, qi_120, qi_122, qi_210, qi_255, qi_511, qi_512, qi_1000, qi_6000, qi_13312, qi_14337, qi_16383, qi_16384, qi_524287]
    rw [hMu.1, shl1 (by omega)]
    by_cases c : 2 ^ W.length ≤ k
    · right
      have e : k = 2 ^ W.length := by omega
      rw [i_le (by omega) c, ← e, hno]
      exact ⟨υ, uK, uF, rfl⟩
    · rw [i_nle (by omega) (by omega), mones_eq (by omega), p_bd]
      have hs := fnn_s S W n k hno
      by_cases c1 : ones k = n
      · rw [if_pos c1] at hs
        obtain ⟨υ', b1, b2, b3⟩ := badWith_eq (st := k) hS (SeM_7 hC uF uK) hW hMu (by omega)
        have uK' : K7 σ υ' := fun j j1 j2 j3 j4 => by rw [b2 j j1 j2 j3 j4]; exact uK j j1 j2 j3 j4
        have uF' := uF.tr b3
        rw [i_eq c1, b1, p_bd]
        cases hr : rsF S W k with
        | none =>
          left
          rw [hr] at hs
          rw [bwA_1 hr, i_eq rfl, nI_add k 1, p_nm]
          refine ⟨nI (k + 1), υ', ⟨k + 1, by omega, rfl, hs, uK', uF'⟩, ?_, rfl⟩
          rw [p_ix (by omega), p_ix (by omega)]; omega
        | some r =>
          right
          rw [hr] at hs
          have hfin : fnn S W n (2 ^ W.length) = some r := by
            have := fnn_frz hs (2 ^ W.length - (k + 1))
            rw [show k + 1 + (2 ^ W.length - (k + 1)) = 2 ^ W.length by omega] at this
            exact this
          rw [hfin]
          rcases bwA_s hr with ⟨q1, q2⟩ | ⟨q1, q2⟩
          · rw [q1, q2, if_neg (by decide), if_pos rfl, finds_7, p_bd]
            exact ⟨υ', uK', uF', rfl⟩
          · rw [q1, q2, i_ne (by omega) (by omega) (by omega), if_neg (m7_ne (by omega))]
            exact ⟨υ', uK', uF', rfl⟩
      · left
        have ho := onU_le k 6
        rw [onU_6] at ho
        rw [if_neg c1] at hs
        rw [i_ne (by omega) (by omega) c1, nI_add k 1, p_nm]
        refine ⟨nI (k + 1), υ, ⟨k + 1, by omega, rfl, hs, uK, uF⟩, ?_, rfl⟩
        rw [p_ix (by omega), p_ix (by omega)]; omega
  · rw [p_ix (by omega), FU_v]; omega
