/-! PURE: states without an end in the reference: the whole -/
def mB (τ : Mm) (i : Nat) : Bool := decide (τ.1 86 i = nI 1)
theorem mB_ok {τ : Mm} {n : Nat} {m : Nat → Bool} (h : ∀ t, t < n → τ.1 86 t = bI (m t)) : cT (mB τ) n = cT m n := by
  refine cT_congr n (fun i hi => ?_)
  unfold mB
  rw [h i hi]
  cases m i with
  | true => rw [bI_t]; exact decide_eq_true rfl
  | false => rw [bI_f]; exact decide_eq_false (by decide)
theorem mst_cnt {n : Nat} {m : Nat → Bool} {σ : Mm} (hn' : n ≤ 6000) (h50 : σ.1 48 50 = nI n) (hm : ∀ t, t < n → σ.1 86 t = bI (m t)) : f_X11_stuck_164 σ = some (nI (n - cT m n), σ) := by
  unfold f_X11_stuck_164
  rw [qi_0]
  refine lq2 (bot := fun _ _ _ => none) (F := f_X11_stuck_L168) (fun a c τ => ∃ k, k ≤ n ∧ a = nI (k - cT m k) ∧ c = nI k ∧ τ = σ) (fun _ c _ => 6001 - ix c) (fun o => o = some (nI (n - cT m n), σ)) ?_ FU (nI 0) (nI 0) σ ?_ ⟨0, by omega, rfl, rfl, rfl⟩
  · rintro L a c τ ⟨k, hk, rfl, rfl, rfl⟩
    have hc := cT_le m k
    unfold f_X11_stuck_L168 f_X11_stuck_191
    simp only [qi_0, qi_1, qi_2, qi_3, qi_4, qi_5, qi_6, qi_7, qi_8, qi_9, qi_10, qi_11, qi_12, qi_13, qi_14, qi_15, qi_16, qi_17, qi_19, qi_26, qi_31, qi_32, qi_35, qi_40, qi_42, qi_48, qi_50, qi_57, qi_59, qi_63, qi_64, qi_97, qi_120, qi_122, qi_210, qi_255, qi_511, qi_512, qi_1000, qi_6000, qi_13312, qi_14337, qi_16383, qi_16384, qi_524287]
    rw [h50]
    by_cases c0 : k = n
    · right
      rw [c0, i_le (by omega) (by omega)]
    · left
      rw [i_nle (by omega) (by omega), p_ck _ (by omega) (by omega), p_ix (a := k) (by omega), hm k (by omega)]
      have es : cT m (k + 1) = cT m k + (if m k then 1 else 0) := rfl
      cases hk2 : m k with
      | true =>
        rw [hk2, if_pos rfl] at es
        rw [bI_t, i_ne (by omega) (by omega) (by omega), nI_add, p_nm, nI_add, p_nm]
        refine ⟨_, nI (k + 1), τ, ⟨k + 1, by omega, rfl, rfl, rfl⟩, ?_, ?_⟩
        · rw [p_ix (by omega)]; omega
        · rw [es, show k + 1 - (cT m k + 1) = k - cT m k + 0 by omega]
      | false =>
        rw [hk2, if_neg (by decide)] at es
        rw [bI_f, i_eq rfl, nI_add, p_nm, nI_add, p_nm]
        refine ⟨_, nI (k + 1), τ, ⟨k + 1, by omega, rfl, rfl, rfl⟩, ?_, ?_⟩
        · rw [p_ix (by omega)]; omega
        · rw [es, show k + 1 - (cT m k + 0) = k - cT m k + 1 by omega]
  · rw [p_ix (by omega), FU_v]; omega
theorem mstuck_eq {P : Pg} {σ : Mm} (hP : PgV P) (h0 : VS P (pF P)) (hb : bN (bEnd P) ≤ 6000) (hT : TkM P σ) :
    ∃ σ', fx (fun _ _ => none) FU (f_X11_stuck_L21 (fun (σ : Mm) => f_X11_stuck_55 σ)) (0 : Int32) σ = some (nI (stk P), σ') ∧ Fr [86] σ σ' := by
  rcases hT with ⟨_, h2, h3, h4, _, _⟩ | ⟨h1, _⟩
  · have hG := edge_ok hb
    have h50 : σ.1 48 50 = nI (bN (bEnd P)) := h2.2.1
    have hst : stk P = bN (bEnd P) - cT (rchB (eP P) (bG (bEnd P))) (bN (bEnd P)) := rfl
    generalize hn : bN (bEnd P) = n at *
    generalize hGG : bG (bEnd P) = G at *
    rw [qi_0]
    obtain ⟨σ1, ⟨a1, a2⟩, e1⟩ := lqU (F := f_X11_stuck_L21 (fun (σ : Mm) => f_X11_stuck_55 σ)) (bot := fun _ _ => none) (fun (σ : Mm) => f_X11_stuck_55 σ) n (fun k τ => (∀ i, i < k → τ.1 86 i = bI (iE P (bF (bEnd P) i))) ∧ Fr [86] σ τ) (by
        rintro L τ ⟨t1, t2⟩
        unfold f_X11_stuck_L21
        rw [t2.r1 48 (by decide), h50, i_le (by omega) (by omega)]) (by
        rintro L k τ hk ⟨t1, t2⟩
        unfold f_X11_stuck_L21 f_X11_stuck_48
        simp only [qi_0, qi_1, qi_2, qi_3, qi_4, qi_5, qi_6, qi_7, qi_8, qi_9, qi_10, qi_11, qi_12, qi_13, qi_14, qi_15, qi_16, qi_17, qi_19, qi_26, qi_31, qi_32, qi_35, qi_40, qi_42, qi_48, qi_50, qi_57, qi_59, qi_63, qi_64, qi_97, qi_120, qi_122, qi_210, qi_255, qi_511, qi_512, qi_1000, qi_6000, qi_13312, qi_14337, qi_16383, qi_16384, qi_524287]
        have s87 : τ.1 87 k = eI P (bF (bEnd P) k) := by rw [t2.r1 87 (by decide)]; exact h4 k hk
        have hr : rslt P (bF (bEnd P) k) < 262144 := resf_lt3 _ hP.1
        rw [t2.r1 48 (by decide), h50, i_nle (by omega) (by omega), p_ck _ (by omega) (by omega), p_ix (a := k) (by omega), s87]
        unfold eI
        cases hE : iE P (bF (bEnd P) k) with
        | true =>
          rw [if_pos rfl, i_nlt (by omega) (by omega), p_ck _ (by omega) (by omega), p_cb1, p_nm, nI_add, p_nm]
          refine ⟨_, ⟨fun i hi => ?_, t2.sI (by decide)⟩, rfl⟩
          by_cases e : i = k
          · rw [e, r_sI0, hE, bI_t]
          · rw [r_sIj e]; exact t1 i (by omega)
        | false =>
          rw [if_neg (show ¬ false = true by decide), i_m1lt (by omega), p_ck _ (by omega) (by omega), p_cb0, p_nm, nI_add, p_nm]
          refine ⟨_, ⟨fun i hi => ?_, t2.sI (by decide)⟩, rfl⟩
          by_cases e : i = k
          · rw [e, r_sI0, hE, bI_f]
          · rw [r_sIj e]; exact t1 i (by omega)) FU 0 σ (by omega) (by rw [FU_v]; omega) ⟨fun i hi => by omega, Fr.rf _ _⟩
    rw [e1]
    show ∃ σ', f_X11_stuck_55 σ1 = some (nI (stk P), σ') ∧ Fr [86] σ σ'
    unfold f_X11_stuck_55
    rw [qi_1]
    refine lq1 (bot := fun _ _ => none) (F := f_X11_stuck_L57 (fun (σ : Mm) => f_X11_stuck_164 σ)) (fun a τ => ∃ (g : Bool) (m : Nat → Bool), a = bI g ∧ Fr [86] σ τ ∧ (∀ t, t < n → τ.1 86 t = bI (m t)) ∧ (∀ i, i < n → m i = true → Rch (eP P) G i) ∧ (∀ i, i < n → eP P i → m i = true) ∧ (g = false → ∀ i e t, i < n → e < 6 → G (6 * i + e) = some t → m t = true → m i = true)) (fun a τ => 2 * (n - cT (mB τ) n) + ix a) (fun o => ∃ σ', o = some (nI (stk P), σ') ∧ Fr [86] σ σ') ?_ FU (nI 1) σ1 ?_ ⟨true, fun i => iE P (bF (bEnd P) i), rfl, a2, a1, fun i _ (q : iE P (bF (bEnd P) i) = true) => Rch_0 (show eP P i from q), fun i _ (q : iE P (bF (bEnd P) i) = true) => q, (fun q => by cases q)⟩
    · rintro L a τ ⟨g, m, rfl, tF, tm, ts, te, tc⟩
      have t50 : τ.1 48 50 = nI n := by rw [tF.r1 48 (by decide)]; exact h50
      unfold f_X11_stuck_L57
      cases hg : g with
      | false =>
        right
        rw [bI_f, if_pos (show nI 0 = (0 : Int32) from rfl)]
        show ∃ σ', f_X11_stuck_164 τ = some (nI (stk P), σ') ∧ Fr [86] σ σ'
        rw [mst_cnt (by omega) t50 tm]
        refine ⟨τ, ?_, tF⟩
        rw [hst, cT_congr n (rch_of hG ts te (tc hg))]
      | true =>
        left
        obtain ⟨g', m', υ, s1, s2, s3, s4, s5, s6, s7, s8⟩ := mst_sw (by omega) hG h3 tF tm ts (fun (xq1 : Int32) (σ : Mm) => f_X11_stuck_161 L xq1 σ)
        rw [bI_t, if_neg (show ¬ nI 1 = (0 : Int32) by decide), qi_0, qi_1, t50, p_nm, s8]
        refine ⟨bI g', υ, ⟨g', m', rfl, s1, s2, s3, fun i hi q => s4 i (te i hi q), fun q => ?_⟩, ?_, rfl⟩
        · rw [(s7 q).1]; exact (s7 q).2
        · have c1 := cT_le m' n
          rw [mB_ok tm, mB_ok s2, p_ix (by omega)]
          cases hg' : g' with
          | true =>
            have := s6 hg'
            rw [bI_t, p_ix (by omega)]; omega
          | false => rw [bI_f, p_ix (by omega)]; omega
    · rw [p_ix (by omega), FU_v]; omega
  · omega
