/-! PURE: rounds in the reference -/
theorem deg_pos {G : Nat → Option Nat} {t d : Nat} (h : G d = some t) : ∀ N, d < N → 0 < deg G t N := by
  intro N
  induction N with
  | zero => intro q; omega
  | succ N ih =>
    intro q
    rw [deg]
    by_cases e : d = N
    · rw [← e, if_pos h]; omega
    · have := ih (by omega); omega
theorem mtk_eq {G : Nat → Option Nat} {n i j : Nat} {ep : Nat → Bool} {s : Ks} {σ : Mm} (hn' : n ≤ 6000) (hG : ∀ d t, d < 6 * n → G d = some t → t < n) (hK : KI G n ep s) (hi : i < n) (he : ∀ k, k < 6 → ep (6 * i + k) = false) (hj : j < s.2.2) (hji : s.2.1 j = i) (h83 : ∀ d, d < 6 * n → σ.1 83 d = iO (G d)) (h92 : ∀ t, t < n → σ.1 92 t = nI (s.1 t)) (h93 : ∀ a, a < s.2.2 → σ.1 93 a = nI (s.2.1 a)) (hc : ∀ t, t < n → s.1 t ≤ 36000) (K : Int32 → Mm → Option (Int32 × Mm)) :
    ∃ σ', fx (fun _ _ _ => none) FU (f_X11_round_L131 K (nI j)) (nI s.2.2) (0 : Int32) σ = K (nI (ktk G i 6 s).2.2) σ' ∧ (∀ t, t < n → σ'.1 92 t = nI ((ktk G i 6 s).1 t)) ∧ (∀ a, a < (ktk G i 6 s).2.2 → σ'.1 93 a = nI ((ktk G i 6 s).2.1 a)) ∧ (∀ t, t < n → (ktk G i 6 s).1 t ≤ 36000) ∧ Fr [92, 93] σ σ' := by
  rw [qi_0]
  have hjn : j < n := by have := KI_le hK; omega
  refine lq2 (bot := fun _ _ _ => none) (F := f_X11_round_L131 K (nI j)) (fun a b τ => ∃ k, k ≤ 6 ∧ a = nI (ktk G i k s).2.2 ∧ b = nI k ∧ (∀ t, t < n → τ.1 92 t = nI ((ktk G i k s).1 t)) ∧ (∀ a, a < (ktk G i k s).2.2 → τ.1 93 a = nI ((ktk G i k s).2.1 a)) ∧ (∀ t, t < n → (ktk G i k s).1 t ≤ 36000) ∧ Fr [92, 93] σ τ) (fun _ b _ => 7 - ix b) (fun o => ∃ σ', o = K (nI (ktk G i 6 s).2.2) σ' ∧ (∀ t, t < n → σ'.1 92 t = nI ((ktk G i 6 s).1 t)) ∧ (∀ a, a < (ktk G i 6 s).2.2 → σ'.1 93 a = nI ((ktk G i 6 s).2.1 a)) ∧ (∀ t, t < n → (ktk G i 6 s).1 t ≤ 36000) ∧ Fr [92, 93] σ σ') ?_ FU (nI s.2.2) (nI 0) σ ?_ ⟨0, by omega, rfl, rfl, h92, h93, hc, Fr.rf _ _⟩
  · rintro L a b τ ⟨k, hk, rfl, rfl, u1, u2, u3, u4⟩
    unfold f_X11_round_L131 f_X11_round_195
    simp only [qi_0, qi_1, qi_2, qi_3, qi_4, qi_5, qi_6, qi_7, qi_8, qi_9, qi_10, qi_11, qi_12, qi_13, qi_14, qi_15, qi_16, qi_17, qi_19, qi_26, qi_31, qi_32, qi_35, qi_40, qi_42, qi_48, qi_50, qi_57, qi_59, qi_63, qi_64, qi_97, qi_120, qi_122, qi_210, qi_255, qi_511, qi_512, qi_1000, qi_6000, qi_13312, qi_14337, qi_16383, qi_16384, qi_524287]
    by_cases c : k = 6
    · right
      subst c
      rw [i_le (by omega) (by omega)]
      exact ⟨τ, rfl, u1, u2, u3, u4⟩
    · left
      obtain ⟨a1, a2, a3⟩ := KI_tk hG hK hi he k (by omega)
      have hf : epk ep i k (6 * i + k) = false := by
        unfold epk
        rw [he k (by omega), decide_eq_false (fun q => by omega)]; rfl
      obtain ⟨b1, b2, b3, b4⟩ := KI_st hG a1 (show 6 * i + k < 6 * n by omega) hf
      have hle := KI_le b1
      have hle0 := KI_le a1
      have hkt : ktk G i (k + 1) s = kst G (6 * i + k) (ktk G i k s) := rfl
      have h93j : τ.1 93 j = nI i := by rw [u2 j (by omega), a2 j hj, hji]
      rw [i_nle (by omega) (by omega), p_ck _ (by omega) (by omega), p_ix (a := j) (by omega), h93j, pk_mul, nI_add, p_ck _ (by omega) (by omega), p_ix (a := 6 * i + k) (by omega), u4.r1 83 (by decide), h83 _ (by omega), p_nm, p_ix (a := k) (by omega)]
      generalize ktk G i k s = z at *
      cases hg : G (6 * i + k) with
      | none =>
        have ez : kst G (6 * i + k) z = z := by unfold kst; rw [hg]
        rw [ez] at hkt
        rw [show iO none = -nI 1 from rfl, if_neg (show ¬ nI 0 ≤ -nI 1 by rw [p_m1le]; exact fun q => q), nI_add, p_nm]
        refine ⟨nI z.2.2, nI (k + 1), τ, ⟨k + 1, by omega, by rw [hkt], rfl, by rw [hkt]; exact u1, by rw [hkt]; exact u2, by rw [hkt]; exact u3, u4⟩, ?_, rfl⟩
        rw [p_ix (by omega)]; omega
      | some t =>
        have ht := hG _ t (by omega) hg
        have hpos := b2 t hg
        have h36 := u3 t ht
        rw [show iO (some t) = nI t from rfl, i_le (by omega) (by omega), p_ck _ (by omega) (by omega), p_ck _ (by omega) (by omega), p_ix (a := t) (by omega), u1 t ht, pk_sub hpos, p_nm, p_ck _ (by omega) (by omega), r_sI0]
        have hm24 : ∀ u, u < n → (sI τ 92 t (nI (z.1 t - 1))).1 92 u = nI (upq z.1 t (z.1 t - 1) u) := by
          intro u hu
          by_cases e : u = t
          · rw [e, r_sI0, upq_s]
          · rw [r_sIj e, upq_n e]; exact u1 u hu
        have hmb : ∀ u, u < n → upq z.1 t (z.1 t - 1) u ≤ 36000 := by
          intro u hu
          by_cases e : u = t
          · rw [e, upq_s]; omega
          · rw [upq_n e]; exact u3 u hu
        by_cases hz : z.1 t - 1 = 0
        · have ez : kst G (6 * i + k) z = (upq z.1 t (z.1 t - 1), upq z.2.1 z.2.2 t, z.2.2 + 1) := by unfold kst; rw [hg]; simp only; rw [if_pos hz]
          rw [ez] at hkt hle
          have hle : z.2.2 + 1 ≤ n := hle
          rw [i_eq hz, p_ck _ (by omega) (by omega), p_ix (a := z.2.2) (by omega), p_nm, nI_add, p_nm, nI_add, p_nm]
          refine ⟨nI (z.2.2 + 1), nI (k + 1), sI (sI τ 92 t (nI (z.1 t - 1))) 93 z.2.2 (nI t), ⟨k + 1, by omega, by rw [hkt], rfl, ?_, ?_, by rw [hkt]; exact hmb, (u4.sI (by decide)).sI (by decide)⟩, ?_, rfl⟩
          · rw [hkt]; intro u hu; rw [r_sI1 (by decide)]; exact hm24 u hu
          · rw [hkt]
            intro a (ha : a < z.2.2 + 1)
            show _ = nI (upq z.2.1 z.2.2 t a)
            by_cases e : a = z.2.2
            · rw [e, r_sI0, upq_s]
            · rw [r_sIj e, upq_n e, r_sI1 (by decide)]; exact u2 a (by omega)
          · rw [p_ix (by omega)]; omega
        · have ez : kst G (6 * i + k) z = (upq z.1 t (z.1 t - 1), z.2.1, z.2.2) := by unfold kst; rw [hg]; simp only; rw [if_neg hz]
          rw [ez] at hkt
          rw [i_ne (by omega) (by omega) hz, nI_add, p_nm]
          refine ⟨nI z.2.2, nI (k + 1), sI τ 92 t (nI (z.1 t - 1)), ⟨k + 1, by omega, by rw [hkt], rfl, by rw [hkt]; exact hm24, ?_, by rw [hkt]; exact hmb, u4.sI (by decide)⟩, ?_, rfl⟩
          · rw [hkt]; intro a ha; rw [r_sI1 (by decide)]; exact u2 a ha
          · rw [p_ix (by omega)]; omega
  · rw [p_ix (by omega), FU_v]; omega
theorem mround_eq {P : Pg} {σ : Mm} (hb : bN (bEnd P) ≤ 6000) (hT : TkM P σ) :
    ∃ σ', fx (fun _ _ => none) FU (f_X11_round_L21 (fun (σ : Mm) => f_X11_round_42 σ)) (0 : Int32) σ = some (bI (rnd P), σ') ∧ Fr [92, 93] σ σ' := by
  rcases hT with ⟨_, h2, h3, h4, _, _⟩ | ⟨h1, _⟩
  · have hG := edge_ok hb
    have hn1 : 1 ≤ bN (bEnd P) := (bE_BI P).1.1
    have hrn : rnd P = decide ((klp (bG (bEnd P)) (bN (bEnd P)) (bN (bEnd P))).2.2 < bN (bEnd P)) := rfl
    have h50 : σ.1 48 50 = nI (bN (bEnd P)) := h2.2.1
    have hdp : ∀ i, 0 < i → i < bN (bEnd P) → 0 < deg (bG (bEnd P)) i (6 * bN (bEnd P)) := fun i i1 i2 => by
      obtain ⟨c1, c2, c3, _⟩ := (bE_BI P).2.2.1 i i1 i2
      exact deg_pos c3 _ (by omega)
    rw [hrn]
    generalize bN (bEnd P) = n at *
    generalize bG (bEnd P) = G at *
    rw [qi_0]
    obtain ⟨σ1, ⟨a1, a2⟩, e1⟩ := lqU (F := f_X11_round_L21 (fun (σ : Mm) => f_X11_round_42 σ)) (bot := fun _ _ => none) (fun (σ : Mm) => f_X11_round_42 σ) n (fun k τ => (∀ i, i < k → τ.1 92 i = nI 0) ∧ Fr [92, 93] σ τ) (by
        rintro L τ ⟨t1, t2⟩
        unfold f_X11_round_L21
        rw [t2.r1 48 (by decide), h50, i_le (by omega) (by omega)]) (by
        rintro L k τ hk ⟨t1, t2⟩
        unfold f_X11_round_L21
        simp only [qi_0, qi_1, qi_2, qi_3, qi_4, qi_5, qi_6, qi_7, qi_8, qi_9, qi_10, qi_11, qi_12, qi_13, qi_14, qi_15, qi_16, qi_17, qi_19, qi_26, qi_31, qi_32, qi_35, qi_40, qi_42, qi_48, qi_50, qi_57, qi_59, qi_63, qi_64, qi_97, qi_120, qi_122, qi_210, qi_255, qi_511, qi_512, qi_1000, qi_6000, qi_13312, qi_14337, qi_16383, qi_16384, qi_524287]
        rw [t2.r1 48 (by decide), h50, i_nle (by omega) (by omega), p_ck _ (by omega) (by omega), p_ix (a := k) (by omega), p_nm, nI_add, p_nm]
        refine ⟨_, ⟨fun i hi => ?_, t2.sI (by decide)⟩, rfl⟩
        by_cases e : i = k
        · rw [e, r_sI0]
        · rw [r_sIj e]; exact t1 i (by omega)) FU 0 σ (by omega) (by rw [FU_v]; omega) ⟨fun i hi => by omega, Fr.rf _ _⟩
    rw [e1]
    show ∃ σ', f_X11_round_42 σ1 = some (bI (decide ((klp G n n).2.2 < n)), σ') ∧ Fr [92, 93] σ σ'
    unfold f_X11_round_42
    rw [qi_0]
    obtain ⟨σ2, ⟨b1, b2⟩, e2⟩ := lqU (F := f_X11_round_L44 (fun (σ : Mm) => f_X11_round_85 σ)) (bot := fun _ _ => none) (fun (σ : Mm) => f_X11_round_85 σ) (6 * n) (fun d τ => (∀ t, t < n → τ.1 92 t = nI (deg G t d)) ∧ Fr [92, 93] σ τ) (by
        rintro L τ ⟨_, hF⟩
        unfold f_X11_round_L44
        simp only [qi_0, qi_1, qi_2, qi_3, qi_4, qi_5, qi_6, qi_7, qi_8, qi_9, qi_10, qi_11, qi_12, qi_13, qi_14, qi_15, qi_16, qi_17, qi_19, qi_26, qi_31, qi_32, qi_35, qi_40, qi_42, qi_48, qi_50, qi_57, qi_59, qi_63, qi_64, qi_97, qi_120, qi_122, qi_210, qi_255, qi_511, qi_512, qi_1000, qi_6000, qi_13312, qi_14337, qi_16383, qi_16384, qi_524287]
        rw [hF.r1 48 (by decide), h50, pk_mul, i_le (by omega) (by omega)]) (by
        rintro L d τ hd ⟨g1, g2⟩
        unfold f_X11_round_L44 f_X11_round_79
        simp only [qi_0, qi_1, qi_2, qi_3, qi_4, qi_5, qi_6, qi_7, qi_8, qi_9, qi_10, qi_11, qi_12, qi_13, qi_14, qi_15, qi_16, qi_17, qi_19, qi_26, qi_31, qi_32, qi_35, qi_40, qi_42, qi_48, qi_50, qi_57, qi_59, qi_63, qi_64, qi_97, qi_120, qi_122, qi_210, qi_255, qi_511, qi_512, qi_1000, qi_6000, qi_13312, qi_14337, qi_16383, qi_16384, qi_524287]
        rw [g2.r1 48 (by decide), h50, pk_mul, i_nle (by omega) (by omega), p_ck _ (by omega) (by omega), p_ix (a := d) (by omega), g2.r1 83 (by decide), h3 d hd]
        cases hg : G d with
        | none =>
          rw [show iO none = -nI 1 from rfl, i_m1lt (by omega), nI_add, p_nm]
          refine ⟨τ, ⟨fun t ht => ?_, g2⟩, rfl⟩
          rw [deg, hg, if_neg (fun q => by cases q)]; exact g1 t ht
        | some u =>
          have hu := hG d u hd hg
          have hdu := deg_le G u d
          rw [show iO (some u) = nI u from rfl, i_nlt (by omega) (by omega), p_ck _ (by omega) (by omega), p_nm, p_ck _ (by omega) (by omega), p_ck _ (by omega) (by omega), p_ix (a := u) (by omega), g1 u hu, nI_add, p_nm, nI_add, p_nm]
          refine ⟨_, ⟨fun t ht => ?_, g2.sI (by decide)⟩, rfl⟩
          rw [deg, hg]
          by_cases e : t = u
          · rw [e, r_sI0, if_pos rfl]
          · rw [r_sIj e, if_neg (fun q => e (by simp only [Option.some.injEq] at q; exact q.symm))]; exact g1 t ht) FU 0 σ1 (by omega) (by rw [FU_v]; omega) ⟨a1, a2⟩
    rw [e2]
    show ∃ σ', f_X11_round_85 σ2 = some (bI (decide ((klp G n n).2.2 < n)), σ') ∧ Fr [92, 93] σ σ'
    -- taking away
    have loop : ∀ τ, (∀ t, t < n → τ.1 92 t = nI ((k0 G n).1 t)) → (∀ a, a < (k0 G n).2.2 → τ.1 93 a = nI ((k0 G n).2.1 a)) → Fr [92, 93] σ τ → ∃ σ', f_X11_round_122 (nI (k0 G n).2.2) τ = some (bI (decide ((klp G n n).2.2 < n)), σ') ∧ Fr [92, 93] σ σ' := by
      intro τ t1 t2 tF
      unfold f_X11_round_122
      rw [qi_0]
      refine lq2 (bot := fun _ _ _ => none) (F := f_X11_round_L124 (fun (xq1 : Int32) (σ : Mm) => f_X11_round_207 xq1 σ)) (fun a b υ => ∃ j, j ≤ (klp G n j).2.2 ∧ a = nI (klp G n j).2.2 ∧ b = nI j ∧ (∀ t, t < n → υ.1 92 t = nI ((klp G n j).1 t)) ∧ (∀ a, a < (klp G n j).2.2 → υ.1 93 a = nI ((klp G n j).2.1 a)) ∧ (∀ t, t < n → (klp G n j).1 t ≤ 36000) ∧ Fr [92, 93] σ υ) (fun _ b _ => 6001 - ix b) (fun o => ∃ σ', o = some (bI (decide ((klp G n n).2.2 < n)), σ') ∧ Fr [92, 93] σ σ') ?_ FU _ (nI 0) τ ?_ ⟨0, Nat.zero_le _, rfl, rfl, t1, t2, fun t ht => by have := deg_le G t (6 * n); show deg G t (6 * n) ≤ 36000; omega, tF⟩
      · rintro L a b υ ⟨j, hj, rfl, rfl, u1, u2, u3, u4⟩
        have hK := klp_KI (by omega) hG hj
        have hle := KI_le hK
        unfold f_X11_round_L124
        by_cases c : (klp G n j).2.2 ≤ j
        · right
          have hfz := klp_frz c (n - j)
          rw [show j + (n - j) = n by omega] at hfz
          rw [i_le (by omega) c, hfz]
          show ∃ σ', f_X11_round_207 (nI (klp G n j).2.2) υ = some (bI (decide ((klp G n j).2.2 < n)), σ') ∧ Fr [92, 93] σ σ'
          unfold f_X11_round_207
          rw [u4.r1 48 (by decide), h50]
          by_cases d : n ≤ (klp G n j).2.2
          · rw [i_le (by omega) d, decide_eq_false (by omega), bI_f]
            exact ⟨υ, rfl, u4⟩
          · rw [i_nle (by omega) (by omega), decide_eq_true (by omega), bI_t]
            exact ⟨υ, rfl, u4⟩
        · left
          have hi := (hK.2.1 j (by omega)).1
          have he : ∀ k, k < 6 → epj (klp G n j).2.1 j (6 * (klp G n j).2.1 j + k) = false := by
            intro k hk
            apply decide_eq_false
            rintro ⟨a, ha, he⟩
            rw [show (6 * (klp G n j).2.1 j + k) / 6 = (klp G n j).2.1 j by omega] at he
            have := hK.2.2 a j (by omega) (by omega) he
            omega
          obtain ⟨υ', w1, w2, w3, w4, w5⟩ := mtk_eq (σ := υ) hb hG hK hi he (show j < (klp G n j).2.2 by omega) rfl (fun d hd => by rw [u4.r1 83 (by decide)]; exact h3 d hd) u1 u2 u3 (fun (xq1 : Int32) (σ : Mm) => f_X11_round_201 L xq1 (nI j) σ)
          have hkl : klp G n (j + 1) = ktk G ((klp G n j).2.1 j) 6 (klp G n j) := by rw [klp, if_pos (by omega)]
          have hmo := (KI_tk hG hK hi he 6 (by omega)).2.2
          rw [← hkl] at w1 w2 w3 w4 hmo
          rw [i_nle (by omega) (by omega), w1]
          unfold f_X11_round_201
          rw [qi_1, nI_add, p_nm]
          refine ⟨_, nI (j + 1), υ', ⟨j + 1, by omega, rfl, rfl, w2, w3, w4, u4.tr w5⟩, ?_, rfl⟩
          rw [p_ix (by omega), p_ix (by omega)]; omega
      · rw [p_ix (by omega), FU_v]; omega
    unfold f_X11_round_85
    rw [qi_0]
    refine lq2 (bot := fun _ _ _ => none) (F := f_X11_round_L89 (fun (xq1 : Int32) (σ : Mm) => f_X11_round_122 xq1 σ)) (fun a b υ => ∃ k, k ≤ n ∧ a = nI (if 0 < k then (k0 G n).2.2 else 0) ∧ b = nI k ∧ (∀ t, t < n → υ.1 92 t = nI ((k0 G n).1 t)) ∧ (0 < k → ∀ a, a < (k0 G n).2.2 → υ.1 93 a = nI ((k0 G n).2.1 a)) ∧ Fr [92, 93] σ υ) (fun _ b _ => 6001 - ix b) (fun o => ∃ σ', o = some (bI (decide ((klp G n n).2.2 < n)), σ') ∧ Fr [92, 93] σ σ') ?_ FU (nI 0) (nI 0) σ2 ?_ ⟨0, by omega, by rw [if_neg (by omega)], rfl, b1, fun q => absurd q (by omega), b2⟩
    · rintro L a b υ ⟨k, hk, rfl, rfl, u1, u2, u3⟩
      unfold f_X11_round_L89 f_X11_round_116
      simp only [qi_0, qi_1, qi_2, qi_3, qi_4, qi_5, qi_6, qi_7, qi_8, qi_9, qi_10, qi_11, qi_12, qi_13, qi_14, qi_15, qi_16, qi_17, qi_19, qi_26, qi_31, qi_32, qi_35, qi_40, qi_42, qi_48, qi_50, qi_57, qi_59, qi_63, qi_64, qi_97, qi_120, qi_122, qi_210, qi_255, qi_511, qi_512, qi_1000, qi_6000, qi_13312, qi_14337, qi_16383, qi_16384, qi_524287]
      rw [u3.r1 48 (by decide), h50]
      by_cases c : k = n
      · right
        rw [i_le (by omega) (by omega), if_pos (show 0 < k by omega)]
        exact loop υ u1 (u2 (by omega)) u3
      · left
        have hd1 := deg_le G k (6 * n)
        have h92 : υ.1 92 k = nI (deg G k (6 * n)) := u1 k (by omega)
        rw [i_nle (by omega) (by omega), p_ck _ (by omega) (by omega), p_ix (a := k) (by omega), h92]
        by_cases k0' : k = 0
        · subst k0'
          rw [if_neg (show ¬ 0 < 0 by omega)]
          by_cases dz : deg G 0 (6 * n) = 0
          · have e22 : (k0 G n).2.2 = 1 := if_pos dz
            rw [i_eq dz, p_ck _ (by omega) (by omega), p_ix (a := 0) (by omega), p_nm, nI_add, p_nm, p_nm]
            refine ⟨nI 1, nI 1, _, ⟨1, by omega, by rw [if_pos (by omega), e22], rfl, fun t ht => ?_, fun _ a ha => ?_, u3.sI (by decide)⟩, ?_, rfl⟩
            · rw [r_sI1 (by decide)]; exact u1 t ht
            · rw [show a = 0 by omega, r_sI0]; rfl
            · rw [p_ix (by omega)]; omega
          · have e22 : (k0 G n).2.2 = 0 := if_neg dz
            rw [i_ne (by omega) (by omega) dz, nI_add, p_nm]
            refine ⟨nI 0, nI 1, υ, ⟨1, by omega, by rw [if_pos (by omega), e22], rfl, u1, fun _ a ha => by omega, u3⟩, ?_, rfl⟩
            rw [p_ix (by omega)]; omega
        · have hp := hdp k (by omega) (by omega)
          rw [i_ne (by omega) (by omega) (by omega), nI_add, p_nm]
          refine ⟨_, nI (k + 1), υ, ⟨k + 1, by omega, ?_, rfl, u1, fun _ => u2 (by omega), u3⟩, ?_, rfl⟩
          · rw [if_pos (show 0 < k by omega), if_pos (show 0 < k + 1 by omega)]
          · rw [p_ix (by omega)]; omega
    · rw [p_ix (by omega), FU_v]; omega
  · omega
