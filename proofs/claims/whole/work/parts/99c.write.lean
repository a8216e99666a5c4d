/-! PURE: write, lead -/
def ptX (A : Ob) (s i : Nat) (v : Int64) : Ob := uX A (oQ A) (oZ A) (upq (oV A) s (upq (oV A s) i v))
theorem AC_put {A : Ob} {σ : Mm} {s i : Nat} (v : Int64) (h : AC A σ) (hs : s < 4) : AC (ptX A s i v) (sL σ (41 + 2 * s) i v) ∧ FrC σ (sL σ (41 + 2 * s) i v) ∧ Fr xcL σ (sL σ (41 + 2 * s) i v) := by
  have m1 : 41 + 2 * s ∈ xcL := by rcases (show s = 0 ∨ s = 1 ∨ s = 2 ∨ s = 3 by omega) with rfl | rfl | rfl | rfl <;> decide
  have hF : Fr xcL σ (sL σ (41 + 2 * s) i v) := (Fr.rf _ _).sL m1
  refine ⟨AC_X h h.1.2.2.2 (fun d hd => ?_) hF, FrC_of hF (by decide), hF⟩
  obtain ⟨g1, g2, g3⟩ := h.2.2.2.2.2.2.1 d hd
  show (sL σ (41 + 2 * s) i v).1 (40 + 2 * d) 0 = nI (oQ A d) ∧ (sL σ (41 + 2 * s) i v).1 (40 + 2 * d) 1 = nI (oZ A d) ∧ ∀ j, j < oZ A d → (sL σ (41 + 2 * s) i v).2 (41 + 2 * d) j = upq (oV A) s (upq (oV A s) i v) d j
  rw [r_sL1]
  refine ⟨g1, g2, fun j hj => ?_⟩
  by_cases c : d = s
  · rw [c, upq_s]
    rw [c] at g3 hj
    by_cases q : j = i
    · rw [q, r_sL0, upq_s]
    · rw [r_sLj q, upq_n q]; exact g3 j hj
  · rw [upq_n c, r_sL2 (by omega)]; exact g3 j hj
theorem AM_put {A : Ob} {σ : Mm} {s i : Nat} (v : Int64) (h : AM A σ) (hs : s < 4) (hi : i < 40) : AM (ptX A s i v) (sL σ 63 (40 * s + i) v) ∧ FrM σ (sL σ 63 (40 * s + i) v) ∧ Fr [61, 62, 63, 64] σ (sL σ 63 (40 * s + i) v) := by
  have hF : Fr [61, 62, 63, 64] σ (sL σ 63 (40 * s + i) v) := (Fr.rf _ _).sL (by decide)
  refine ⟨AM_X h h.1.2.2.2 (fun d hd => ?_) hF, FrM_of hF (by decide), hF⟩
  obtain ⟨g1, g2, g3⟩ := h.2.2.2.2.2.2.1 d hd
  have hz := (h.1.2.2.2 d hd).1
  show (sL σ 63 (40 * s + i) v).1 61 d = nI (oQ A d) ∧ (sL σ 63 (40 * s + i) v).1 62 d = nI (oZ A d) ∧ ∀ j, j < oZ A d → (sL σ 63 (40 * s + i) v).2 63 (40 * d + j) = upq (oV A) s (upq (oV A s) i v) d j
  rw [r_sL1]
  refine ⟨g1, g2, fun j hj => ?_⟩
  by_cases c : d = s
  · rw [c, upq_s]
    rw [c] at g3 hj
    by_cases q : j = i
    · rw [q, r_sL0, upq_s]
    · rw [r_sLj (by omega), upq_n q]; exact g3 j hj
  · rw [upq_n c, r_sLj (by omega)]; exact g3 j hj
def wrt (q : Nat) (v : Int64) : Int64 := if q = 8 then v.toInt32.toInt8.toInt32.toInt64 else if q = 16 then v.toInt32.toInt16.toInt32.toInt64 else v
theorem put_C {A : Ob} {σ : Mm} {s i : Nat} (v : Int64) (h : AC A σ) (hs : s < 4) (hi : i < 40) : f_X6_put (40 + 2 * s) (nI i) v σ = some ((), sL σ (41 + 2 * s) i (wrt (oQ A s) v)) := by
  have g1 := (h.2.2.2.2.2.2.1 s hs).1
  have hq := (h.1.2.2.2 s hs).2
  unfold f_X6_put wrt
  rw [g1, qi_8, qi_16, show 40 + 2 * s + 1 = 41 + 2 * s by omega]
  by_cases q8 : oQ A s = 8
  · rw [i_eq q8, if_pos q8, p_ck _ hi (by omega), p_ix (by omega), p_nm]
  · rw [i_ne (by omega) (by omega) q8, if_neg q8]
    by_cases q16 : oQ A s = 16
    · rw [i_eq q16, if_pos q16, p_ck _ hi (by omega), p_ix (by omega), p_nm]
    · rw [i_ne (by omega) (by omega) q16, if_neg q16, p_ck _ hi (by omega), p_ix (by omega), p_nm]
theorem toldL {A : Ob} {σ : Mm} {e : Nat} {f g : Mm → Option (Int64 × Mm)} (hc : AC A σ) (hm : AM A σ) (he : e < 7) (h1 : f σ = bd (f_X0_tell (nI e) σ) (fun r σ1 => some (r.toInt64, σ1))) (h2 : ∀ τ, AM A τ → g τ = bd (f_X11_finds (er7 e) τ) (fun r σ1 => some (r.toInt64, σ1))) : Ans f g σ := by
  refine Ans_of (r := (er7 e).toInt64) (A' := tel A e) hm ?_ (fun τ h => ?_)
  · obtain ⟨σ', a, b, c⟩ := tell_eq hc he
    exact ⟨σ', by rw [h1, a, p_bd], b, c⟩
  · obtain ⟨σ', a, b, c⟩ := finds_eq h he
    exact ⟨σ', by rw [h2 τ h, a, p_bd], b, c⟩
theorem op_write {A : Ob} {σ : Mm} (hc : AC A σ) (hm : AM A σ) (x y : Int32) (v : Int64) : Ans (f_X10_write x y v) (f_X11_write x y v) σ := by
  rcases rng (n := 4) x (by omega) with h | ⟨s, hs, rfl⟩
  · refine toldL (e := 0) hc hm (by omega) ?_ (fun τ hm => ?_)
    · unfold f_X10_write
      rw [isSheet_no h, p_bd, qi_0, i_eq rfl]
    · unfold f_X11_write
      rw [misSheet_no h, p_bd, qi_0, i_eq rfl, er_1]
  · obtain ⟨g1, g2, g3⟩ := hc.2.2.2.2.2.2.1 s hs
    obtain ⟨hz, hq⟩ := hc.1.2.2.2 s hs
    have hcls : f_X10_write (nI s) y v σ = (if nI (oQ A s) = nI 0 then bd (f_X0_tell (nI 5) σ) (fun r σ1 => some (r.toInt64, σ1)) else (if y < nI 0 then bd (f_X0_tell (nI 0) σ) (fun r σ1 => some (r.toInt64, σ1)) else (if y < nI (oZ A s) then ck (nI s) 4 (ck y 40 (nm (σ.2 (41 + 2 * s) (ix y)) (fun vq8 => ck (nI s) 4 (bd (f_X6_put (40 + 2 * s) y v σ) (fun rq11 σ10 => some (vq8, σ10)))))) else bd (f_X0_tell (nI 0) σ) (fun r σ1 => some (r.toInt64, σ1))))) := by
      unfold f_X10_write
      rw [isSheet_yes hs, p_bd, qi_0, qi_5, i_ne (by omega) (by omega) (by omega), p_ck _ hs (by omega), shI_n hs, g1, g2, p_ck _ hs (by omega), show 40 + 2 * s + 1 = 41 + 2 * s by omega]
    by_cases q0 : oQ A s = 0
    · refine toldL (e := 5) hc hm (by omega) (by rw [hcls, i_eq q0]) (fun τ hm => ?_)
      unfold f_X11_write
      rw [misSheet_yes hs, p_bd, qi_0, er_6, i_ne (by omega) (by omega) (by omega), p_ck _ hs (by omega), p_ix (by omega), (hm.2.2.2.2.2.2.1 s hs).1, i_eq q0]
    · rcases rng (n := oZ A s) y (by omega) with h | ⟨i, hi, rfl⟩
      · refine toldL (e := 0) hc hm (by omega) ?_ (fun τ hm => ?_)
        · rw [hcls, i_ne (by omega) (by omega) q0]
          by_cases y0 : y < nI 0
          · rw [if_pos y0]
          · have hy : ¬ y < nI (oZ A s) := by
              rcases h with h | h
              · exact absurd h y0
              · rw [Int32.lt_iff_toInt_lt]
                rw [Int32.le_iff_toInt_le] at h
                omega
            rw [if_neg y0, if_neg hy]
        · unfold f_X11_write
          rw [misSheet_yes hs, p_bd, qi_0, qi_1, er_1, i_ne (by omega) (by omega) (by omega), p_ck _ hs (by omega), p_ix (by omega), (hm.2.2.2.2.2.2.1 s hs).1, i_ne (by omega) (by omega) q0, p_ck _ hs (by omega), (hm.2.2.2.2.2.2.1 s hs).2.1, in_no (by omega) h, p_bd, i_eq rfl]
      · refine Ans_of (r := oV A s i) (A' := ptX A s i (wrt (oQ A s) v)) hm ?_ (fun τ hm => ?_)
        · obtain ⟨b1, b2, _⟩ := AC_put (i := i) (wrt (oQ A s) v) hc hs
          refine ⟨_, ?_, b1, b2⟩
          rw [hcls, i_ne (by omega) (by omega) q0, i_nlt (by omega) (by omega), i_lt (by omega) hi, p_ck _ hs (by omega), p_ck _ (by omega) (by omega), p_ix (by omega), g3 i hi, p_nm, p_ck _ hs (by omega), put_C v hc hs (by omega), p_bd]
        · obtain ⟨k1, k2, k3⟩ := hm.2.2.2.2.2.2.1 s hs
          obtain ⟨b1, b2, _⟩ := AM_put (i := i) (wrt (oQ A s) v) hm hs (by omega)
          refine ⟨_, ?_, b1, b2⟩
          unfold f_X11_write wrt
          rw [misSheet_yes hs, p_bd, qi_0, qi_1, qi_8, qi_16, qi_40, i_ne (by omega) (by omega) (by omega), p_ck _ hs (by omega), p_ix (a := s) (by omega), k1, i_ne (by omega) (by omega) q0, p_ck _ hs (by omega), k2, in_yes (by omega) hi, p_bd, i_ne (by omega) (by omega) (by omega), pk_mul, nI_add, p_ck _ (by omega) (by omega), p_ix (a := 40 * s + i) (by omega), k3 i hi, p_nm, p_ck _ hs (by omega), k1]
          by_cases q8 : oQ A s = 8
          · rw [i_eq q8, if_pos q8, p_ck _ (by omega) (by omega), p_nm]
          · rw [i_ne (by omega) (by omega) q8, if_neg q8, p_ck _ hs (by omega)]
            by_cases q16 : oQ A s = 16
            · rw [i_eq q16, if_pos q16, p_ck _ (by omega) (by omega), p_nm]
            · rw [i_ne (by omega) (by omega) q16, if_neg q16, p_ck _ (by omega) (by omega), p_nm]
/-- lead -/
def ldX (A : Ob) (s D : Nat) (m : Nat → Nat) (i : Nat) : Ob := uX A (upq (oQ A) s 8) (upq (oZ A) s D) (upq (oV A) s (fun j => if j < i then (nI (m j)).toInt64 else lN 0))
theorem ldX_0 (A : Ob) (s D : Nat) (m : Nat → Nat) : bgX A s 8 D = ldX A s D m 0 := by
  unfold bgX ldX
  have : (fun j : Nat => if j < 0 then (nI (m j)).toInt64 else lN 0) = fun _ => lN 0 := by
    funext j
    rw [if_neg (by omega)]
  rw [this]
theorem ldX_s (A : Ob) (s D : Nat) (m : Nat → Nat) (i : Nat) : ptX (ldX A s D m i) s i ((nI (m i)).toInt64) = ldX A s D m (i + 1) := by
  have e : upq (oV (ldX A s D m i)) s (upq (oV (ldX A s D m i) s) i ((nI (m i)).toInt64)) = upq (oV A) s (fun j => if j < i + 1 then (nI (m j)).toInt64 else lN 0) := by
    have e1 : oV (ldX A s D m i) = upq (oV A) s (fun j => if j < i then (nI (m j)).toInt64 else lN 0) := rfl
    rw [e1, upq_s]
    funext d
    by_cases c : d = s
    · rw [c, upq_s, upq_s]
      funext j
      by_cases q : j = i
      · rw [q, upq_s, if_pos (by omega)]
      · rw [upq_n q]
        by_cases q2 : j < i
        · rw [if_pos q2, if_pos (by omega)]
        · rw [if_neg q2, if_neg (by omega)]
    · rw [upq_n c, upq_n c, upq_n c]
  show uX (ldX A s D m i) (oQ (ldX A s D m i)) (oZ (ldX A s D m i)) _ = _
  rw [e]
  rfl
theorem wrt8 {k : Nat} (h : k < 13) : wrt 8 ((nI k).toInt64) = (nI k).toInt64 := co_dec (N := 13) (P := fun k => wrt 8 ((nI k).toInt64) = (nI k).toInt64) (by decide +kernel) h
theorem mOf_13 {k : Nat} (h : k < 6) : mOf k < 13 := by unfold mOf; split <;> omega
theorem lead_C {A : Ob} {σ : Mm} {s D w : Nat} {b : Bs} (hc : AC (bgX A s 8 D) σ) (hs : s < 4) (hD : D ≤ 40) (h25 : ∀ i, i < D → σ.1 25 i = nI (mvp b w i)) : ∃ σ1, fx (fun _ _ => none) FU (f_X10_lead_L86 (nI s) (nI D)) (0 : Int32) σ = some (nI D, σ1) ∧ AC (ldX A s D (fun i => mOf (mvp b w i)) D) σ1 ∧ FrC σ σ1 := by
  rw [qi_0]
  obtain ⟨τ, ⟨t1, t2, t3⟩, e⟩ := lqU (F := f_X10_lead_L86 (nI s) (nI D)) (bot := fun _ _ => none) (fun τ => some (nI D, τ)) D (fun k τ => AC (ldX A s D (fun i => mOf (mvp b w i)) k) τ ∧ FrC σ τ ∧ Fr xcL σ τ) (by
      intro L τ _
      unfold f_X10_lead_L86
      rw [i_le (by omega) (by omega)]) (by
      rintro L k τ hk ⟨u1, u2, u3⟩
      have hk6 := mvp_6 b w k
      have h25' : τ.1 25 k = nI (mvp b w k) := by rw [u3.r1 25 (by decide)]; exact h25 k hk
      have hq : oQ (ldX A s D (fun i => mOf (mvp b w i)) k) s = 8 := upq_s
      obtain ⟨b1, b2, b3⟩ := AC_put (i := k) ((nI (mOf (mvp b w k))).toInt64) u1 hs
      rw [ldX_s A s D (fun i => mOf (mvp b w i)) k] at b1
      unfold f_X10_lead_L86
      rw [i_nle (by omega) (by omega), p_ck _ hs (by omega), onPath_eq (by omega) h25', p_bd, shI_n hs, put_C _ u1 hs (by omega), hq, wrt8 (mOf_13 hk6), p_bd, qi_1, nI_add, p_nm]
      exact ⟨_, ⟨b1, FrC_tr u2 b2, u3.tr b3⟩, rfl⟩) FU 0 σ (by omega) (by rw [FU_v]; omega) ⟨by rw [← ldX_0]; exact hc, FrC_rf _, Fr.rf _ _⟩
  exact ⟨τ, e, t1, t2⟩
theorem lead_M {A : Ob} {σ : Mm} {s D w : Nat} {b : Bs} (hm : AM (bgX A s 8 D) σ) (hs : s < 4) (hD : D ≤ 40) (h63 : σ.1 48 63 = nI D) (h91 : ∀ i, i < D → σ.1 91 i = nI (mOf (mvp b w i))) : ∃ σ1, fx (fun _ _ => none) FU (f_X11_lead_L58 (nI s)) (0 : Int32) σ = some (nI D, σ1) ∧ AM (ldX A s D (fun i => mOf (mvp b w i)) D) σ1 ∧ FrM σ σ1 := by
  rw [qi_0]
  obtain ⟨τ, ⟨t1, t2, t3⟩, e⟩ := lqU (F := f_X11_lead_L58 (nI s)) (bot := fun _ _ => none) (fun τ => some (τ.1 48 63, τ)) D (fun k τ => AM (ldX A s D (fun i => mOf (mvp b w i)) k) τ ∧ FrM σ τ ∧ Fr [61, 62, 63, 64] σ τ) (by
      rintro L τ ⟨u1, u2, u3⟩
      unfold f_X11_lead_L58
      rw [u3.r1 48 (by decide), h63, i_le (by omega) (by omega)]) (by
      rintro L k τ hk ⟨u1, u2, u3⟩
      obtain ⟨b1, b2, b3⟩ := AM_put (i := k) ((nI (mOf (mvp b w k))).toInt64) u1 hs (by omega)
      rw [ldX_s A s D (fun i => mOf (mvp b w i)) k] at b1
      unfold f_X11_lead_L58
      rw [u3.r1 48 (by decide), h63, i_nle (by omega) (by omega), p_ck _ (by omega) (by omega), qi_40, pk_mul, nI_add, p_ck _ (by omega) (by omega), p_ix (a := 40 * s + k) (by omega), p_ix (a := k) (by omega), u3.r1 91 (by decide), h91 k hk, p_nm, qi_1, nI_add, p_nm]
      exact ⟨_, ⟨b1, FrM_tr u2 b2, u3.tr b3⟩, rfl⟩) FU 0 σ (by omega) (by rw [FU_v]; omega) ⟨by rw [← ldX_0]; exact hm, FrM_rf _, Fr.rf _ _⟩
  rw [e, t3.r1 48 (by decide), h63]
  exact ⟨τ, rfl, t1, t2⟩
theorem op_lead {A : Ob} {σ : Mm} (hc : AC A σ) (hm : AM A σ) (x : Int32) : Ans (f_X10_lead x) (f_X11_lead x) σ := by
  rcases rng (n := 4) x (by omega) with h | ⟨s, hs, rfl⟩
  · refine told (e := 0) hc hm (by omega) ?_ (fun τ hm => ?_)
    · unfold f_X10_lead
      rw [isSheet_no h, p_bd, if_pos (show nI 0 = (0 : Int32) from rfl), qi_0]
    · unfold f_X11_lead
      rw [misSheet_no h, p_bd, if_pos (show nI 0 = (0 : Int32) from rfl), er_1]
  · obtain ⟨σ1, a1, a2, a3, a4, _⟩ := tl_C hc
    cases hb : big (oP A) with
    | true =>
      refine Ans_of (r := er7 6) (A' := tel A 6) hm ?_ (fun τ hm => ?_)
      · obtain ⟨σ2, b1, b2, b3⟩ := tellC (e := 6) a2 (by omega)
        unfold f_X10_lead
        rw [isSheet_yes hs, p_bd, if_neg (show ¬ nI 1 = (0 : Int32) by decide), a1, p_bd, hb, bI_t, if_neg (show ¬ nI 1 = (0 : Int32) by decide), qi_6]
        exact ⟨σ2, b1, b2, FrC_tr a3 b3⟩
      · obtain ⟨τ1, c1, c2, c3⟩ := leads_M hm
        rcases c3 with ⟨_, e⟩ | ⟨e, _⟩ | ⟨e, _⟩
        · obtain ⟨τ2, b1, b2, b3⟩ := tellM (e := 6) c1 (by omega)
          unfold f_X11_lead
          rw [misSheet_yes hs, p_bd, if_neg (show ¬ nI 1 = (0 : Int32) by decide), e, p_bd, if_neg (show ¬ er7 6 = (0 : Int32) by decide)]
          exact ⟨τ2, b1, b2, FrM_tr c2 b3⟩
        · rw [hb] at e; cases e
        · rw [hb] at e; cases e
    | false =>
      obtain ⟨σ2, d1, d2, d3⟩ := ww_C a2 a4 hb
      rcases d3 with ⟨w1, w2, w3⟩ | ⟨w, w1, w2, w3, w4⟩
      · refine Ans_of (r := er7 3) (A' := tel A 3) hm ?_ (fun τ hm => ?_)
        · obtain ⟨σ3, b1, b2, b3⟩ := tellC (e := 3) d1 (by omega)
          unfold f_X10_lead
          rw [isSheet_yes hs, p_bd, if_neg (show ¬ nI 1 = (0 : Int32) by decide), a1, p_bd, hb, bI_f, if_pos (show nI 0 = (0 : Int32) from rfl), w3, p_bd, if_neg (show ¬ (0 : Int32) ≤ -nI 1 by decide), qi_3]
          exact ⟨σ3, b1, b2, FrC_tr a3 (FrC_tr d2 b3)⟩
        · obtain ⟨τ1, c1, c2, c3⟩ := leads_M hm
          rcases c3 with ⟨e, _⟩ | ⟨_, _, e⟩ | ⟨_, w, e, _⟩
          · rw [hb] at e; cases e
          · obtain ⟨τ2, b1, b2, b3⟩ := tellM (e := 3) c1 (by omega)
            unfold f_X11_lead
            rw [misSheet_yes hs, p_bd, if_neg (show ¬ nI 1 = (0 : Int32) by decide), e, p_bd, if_neg (show ¬ er7 3 = (0 : Int32) by decide)]
            exact ⟨τ2, b1, b2, FrM_tr c2 b3⟩
          · rw [w1] at e; cases e
      · have lead : ∀ τ, AM A τ → ∃ τ1, AM A τ1 ∧ FrM τ τ1 ∧ f_X11_leads τ = some (nI 0, τ1) ∧ τ1.1 48 63 = nI (bD (bEnd (oP A)) w) ∧ ∀ i, i < bD (bEnd (oP A)) w → τ1.1 91 i = nI (mOf (mvp (bEnd (oP A)) w i)) := by
          intro τ hm
          obtain ⟨τ1, c1, c2, c3⟩ := leads_M hm
          rcases c3 with ⟨e, _⟩ | ⟨_, e, _⟩ | ⟨_, w', e, e2, e3, e4, e5⟩
          · rw [hb] at e; cases e
          · rw [w1] at e; cases e
          · rw [w1] at e
            rw [Option.some.inj e]
            exact ⟨τ1, c1, c2, e3, e4, e5⟩
        generalize hD : bD (bEnd (oP A)) w = D at *
        by_cases d40 : D ≤ 40
        · refine Ans_of (r := nI D) (A' := ldX A s D (fun i => mOf (mvp (bEnd (oP A)) w i)) D) hm ?_ (fun τ hm => ?_)
          · obtain ⟨σ3, b1, b2, b3, b4, b5⟩ := begin_C (s := s) (y := 8) (w := D) d1 hs d40 (by omega)
            have b25 : ∀ i, i < D → σ3.1 25 i = nI (mvp (bEnd (oP A)) w i) := by
              intro i hi
              have hb25 : σ3.1 25 = σ2.1 25 := b5.r1 25 (by decide)
              rw [hb25]; exact w4 i hi
            obtain ⟨σ4, e1, e2, e3⟩ := lead_C b2 hs d40 b25
            unfold f_X10_lead
            rw [isSheet_yes hs, p_bd, if_neg (show ¬ nI 1 = (0 : Int32) by decide), a1, p_bd, hb, bI_f, if_pos (show nI 0 = (0 : Int32) from rfl), w3, p_bd, if_pos (show (0 : Int32) ≤ nI D by rw [qi_0]; exact nI_le (by omega) (by omega)), qi_40, i_le (by omega) d40, p_ck _ hs (by omega), shI_n hs, qi_8, b1, p_bd, e1]
            exact ⟨σ4, rfl, e2, FrC_tr a3 (FrC_tr d2 (FrC_tr b3 e3))⟩
          · obtain ⟨τ1, c1, c2, c3, c4, c5⟩ := lead τ hm
            obtain ⟨τ2, b1, b2, b3, b4, b5⟩ := layRow_M (s := s) (y := 8) (w := D) c1 hs d40 (by omega)
            rw [if_neg (by decide)] at b2 b4
            obtain ⟨τ3, e1, e2, e3⟩ := lead_M b2 hs d40 (by rw [b5.r1 48 (by decide)]; exact c4) (fun i hi => by rw [b5.r1 91 (by decide)]; exact c5 i hi)
            unfold f_X11_lead
            rw [misSheet_yes hs, p_bd, if_neg (show ¬ nI 1 = (0 : Int32) by decide), c3, p_bd, if_pos (show nI 0 = (0 : Int32) from rfl), c4, qi_40, i_le (by omega) d40, qi_8, b1, p_bd, e1]
            exact ⟨τ3, rfl, e2, FrM_tr c2 (FrM_tr b3 e3)⟩
        · refine Ans_of (r := er7 1) (A' := tel A 1) hm ?_ (fun τ hm => ?_)
          · obtain ⟨σ3, b1, b2, b3⟩ := tellC (e := 1) d1 (by omega)
            unfold f_X10_lead
            rw [isSheet_yes hs, p_bd, if_neg (show ¬ nI 1 = (0 : Int32) by decide), a1, p_bd, hb, bI_f, if_pos (show nI 0 = (0 : Int32) from rfl), w3, p_bd, if_pos (show (0 : Int32) ≤ nI D by rw [qi_0]; exact nI_le (by omega) (by omega)), qi_40, i_nle (by omega) (by omega), qi_1]
            exact ⟨σ3, b1, b2, FrC_tr a3 (FrC_tr d2 b3)⟩
          · obtain ⟨τ1, c1, c2, c3, c4, c5⟩ := lead τ hm
            obtain ⟨τ2, b1, b2, b3⟩ := tellM (e := 1) c1 (by omega)
            unfold f_X11_lead
            rw [misSheet_yes hs, p_bd, if_neg (show ¬ nI 1 = (0 : Int32) by decide), c3, p_bd, if_pos (show nI 0 = (0 : Int32) from rfl), c4, qi_40, i_nle (by omega) (by omega), er_2]
            exact ⟨τ2, b1, b2, FrM_tr c2 b3⟩
