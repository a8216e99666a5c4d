/-! PURE: steps, step, as, look, status -/
theorem same {A : Ob} {σ : Mm} {α : Type} {r : α} {f g : Mm → Option (α × Mm)} (hc : AC A σ) (hm : AM A σ) (h1 : f σ = some (r, σ)) (h2 : ∀ τ, AM A τ → g τ = some (r, τ)) : Ans f g σ := Ans_of (r := r) (A' := A) hm ⟨σ, h1, hc, FrC_rf σ⟩ (fun τ h => ⟨τ, h2 τ h, h, FrM_rf τ⟩)
theorem told {A : Ob} {σ : Mm} {e : Nat} {f g : Mm → Option (Int32 × Mm)} (hc : AC A σ) (hm : AM A σ) (he : e < 7) (h1 : f σ = bd (f_X0_tell (nI e) σ) (fun r σ1 => some (r, σ1))) (h2 : ∀ τ, AM A τ → g τ = bd (f_X11_finds (er7 e) τ) (fun r σ1 => some (r, σ1))) : Ans f g σ := Ans_of (r := er7 e) (A' := tel A e) hm (by rw [h1]; exact tellC hc he) (fun τ h => by rw [h2 τ h]; exact tellM h he)
theorem op_steps {A : Ob} {σ : Mm} (hc : AC A σ) (hm : AM A σ) (x : Int32) : Ans (f_X10_steps x) (f_X11_steps x) σ := by
  have hS := hc.1.1
  have h6 := hS.1
  rcases rng (n := sK (oS A)) x (by omega) with h | ⟨c, h, rfl⟩
  · refine told (e := 0) hc hm (by omega) ?_ (fun τ hm => ?_)
    · unfold f_X10_steps
      rw [qi_0, hasCall_no hS hc.2.1 h, p_bd, i_eq rfl]
    · unfold f_X11_steps
      rw [qi_0, er_1, misCall_no hS hm.2.1 h, p_bd, i_eq rfl]
  · refine same (r := nI (sN (oS A) c)) hc hm ?_ (fun τ hm => ?_)
    · have e8 : σ.1 8 c = nI (sN (oS A) c) := hc.2.1.2.2.2.1 c h
      unfold f_X10_steps
      rw [qi_0, hasCall_yes hS hc.2.1 h, p_bd, i_ne (by omega) (by omega) (by omega), p_ck _ (by omega) (by omega), p_ix (by omega), e8]
    · unfold f_X11_steps
      rw [qi_0, misCall_yes hS hm.2.1 h, p_bd, i_ne (by omega) (by omega) (by omega), p_ck _ (by omega) (by omega), p_ix (by omega), hm.2.1.2.2.2.1 c h]
/-- a part of a step, if it has it -/
def dfn (k z : Nat) : Bool := decide (z = 0 ∨ (z = 1 ∧ 1 ≤ k ∧ k ≤ 4) ∨ (z = 2 ∧ (k = 2 ∨ k = 3 ∨ k = 4 ∨ k = 7)) ∨ (z = 3 ∧ k = 3) ∨ (z = 4 ∧ k = 6))
theorem stV1_ok {k : Nat} (hk : k < 8) : ∀ z, z < 5 → (((stV1 k >>> (nI z &&& nI 31)) &&& nI 1 = nI 0) ↔ dfn k z = false) := co_dec (N := 8) (P := fun k => ∀ z, z < 5 → (((stV1 k >>> (nI z &&& nI 31)) &&& nI 1 = nI 0) ↔ dfn k z = false)) (by decide +kernel) hk
def prt (f : Nat → Nat) (z : Nat) : Int32 := if z = 2 then vI (f 2) else nI (f z)
theorem op_step {A : Ob} {σ : Mm} (hc : AC A σ) (hm : AM A σ) (x y w : Int32) : Ans (f_X10_step x y w) (f_X11_step x y w) σ := by
  have hS := hc.1.1
  have h6 := hS.1
  rcases step_or hS x y with h | ⟨c, s, hk, hs, rfl, rfl⟩
  · refine told (e := 0) hc hm (by omega) ?_ (fun τ hm => ?_)
    · unfold f_X10_step
      rw [qi_0, hasStep_no hS hc.2.1 h, p_bd, i_eq rfl]
    · unfold f_X11_step
      rw [qi_0, er_1, misStep_no hS hm.2.1 h, p_bd, i_eq rfl]
  · have h7 := (hS.2.1 c hk).2
    have hi := idx_lt hS hk hs
    rcases rng (n := 5) w (by omega) with h | ⟨z, hz, rfl⟩
    · refine told (e := 0) hc hm (by omega) ?_ (fun τ hm => ?_)
      · unfold f_X10_step
        rw [qi_0, qi_5, hasStep_yes hS hc.2.1 hk hs, p_bd, i_ne (by omega) (by omega) (by omega)]
        by_cases h0 : w < nI 0
        · rw [if_pos h0]
        · have h5 : ¬ w < nI 5 := by
            rcases h with h | h
            · exact absurd h h0
            · rw [Int32.lt_iff_toInt_lt]
              rw [Int32.le_iff_toInt_le] at h
              omega
          rw [if_neg h0, if_neg h5]
      · unfold f_X11_step
        rw [qi_0, qi_4, er_1, misStep_yes hS hm.2.1 hk hs, p_bd, i_ne (by omega) (by omega) (by omega), in_n (by omega) h, p_bd, i_eq rfl]
    · obtain ⟨v1, v2, v3, v4, v5, v6⟩ := hS.2.2.1 c s hk hs
      have hcd : CdC σ 9 ((c * 7 + s) * 5) (sC (oS A) c s) := hc.2.1.2.2.2.2.1 c s hk hs
      have hms : ∀ τ, AM A τ → CdS τ (7 * c + s) (sC (oS A) c s) := fun τ hm => hm.2.1.2.2.2.2.1 c s hk hs
      generalize hf : sC (oS A) c s = f at *
      have cC : dfn (f 0) z = true → σ.1 9 ((c * 7 + s) * 5 + z) = prt f z := by
        intro hd
        have hd := of_decide_eq_true hd
        unfold prt
        rcases hd with q | ⟨q, q1, q2⟩ | ⟨q, q1⟩ | ⟨q, q1⟩ | ⟨q, q1⟩
        · rw [q, if_neg (by omega)]; exact hcd.1
        · rw [q, if_neg (by omega)]; exact hcd.2.1 q1 q2
        · rw [q, if_pos rfl]; exact hcd.2.2.1 q1
        · rw [q, if_neg (by omega)]; exact hcd.2.2.2.1 q1
        · rw [q, if_neg (by omega)]; exact hcd.2.2.2.2 q1
      have cls : f_X10_step (nI c) (nI s) (nI z) σ = if dfn (f 0) z = false then bd (f_X0_tell (nI 2) σ) (fun r σ1 => some (r, σ1)) else some (σ.1 9 ((c * 7 + s) * 5 + z), σ) := by
        unfold f_X10_step
        rw [qi_0, qi_1, qi_2, qi_5, show (31 : Int32) = nI 31 from rfl, hasStep_yes hS hc.2.1 hk hs, p_bd, i_ne (by omega) (by omega) (by omega), i_nlt (by omega) (by omega), i_lt (by omega) hz, partOf_eq (by omega), p_bd, Nat.add_zero, hcd.1, p_ck _ (by omega) (by omega), p_ix (by omega), p_nm]
        have := stV1_ok (show f 0 < 8 by omega) z hz
        by_cases d : dfn (f 0) z = false
        · rw [if_pos (this.mpr d), if_pos d]
        · rw [if_neg (fun q => d (this.mp q)), if_neg d, partOf_eq (by omega), p_bd]
      cases hd : dfn (f 0) z with
      | false =>
        refine told (e := 2) hc hm (by omega) (by rw [cls, if_pos hd]) (fun τ hm => ?_)
        have hq := of_decide_eq_false hd
        obtain ⟨m1, m2, m3, m4, m5⟩ := hms τ hm
        unfold f_X11_step
        rw [qi_0, qi_1, qi_2, qi_3, qi_4, qi_6, qi_7, er_3, misStep_yes hS hm.2.1 hk hs, p_bd, i_ne (by omega) (by omega) (by omega), in_y (by omega) (by omega), p_bd, i_ne (by omega) (by omega) (by omega), pk_mul, nI_add, p_nm, p_ck _ (by omega) (by omega), p_ix (a := 7 * c + s) (by omega), m1, p_nm, i_ne (by omega) (by omega) (by omega)]
        by_cases z1 : z = 1
        · rw [i_eq z1, in_bb (by omega) (by omega) (by omega), decide_eq_false (by omega), p_bd, bI_f, i_eq rfl]
        · rw [i_ne (by omega) (by omega) z1]
          by_cases z2 : z = 2
          · rw [i_eq z2, i_ne (by omega) (by omega) (by omega), i_ne (by omega) (by omega) (by omega), i_ne (by omega) (by omega) (by omega), i_ne (by omega) (by omega) (by omega)]
          · rw [i_ne (by omega) (by omega) z2]
            by_cases z3 : z = 3
            · rw [i_eq z3, i_ne (by omega) (by omega) (by omega)]
            · rw [i_ne (by omega) (by omega) z3, i_ne (by omega) (by omega) (by omega)]
      | true =>
        refine same (r := prt f z) hc hm (by rw [cls, hd, if_neg (by decide), cC hd]) (fun τ hm => ?_)
        have hq := of_decide_eq_true hd
        obtain ⟨m1, m2, m3, m4, m5⟩ := hms τ hm
        unfold f_X11_step prt
        rw [qi_0, qi_1, qi_2, qi_3, qi_4, qi_6, qi_7, misStep_yes hS hm.2.1 hk hs, p_bd, i_ne (by omega) (by omega) (by omega), in_y (by omega) (by omega), p_bd, i_ne (by omega) (by omega) (by omega), pk_mul, nI_add, p_nm, p_ck _ (by omega) (by omega), p_ix (a := 7 * c + s) (by omega), m1, p_nm]
        by_cases z0 : z = 0
        · rw [i_eq z0, z0, if_neg (by omega)]
        rw [i_ne (by omega) (by omega) z0]
        by_cases z1 : z = 1
        · rw [i_eq z1, in_bb (by omega) (by omega) (by omega), decide_eq_true (by omega), p_bd, bI_t, i_ne (by omega) (by omega) (by omega), p_ck _ (by omega) (by omega), m2 (by omega) (by omega), z1, if_neg (by omega)]
        · rw [i_ne (by omega) (by omega) z1]
          by_cases z2 : z = 2
          · have hk4 : f 0 = 2 ∨ f 0 = 3 ∨ f 0 = 4 ∨ f 0 = 7 := by omega
            rw [i_eq z2, if_pos z2, p_ck _ (by omega) (by omega), m3 hk4]
            by_cases k2 : f 0 = 2
            · rw [i_eq k2]
            · rw [i_ne (by omega) (by omega) k2]
              by_cases k3 : f 0 = 3
              · rw [i_eq k3]
              · rw [i_ne (by omega) (by omega) k3]
                by_cases k4 : f 0 = 4
                · rw [i_eq k4]
                · rw [i_ne (by omega) (by omega) k4, i_eq (by omega)]
          · rw [i_ne (by omega) (by omega) z2, if_neg z2]
            by_cases z3 : z = 3
            · rw [i_eq z3, i_eq (by omega), p_ck _ (by omega) (by omega), m4 (by omega), z3]
            · rw [i_ne (by omega) (by omega) z3, i_eq (by omega), p_ck _ (by omega) (by omega), m5 (by omega), show z = 4 by omega]
/-- as -/
def par (k : Nat) : Option Nat := if k = 0 then none else if k = 4 then some 3 else some 0
theorem stV0_ok {k : Nat} (hk : k < 8) : stV0 k = iO (par k) := co_dec (N := 8) (P := fun k => stV0 k = iO (par k)) (by decide +kernel) hk
def und (z : Nat) : Nat → Option Nat → Bool
  | 0, _ => false
  | _ + 1, none => false
  | n + 1, some k => if k = z then true else und z n (par k)
theorem und_ok {k : Nat} (hk : k < 8) : ∀ z, z < 8 → und z 8 (some k) = decide (z = 0 ∨ z = k ∨ (z = 3 ∧ k = 4)) := co_dec (N := 8) (P := fun k => ∀ z, z < 8 → und z 8 (some k) = decide (z = 0 ∨ z = k ∨ (z = 3 ∧ k = 4))) (by decide +kernel) hk
theorem isUnder_eq {k z : Nat} {σ : Mm} (hk : k < 8) (hz : z < 8) : f_X10_isUnder (nI k) (nI z) σ = some (bI (und z 8 (some k)), σ) := by
  unfold f_X10_isUnder
  rw [qi_0]
  refine lq2 (bot := fun _ _ _ => none) (F := f_X10_isUnder_L4 (nI z)) (fun a b τ => ∃ i cur, i ≤ 8 ∧ a = iO cur ∧ b = nI i ∧ τ = σ ∧ (∀ v, cur = some v → v < 8) ∧ und z (8 - i) cur = und z 8 (some k)) (fun _ b _ => 9 - ix b) (fun o => o = some (bI (und z 8 (some k)), σ)) ?_ FU (nI k) (nI 0) σ ?_ ⟨0, some k, by omega, rfl, rfl, rfl, fun v hv => by rw [← Option.some.inj hv]; exact hk, rfl⟩
  · rintro L a b τ ⟨i, cur, hi, rfl, rfl, rfl, hv, hu⟩
    unfold f_X10_isUnder_L4
    simp only [qi_0, qi_1, qi_2, qi_3, qi_4, qi_5, qi_6, qi_7, qi_8, qi_9, qi_10, qi_11, qi_12, qi_13, qi_14, qi_15, qi_16, qi_17, qi_19, qi_26, qi_31, qi_32, qi_35, qi_40, qi_42, qi_48, qi_50, qi_57, qi_59, qi_63, qi_64, qi_97, qi_120, qi_122, qi_210, qi_255, qi_511, qi_512, qi_1000, qi_6000, qi_13312, qi_14337, qi_16383, qi_16384, qi_524287]
    by_cases c8 : i = 8
    · right
      rw [c8, Nat.sub_self] at hu
      have hu : false = und z 8 (some k) := hu
      rw [c8, i_le (by omega) (by omega), p_cb0, ← hu, bI_f]
    · have e8 : 8 - i = (7 - i) + 1 := by omega
      rw [i_nle (by omega) (by omega)]
      cases cur with
      | none =>
        right
        rw [e8] at hu
        have hu : false = und z 8 (some k) := hu
        rw [show iO none = -nI 1 from rfl, i_m1lt (by omega), p_cb0, ← hu, bI_f]
      | some v =>
        have hv8 := hv v rfl
        rw [e8] at hu
        have hu : (if v = z then true else und z (7 - i) (par v)) = und z 8 (some k) := hu
        rw [show iO (some v) = nI v from rfl, i_nlt (by omega) (by omega)]
        by_cases ev : v = z
        · right
          rw [if_pos ev] at hu
          rw [i_eq ev, p_cb1, ← hu, bI_t]
        · left
          rw [if_neg ev] at hu
          rw [i_ne (by omega) (by omega) ev, p_ck _ (by omega) (by omega), p_ix (a := v) (by omega), stV0_ok hv8, p_nm, nI_add, p_nm]
          refine ⟨_, _, _, ⟨i + 1, par v, by omega, rfl, rfl, rfl, fun u hu' => ?_, by rw [show 8 - (i + 1) = 7 - i by omega]; exact hu⟩, ?_, rfl⟩
          · unfold par at hu'
            split at hu'
            · cases hu'
            · split at hu' <;> (have := Option.some.inj hu'; omega)
          · rw [p_ix (by omega), p_ix (by omega)]; omega
  · rw [p_ix (by omega), FU_v]; omega
theorem op_as {A : Ob} {σ : Mm} (hc : AC A σ) (hm : AM A σ) (x y w : Int32) : Ans (f_X10_as x y w) (f_X11_as x y w) σ := by
  have hS := hc.1.1
  have h6 := hS.1
  rcases step_or hS x y with h | ⟨c, s, hk, hs, rfl, rfl⟩
  · refine told (e := 0) hc hm (by omega) ?_ (fun τ hm => ?_)
    · unfold f_X10_as
      rw [qi_0, hasStep_no hS hc.2.1 h, p_bd, i_eq rfl]
    · unfold f_X11_as
      rw [qi_0, er_1, misStep_no hS hm.2.1 h, p_bd, i_eq rfl]
  · have h7 := (hS.2.1 c hk).2
    have hi := idx_lt hS hk hs
    rcases rng (n := 8) w (by omega) with h | ⟨z, hz, rfl⟩
    · refine told (e := 0) hc hm (by omega) ?_ (fun τ hm => ?_)
      · unfold f_X10_as
        rw [qi_0, qi_8, hasStep_yes hS hc.2.1 hk hs, p_bd, i_ne (by omega) (by omega) (by omega)]
        by_cases h0 : w < nI 0
        · rw [if_pos h0]
        · have h5 : ¬ w < nI 8 := by
            rcases h with h | h
            · exact absurd h h0
            · rw [Int32.lt_iff_toInt_lt]
              rw [Int32.le_iff_toInt_le] at h
              omega
          rw [if_neg h0, if_neg h5]
      · unfold f_X11_as
        rw [qi_0, qi_7, er_1, misStep_yes hS hm.2.1 hk hs, p_bd, i_ne (by omega) (by omega) (by omega), in_n (by omega) h, p_bd, i_eq rfl]
    · have v1 := (hS.2.2.1 c s hk hs).1
      have hcd : CdC σ 9 ((c * 7 + s) * 5) (sC (oS A) c s) := hc.2.1.2.2.2.2.1 c s hk hs
      have hms : ∀ τ, AM A τ → τ.1 50 (7 * c + s) = nI (sC (oS A) c s 0) := fun τ hm => (hm.2.1.2.2.2.2.1 c s hk hs).1
      have h90 := hcd.1
      generalize sC (oS A) c s 0 = k at *
      have hu := und_ok (show k < 8 by omega) z hz
      have cls : f_X10_as (nI c) (nI s) (nI z) σ = if und z 8 (some k) = false then bd (f_X0_tell (nI 2) σ) (fun r σ1 => some (r, σ1)) else some (nI k, σ) := by
        unfold f_X10_as
        rw [qi_0, qi_2, qi_8, hasStep_yes hS hc.2.1 hk hs, p_bd, i_ne (by omega) (by omega) (by omega), i_nlt (by omega) (by omega), i_lt (by omega) hz, partOf_eq (by omega), p_bd, Nat.add_zero, h90, isUnder_eq (by omega) hz, p_bd]
        cases und z 8 (some k) with
        | false => rw [bI_f, i_eq rfl, if_pos rfl]
        | true => rw [bI_t, i_ne (by omega) (by omega) (by omega), if_neg (by decide)]
      have ref : ∀ τ, AM A τ → f_X11_as (nI c) (nI s) (nI z) τ = if und z 8 (some k) = false then bd (f_X11_finds (er7 2) τ) (fun r σ1 => some (r, σ1)) else some (nI k, τ) := by
        intro τ hm
        rw [hu]
        unfold f_X11_as f_X11_as_65
        rw [qi_0, qi_3, qi_4, qi_7, er_3, misStep_yes hS hm.2.1 hk hs, p_bd, i_ne (by omega) (by omega) (by omega), in_y (by omega) (by omega), p_bd, i_ne (by omega) (by omega) (by omega), pk_mul, nI_add, p_ck _ (by omega) (by omega), p_ix (a := 7 * c + s) (by omega), hms τ hm, p_nm]
        by_cases z0 : z = 0
        · rw [i_eq z0, decide_eq_true (Or.inl z0), if_neg (by decide)]
        · rw [i_ne (by omega) (by omega) z0]
          by_cases zk : z = k
          · rw [i_eq zk, decide_eq_true (Or.inr (Or.inl zk)), if_neg (by decide)]
          · rw [i_ne (by omega) (by omega) zk]
            by_cases z3 : z = 3
            · rw [i_eq z3]
              by_cases k4 : k = 4
              · rw [i_eq k4, decide_eq_true (Or.inr (Or.inr ⟨z3, k4⟩)), if_neg (by decide)]
              · rw [i_ne (by omega) (by omega) k4, decide_eq_false (by omega), if_pos rfl]
            · rw [i_ne (by omega) (by omega) z3, decide_eq_false (by omega), if_pos rfl]
      cases hb : und z 8 (some k) with
      | false => exact told (e := 2) hc hm (by omega) (by rw [cls, hb, if_pos rfl]) (fun τ hm => by rw [ref τ hm, hb, if_pos rfl])
      | true => exact same (r := nI k) hc hm (by rw [cls, hb, if_neg (by decide)]) (fun τ hm => by rw [ref τ hm, hb, if_neg (by decide)])
