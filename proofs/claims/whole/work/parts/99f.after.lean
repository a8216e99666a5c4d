/-! PURE: moves, after -/
theorem mmoves_eq {P : Pg} {σ : Mm} {x : Nat} (hP : PgV P) (hX : PgX P) (hL : LdM P σ) (h11 : σ.1 48 11 = nI (pL P)) (hV : VS P x) (hM : MR P σ x) : fx (fun _ _ _ => none) FU f_X11_moves_L21 (nI 0) (nI 0) σ = some (nI (psb P x 6), σ) := by
  have hl1 := hP.2.1
  refine lq2 (bot := fun _ _ _ => none) (F := f_X11_moves_L21) (fun a b τ => ∃ k, k ≤ 6 ∧ a = nI (psb P x k) ∧ b = nI k ∧ τ = σ) (fun _ b _ => 7 - ix b) (fun o => o = some (nI (psb P x 6), σ)) ?_ FU (nI 0) (nI 0) σ ?_ ⟨0, by omega, rfl, rfl, rfl⟩
  · rintro L a b τ ⟨k, hk, rfl, rfl, rfl⟩
    unfold f_X11_moves_L21 f_X11_moves_53
    simp only [qi_0, qi_1, qi_2, qi_3, qi_4, qi_5, qi_6, qi_7, qi_8, qi_9, qi_10, qi_11, qi_12, qi_13, qi_14, qi_15, qi_16, qi_17, qi_19, qi_26, qi_31, qi_32, qi_35, qi_40, qi_42, qi_48, qi_50, qi_57, qi_59, qi_63, qi_64, qi_97, qi_120, qi_122, qi_210, qi_255, qi_511, qi_512, qi_1000, qi_6000, qi_13312, qi_14337, qi_16383, qi_16384, qi_524287]
    by_cases c : k = 6
    · right
      rw [c, i_le (by omega) (by omega)]
    · left
      have hlt := psb_lt P x k
      rw [i_nle (by omega) (by omega), moveOf_eq (by omega), p_bd, h11, can_eq hP hX hL hV hM (by omega) (by omega), p_bd, p_ix (a := k) (by omega)]
      have es : psb P x (k + 1) = psb P x k + (if mv P (pL P) x k = none then 0 else 2 ^ k) := rfl
      by_cases cm : mv P (pL P) x k = none
      · rw [if_pos cm] at es
        have eo : nI (psb P x k) ||| nI 0 = nI (psb P x k) := by
          have := i_or (b := 0) hlt
          rw [Nat.zero_mul, Nat.add_zero] at this
          exact this
        rw [decide_eq_false (fun z => z cm), bI_f, i_eq rfl, eo, p_nm, nI_add, p_nm]
        refine ⟨_, _, _, ⟨k + 1, by omega, by rw [es]; rfl, rfl, rfl⟩, ?_, rfl⟩
        rw [p_ix (by omega)]; omega
      · rw [if_neg cm] at es
        have eo : nI (psb P x k) ||| nI (2 ^ k) = nI (psb P x k + 2 ^ k) := by
          have := i_or (b := 1) hlt
          rw [Nat.one_mul] at this
          exact this
        rw [decide_eq_true cm, bI_t, i_ne (by omega) (by omega) (by omega), shl1 (by omega), eo, p_nm, nI_add, p_nm]
        refine ⟨_, _, _, ⟨k + 1, by omega, by rw [es], rfl, rfl⟩, ?_, rfl⟩
        rw [p_ix (by omega)]; omega
  · rw [p_ix (by omega), FU_v]; omega
theorem op_moves {A : Ob} {σ : Mm} (hc : AC A σ) (hm : AM A σ) (x : Int32) : Ans (f_X10_moves x) (f_X11_moves x) σ := by
  obtain ⟨hP, h0⟩ := oP_V hc.1
  have hX := PgX_Of hc.1.1 (FX_no hc.1.1)
  refine plays_op (x := x) (F := fun σ1 => bd (f_X1_possible (σ1.2 37 1) σ1) (fun rq6 σ5 => some (rq6, σ5))) (G := fun τ1 => fx (fun _ _ _ => none) FU f_X11_moves_L21 (nI 0) (nI 0) τ1) hc hm (fun r σ1 h => ?_) (fun τ r τ1 _ h => ?_) (fun s hs => ?_)
  · unfold f_X10_moves
    rw [h, p_bd, lt_or]
  · unfold f_X11_moves
    rw [h, p_bd, qi_0]
  · obtain ⟨hV, _, _⟩ := oR_ok hc.1 hs
    refine ⟨nI (psb (oP A) (oR A s).1 6), A, fun σ1 a1 a2 => ⟨σ1, ?_, a1, FrC_rf _⟩, fun τ1 b1 b2 => ⟨τ1, ?_, b1, FrM_rf _⟩⟩
    · show bd (f_X1_possible (σ1.2 37 1) σ1) _ = _
      rw [a2.2.1, possible_eq hP a2.1 hV, p_bd]
    · exact mmoves_eq hP hX b2.2.1 b1.2.1.2.2.1 hV b2.1
/-- after -/
theorem nn_or (q : Int32) : q < nI 0 ∨ ∃ m, m < 2147483648 ∧ q = nI m := by
  by_cases c : q < nI 0
  · exact Or.inl c
  · right
    rw [Int32.lt_iff_toInt_lt, nI_toInt (by omega)] at c
    have h1 := Int32.toInt_lt q
    refine ⟨q.toInt.toNat, by omega, ?_⟩
    apply Int32.toInt_inj.mp
    rw [nI_toInt (by omega)]
    omega
def okA (S : Su) (m : Nat) : Bool := decide (m < 3 ∨ (10 ≤ m ∧ m / 10 ≤ sH S ∧ m % 10 ≤ 4))
theorem after_C {A : Ob} {σ : Mm} {m : Nat} (hc : AC A σ) (hm' : m < 2147483648) (x : Int32) : f_X10_after x (nI m) σ = if okA (oS A) m = true then f_X10_after_74 x (nI m) (nI (m / 10) - nI 1) (if m < 3 then nI 1 else nI 0) σ else bd (f_X0_tell (nI 0) σ) (fun r σ1 => some (r, σ1)) := by
  have h3 := hc.1.1.2.2.2.1
  have c73 := hc.2.1.2.1
  unfold f_X10_after f_X10_after_20 f_X10_after_21 f_X10_after_52 f_X10_after_53
  rw [qi_0, qi_1, qi_3, qi_4, qi_10, p_idv hm' (by omega) (by omega), p_irm hm' (by omega) (by omega), p_nm, i_nlt (by omega) (by omega)]
  by_cases m3 : m < 3
  · rw [i_nle (by omega) m3, i_lt (by omega) (by omega), i_ne (by omega) (by omega) (by omega), show okA (oS A) m = true from decide_eq_true (Or.inl m3), if_pos rfl, if_pos m3]
  · rw [i_le (by omega) (by omega), if_neg m3]
    by_cases m10 : m < 10
    · rw [i_lt (by omega) m10, i_eq rfl, i_eq rfl, show okA (oS A) m = false from decide_eq_false (fun z => by omega), if_neg (by decide)]
    · rw [i_nlt (by omega) (by omega), c73, pk_sub (by omega)]
      by_cases mh : m / 10 ≤ sH (oS A)
      · rw [i_nle (by omega) (by omega)]
        by_cases m4 : m % 10 ≤ 4
        · rw [i_nlt (by omega) m4, i_eq rfl, i_ne (by omega) (by omega) (by omega), show okA (oS A) m = true from decide_eq_true (Or.inr ⟨by omega, mh, m4⟩), if_pos rfl]
        · rw [i_lt (by omega) (by omega), i_eq rfl, i_eq rfl, show okA (oS A) m = false from decide_eq_false (fun z => by omega), if_neg (by decide)]
      · rw [i_le (by omega) (by omega), i_eq rfl, i_eq rfl, show okA (oS A) m = false from decide_eq_false (fun z => by omega), if_neg (by decide)]
theorem after_M {A : Ob} {σ : Mm} {m : Nat} (hm : AM A σ) (hm' : m < 2147483648) (x : Int32) : f_X11_after x (nI m) σ = f_X11_after_39 x (nI m) (bI (okA (oS A) m)) σ := by
  have h3 := hm.1.1.2.2.2.1
  have c487 := hm.2.1.2.1
  unfold f_X11_after f_X11_after_34 f_X11_after_38
  rw [qi_0, qi_1, qi_2, qi_4, qi_10, p_idv hm' (by omega) (by omega), p_irm hm' (by omega) (by omega)]
  by_cases m3 : m < 3
  · rw [in_y (by omega) m3, p_bd, i_ne (by omega) (by omega) (by omega), show okA (oS A) m = true from decide_eq_true (Or.inl m3), bI_t]
  · rw [in_n (by omega) (Or.inr (nI_le (by omega) (by omega))), p_bd, i_eq rfl]
    by_cases m10 : m < 10
    · rw [i_lt (by omega) m10, show okA (oS A) m = false from decide_eq_false (fun z => by omega), bI_f]
    · rw [i_nlt (by omega) (by omega), c487]
      by_cases mh : m / 10 ≤ sH (oS A)
      · rw [i_nlt (by omega) mh]
        by_cases m4 : m % 10 ≤ 4
        · rw [i_nlt (by omega) m4, show okA (oS A) m = true from decide_eq_true (Or.inr ⟨by omega, mh, m4⟩), bI_t]
        · rw [i_lt (by omega) (by omega), show okA (oS A) m = false from decide_eq_false (fun z => by omega), bI_f]
      · rw [i_lt (by omega) (by omega), show okA (oS A) m = false from decide_eq_false (fun z => by omega), bI_f]
theorem aft39_0 {x q : Int32} {σ : Mm} : f_X11_after_39 x q (nI 0) σ = bd (f_X11_finds (er7 0) σ) (fun r σ1 => some (r, σ1)) := by
  unfold f_X11_after_39
  rcases rng (n := 4) x (by omega) with h | ⟨s, hs, rfl⟩
  · rw [misSheet_no h, p_bd, if_pos (show nI 0 = (0 : Int32) from rfl), er_1]
  · rw [misSheet_yes hs, p_bd, if_neg (show ¬ nI 1 = (0 : Int32) by decide), if_pos (show nI 0 = (0 : Int32) from rfl), er_1]
def aftG (q : Int32) (σ7 : Mm) : Option (Int32 × Mm) := (if (10 : Int32) ≤ q then nm ((q / (10 : Int32)) - (1 : Int32)) (fun vq9 => nm (irm q (10 : Int32)) (fun vq10 => (if vq10 = (0 : Int32) then ck vq9 3 (some ((σ7.1 77 (ix vq9)), σ7)) else (if vq10 = (1 : Int32) then ck vq9 3 (some ((σ7.1 78 (ix vq9)), σ7)) else (if vq10 = (2 : Int32) then ck vq9 3 (some ((σ7.1 79 (ix vq9)), σ7)) else (if vq10 = (3 : Int32) then ck vq9 3 (some ((σ7.1 76 (ix vq9)), σ7)) else ck vq9 3 (some ((σ7.1 75 (ix vq9)), σ7)))))))) else ck q 3 (some ((σ7.1 74 (ix q)), σ7)))
theorem aft39_1 {x q : Int32} {σ τ1 : Mm} {r : Int32} (h : f_X11_playedWhole x σ = some (r, τ1)) : f_X11_after_39 x q (nI 1) σ = if r = nI 0 then aftG q τ1 else bd (f_X11_finds r τ1) (fun r σ2 => some (r, σ2)) := by
  unfold f_X11_after_39
  rcases rng (n := 4) x (by omega) with h' | ⟨s, hs, rfl⟩
  · rw [pw_n h'] at h
    have e := Option.some.inj h
    have e1 : er7 0 = r := congrArg Prod.fst e
    have e2 : σ = τ1 := congrArg Prod.snd e
    rw [misSheet_no h', p_bd, if_pos (show nI 0 = (0 : Int32) from rfl), ← e1, ← e2, if_neg (show ¬ er7 0 = nI 0 by decide), er_1]
  · rw [misSheet_yes hs, p_bd, if_neg (show ¬ nI 1 = (0 : Int32) by decide), if_neg (show ¬ nI 1 = (0 : Int32) by decide), h, p_bd]
    rfl
def valA (A : Ob) (x m : Nat) : Int32 := if m < 3 then nI (cv x m) else nI (abt (oP A) x (m / 10 - 1) (m % 10))
theorem op_after {A : Ob} {σ : Mm} (hc : AC A σ) (hm : AM A σ) (x q : Int32) : Ans (f_X10_after x q) (f_X11_after x q) σ := by
  obtain ⟨hP, h0⟩ := oP_V hc.1
  rcases nn_or q with h | ⟨m, hm', rfl⟩
  · refine told (e := 0) hc hm (by omega) ?_ (fun τ hm => ?_)
    · have h10 : q < (10 : Int32) := by
        rw [qi_10, Int32.lt_iff_toInt_lt, nI_toInt (by omega)]
        rw [Int32.lt_iff_toInt_lt, nI_toInt (by omega)] at h
        omega
      unfold f_X10_after f_X10_after_20 f_X10_after_21 f_X10_after_52 f_X10_after_53
      rw [p_nm, if_pos (show q < (0 : Int32) from h), if_pos h10, if_pos rfl, if_pos rfl, qi_0]
    · have h10 : q < (10 : Int32) := by
        rw [qi_10, Int32.lt_iff_toInt_lt, nI_toInt (by omega)]
        rw [Int32.lt_iff_toInt_lt, nI_toInt (by omega)] at h
        omega
      unfold f_X11_after f_X11_after_38
      rw [qi_0, qi_2, in_n (by omega) (Or.inl h), p_bd, i_eq rfl, if_pos h10, aft39_0]
  · cases hok : okA (oS A) m with
    | false =>
      exact told (e := 0) hc hm (by omega) (by rw [after_C hc hm' x, hok, if_neg (by decide)]) (fun τ hm => by rw [after_M hm hm' x, hok, bI_f, aft39_0])
    | true =>
      have hok' := of_decide_eq_true hok
      have h3 := hc.1.1.2.2.2.1
      have hpH : pH (oP A) = sH (oS A) := rfl
      refine plays_op (x := x) (F := fun σ2 => (if (if m < 3 then nI 1 else nI 0) = (0 : Int32) then bd (f_X1_aboutHand (σ2.2 37 1) (nI (m / 10) - nI 1) (irm (nI m) (10 : Int32)) σ2) (fun rq5 σ4 => some (rq5, σ4)) else bd (f_X1_valueIn (σ2.2 37 1) (nI m) σ2) (fun rq7 σ6 => some (rq7, σ6)))) (G := aftG (nI m)) hc hm (fun r σ1 h => ?_) (fun τ r τ1 hmt h => ?_) (fun s hs => ?_)
      · rw [after_C hc hm' x, hok, if_pos rfl]
        unfold f_X10_after_74
        rw [h, p_bd, show ((0 : Int32)) = nI 0 from rfl]
      · rw [after_M hmt hm' x, hok, bI_t, aft39_1 h]
      · obtain ⟨hV, _, _⟩ := oR_ok hc.1 hs
        refine ⟨valA A (oR A s).1 m, A, fun σ1 a1 a2 => ⟨σ1, ?_, a1, FrC_rf _⟩, fun τ1 b1 b2 => ⟨τ1, ?_, b1, FrM_rf _⟩⟩
        · show (if (if m < 3 then nI 1 else nI 0) = (0 : Int32) then bd (f_X1_aboutHand (σ1.2 37 1) (nI (m / 10) - nI 1) (irm (nI m) (10 : Int32)) σ1) (fun rq5 σ4 => some (rq5, σ4)) else bd (f_X1_valueIn (σ1.2 37 1) (nI m) σ1) (fun rq7 σ6 => some (rq7, σ6))) = some (valA A (oR A s).1 m, σ1)
          unfold valA
          by_cases m3 : m < 3
          · rw [if_pos m3, if_pos m3, if_neg (show ¬ nI 1 = (0 : Int32) by decide), a2.2.1, valueIn_eq hV.1 m3, p_bd]
          · rw [if_neg m3, if_neg m3, if_pos (show nI 0 = (0 : Int32) from rfl), qi_10, p_irm hm' (by omega) (by omega), pk_sub (by omega), a2.2.1, aboutHand_eq hP a2.1 hV (by omega) (by omega), p_bd]
        · obtain ⟨⟨r1, r2⟩, b22, _⟩ := b2
          unfold aftG valA
          by_cases m3 : m < 3
          · rw [if_pos m3, qi_10, i_nle (by omega) (by omega), p_ck _ m3 (by omega), p_ix (by omega), r1 m m3]
          · have hh : m / 10 - 1 < sH (oS A) := by omega
            obtain ⟨e1, e2, e3, e4, e5, _⟩ := r2 (m / 10 - 1) hh
            rw [if_neg m3, qi_10, i_le (by omega) (by omega), p_idv hm' (by omega) (by omega), p_irm hm' (by omega) (by omega), qi_0, qi_1, qi_2, qi_3, pk_sub (by omega), p_nm, p_nm, p_ck _ (by omega) (by omega), p_ck _ (by omega) (by omega), p_ck _ (by omega) (by omega), p_ck _ (by omega) (by omega), p_ck _ (by omega) (by omega), p_ix (by omega), e1, e2, e3, e4, e5]
            unfold abt
            by_cases k0 : m % 10 = 0
            · rw [i_eq k0, if_pos k0]
            · rw [i_ne (by omega) (by omega) k0, if_neg k0]
              by_cases k1 : m % 10 = 1
              · rw [i_eq k1, if_pos k1]
              · rw [i_ne (by omega) (by omega) k1, if_neg k1]
                by_cases k2 : m % 10 = 2
                · rw [i_eq k2, if_pos k2]
                · rw [i_ne (by omega) (by omega) k2, if_neg k2]
                  by_cases k3 : m % 10 = 3
                  · rw [i_eq k3, if_pos k3]; rfl
                  · rw [i_ne (by omega) (by omega) k3, if_neg k3]; rfl
