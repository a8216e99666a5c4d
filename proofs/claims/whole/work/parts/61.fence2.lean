/-! PURE: the orders are the same with fences -/
theorem lc_at {S : Su} {X : Nat → Bool} {c s : Nat} (hs : s < sN S c) : lc S X c (fps X c s) = stf S X c s := by
  have h1 := fps_lt X c s (s + 1) (by omega)
  unfold lc
  rw [lcf_keep S X c (s + 1) (sN S c) _ (by omega) h1]
  funext r
  rw [lcf_s, if_pos rfl]
theorem lc_fe {S : Su} {X : Nat → Bool} {c s : Nat} (hs : s < sN S c) (hx : X (7 * c + s) = true) : lc S X c (fps X c s + 1) = fun r => if r = 0 then 5 else 0 := by
  have h1 : fps X c (s + 1) = fps X c s + 1 + 1 := by rw [fps, if_pos hx]
  unfold lc
  rw [lcf_keep S X c (s + 1) (sN S c) _ (by omega) (by omega)]
  funext r
  rw [lcf_s, if_neg (by omega), if_pos rfl]
theorem gQ_mk {S : Su} {X : Nat → Bool} {c k p a b z : Nat} (hk : k < 64) (hp : p < 32) (ha4 : a < 4) (hb4 : b < 4) (h : stpf (fl S X c) (lc S X c p) 0 (mky k p a b) 0 (mkw p a b 0 0 0) = some z) : gQ S X c (mky k p a b) = z := by
  have eQ : stp (Qc S X c) 0 (mky k p a b) 0 = stpf (fl S X c) (lc S X c p) 0 (mky k p a b) 0 (mkw p a b 0 0 0) := by
    unfold stp; rw [hd_mky hk hp ha4 hb4, pl_mkw hp]; rfl
  unfold gQ
  rw [eQ, h]; rfl
theorem gQ_sim {S : Su} {c s k a b : Nat} (hS : SuV S) (hc : c < sK S) (hs : s < sN S c) (hk : k < 64) (ha4 : a < 4) (hb4 : b < 4) : ∃ (k' a' b' t : Nat) (j : Bool), k' < 64 ∧ a' < 4 ∧ b' < 4 ∧ (j = true → t ≤ s) ∧ ∀ X, FX S X → gQ S X c (mky k (fps X c s) a b) = mky k' (if j = true then fps X c t else fps X c s + 1) a' b' := by
  have hV := hS.2.2.1 c s hc hs
  obtain ⟨k', a', b', j, e1, e2, e3, e4, e5⟩ := one_step hk ha4 hb4 hV
  refine ⟨k', a', b', sC S c s 4, j, e1, e2, e3, fun q => hV.2.2.2.2.2 (e4 q), fun X hX => ?_⟩
  have h13 := hX c hc
  have hq : fps X c s < fl S X c := fps_lt X c s _ hs
  have h := e5 (fl S X c) (fps X c s) (lc S X c (fps X c s)) (fun r hr => by rw [lc_at hs]; exact if_neg hr) hq h13 (fun q6 => by
    rw [lc_at hs]
    show fps X c (sC S c s 4) ≤ _
    exact fps_le X c (hV.2.2.2.2.2 q6))
  rw [gQ_mk hk (by omega) ha4 hb4 h, lc_at hs]
  rfl
theorem gQ_fe {S : Su} {X : Nat → Bool} {c s k a b : Nat} (hc : c < sK S) (hX : FX S X) (hs : s < sN S c) (hx : X (7 * c + s) = true) (hk : k < 64) (ha4 : a < 4) (hb4 : b < 4) : gQ S X c (mky k (fps X c s + 1) a b) = mky k (fps X c s + 1 + 1) a b := by
  have h13 := hX c hc
  have h1 : fps X c (s + 1) = fps X c s + 1 + 1 := by rw [fps, if_pos hx]
  have h2 : fps X c (s + 1) ≤ fl S X c := fps_le X c hs
  have h := pre_step (f := fun r => if r = 0 then 5 else 0) (f' := lc S X c (fps X c s + 1)) (k := k) (n := fl S X c) (q := fps X c s + 1) ha4 hb4 (fun r _ => by rw [lc_fe hs hx]) (by omega) h13
  have e : (if (0 : Nat) = 0 then 5 else 0) = 5 := rfl
  rw [e, if_neg (by omega), if_neg (by omega), if_neg (by omega), if_neg (by omega), if_pos rfl, setH_mky hk (by omega) ha4 hb4 (by omega) ha4 hb4] at h
  exact gQ_mk hk (by omega) ha4 hb4 h
theorem tQ_mk {S : Su} {X : Nat → Bool} {c k p a b : Nat} (hk : k < 64) (hp : p < 32) (ha4 : a < 4) (hb4 : b < 4) : tQ S X c (mky k p a b) = decide (fl S X c ≤ p) := by
  unfold tQ
  rw [hd_mky hk hp ha4 hb4, pl_mkw hp]
theorem rn_s (g : Nat → Nat) (T : Nat → Bool) (n x : Nat) : rn g T (n + 1) x = if T (g x) then some (g x) else rn g T n (g x) := rfl
theorem rn_mono {g : Nat → Nat} {T : Nat → Bool} {z : Nat} : ∀ n x, rn g T n x = some z → rn g T (n + 1) x = some z := by
  intro n
  induction n with
  | zero => intro x h; cases h
  | succ n ih =>
    intro x h
    rw [rn_s] at h ⊢
    by_cases t : T (g x) = true
    · rw [if_pos t] at h ⊢; exact h
    · rw [if_neg t] at h ⊢; exact ih _ h
/-- where a step leads: to a step s' < N, or to the end -/
theorem sim_step {S : Su} {X : Nat → Bool} {c s k a b : Nat} (hS : SuV S) (hc : c < sK S) (hX : FX S X) (hs : s < sN S c) (hk : k < 64) (ha4 : a < 4) (hb4 : b < 4) : ∃ k' a' b' s', k' < 64 ∧ a' < 4 ∧ b' < 4 ∧ s' ≤ sN S c ∧ gQ S noX c (mky k s a b) = mky k' s' a' b' ∧ (gQ S X c (mky k (fps X c s) a b) = mky k' (fps X c s') a' b' ∨ ∃ p, p < fl S X c ∧ gQ S X c (mky k (fps X c s) a b) = mky k' p a' b' ∧ gQ S X c (mky k' p a' b') = mky k' (fps X c s') a' b') := by
  obtain ⟨k', a', b', t, j, e1, e2, e3, e4, e5⟩ := gQ_sim hS hc hs hk ha4 hb4
  have g0 := e5 noX (FX_no hS)
  have gX := e5 X hX
  rw [fps_no, fps_no] at g0
  cases j with
  | true =>
    have := e4 rfl
    exact ⟨k', a', b', t, e1, e2, e3, by omega, g0, Or.inl gX⟩
  | false =>
    refine ⟨k', a', b', s + 1, e1, e2, e3, by omega, g0, ?_⟩
    by_cases hx : X (7 * c + s) = true
    · right
      have h1 : fps X c (s + 1) = fps X c s + 1 + 1 := by rw [fps, if_pos hx]
      have h2 : fps X c (s + 1) ≤ fl S X c := fps_le X c hs
      exact ⟨fps X c s + 1, by omega, gX, by rw [h1]; exact gQ_fe hc hX hs hx e1 e2 e3⟩
    · left
      have h1 : fps X c (s + 1) = fps X c s + 1 := by rw [fps, if_neg hx]
      rw [h1]; exact gX
theorem fl_no (S : Su) (c : Nat) : fl S noX c = sN S c := fps_no c _
theorem sim_to {S : Su} {X : Nat → Bool} {c : Nat} (hS : SuV S) (hc : c < sK S) (hX : FX S X) : ∀ n s k a b z, s < sN S c → k < 64 → a < 4 → b < 4 → rn (gQ S noX c) (tQ S noX c) n (mky k s a b) = some z → ∃ k' a' b', k' < 64 ∧ a' < 4 ∧ b' < 4 ∧ z = mky k' (sN S c) a' b' ∧ rn (gQ S X c) (tQ S X c) (2 * n) (mky k (fps X c s) a b) = some (mky k' (fl S X c) a' b') := by
  have h13 := hX c hc
  have h7 := (hS.2.1 c hc).2
  intro n
  induction n with
  | zero => intro s k a b z _ _ _ _ h; cases h
  | succ n ih =>
    intro s k a b z hs hk ha4 hb4 h
    obtain ⟨k', a', b', s', e1, e2, e3, e4, e5, e6⟩ := sim_step hS hc hX hs hk ha4 hb4
    have hle : fps X c s' ≤ fl S X c := fps_le X c e4
    rw [rn_s, e5, tQ_mk e1 (by omega) e2 e3, fl_no] at h
    rw [show 2 * (n + 1) = 2 * n + 1 + 1 by omega]
    by_cases ce : sN S c ≤ s'
    · have es : s' = sN S c := by omega
      rw [decide_eq_true ce, if_pos rfl] at h
      have hz : z = mky k' (sN S c) a' b' := by rw [← es]; exact (Option.some.inj h).symm
      refine ⟨k', a', b', e1, e2, e3, hz, ?_⟩
      rw [es] at e6
      have ef : fps X c (sN S c) = fl S X c := rfl
      rw [ef] at e6
      rcases e6 with q | ⟨p, p1, p2, p3⟩
      · rw [rn_s, q, tQ_mk e1 (by omega) e2 e3, decide_eq_true (Nat.le_refl _), if_pos rfl]
      · rw [rn_s, p2, tQ_mk e1 (by omega) e2 e3, decide_eq_false (by omega), if_neg (by decide), rn_s, p3, tQ_mk e1 (by omega) e2 e3, decide_eq_true (Nat.le_refl _), if_pos rfl]
    · have hlt : fps X c s' < fl S X c := fps_lt X c s' _ (by omega)
      rw [decide_eq_false ce, if_neg (by decide)] at h
      obtain ⟨k2, a2, b2, f1, f2, f3, f4, f5⟩ := ih s' k' a' b' z (by omega) e1 e2 e3 h
      refine ⟨k2, a2, b2, f1, f2, f3, f4, ?_⟩
      rcases e6 with q | ⟨p, p1, p2, p3⟩
      · rw [rn_s, q, tQ_mk e1 (by omega) e2 e3, decide_eq_false (by omega), if_neg (by decide)]
        exact rn_mono _ _ f5
      · rw [rn_s, p2, tQ_mk e1 (by omega) e2 e3, decide_eq_false (by omega), if_neg (by decide), rn_s, p3, tQ_mk e1 (by omega) e2 e3, decide_eq_false (by omega), if_neg (by decide)]
        exact f5
theorem sim_from {S : Su} {X : Nat → Bool} {c : Nat} (hS : SuV S) (hc : c < sK S) (hX : FX S X) : ∀ m n s k a b z, n ≤ m → s < sN S c → k < 64 → a < 4 → b < 4 → rn (gQ S X c) (tQ S X c) n (mky k (fps X c s) a b) = some z → ∃ z', rn (gQ S noX c) (tQ S noX c) m (mky k s a b) = some z' := by
  have h13 := hX c hc
  have h7 := (hS.2.1 c hc).2
  intro m
  induction m with
  | zero =>
    intro n s k a b z hn' _ _ _ _ h
    rw [show n = 0 by omega] at h
    cases h
  | succ m ih =>
    intro n s k a b z hn' hs hk ha4 hb4 h
    obtain ⟨k', a', b', s', e1, e2, e3, e4, e5, e6⟩ := sim_step hS hc hX hs hk ha4 hb4
    have hle : fps X c s' ≤ fl S X c := fps_le X c e4
    rw [rn_s, e5, tQ_mk e1 (by omega) e2 e3, fl_no]
    by_cases ce : sN S c ≤ s'
    · rw [decide_eq_true ce, if_pos rfl]
      exact ⟨_, rfl⟩
    · have hlt : fps X c s' < fl S X c := fps_lt X c s' _ (by omega)
      rw [decide_eq_false ce, if_neg (by decide)]
      cases n with
      | zero => cases h
      | succ n =>
        rcases e6 with q | ⟨p, p1, p2, p3⟩
        · rw [rn_s, q, tQ_mk e1 (by omega) e2 e3, decide_eq_false (by omega), if_neg (by decide)] at h
          exact ih n s' k' a' b' z (by omega) (by omega) e1 e2 e3 h
        · rw [rn_s, p2, tQ_mk e1 (by omega) e2 e3, decide_eq_false (by omega), if_neg (by decide)] at h
          cases n with
          | zero => cases h
          | succ n =>
            rw [rn_s, p3, tQ_mk e1 (by omega) e2 e3, decide_eq_false (by omega), if_neg (by decide)] at h
            exact ih n s' k' a' b' z (by omega) (by omega) e1 e2 e3 h
theorem wcq_X {S : Su} {X : Nat → Bool} {c k a b : Nat} (hS : SuV S) (hc : c < sK S) (hX : FX S X) (hk : k < 64) (ha4 : a < 4) (hb4 : b < 4) : wcq S X c (mky k 0 a b) = wcq S noX c (mky k 0 a b) := by
  have h13 := hX c hc
  obtain ⟨n1, n7⟩ := hS.2.1 c hc
  have hp := fl_pos (X := X) hS hc
  have hA : AV (fl S X c) (mky k 0 a b) := ⟨k, 0, a, b, hk, by omega, ha4, hb4, rfl⟩
  have hpl : pl (hd (mky k 0 a b) 0) < fl S X c := by rw [hd_mky hk (by omega) ha4 hb4, pl_mkw (by omega)]; omega
  have hbd := alone_bound (m := 2 * 13312) hS hX hc hA hpl (by omega)
  unfold wcq
  cases h0 : rn (gQ S noX c) (tQ S noX c) 13312 (mky k 0 a b) with
  | some z =>
    obtain ⟨k', a', b', e1, e2, e3, e4, e5⟩ := sim_to hS hc hX 13312 0 k a b z (by omega) hk ha4 hb4 h0
    have e5 : rn (gQ S X c) (tQ S X c) (2 * 13312) (mky k 0 a b) = some (mky k' (fl S X c) a' b') := e5
    rw [hbd] at e5
    rw [e5, e4]
    show some (mky k' (fl S X c) a' b' - 64 * pl (hd (mky k' (fl S X c) a' b') 0)) = some (mky k' (sN S c) a' b' - 64 * pl (hd (mky k' (sN S c) a' b') 0))
    rw [mky_rst e1 (by omega) e2 e3, mky_rst e1 (by omega) e2 e3]
  | none =>
    cases hx : rn (gQ S X c) (tQ S X c) 13312 (mky k 0 a b) with
    | none => rfl
    | some z =>
      obtain ⟨z', hz'⟩ := sim_from hS hc hX 13312 13312 0 k a b z (Nat.le_refl _) (by omega) hk ha4 hb4 hx
      rw [h0] at hz'
      cases hz'
theorem ohand_W {S : Su} {W W' : Nat → Nat → Option Nat} {x n : Nat} (hH : sH S ≤ 3) (hB : BV S x) (hW : ∀ y h, h < sH S → pl (hd y h) < cnt S h → W (cal S h (pl (hd y h))) (uof y h) = W' (cal S h (pl (hd y h))) (uof y h)) (ih : ∀ y l, BV S y → ordr S W n y l = ordr S W' n y l) : ∀ h l, h ≤ sH S → ohand S W (ordr S W n) x h l = ohand S W' (ordr S W' n) x h l := by
  intro h
  induction h with
  | zero => intro l _; rw [ohand, ohand]
  | succ h ihh =>
    intro l hh
    rw [ohand, ohand, ihh l (by omega)]
    by_cases hz : rm S x h = 0
    · rw [if_pos hz, if_pos hz]
    · have hlt : pl (hd x h) < cnt S h := by unfold rm at hz; omega
      rw [if_neg hz, if_neg hz, hW x h (by omega) hlt]
      cases W' (cal S h (pl (hd x h))) (uof x h) with
      | none => rfl
      | some u => exact ih _ _ (nxt_BV (by omega) hB hlt)
theorem ordr_W {S : Su} {W W' : Nat → Nat → Option Nat} (hH : sH S ≤ 3) (hW : ∀ y h, h < sH S → pl (hd y h) < cnt S h → W (cal S h (pl (hd y h))) (uof y h) = W' (cal S h (pl (hd y h))) (uof y h)) : ∀ n x l, BV S x → ordr S W n x l = ordr S W' n x l := by
  intro n
  induction n with
  | zero => intro x l _; rw [ordr, ordr]
  | succ n ih =>
    intro x l hB
    rw [ordr, ordr, ohand_W hH hB hW ih _ l (Nat.le_refl _)]
theorem wcq_u {S : Su} {X : Nat → Bool} (hS : SuV S) (hX : FX S X) (y h : Nat) (hh : h < sH S) (hlt : pl (hd y h) < cnt S h) : wcq S X (cal S h (pl (hd y h))) (uof y h) = wcq S noX (cal S h (pl (hd y h))) (uof y h) := by
  have hH : sH S ≤ 3 := hS.2.2.2.1
  obtain ⟨q1, q2, _⟩ := cal_ok (X := X) hS hX (show h < 3 by omega) hlt
  unfold uof
  exact wcq_X hS q2 hX (by omega) (ha_lt _) (hb_lt _)
theorem ords_X {S : Su} {X : Nat → Bool} (hS : SuV S) (hX : FX S X) : ords S X = ords S noX := by
  unfold ords
  exact ordr_W hS.2.2.2.1 (wcq_u hS hX) 8 _ _ (x0_BV hS)
