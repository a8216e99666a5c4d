/-! PURE: fences leave a call that is done alone as it is -/
theorem setV_mk {k d v p a b : Nat} (hk : k < 64) (hd3 : d < 3) (hv : v < 4) : setV (mky k p a b) d v = mky (setV k d v) p a b ∧ setV k d v < 64 := by
  unfold setV mky cv
  generalize mkw p a b 0 0 0 = M
  rcases lt3 hd3 with rfl | rfl | rfl
  · rw [p40]; omega
  · rw [p41]; omega
  · rw [p42]; omega
theorem pre_step {f f' : Nat → Nat} {k a b n q : Nat} (ha4 : a < 4) (hb4 : b < 4) (hf : ∀ r, r ≠ 4 → f' r = f r) (hq : q < n) (hn' : n ≤ 13) : stpf n f' 0 (mky k q a b) 0 (mkw q a b 0 0 0) =
    if f 0 = 1 then some (setH (mky k q a b) 0 (mkw (q + 1) (cv (mky k q a b) (f 1)) b 0 0 0))
    else if f 0 = 2 then some (setH (setV (mky k q a b) (f 1) (if f 2 = 4 then b else f 2)) 0 (mkw (q + 1) a b 0 0 0))
    else if f 0 = 3 then (if cv (mky k q a b) (f 1) = f 2 then some (setH (setV (mky k q a b) (f 1) (f 3)) 0 (mkw (q + 1) 1 b 0 0 0)) else some (setH (mky k q a b) 0 (mkw (q + 1) 0 b 0 0 0)))
    else if f 0 = 4 then some (setH (setV (mky k q a b) (f 1) ((cv (mky k q a b) (f 1) + f 2) % 4)) 0 (mkw (q + 1) (cv (mky k q a b) (f 1)) b 0 0 0))
    else if f 0 = 5 then some (setH (mky k q a b) 0 (mkw (q + 1) a b 0 0 0))
    else if f 0 = 6 then (if a = 0 then some (setH (mky k q a b) 0 (mkw (f' 4) a b 0 0 0)) else some (setH (mky k q a b) 0 (mkw (q + 1) a b 0 0 0)))
    else if f 0 = 7 then some (setH (mky k q a b) 0 (mkw (q + 1) (f 2) b 0 0 0))
    else some (setH (mky k q a b) 0 (mkw (q + 1) a a 0 0 0)) := by
  have hq32 : q < 32 := by omega
  unfold stpf
  rw [hf 0 (by omega), hf 1 (by omega), hf 2 (by omega), hf 3 (by omega)]
  rw [pl_mkw hq32, ha_mkw hq32 ha4, hb_mkw hq32 ha4 hb4, hn_mkw hq32 ha4 hb4 (by omega), ho_mkw hq32 ha4 hb4 (by omega) (by omega), hl_mkw hq32 ha4 hb4 (by omega) (by omega) (by omega)]
  have see0 : ∀ z w d, hn w = 0 → see w z d = cv z d := fun z w d hz => by unfold see; rw [wf_0 hz]; rfl
  rw [if_neg (show ¬ n ≤ q by omega), see0 _ _ _ (hn_mkw hq32 ha4 hb4 (by omega)), if_pos rfl, if_pos rfl, if_pos rfl, if_pos rfl]
theorem one_step {f : Nat → Nat} {k a b p : Nat} (hk : k < 64) (ha4 : a < 4) (hb4 : b < 4) (hV : CdV f p) : ∃ (k' a' b' : Nat) (j : Bool), k' < 64 ∧ a' < 4 ∧ b' < 4 ∧ (j = true → f 0 = 6) ∧ ∀ n q f', (∀ r, r ≠ 4 → f' r = f r) → q < n → n ≤ 13 → (f 0 = 6 → f' 4 ≤ q) → stpf n f' 0 (mky k q a b) 0 (mkw q a b 0 0 0) = some (mky k' (if j = true then f' 4 else q + 1) a' b') := by
  obtain ⟨v1, v2, v3, v4, v5, v6⟩ := hV
  have hcv : ∀ d, cv k d < 4 := fun d => cv_lt _ d
  have A0 : ∀ q p' a' b', q < 13 → p' ≤ 13 → a' < 4 → b' < 4 → setH (mky k q a b) 0 (mkw p' a' b' 0 0 0) = mky k p' a' b' := fun q p' a' b' h0 h1 h2 h3 => setH_mky hk (by omega) ha4 hb4 (by omega) h2 h3
  have A1 : ∀ d v q p' a' b', d < 3 → v < 4 → q < 13 → p' ≤ 13 → a' < 4 → b' < 4 → setH (setV (mky k q a b) d v) 0 (mkw p' a' b' 0 0 0) = mky (setV k d v) p' a' b' := by
    intro d v q p' a' b' g1 g2 h0 h1 h2 h3
    obtain ⟨e1, e2⟩ := setV_mk (p := q) (a := a) (b := b) hk g1 g2
    rw [e1]
    exact setH_mky e2 (by omega) ha4 hb4 (by omega) h2 h3
  have S1 : ∀ d v, d < 3 → v < 4 → setV k d v < 64 := fun d v g1 g2 => (setV_mk (p := 0) (a := 0) (b := 0) hk g1 g2).2
  have nf : ∀ (x y : Nat), (if false = true then x else y) = y := fun x y => rfl
  have nt : ∀ (x y : Nat), (if true = true then x else y) = x := fun x y => rfl
  have ff : (false = true → f 0 = 6) := fun q => by cases q
  by_cases k1 : f 0 = 1
  · refine ⟨k, cv k (f 1), b, false, hk, hcv _, hb4, ff, fun n q f' hf hq hn' _ => ?_⟩
    rw [pre_step ha4 hb4 hf hq hn', if_pos k1, cv_mky (v2 (by omega) (by omega)), A0 _ _ _ _ (by omega) (by omega) (hcv _) hb4, nf]
  by_cases k2 : f 0 = 2
  · have g1 := v2 (by omega) (by omega)
    have g2 := v3 k2
    have hu4 : (if f 2 = 4 then b else f 2) < 4 := by split <;> omega
    refine ⟨setV k (f 1) (if f 2 = 4 then b else f 2), a, b, false, S1 _ _ g1 hu4, ha4, hb4, ff, fun n q f' hf hq hn' _ => ?_⟩
    rw [pre_step ha4 hb4 hf hq hn', if_neg k1, if_pos k2, A1 _ _ _ _ _ _ g1 hu4 (by omega) (by omega) ha4 hb4, nf]
  by_cases k3 : f 0 = 3
  · have g1 := v2 (by omega) (by omega)
    have g3 := v5 k3
    by_cases e : cv k (f 1) = f 2
    · refine ⟨setV k (f 1) (f 3), 1, b, false, S1 _ _ g1 g3, by omega, hb4, ff, fun n q f' hf hq hn' _ => ?_⟩
      rw [pre_step ha4 hb4 hf hq hn', if_neg k1, if_neg k2, if_pos k3, cv_mky g1, if_pos e, A1 _ _ _ _ _ _ g1 g3 (by omega) (by omega) (by omega) hb4, nf]
    · refine ⟨k, 0, b, false, hk, by omega, hb4, ff, fun n q f' hf hq hn' _ => ?_⟩
      rw [pre_step ha4 hb4 hf hq hn', if_neg k1, if_neg k2, if_pos k3, cv_mky g1, if_neg e, A0 _ _ _ _ (by omega) (by omega) (by omega) hb4, nf]
  by_cases k4 : f 0 = 4
  · have g1 := v2 (by omega) (by omega)
    have hm : (cv k (f 1) + f 2) % 4 < 4 := Nat.mod_lt _ (by omega)
    refine ⟨setV k (f 1) ((cv k (f 1) + f 2) % 4), cv k (f 1), b, false, S1 _ _ g1 hm, hcv _, hb4, ff, fun n q f' hf hq hn' _ => ?_⟩
    rw [pre_step ha4 hb4 hf hq hn', if_neg k1, if_neg k2, if_neg k3, if_pos k4, cv_mky g1, A1 _ _ _ _ _ _ g1 hm (by omega) (by omega) (hcv _) hb4, nf]
  by_cases k5 : f 0 = 5
  · refine ⟨k, a, b, false, hk, ha4, hb4, ff, fun n q f' hf hq hn' _ => ?_⟩
    rw [pre_step ha4 hb4 hf hq hn', if_neg k1, if_neg k2, if_neg k3, if_neg k4, if_pos k5, A0 _ _ _ _ (by omega) (by omega) ha4 hb4, nf]
  by_cases k6 : f 0 = 6
  · by_cases e : a = 0
    · refine ⟨k, a, b, true, hk, ha4, hb4, fun _ => k6, fun n q f' hf hq hn' h6 => ?_⟩
      have := h6 k6
      rw [pre_step ha4 hb4 hf hq hn', if_neg k1, if_neg k2, if_neg k3, if_neg k4, if_neg k5, if_pos k6, if_pos e, A0 _ _ _ _ (by omega) (by omega) ha4 hb4, nt]
    · refine ⟨k, a, b, false, hk, ha4, hb4, ff, fun n q f' hf hq hn' h6 => ?_⟩
      rw [pre_step ha4 hb4 hf hq hn', if_neg k1, if_neg k2, if_neg k3, if_neg k4, if_neg k5, if_pos k6, if_neg e, A0 _ _ _ _ (by omega) (by omega) ha4 hb4, nf]
  by_cases k7 : f 0 = 7
  · have g2 := v4 (by omega)
    refine ⟨k, f 2, b, false, hk, g2, hb4, ff, fun n q f' hf hq hn' _ => ?_⟩
    rw [pre_step ha4 hb4 hf hq hn', if_neg k1, if_neg k2, if_neg k3, if_neg k4, if_neg k5, if_neg k6, if_pos k7, A0 _ _ _ _ (by omega) (by omega) g2 hb4, nf]
  · refine ⟨k, a, a, false, hk, ha4, ha4, ff, fun n q f' hf hq hn' _ => ?_⟩
    rw [pre_step ha4 hb4 hf hq hn', if_neg k1, if_neg k2, if_neg k3, if_neg k4, if_neg k5, if_neg k6, if_neg k7, A0 _ _ _ _ (by omega) (by omega) ha4 ha4, nf]
