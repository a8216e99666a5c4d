/-! PURE: programs, moves (what both sides mean), and the class's machine -/
def iO (o : Option Nat) : Int32 := match o with
  | none => -nI 1
  | some v => nI v
def lO (o : Option Nat) : Int64 := match o with
  | none => -lN 1
  | some v => lN v
def vI (v : Nat) : Int32 := if v = 4 then -nI 1 else nI v
def tI (t : Nat) : Int32 := if t = 0 then -nI 1 else nI (t - 1)
abbrev Pg : Type := Nat × Nat × Nat × (Nat → Nat) × (Nat → Nat) × (Nat → Nat → Nat → Nat)
def pH (P : Pg) : Nat := P.1
def pL (P : Pg) : Nat := P.2.1
def pF (P : Pg) : Nat := P.2.2.1
def pS (P : Pg) : Nat → Nat := P.2.2.2.1
def pN (P : Pg) : Nat → Nat := P.2.2.2.2.1
def pC (P : Pg) : Nat → Nat → Nat → Nat := P.2.2.2.2.2
/-- a step as it must be; p: its place -/
def CdV (f : Nat → Nat) (p : Nat) : Prop := f 0 ≤ 7 ∧ (1 ≤ f 0 → f 0 ≤ 4 → f 1 < 3) ∧ (f 0 = 2 → f 2 ≤ 4) ∧ (f 0 = 3 ∨ f 0 = 4 ∨ f 0 = 7 → f 2 < 4) ∧ (f 0 = 3 → f 3 < 4) ∧ (f 0 = 6 → f 4 ≤ p)
def PgV (P : Pg) : Prop := pH P ≤ 3 ∧ pL P ≤ 1 ∧ (∀ h, h < 3 → pS P h ≤ pN P h ∧ pN P h ≤ 26) ∧ (∀ h, pH P ≤ h → pN P h = 0) ∧ (∀ h p, h < 3 → p < pN P h → CdV (pC P h p) p)
def WV (w : Nat) : Prop := hn w ≤ 2 ∧ (hn w = 0 → ho w = 0) ∧ (hn w ≤ 1 → hl w = 0) ∧ ho w < 12 ∧ hl w < 12
def VS (P : Pg) (x : Nat) : Prop := x < 9223372036854775808 ∧ ∀ h, h < 3 → WV (hd x h) ∧ pl (hd x h) ≤ pN P h ∧ (pH P ≤ h → hd x h = 0)
/-- a step's parts in the class's rows, from place b of row k on -/
def CdC (σ : Mm) (k b : Nat) (f : Nat → Nat) : Prop := σ.1 k b = nI (f 0) ∧ (1 ≤ f 0 → f 0 ≤ 4 → σ.1 k (b + 1) = nI (f 1)) ∧ (f 0 = 2 ∨ f 0 = 3 ∨ f 0 = 4 ∨ f 0 = 7 → σ.1 k (b + 2) = vI (f 2)) ∧ (f 0 = 3 → σ.1 k (b + 3) = nI (f 3)) ∧ (f 0 = 6 → σ.1 k (b + 4) = nI (f 4))
def LdC (P : Pg) (σ : Mm) : Prop := σ.1 13 0 = nI (pH P) ∧ σ.1 13 1 = nI (pL P) ∧ σ.2 13 2 = lN (pF P) ∧ (∀ h, h < 3 → σ.1 16 h = nI (pS P h) ∧ σ.1 17 h = nI (pN P h)) ∧ (∀ h p, h < 3 → p < pN P h → CdC σ 14 ((h * 26 + p) * 5) (pC P h p))
def wf (w c : Nat) : Option Nat := if hn w = 2 ∧ hl w / 4 = c then some (hl w % 4) else if 1 ≤ hn w ∧ ho w / 4 = c then some (ho w % 4) else none
def see (w x c : Nat) : Nat := (wf w c).getD (cv x c)
def stpf (n : Nat) (f : Nat → Nat) (lt x h w : Nat) : Option Nat :=
  if n ≤ pl w then none
  else if f 0 = 1 then some (setH x h (mkw (pl w + 1) (see w x (f 1)) (hb w) (hn w) (ho w) (hl w)))
  else if f 0 = 2 then
    (if lt = 0 then some (setH (setV x (f 1) (if f 2 = 4 then hb w else f 2)) h (mkw (pl w + 1) (ha w) (hb w) (hn w) (ho w) (hl w)))
     else if 2 ≤ hn w then none
     else if hn w = 0 then some (setH x h (mkw (pl w + 1) (ha w) (hb w) 1 (4 * f 1 + (if f 2 = 4 then hb w else f 2)) 0))
     else some (setH x h (mkw (pl w + 1) (ha w) (hb w) 2 (ho w) (4 * f 1 + (if f 2 = 4 then hb w else f 2)))))
  else if f 0 = 3 then
    (if hn w = 0 then (if cv x (f 1) = f 2 then some (setH (setV x (f 1) (f 3)) h (mkw (pl w + 1) 1 (hb w) 0 0 0)) else some (setH x h (mkw (pl w + 1) 0 (hb w) 0 0 0))) else none)
  else if f 0 = 4 then (if hn w = 0 then some (setH (setV x (f 1) ((cv x (f 1) + f 2) % 4)) h (mkw (pl w + 1) (cv x (f 1)) (hb w) 0 0 0)) else none)
  else if f 0 = 5 then (if hn w = 0 then some (setH x h (mkw (pl w + 1) (ha w) (hb w) 0 0 0)) else none)
  else if f 0 = 6 then (if ha w = 0 then some (setH x h (mkw (f 4) (ha w) (hb w) (hn w) (ho w) (hl w))) else some (setH x h (mkw (pl w + 1) (ha w) (hb w) (hn w) (ho w) (hl w))))
  else if f 0 = 7 then some (setH x h (mkw (pl w + 1) (f 2) (hb w) (hn w) (ho w) (hl w)))
  else some (setH x h (mkw (pl w + 1) (ha w) (ha w) (hn w) (ho w) (hl w)))
def stp (P : Pg) (lt x h : Nat) : Option Nat := stpf (pN P h) (pC P h (pl (hd x h))) lt x h (hd x h)
def arrf (x h w : Nat) : Option Nat := if hn w = 0 then none else some (setH (setV x (ho w / 4) (ho w % 4)) h (mkw (pl w) (ha w) (hb w) (hn w - 1) (hl w) 0))
def arr (x h : Nat) : Option Nat := arrf x h (hd x h)
def mv (P : Pg) (lt x k : Nat) : Option Nat := if k < 3 then stp P lt x k else arr x (k - 3)
/-- the class -/
theorem handIn_eq {x h : Nat} (hx : x < 9223372036854775808) (hh : h < 3) (σ : Mm) : f_X1_handIn (lN x) (nI h) σ = some (nI (hd x h), σ) := by
  unfold f_X1_handIn
  rcases lt3 hh with rfl | rfl | rfl
  · have e : (((6 : Int32) + ((19 : Int32) * nI 0))).toInt64.toUInt64 &&& Int64.toUInt64 63 = UInt64.ofNat 6 := by decide
    rw [e, ush (by omega) (by decide), lN_i, qi_524287, and_19]; rfl
  · have e : (((6 : Int32) + ((19 : Int32) * nI 1))).toInt64.toUInt64 &&& Int64.toUInt64 63 = UInt64.ofNat 25 := by decide
    rw [e, ush (by omega) (by decide), lN_i, qi_524287, and_19]; rfl
  · have e : (((6 : Int32) + ((19 : Int32) * nI 2))).toInt64.toUInt64 &&& Int64.toUInt64 63 = UInt64.ofNat 44 := by decide
    rw [e, ush (by omega) (by decide), lN_i, qi_524287, and_19]; rfl
theorem valueIn_eq {x c : Nat} (hx : x < 9223372036854775808) (hc : c < 3) (σ : Mm) : f_X1_valueIn (lN x) (nI c) σ = some (nI (cv x c), σ) := by
  unfold f_X1_valueIn
  rcases lt3 hc with rfl | rfl | rfl
  · have e : (((2 : Int32) * nI 0)).toInt64.toUInt64 &&& Int64.toUInt64 63 = UInt64.ofNat 0 := by decide
    rw [e, ush (by omega) (by decide), lN_i, qi_3, and_3]; rfl
  · have e : (((2 : Int32) * nI 1)).toInt64.toUInt64 &&& Int64.toUInt64 63 = UInt64.ofNat 2 := by decide
    rw [e, ush (by omega) (by decide), lN_i, qi_3, and_3]; rfl
  · have e : (((2 : Int32) * nI 2)).toInt64.toUInt64 &&& Int64.toUInt64 63 = UInt64.ofNat 4 := by decide
    rw [e, ush (by omega) (by decide), lN_i, qi_3, and_3]; rfl
theorem withValue_eq {x c v : Nat} (hc : c < 3) (σ : Mm) : f_X1_withValue (lN x) (nI c) (nI v) σ = some (lN (setV x c (v % 4)), σ) := by
  unfold f_X1_withValue
  have hv : v % 4 < 2 ^ 2 := Nat.mod_lt _ (by decide)
  rw [qi_3, and_3, nI_l (by omega)]
  rcases lt3 hc with rfl | rfl | rfl
  · exact congrArg (fun z => some (z, σ)) (l_set (s := 0) (m := 2) rfl (by decide) (by decide) hv)
  · exact congrArg (fun z => some (z, σ)) (l_set (s := 2) (m := 2) rfl (by decide) (by decide) hv)
  · exact congrArg (fun z => some (z, σ)) (l_set (s := 4) (m := 2) rfl (by decide) (by decide) hv)
theorem withHand_eq {x h w : Nat} (hh : h < 3) (hw : w < 524288) (σ : Mm) : f_X1_withHand (lN x) (nI h) (nI w) σ = some (lN (setH x h w), σ) := by
  unfold f_X1_withHand
  have hv : w < 2 ^ 19 := hw
  rw [p_nm, nI_l (by omega)]
  rcases lt3 hh with rfl | rfl | rfl
  · exact congrArg (fun z => some (z, σ)) (l_set (s := 6) (m := 19) rfl (by decide) (by decide) hv)
  · exact congrArg (fun z => some (z, σ)) (l_set (s := 25) (m := 19) rfl (by decide) (by decide) hv)
  · exact congrArg (fun z => some (z, σ)) (l_set (s := 44) (m := 19) rfl (by decide) (by decide) hv)
theorem withA_eq {w v : Nat} (hw : w < 524288) (hv : v < 4) (σ : Mm) : f_X1_withA (nI w) (nI v) σ = some (nI (mkw (pl w) v (hb w) (hn w) (ho w) (hl w)), σ) := by
  unfold f_X1_withA
  have hv : v < 2 ^ 2 := hv
  rw [i_set (s := 5) (m := 2) (by decide) (by decide) (by decide) hv]
  congr 3
  unfold mkw pl hb hn ho hl
  omega
theorem withB_eq {w v : Nat} (hw : w < 524288) (hv : v < 4) (σ : Mm) : f_X1_withB (nI w) (nI v) σ = some (nI (mkw (pl w) (ha w) v (hn w) (ho w) (hl w)), σ) := by
  unfold f_X1_withB
  have hv : v < 2 ^ 2 := hv
  rw [i_set (s := 7) (m := 2) (by decide) (by decide) (by decide) hv]
  congr 3
  unfold mkw pl ha hn ho hl
  omega
theorem w_succ {w : Nat} (hw : w < 524288) (hp : pl w < 31) : w + 1 = mkw (pl w + 1) (ha w) (hb w) (hn w) (ho w) (hl w) := by
  unfold mkw pl ha hb hn ho hl; omega
theorem w_fields {w : Nat} (hw : w < 524288) (hp : pl w < 31) : w + 1 < 524288 ∧ pl (w + 1) = pl w + 1 ∧ ha (w + 1) = ha w ∧ hb (w + 1) = hb w ∧ hn (w + 1) = hn w ∧ ho (w + 1) = ho w ∧ hl (w + 1) = hl w := by
  unfold pl at hp
  unfold pl ha hb hn ho hl
  omega
theorem waitingFor_eq {w c : Nat} (hw : w < 524288) (hc : c < 3) (σ : Mm) : f_X1_waitingFor (nI w) (nI c) σ = some (iO (wf w c), σ) := by
  unfold f_X1_waitingFor f_X1_waitingFor_31 f_X1_waitingFor_60
  simp (disch := omega) only [qi_0, qi_1, qi_2, qi_3, qi_4, qi_5, qi_6, qi_7, qi_8, qi_9, qi_10, qi_11, qi_12, qi_13, qi_14, qi_15, qi_16, qi_17, qi_19, qi_26, qi_31, qi_32, qi_35, qi_40, qi_42, qi_48, qi_50, qi_57, qi_59, qi_63, qi_64, qi_97, qi_120, qi_122, qi_210, qi_255, qi_511, qi_512, qi_1000, qi_6000, qi_13312, qi_14337, qi_16383, qi_16384, qi_524287, p_nm, shr_9, shr_15, shr_11, and_3, and_15, shr_2, nI_eq, nI_ltI]
  unfold wf
  show (if hn w = 2 then (if hl w / 4 = c then some (nI (hl w % 4), σ) else if hn w < 1 then some (-nI 1, σ) else if ho w / 4 = c then some (nI (ho w % 4), σ) else some (-nI 1, σ)) else if hn w < 1 then some (-nI 1, σ) else if ho w / 4 = c then some (nI (ho w % 4), σ) else some (-nI 1, σ)) = _
  have h5 : 1 ≤ hn w ↔ ¬ hn w < 1 := by omega
  by_cases h1 : hn w = 2 <;> by_cases h2 : hl w / 4 = c <;> by_cases h3 : ho w / 4 = c <;> by_cases h4 : hn w < 1 <;> first | (exfalso; omega) | simp [h1, h2, h3, h4, h5, iO]
theorem arrived_eq {x h : Nat} (hx : x < 9223372036854775808) (hh : h < 3) (hW : WV (hd x h)) (σ : Mm) : f_X1_arrived (lN x) (nI h) σ = some (lO (arr x h), σ) := by
  obtain ⟨w1, w2, w3, w4, w5⟩ := hW
  have hw := hd_lt x h
  unfold f_X1_arrived
  rw [handIn_eq hx hh, p_bd]
  unfold arr arrf
  generalize hd x h = w at *
  simp (disch := omega) only [qi_0, qi_1, qi_2, qi_3, qi_4, qi_5, qi_6, qi_7, qi_8, qi_9, qi_10, qi_11, qi_12, qi_13, qi_14, qi_15, qi_16, qi_17, qi_19, qi_26, qi_31, qi_32, qi_35, qi_40, qi_42, qi_48, qi_50, qi_57, qi_59, qi_63, qi_64, qi_97, qi_120, qi_122, qi_210, qi_255, qi_511, qi_512, qi_1000, qi_6000, qi_13312, qi_14337, qi_16383, qi_16384, qi_524287, p_nm, shr_9, shr_15, shr_11, and_3, and_15, shr_2, and_511, nI_eq]
  show (if hn w = 0 then _ else _) = _
  by_cases h0 : hn w = 0
  · rw [if_pos h0, if_pos h0]; rfl
  · rw [if_neg h0, if_neg h0]
    have e1 : nI (w / 512 % 4) - nI 1 = nI (hn w - 1) := pk_sub (by unfold hn at h0; omega)
    have e2 : nI (hn w - 1) <<< (nI 9 &&& nI 31) = nI ((hn w - 1) * 2 ^ 9) := shl_9 (by have := hn_lt w; omega)
    have e3 : nI (w / 32768 % 16) <<< (nI 11 &&& nI 31) = nI (hl w * 2 ^ 11) := shl_11 (by omega)
    rw [e1, e2, e3, i_or (by omega), i_or (by have := hn_lt w; omega)]
    rw [withValue_eq (by show ho w / 4 < 3; omega), p_bd]
    have e4 : w % 512 + (hn w - 1) * 2 ^ 9 + hl w * 2 ^ 11 = mkw (pl w) (ha w) (hb w) (hn w - 1) (hl w) 0 := by
      unfold mkw pl ha hb; omega
    rw [e4, withHand_eq hh (mkw_lt (pl_lt w) (ha_lt w) (hb_lt w) (by have := hn_lt w; omega) (hl_lt w) (by decide)), p_bd]
    have e5 : w / 2048 % 16 % 4 % 4 = ho w % 4 := by unfold ho; omega
    rw [e5]
    rfl
/-- what is known of the step that comes next -/
theorem now_eq {P : Pg} {x h : Nat} {σ : Mm} (hP : PgV P) (hL : LdC P σ) (hV : VS P x) (hh : h < 3) (hp : pl (hd x h) < pN P h) : ∃ (w : Nat) (f : Nat → Nat), hd x h = w ∧ pC P h (pl w) = f ∧ w < 524288 ∧ pl w < pN P h ∧ pl w < 26 ∧ CdC σ 14 ((h * 26 + pl w) * 5) f ∧ CdV f (pl w) ∧ WV w ∧ (h * 26 + pl w) * 5 + 4 < 390 := by
  have hN := (hP.2.2.1 h hh).2
  exact ⟨hd x h, _, rfl, rfl, hd_lt x h, hp, by omega, hL.2.2.2.2 h _ hh hp, hP.2.2.2.2 h _ hh hp, (hV.2 h hh).1, by omega⟩
theorem w512 {w : Nat} (hw : w < 524288) (hW : WV w) : w < 512 ↔ hn w = 0 := by
  obtain ⟨w1, w2, w3, w4, w5⟩ := hW
  have := w_512 hw
  constructor
  · intro q; omega
  · intro q; have := w2 q; have := w3 (by omega); omega
theorem swapped_eq3 {P : Pg} {x h lt : Nat} {σ : Mm} (hP : PgV P) (hL : LdC P σ) (hV : VS P x) (hh : h < 3) (hp : pl (hd x h) < pN P h) (hk : pC P h (pl (hd x h)) 0 = 3) : f_X1_swapped (lN x) (nI h) (nI ((h * 26 + pl (hd x h)) * 5)) σ = some (lO (stp P lt x h), σ) := by
  obtain ⟨w, f, ew, ef, hw, hpw, hp26, ⟨c1, c2, c3, c4, c5⟩, ⟨v1, v2, v3, v4, v5, v6⟩, hW, hB⟩ := now_eq hP hL hV hh hp
  have hx := hV.1
  have h512 := w512 hw hW
  have hz : hn w = 0 → ho w = 0 ∧ hl w = 0 := fun q => ⟨hW.2.1 q, hW.2.2.1 (by omega)⟩
  unfold stp stpf f_X1_swapped
  rw [handIn_eq hx hh, p_bd]
  rw [ew, ef] at hk ⊢
  obtain ⟨f0, f1, f2, f3, f4, f5, f6⟩ := w_fields hw (by omega)
  have g1 := v2 (by omega) (by omega)
  have g2 := v4 (by omega)
  have hcv := cv_lt x (f 1)
  have c2 := c2 (by omega) (by omega)
  have c3 : σ.1 14 ((h * 26 + pl w) * 5 + 2) = nI (f 2) := (c3 (by omega)).trans (if_neg (by omega))
  have hb4 := hb_lt w
  clear v2 v3 v4 v6 c5 hW hP hL hV
  rw [if_neg (show ¬ pN P h ≤ pl w by omega)]
  have g3 := v5 hk
  have c4 := c4 hk
  clear v5
  rw [if_neg (show ¬ f 0 = 1 by omega), if_neg (show ¬ f 0 = 2 by omega), if_pos hk]
  by_cases h0 : hn w = 0
  · obtain ⟨z1, z2⟩ := hz h0
    have hy : nI w &&& -nI 512 = nI 0 := by rw [and_m512 hw]; exact h512.mpr h0
    clear hz h512
    rw [if_pos h0]
    simp only [qi_0, qi_1, qi_2, qi_3, qi_4, qi_5, qi_6, qi_7, qi_8, qi_9, qi_10, qi_11, qi_12, qi_13, qi_14, qi_15, qi_16, qi_17, qi_19, qi_26, qi_31, qi_32, qi_35, qi_40, qi_42, qi_48, qi_50, qi_57, qi_59, qi_63, qi_64, qi_97, qi_120, qi_122, qi_210, qi_255, qi_511, qi_512, qi_1000, qi_6000, qi_13312, qi_14337, qi_16383, qi_16384, qi_524287, nI_add]
    rw [if_pos hy]
    rw [p_ck _ (by omega) (by omega), p_ix (by omega), c2, p_nm, valueIn_eq hx g1, p_bd, p_ck _ (by omega) (by omega), p_ix (by omega), c3, p_nm, p_ck _ (by omega) (by omega), p_ix (by omega), c1, hk]
    rw [i_ne (by omega) (by omega) (by omega)]
    by_cases h1 : cv x (f 1) = f 2
    · rw [i_eq h1, if_pos h1, p_ck _ (by omega) (by omega), p_ix (by omega), c4, withValue_eq g1, p_bd, withA_eq f0 (by omega), p_bd, f1, f3, f4, f5, f6, h0, z1, z2]
      rw [withHand_eq hh (mkw_lt (by omega) (by omega) hb4 (by omega) (by omega) (by omega)), p_bd, Nat.mod_eq_of_lt g3, lO]
    · rw [i_ne (by omega) (by omega) h1, if_neg h1, withA_eq f0 (by omega), p_bd, f1, f3, f4, f5, f6, h0, z1, z2]
      rw [withHand_eq hh (mkw_lt (by omega) (by omega) hb4 (by omega) (by omega) (by omega)), p_bd, lO]
  · have hno : ¬ (nI w &&& -nI 512 = nI 0) := by rw [and_m512 hw]; exact fun q => h0 (h512.mp q)
    rw [if_neg h0]
    simp only [qi_0, qi_1, qi_2, qi_3, qi_4, qi_5, qi_6, qi_7, qi_8, qi_9, qi_10, qi_11, qi_12, qi_13, qi_14, qi_15, qi_16, qi_17, qi_19, qi_26, qi_31, qi_32, qi_35, qi_40, qi_42, qi_48, qi_50, qi_57, qi_59, qi_63, qi_64, qi_97, qi_120, qi_122, qi_210, qi_255, qi_511, qi_512, qi_1000, qi_6000, qi_13312, qi_14337, qi_16383, qi_16384, qi_524287, nI_add]
    rw [if_neg hno, lO]; rfl
theorem swapped_eq4 {P : Pg} {x h lt : Nat} {σ : Mm} (hP : PgV P) (hL : LdC P σ) (hV : VS P x) (hh : h < 3) (hp : pl (hd x h) < pN P h) (hk : pC P h (pl (hd x h)) 0 = 4) : f_X1_swapped (lN x) (nI h) (nI ((h * 26 + pl (hd x h)) * 5)) σ = some (lO (stp P lt x h), σ) := by
  obtain ⟨w, f, ew, ef, hw, hpw, hp26, ⟨c1, c2, c3, c4, c5⟩, ⟨v1, v2, v3, v4, v5, v6⟩, hW, hB⟩ := now_eq hP hL hV hh hp
  have hx := hV.1
  have h512 := w512 hw hW
  have hz : hn w = 0 → ho w = 0 ∧ hl w = 0 := fun q => ⟨hW.2.1 q, hW.2.2.1 (by omega)⟩
  unfold stp stpf f_X1_swapped
  rw [handIn_eq hx hh, p_bd]
  rw [ew, ef] at hk ⊢
  obtain ⟨f0, f1, f2, f3, f4, f5, f6⟩ := w_fields hw (by omega)
  have g1 := v2 (by omega) (by omega)
  have g2 := v4 (by omega)
  have hcv := cv_lt x (f 1)
  have c2 := c2 (by omega) (by omega)
  have c3 : σ.1 14 ((h * 26 + pl w) * 5 + 2) = nI (f 2) := (c3 (by omega)).trans (if_neg (by omega))
  have hb4 := hb_lt w
  clear v2 v3 v4 v6 c5 hW hP hL hV
  rw [if_neg (show ¬ pN P h ≤ pl w by omega)]
  rw [if_neg (show ¬ f 0 = 1 by omega), if_neg (show ¬ f 0 = 2 by omega), if_neg (show ¬ f 0 = 3 by omega), if_pos hk]
  clear v5 c4
  by_cases h0 : hn w = 0
  · obtain ⟨z1, z2⟩ := hz h0
    have hy : nI w &&& -nI 512 = nI 0 := by rw [and_m512 hw]; exact h512.mpr h0
    clear hz h512
    rw [if_pos h0]
    simp only [qi_0, qi_1, qi_2, qi_3, qi_4, qi_5, qi_6, qi_7, qi_8, qi_9, qi_10, qi_11, qi_12, qi_13, qi_14, qi_15, qi_16, qi_17, qi_19, qi_26, qi_31, qi_32, qi_35, qi_40, qi_42, qi_48, qi_50, qi_57, qi_59, qi_63, qi_64, qi_97, qi_120, qi_122, qi_210, qi_255, qi_511, qi_512, qi_1000, qi_6000, qi_13312, qi_14337, qi_16383, qi_16384, qi_524287, nI_add]
    rw [if_pos hy]
    rw [p_ck _ (by omega) (by omega), p_ix (by omega), c2, p_nm, valueIn_eq hx g1, p_bd, p_ck _ (by omega) (by omega), p_ix (by omega), c3, p_nm, p_ck _ (by omega) (by omega), p_ix (by omega), c1]
    rw [i_eq hk, nI_add, withValue_eq g1, p_bd, withA_eq f0 (by omega), p_bd, f1, f3, f4, f5, f6, h0, z1, z2]
    rw [withHand_eq hh (mkw_lt (by omega) (by omega) hb4 (by omega) (by omega) (by omega)), p_bd, lO]
  · have hno : ¬ (nI w &&& -nI 512 = nI 0) := by rw [and_m512 hw]; exact fun q => h0 (h512.mp q)
    rw [if_neg h0]
    simp only [qi_0, qi_1, qi_2, qi_3, qi_4, qi_5, qi_6, qi_7, qi_8, qi_9, qi_10, qi_11, qi_12, qi_13, qi_14, qi_15, qi_16, qi_17, qi_19, qi_26, qi_31, qi_32, qi_35, qi_40, qi_42, qi_48, qi_50, qi_57, qi_59, qi_63, qi_64, qi_97, qi_120, qi_122, qi_210, qi_255, qi_511, qi_512, qi_1000, qi_6000, qi_13312, qi_14337, qi_16383, qi_16384, qi_524287, nI_add]
    rw [if_neg hno, lO]; rfl
theorem written_eq {P : Pg} {x h lt : Nat} {σ : Mm} (hP : PgV P) (hL : LdC P σ) (hV : VS P x) (hh : h < 3) (hp : pl (hd x h) < pN P h) (hlt : lt < 2) (hk : pC P h (pl (hd x h)) 0 = 2) : f_X1_written (lN x) (nI h) (nI ((h * 26 + pl (hd x h)) * 5)) (nI lt) σ = some (lO (stp P lt x h), σ) := by
  obtain ⟨w, f, ew, ef, hw, hpw, hp26, ⟨c1, c2, c3, c4, c5⟩, ⟨v1, v2, v3, v4, v5, v6⟩, hW, hB⟩ := now_eq hP hL hV hh hp
  have hx := hV.1
  have hz : hn w = 0 → ho w = 0 ∧ hl w = 0 := fun q => ⟨hW.2.1 q, hW.2.2.1 (by omega)⟩
  have hz1 : hn w ≤ 1 → hl w = 0 := hW.2.2.1
  have hn2 := hW.1
  unfold stp stpf f_X1_written
  rw [handIn_eq hx hh, p_bd]
  rw [ew, ef] at hk ⊢
  obtain ⟨f0, f1, f2, f3, f4, f5, f6⟩ := w_fields hw (by omega)
  have ws := w_succ hw (show pl w < 31 by omega)
  have g1 := v2 (by omega) (by omega)
  have g2 := v3 (by omega)
  have c2 := c2 (by omega) (by omega)
  have c3 := c3 (by omega)
  have hb4 := hb_lt w
  have ha4 := ha_lt w
  have hn4 := hn_lt w
  have ho4 := ho_lt w
  have hl4 := hl_lt w
  clear v2 v3 v4 v6 c5 hW hP hL hV v5 c4
  rw [if_neg (show ¬ pN P h ≤ pl w by omega), if_neg (show ¬ f 0 = 1 by omega), if_pos hk]
  simp only [qi_0, qi_1, qi_2, qi_3, qi_4, qi_5, qi_6, qi_7, qi_8, qi_9, qi_10, qi_11, qi_12, qi_13, qi_14, qi_15, qi_16, qi_17, qi_19, qi_26, qi_31, qi_32, qi_35, qi_40, qi_42, qi_48, qi_50, qi_57, qi_59, qi_63, qi_64, qi_97, qi_120, qi_122, qi_210, qi_255, qi_511, qi_512, qi_1000, qi_6000, qi_13312, qi_14337, qi_16383, qi_16384, qi_524287, nI_add]
  rw [p_ck _ (by omega) (by omega), p_ix (by omega), c2, p_nm, p_ck _ (by omega) (by omega), p_ix (by omega), c3, p_nm]
  obtain ⟨u, hu⟩ : ∃ u, u = (if f 2 = 4 then hb w else f 2) := ⟨_, rfl⟩
  rw [← hu]
  have hu4 : u < 4 := by rw [hu]; split <;> omega
  have key : f_X1_written_46 (lN x) (nI h) (nI lt) (nI w) (nI (f 1)) (nI u) σ = some (lO (if lt = 0 then some (setH (setV x (f 1) u) h (mkw (pl w + 1) (ha w) (hb w) (hn w) (ho w) (hl w))) else if 2 ≤ hn w then none else if hn w = 0 then some (setH x h (mkw (pl w + 1) (ha w) (hb w) 1 (4 * f 1 + u) 0)) else some (setH x h (mkw (pl w + 1) (ha w) (hb w) 2 (ho w) (4 * f 1 + u)))), σ) := by
    unfold f_X1_written_46 f_X1_written_101
    simp only [qi_0, qi_1, qi_2, qi_3, qi_4, qi_5, qi_6, qi_7, qi_8, qi_9, qi_10, qi_11, qi_12, qi_13, qi_14, qi_15, qi_16, qi_17, qi_19, qi_26, qi_31, qi_32, qi_35, qi_40, qi_42, qi_48, qi_50, qi_57, qi_59, qi_63, qi_64, qi_97, qi_120, qi_122, qi_210, qi_255, qi_511, qi_512, qi_1000, qi_6000, qi_13312, qi_14337, qi_16383, qi_16384, qi_524287, nI_add]
    by_cases hl0 : lt = 0
    · rw [i_eq hl0, if_pos hl0, withValue_eq g1, p_bd, withHand_eq hh f0, p_bd, ws, Nat.mod_eq_of_lt hu4, lO]
    · rw [i_ne (by omega) (by omega) hl0, if_neg hl0, p_nm, shr_9 (by omega), and_3]
      show (if nI (hn w) < nI 2 then (if nI (hn w) = nI 0 then _ else _) else _) = _
      by_cases h2 : hn w < 2
      · rw [i_lt (by omega) h2, if_neg (show ¬ 2 ≤ hn w by omega)]
        have e1 : nI (f 1) <<< (nI 2 &&& nI 31) ||| nI u = nI (4 * f 1 + u) := by
          rw [shl_2 (by omega), show f 1 * 4 = f 1 * 2 ^ 2 from rfl, i_or' (by omega)]
          congr 1; omega
        by_cases h0 : hn w = 0
        · obtain ⟨z1, z2⟩ := hz h0
          rw [i_eq h0, if_pos h0, e1, shl_11 (by omega), nI_add]
          have e2 : w + 1 + 512 + (4 * f 1 + u) * 2048 = mkw (pl w + 1) (ha w) (hb w) 1 (4 * f 1 + u) 0 := by
            rw [ws]; unfold mkw; rw [h0, z1, z2]; omega
          rw [e2, withHand_eq hh (mkw_lt (by omega) (by omega) hb4 (by omega) (by omega) (by omega)), p_bd, lO]
        · rw [i_ne (by omega) (by omega) h0, if_neg h0, e1, shl_15 (by omega), nI_add]
          have z2 := hz1 (by omega)
          have e2 : w + 1 + 512 + (4 * f 1 + u) * 32768 = mkw (pl w + 1) (ha w) (hb w) 2 (ho w) (4 * f 1 + u) := by
            rw [ws]; unfold mkw; rw [z2]; omega
          rw [e2, withHand_eq hh (mkw_lt (by omega) (by omega) hb4 (by omega) (by omega) (by omega)), p_bd, lO]
      · rw [i_nlt (by omega) (by omega), if_pos (show 2 ≤ hn w by omega), lO]
        rfl
  by_cases h4 : f 2 = 4
  · have e : vI (f 2) = -nI 1 := if_pos h4
    rw [e, if_neg (show ¬ nI 0 ≤ -nI 1 by rw [p_m1le]; exact fun q => q), shr_7 (by omega), and_3]
    rw [if_pos h4] at hu
    rw [hu] at key ⊢
    exact key
  · have e : vI (f 2) = nI (f 2) := if_neg h4
    rw [e, i_le (by omega) (by omega)]
    rw [if_neg h4] at hu
    rw [hu] at key ⊢
    exact key
