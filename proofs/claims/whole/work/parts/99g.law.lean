/-! PURE: the beginning, and all calls of a script -/
def S00 : Su := (0, fun _ => 0, fun _ _ _ => 0, 0, fun _ => 0, fun _ => 0, fun _ => 0, 0)
def A00 : Ob := (S00, (false, S00), (0, fun _ => 0), (fun _ => 0, fun _ => 0, fun _ _ => lN 0), fun _ => nI 0)
theorem S00_V : SuV S00 := ⟨Nat.zero_le _, fun c (h : c < 0) => by omega, fun c s (h : c < 0) => by omega, Nat.zero_le _, fun g (h : g < 0) => by omega, fun c _ => (by show 0 < 4; omega), Nat.zero_le _⟩
theorem A00_V : OV A00 := ⟨S00_V, fun q => (by cases q), ⟨Nat.zero_le _, fun i (h : i < 0) => by omega⟩, fun s _ => ⟨Nat.zero_le _, Or.inl rfl⟩⟩
theorem mm0_1 (k j : Nat) : mm0.1 k j = nI 0 := rfl
theorem A00_C : AC A00 mm0 := by
  refine ⟨A00_V, ⟨mm0_1 _ _, mm0_1 _ _, mm0_1 _ _, fun c (h : c < 0) => by omega, fun c s (h : c < 0) => by omega, fun g (h : g < 0) => by omega, fun c _ => mm0_1 _ _⟩, ⟨fun s _ => ⟨0, by omega, mm0_1 _ _⟩, Or.inl (mm0_1 _ _), Or.inl (mm0_1 _ _)⟩, mm0_1 _ _, fun q => (by cases q), ⟨Nat.zero_le _, mm0_1 _ _, fun i (h : i < 0) => by omega⟩, fun s _ => ⟨mm0_1 _ _, mm0_1 _ _, fun i (h : i < 0) => by omega⟩, fun e _ => mm0_1 _ _, ?_⟩
  rw [mm0_1]
  show nI 0 = nI 0 + nI 0 + nI 0 + nI 0 + nI 0 + nI 0 + nI 0 + nI 0
  decide
theorem wds_ok {w : Nat} (h : w < 9) : wds0 w = lN (wpk w) := co_dec (N := 9) (P := fun w => wds0 w = lN (wpk w)) (by decide +kernel) h
theorem A00_M : AM A00 mm0 := by
  refine ⟨A00_V, ⟨mm0_1 _ _, mm0_1 _ _, mm0_1 _ _, fun c (h : c < 0) => by omega, fun c s (h : c < 0) => by omega, fun g (h : g < 0) => by omega, fun c _ => mm0_1 _ _⟩, ⟨⟨[], ⟨Nat.zero_le _, fun i j _ (h : j < 0) => by omega, fun i (h : i < 0) => by omega⟩, mm0_1 _ _, fun i (h : i < 0) => by omega⟩, Or.inl (mm0_1 _ _)⟩, mm0_1 _ _, fun q => (by cases q), ⟨Nat.zero_le _, mm0_1 _ _, fun i (h : i < 0) => by omega, fun w hw => wds_ok hw⟩, fun s _ => ⟨mm0_1 _ _, mm0_1 _ _, fun i (h : i < 0) => by omega⟩, fun e _ => mm0_1 _ _⟩
theorem hpure (L : Nat) (xs : Nat → Int32) (hL : L ≤ 3072) : ∃ σ2 : Mm, fx (fun _ _ => none) FU (f_L_law_L18 L xs) 0 mm0 = some ((), σ2) := by
  refine lq1 (bot := fun _ _ => none) (F := f_L_law_L18 L xs) (fun a τ => ∃ i A, i ≤ 3078 ∧ a = nI i ∧ AC A τ ∧ AM A τ) (fun a _ => 4000 - ix a) (fun o => ∃ σ2, o = some ((), σ2)) ?_ FU (0 : Int32) mm0 ?_ ⟨0, A00, by omega, qi_0, A00_C, A00_M⟩
  · rintro K a τ ⟨i, A, hi, rfl, hc, hm⟩
    unfold f_L_law_L18
    rw [show Int32.ofNat L = nI L from rfl, qi_6]
    by_cases h : nI L - nI 6 < nI i
    · right
      rw [if_pos h]
      exact ⟨τ, rfl⟩
    · left
      have hiL : i + 6 ≤ L := by
        by_cases l6 : 6 ≤ L
        · rw [pk_sub l6] at h
          apply Nat.le_of_not_lt
          intro q
          exact h (nI_lt (by omega) (by omega))
        · exfalso
          apply h
          have h0 : nI L - nI 6 < nI 0 := co_dec (N := 6) (P := fun L => nI L - nI 6 < nI 0) (by decide +kernel) (show L < 6 by omega)
          rw [Int32.lt_iff_toInt_lt, nI_toInt (by omega)] at h0
          rw [Int32.lt_iff_toInt_lt, nI_toInt (by omega)]
          omega
      have c0 : ∀ o : Option (Unit × Mm), ck (nI i) L o = o := fun o => p_ck _ (by omega) (by omega)
      have cc : ∀ (d : Nat) (o : Option (Unit × Mm)), d ≤ 5 → ck (nI i + nI d) L o = o := fun d o hd => by rw [nI_add]; exact p_ck _ (by omega) (by omega)
      have c1 : ∀ o : Option (Unit × Mm), ck (nI i + (1 : Int32)) L o = o := fun o => cc 1 o (by omega)
      have c2 : ∀ o : Option (Unit × Mm), ck (nI i + (2 : Int32)) L o = o := fun o => cc 2 o (by omega)
      have c3 : ∀ o : Option (Unit × Mm), ck (nI i + (3 : Int32)) L o = o := fun o => cc 3 o (by omega)
      have c4 : ∀ o : Option (Unit × Mm), ck (nI i + (4 : Int32)) L o = o := fun o => cc 4 o (by omega)
      have c5 : ∀ o : Option (Unit × Mm), ck (nI i + (5 : Int32)) L o = o := fun o => cc 5 o (by omega)
      have step : ∀ σ2 A', AC A' σ2 → AM A' σ2 → ∃ a' σ', (∃ i A, i ≤ 3078 ∧ a' = nI i ∧ AC A σ' ∧ AM A σ') ∧ 4000 - ix a' < 4000 - ix (nI i) ∧ f_L_law_1128 K L xs (nI i) σ2 = K a' σ' := by
        intro σ2 A' a1 a2
        unfold f_L_law_1128
        rw [qi_6, nI_add, p_nm]
        refine ⟨nI (i + 6), σ2, ⟨i + 6, A', by omega, rfl, a1, a2⟩, ?_, rfl⟩
        rw [p_ix (by omega), p_ix (by omega)]; omega
      rw [if_neg h, c0, p_nm]
      generalize xs (ix (nI i)) &&& (63 : Int32) = v
      by_cases h0 : v = (0 : Int32)
      · obtain ⟨r, σ1, σ2, A', e1, e2, e3, e4⟩ := op_feed hc hm _ _
        rw [if_pos h0, c1, c2, e1, p_bd, c1, c2, e2, p_bd, if_pos rfl]
        exact step σ2 A' e3 e4
      rw [if_neg h0]
      by_cases h1 : v = (1 : Int32)
      · obtain ⟨r, σ1, σ2, A', e1, e2, e3, e4⟩ := op_wipe hc hm 
        rw [if_pos h1, e1, p_bd, e2, p_bd, if_pos rfl]
        exact step σ2 A' e3 e4
      rw [if_neg h1]
      by_cases h2 : v = (2 : Int32)
      · obtain ⟨r, σ1, σ2, A', e1, e2, e3, e4⟩ := op_text hc hm 
        rw [if_pos h2, e1, p_bd, e2, p_bd, if_pos rfl]
        exact step σ2 A' e3 e4
      rw [if_neg h2]
      by_cases h3 : v = (3 : Int32)
      · obtain ⟨r, σ1, σ2, A', e1, e2, e3, e4⟩ := op_steps hc hm _
        rw [if_pos h3, c1, e1, p_bd, c1, e2, p_bd, if_pos rfl]
        exact step σ2 A' e3 e4
      rw [if_neg h3]
      by_cases h4 : v = (4 : Int32)
      · obtain ⟨r, σ1, σ2, A', e1, e2, e3, e4⟩ := op_step hc hm _ _ _
        rw [if_pos h4, c1, c2, c3, e1, p_bd, c1, c2, c3, e2, p_bd, if_pos rfl]
        exact step σ2 A' e3 e4
      rw [if_neg h4]
      by_cases h5 : v = (5 : Int32)
      · obtain ⟨r, σ1, σ2, A', e1, e2, e3, e4⟩ := op_as hc hm _ _ _
        rw [if_pos h5, c1, c2, c3, e1, p_bd, c1, c2, c3, e2, p_bd, if_pos rfl]
        exact step σ2 A' e3 e4
      rw [if_neg h5]
      by_cases h6 : v = nI 6
      · obtain ⟨r, σ1, σ2, A', e1, e2, e3, e4⟩ := op_change hc hm _ _ _
        rw [if_pos h6, c1, c2, c3, e1, p_bd, c1, c2, c3, e2, p_bd, if_pos rfl]
        exact step σ2 A' e3 e4
      rw [if_neg h6]
      by_cases h7 : v = (7 : Int32)
      · obtain ⟨r, σ1, σ2, A', e1, e2, e3, e4⟩ := op_cell hc hm _ _
        rw [if_pos h7, c1, c2, e1, p_bd, c1, c2, e2, p_bd, if_pos rfl]
        exact step σ2 A' e3 e4
      rw [if_neg h7]
      by_cases h8 : v = (8 : Int32)
      · obtain ⟨r, σ1, σ2, A', e1, e2, e3, e4⟩ := op_machine hc hm _
        rw [if_pos h8, c1, e1, p_bd, c1, e2, p_bd, if_pos rfl]
        exact step σ2 A' e3 e4
      rw [if_neg h8]
      by_cases h9 : v = (9 : Int32)
      · obtain ⟨r, σ1, σ2, A', e1, e2, e3, e4⟩ := op_hand hc hm _ _
        rw [if_pos h9, c1, c2, e1, p_bd, c1, c2, e2, p_bd, if_pos rfl]
        exact step σ2 A' e3 e4
      rw [if_neg h9]
      by_cases h10 : v = (10 : Int32)
      · obtain ⟨r, σ1, σ2, A', e1, e2, e3, e4⟩ := op_clear hc hm 
        rw [if_pos h10, e1, p_bd, e2, p_bd, if_pos rfl]
        exact step σ2 A' e3 e4
      rw [if_neg h10]
      by_cases h11 : v = (11 : Int32)
      · obtain ⟨r, σ1, σ2, A', e1, e2, e3, e4⟩ := op_states hc hm 
        rw [if_pos h11, e1, p_bd, e2, p_bd, if_pos rfl]
        exact step σ2 A' e3 e4
      rw [if_neg h11]
      by_cases h12 : v = (12 : Int32)
      · obtain ⟨r, σ1, σ2, A', e1, e2, e3, e4⟩ := op_ends hc hm 
        rw [if_pos h12, e1, p_bd, e2, p_bd, if_pos rfl]
        exact step σ2 A' e3 e4
      rw [if_neg h12]
      by_cases h13 : v = (13 : Int32)
      · obtain ⟨r, σ1, σ2, A', e1, e2, e3, e4⟩ := op_result hc hm _
        rw [if_pos h13, c1, e1, p_bd, c1, e2, p_bd, if_pos rfl]
        exact step σ2 A' e3 e4
      rw [if_neg h13]
      by_cases h14 : v = (14 : Int32)
      · obtain ⟨r, σ1, σ2, A', e1, e2, e3, e4⟩ := op_orders hc hm 
        rw [if_pos h14, e1, p_bd, e2, p_bd, if_pos rfl]
        exact step σ2 A' e3 e4
      rw [if_neg h14]
      by_cases h15 : v = (15 : Int32)
      · obtain ⟨r, σ1, σ2, A', e1, e2, e3, e4⟩ := op_inOrder hc hm _
        rw [if_pos h15, c1, e1, p_bd, c1, e2, p_bd, if_pos rfl]
        exact step σ2 A' e3 e4
      rw [if_neg h15]
      by_cases h16 : v = (16 : Int32)
      · obtain ⟨r, σ1, σ2, A', e1, e2, e3, e4⟩ := op_bad hc hm 
        rw [if_pos h16, e1, p_bd, e2, p_bd, if_pos rfl]
        exact step σ2 A' e3 e4
      rw [if_neg h16]
      by_cases h17 : v = (17 : Int32)
      · obtain ⟨r, σ1, σ2, A', e1, e2, e3, e4⟩ := op_worst hc hm 
        rw [if_pos h17, e1, p_bd, e2, p_bd, if_pos rfl]
        exact step σ2 A' e3 e4
      rw [if_neg h17]
      by_cases h18 : v = (18 : Int32)
      · obtain ⟨r, σ1, σ2, A', e1, e2, e3, e4⟩ := op_turn hc hm _
        rw [if_pos h18, c1, e1, p_bd, c1, e2, p_bd, if_pos rfl]
        exact step σ2 A' e3 e4
      rw [if_neg h18]
      by_cases h19 : v = (19 : Int32)
      · obtain ⟨r, σ1, σ2, A', e1, e2, e3, e4⟩ := op_stuck hc hm 
        rw [if_pos h19, e1, p_bd, e2, p_bd, if_pos rfl]
        exact step σ2 A' e3 e4
      rw [if_neg h19]
      by_cases h20 : v = (20 : Int32)
      · obtain ⟨r, σ1, σ2, A', e1, e2, e3, e4⟩ := op_round hc hm 
        rw [if_pos h20, e1, p_bd, e2, p_bd, if_pos rfl]
        exact step σ2 A' e3 e4
      rw [if_neg h20]
      by_cases h21 : v = (21 : Int32)
      · obtain ⟨r, σ1, σ2, A', e1, e2, e3, e4⟩ := op_heal hc hm _ _
        rw [if_pos h21, c1, c2, e1, p_bd, c1, c2, e2, p_bd, if_pos rfl]
        exact step σ2 A' e3 e4
      rw [if_neg h21]
      by_cases h22 : v = (22 : Int32)
      · obtain ⟨r, σ1, σ2, A', e1, e2, e3, e4⟩ := op_fences hc hm 
        rw [if_pos h22, e1, p_bd, e2, p_bd, if_pos rfl]
        exact step σ2 A' e3 e4
      rw [if_neg h22]
      by_cases h23 : v = (23 : Int32)
      · obtain ⟨r, σ1, σ2, A', e1, e2, e3, e4⟩ := op_cost hc hm _
        rw [if_pos h23, c1, e1, p_bd, c1, e2, p_bd, if_pos rfl]
        exact step σ2 A' e3 e4
      rw [if_neg h23]
      by_cases h24 : v = (24 : Int32)
      · obtain ⟨r, σ1, σ2, A', e1, e2, e3, e4⟩ := op_played hc hm _
        rw [if_pos h24, c1, e1, p_bd, c1, e2, p_bd, if_pos rfl]
        exact step σ2 A' e3 e4
      rw [if_neg h24]
      by_cases h25 : v = (25 : Int32)
      · obtain ⟨r, σ1, σ2, A', e1, e2, e3, e4⟩ := op_judge hc hm _
        rw [if_pos h25, c1, e1, p_bd, c1, e2, p_bd, if_pos rfl]
        exact step σ2 A' e3 e4
      rw [if_neg h25]
      by_cases h26 : v = (26 : Int32)
      · obtain ⟨r, σ1, σ2, A', e1, e2, e3, e4⟩ := op_moves hc hm _
        rw [if_pos h26, c1, e1, p_bd, c1, e2, p_bd, if_pos rfl]
        exact step σ2 A' e3 e4
      rw [if_neg h26]
      by_cases h27 : v = (27 : Int32)
      · obtain ⟨r, σ1, σ2, A', e1, e2, e3, e4⟩ := op_after hc hm _ _
        rw [if_pos h27, c1, c2, e1, p_bd, c1, c2, e2, p_bd, if_pos rfl]
        exact step σ2 A' e3 e4
      rw [if_neg h27]
      by_cases h28 : v = (28 : Int32)
      · obtain ⟨r, σ1, σ2, A', e1, e2, e3, e4⟩ := op_sheet hc hm _ _ _
        rw [if_pos h28, c1, c2, c3, e1, p_bd, c1, c2, c3, e2, p_bd, if_pos rfl]
        exact step σ2 A' e3 e4
      rw [if_neg h28]
      by_cases h29 : v = (29 : Int32)
      · obtain ⟨r, σ1, σ2, A', e1, e2, e3, e4⟩ := op_write hc hm _ _ _
        rw [if_pos h29, c1, c2, c3, c4, e1, p_bd, c1, c2, c3, c4, e2, p_bd, if_pos (show lg_cmp r r = (0 : Int32) by rw [qi_0, lc_eq])]
        exact step σ2 A' e3 e4
      rw [if_neg h29]
      by_cases h30 : v = (30 : Int32)
      · obtain ⟨r, σ1, σ2, A', e1, e2, e3, e4⟩ := op_copy hc hm _ _ _ _ _
        rw [if_pos h30, c1, c2, c3, c4, c5, e1, p_bd, c1, c2, c3, c4, c5, e2, p_bd, if_pos rfl]
        exact step σ2 A' e3 e4
      rw [if_neg h30]
      by_cases h31 : v = (31 : Int32)
      · obtain ⟨r, σ1, σ2, A', e1, e2, e3, e4⟩ := op_lead hc hm _
        rw [if_pos h31, c1, e1, p_bd, c1, e2, p_bd, if_pos rfl]
        exact step σ2 A' e3 e4
      rw [if_neg h31]
      by_cases h32 : v = (32 : Int32)
      · obtain ⟨r, σ1, σ2, A', e1, e2, e3, e4⟩ := op_image hc hm 
        rw [if_pos h32, e1, p_bd, e2, p_bd, if_pos rfl]
        exact step σ2 A' e3 e4
      rw [if_neg h32]
      by_cases h33 : v = (33 : Int32)
      · obtain ⟨r, σ1, σ2, A', e1, e2, e3, e4⟩ := op_undo hc hm 
        rw [if_pos h33, e1, p_bd, e2, p_bd, if_pos rfl]
        exact step σ2 A' e3 e4
      rw [if_neg h33]
      by_cases h34 : v = (34 : Int32)
      · obtain ⟨r, σ1, σ2, A', e1, e2, e3, e4⟩ := op_tear hc hm 
        rw [if_pos h34, e1, p_bd, e2, p_bd, if_pos rfl]
        exact step σ2 A' e3 e4
      rw [if_neg h34]
      by_cases h35 : v = (35 : Int32)
      · obtain ⟨r, σ1, σ2, A', e1, e2, e3, e4⟩ := op_look hc hm _
        rw [if_pos h35, c1, e1, p_bd, c1, e2, p_bd, if_pos rfl]
        exact step σ2 A' e3 e4
      rw [if_neg h35]
      by_cases h36 : v = (36 : Int32)
      · obtain ⟨r, σ1, σ2, A', e1, e2, e3, e4⟩ := op_status hc hm _
        rw [if_pos h36, c1, e1, p_bd, c1, e2, p_bd, if_pos rfl]
        exact step σ2 A' e3 e4
      rw [if_neg h36]
      exact step τ A hc hm
  · rw [qi_0, p_ix (by omega), FU_v]; omega
