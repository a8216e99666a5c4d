abbrev H_X8_append : Nat := 0
set_option maxHeartbeats 4000000 in
set_option maxRecDepth 100000 in
theorem t_X8_append_L4b {E : En} {G : Cx} (B : Bx E G cX8_append 4 RX8 H_X8_append none) (xq1 : Int32)   (L4 : Int32 → Mm → Option (Unit × Mm)) (hL4 : ∀ (xq3 : Int32)  (σ : Mm), KR E G 4 (ZV E G) (L4 xq3 σ) 4 [(0, .ref (ad E 4)), (1, .int xq1), (3, .int xq3)] [] σ) (xq3 : Int32)  (σ : Mm) : KR E G 4 (ZV E G) (f_X8_append_L4 xq1 L4 xq3 σ) 4 [(0, .ref (ad E 4)), (1, .int xq1), (3, .int xq3)] [] σ := by
  have F := B.1
  unfold f_X8_append_L4
  refine k_iload_n (pc := 4) F 3 2 dX8_append_4 rfl rfl ?_
  refine k_if_lt (pc := 5) F 52 dX8_append_5 (by decide) (fun _ => ?_) (fun _ => ?_)
  · exact k_vret (pc := 52) B dX8_append_52
  · refine k_aload_n (pc := 8) F 0 0 dX8_append_8 rfl rfl ?_
    refine gf_4_1 (pc := 9) F w_1_59 dX8_append_9 ?_
    refine k_bipush (pc := 12) F (v := (120 : Int32)) dX8_append_12 cb_120 ?_
    refine k_icmp_ge (pc := 14) F 52 dX8_append_14 (by decide) (fun _ => ?_) (fun _ => ?_)
    · exact k_vret (pc := 52) B dX8_append_52
    · refine k_aload_n (pc := 17) F 0 0 dX8_append_17 rfl rfl ?_
      refine gf_4_0 (pc := 18) F w_1_57 dX8_append_18 ?_
      refine k_aload_n (pc := 21) F 0 0 dX8_append_21 rfl rfl ?_
      refine gf_4_1 (pc := 22) F w_1_59 dX8_append_22 ?_
      refine k_iload_n (pc := 25) F 1 1 dX8_append_25 rfl rfl ?_
      refine k_bipush (pc := 26) F (v := (8 : Int32)) dX8_append_26 cb_8 ?_
      refine k_iload_n (pc := 28) F 3 2 dX8_append_28 rfl rfl ?_
      refine k_imul (pc := 29) F dX8_append_29 ?_
      refine k_ishr (pc := 30) F dX8_append_30 ?_
      refine k_sipush (pc := 31) F (v := (255 : Int32)) dX8_append_31 cs_255 ?_
      refine k_iand (pc := 34) F dX8_append_34 ?_
      refine k_iast (pc := 35) F rfl dX8_append_35 (fun σ2 => ?_)
      refine k_aload_n (pc := 36) F 0 0 dX8_append_36 rfl rfl ?_
      refine k_dup (pc := 37) F dX8_append_37 rfl ?_
      refine gf_4_1 (pc := 38) F w_1_59 dX8_append_38 ?_
      refine k_iconst (pc := 41) F (v := (1 : Int32)) dX8_append_41 ci_1 ?_
      refine k_iadd (pc := 42) F dX8_append_42 ?_
      refine pf_4_1 (pc := 43) F w_1_59 dX8_append_43 (fun σ3 => ?_)
      refine k_iinc (pc := 46) F (c := (-1 : Int32)) (lw := fun wq => [(3, .int wq), (0, .ref (ad E 4)), (1, .int xq1)]) 3 2 dX8_append_46 rfl ci_m1 (by decide) (fun _ => rfl) (fun vq4 => ?_)
      refine k_goto (pc := 49) F 4 dX8_append_49 (by decide) ?_
      exact k_sub [1, 2, 0] rfl (hL4 vq4 σ3)
set_option maxHeartbeats 4000000 in
set_option maxRecDepth 100000 in
theorem t_X8_append_L4 {E : En} {G : Cx} (B : Bx E G cX8_append 4 RX8 H_X8_append none) (xq1 : Int32)   : ∀ (n : Nat) (xq3 : Int32)  (σ : Mm), KR E G 4 (ZV E G) (fx (fun _ _ => none) n (f_X8_append_L4 xq1) xq3 σ) 4 [(0, .ref (ad E 4)), (1, .int xq1), (3, .int xq3)] [] σ :=
  fun n => fx_ind (P := fun f => ∀ (xq3 : Int32)  (σ : Mm), KR E G 4 (ZV E G) (f xq3 σ) 4 [(0, .ref (ad E 4)), (1, .int xq1), (3, .int xq3)] [] σ) (fun _ _ => k_none) (fun L4 hL4 xq3 σ => t_X8_append_L4b B xq1   L4 hL4 xq3 σ) n
set_option maxHeartbeats 4000000 in
set_option maxRecDepth 100000 in
theorem t_X8_append {E : En} {G : Cx} (B : Bx E G cX8_append 4 RX8 H_X8_append none) (aq0 : Int32) (aq1 : Int32)  (σ : Mm) : KR E G 4 (ZV E G) (f_X8_append aq0 aq1 σ) 0 [(0, .ref (ad E 4)), (1, .int aq0), (2, .int aq1)] [] σ := by
  have F := B.1
  unfold f_X8_append
  refine k_iload_n (pc := 0) F 2 2 dX8_append_0 rfl rfl ?_
  refine k_iconst (pc := 1) F (v := (1 : Int32)) dX8_append_1 ci_1 ?_
  refine k_isub (pc := 2) F dX8_append_2 ?_
  refine k_nmI (fun vq1 => ?_)
  refine k_istore_n F (lv' := [(3, .int vq1), (0, .ref (ad E 4)), (1, .int aq0), (2, .int aq1)]) 3 dX8_append_3 rfl (by decide) rfl ?_
  exact k_sub [1, 2, 0] rfl (t_X8_append_L4 B aq0   FU vq1  σ)
set_option maxHeartbeats 4000000 in
set_option maxRecDepth 100000 in
theorem ct_X8_append (E : En) (aq0 : Int32) (aq1 : Int32)  (σ : Mm) : CtV E yX8_append cX8_append 4 none H_X8_append [.ref (ad E 4), .int aq0, .int aq1] σ (f_X8_append aq0 aq1 σ) := ct_V (by decide) (Nat.le_of_ble_eq_true rfl) rfl (fun G B => t_X8_append B aq0 aq1  σ)
abbrev H_X9_moveOnPath : Nat := 0
set_option maxHeartbeats 4000000 in
set_option maxRecDepth 100000 in
theorem t_X9_moveOnPath {E : En} {G : Cx} (B : Bx E G cX9_moveOnPath 2 RX9 H_X9_moveOnPath (some .int)) (aq0 : Int32)  (σ : Mm) : KR E G 2 (ZI E G) (f_X9_moveOnPath aq0 σ) 0 [(0, .ref (ad E 18)), (1, .int aq0)] [] σ := by
  have F := B.1
  unfold f_X9_moveOnPath
  refine k_aload_n (pc := 0) F 0 0 dX9_moveOnPath_0 rfl rfl ?_
  refine gf_18_6 (pc := 1) F w_1_185 dX9_moveOnPath_1 ?_
  refine k_iload_n (pc := 4) F 1 1 dX9_moveOnPath_4 rfl rfl ?_
  refine k_iald (pc := 5) F rfl dX9_moveOnPath_5 ?_
  refine k_iconst (pc := 6) F (v := (3 : Int32)) dX9_moveOnPath_6 ci_3 ?_
  refine k_icmp_ge (pc := 7) F 19 dX9_moveOnPath_7 (by decide) (fun _ => ?_) (fun _ => ?_)
  · refine k_aload_n (pc := 19) F 0 0 dX9_moveOnPath_19 rfl rfl ?_
    refine gf_18_6 (pc := 20) F w_1_185 dX9_moveOnPath_20 ?_
    refine k_iload_n (pc := 23) F 1 1 dX9_moveOnPath_23 rfl rfl ?_
    refine k_iald (pc := 24) F rfl dX9_moveOnPath_24 ?_
    refine k_iconst (pc := 25) F (v := (3 : Int32)) dX9_moveOnPath_25 ci_3 ?_
    refine k_isub (pc := 26) F dX9_moveOnPath_26 ?_
    refine k_bipush (pc := 27) F (v := (10 : Int32)) dX9_moveOnPath_27 cb_10 ?_
    refine k_iadd (pc := 29) F dX9_moveOnPath_29 ?_
    exact k_iret (pc := 30) B dX9_moveOnPath_30
  · refine k_aload_n (pc := 10) F 0 0 dX9_moveOnPath_10 rfl rfl ?_
    refine gf_18_6 (pc := 11) F w_1_185 dX9_moveOnPath_11 ?_
    refine k_iload_n (pc := 14) F 1 1 dX9_moveOnPath_14 rfl rfl ?_
    refine k_iald (pc := 15) F rfl dX9_moveOnPath_15 ?_
    refine k_goto (pc := 16) F 30 dX9_moveOnPath_16 (by decide) ?_
    exact k_iret (pc := 30) B dX9_moveOnPath_30
set_option maxHeartbeats 4000000 in
set_option maxRecDepth 100000 in
theorem ct_X9_moveOnPath (E : En) (aq0 : Int32)  (σ : Mm) : CtI E yX9_moveOnPath cX9_moveOnPath 2 (some .int) H_X9_moveOnPath [.ref (ad E 18), .int aq0] σ (f_X9_moveOnPath aq0 σ) := ct_I (by decide) (Nat.le_of_ble_eq_true rfl) rfl (fun G B => t_X9_moveOnPath B aq0  σ)
abbrev H_J7_rangeCheck_23922 : Nat := 0
set_option maxHeartbeats 4000000 in
set_option maxRecDepth 100000 in
theorem t_J7_rangeCheck_23922 {E : En} {G : Cx} (B : Bx E G cJ7_rangeCheck_23922 3 RJ7 H_J7_rangeCheck_23922 none) (aq0 : Int32) (aq1 : Int32) (aq2 : Int32)  (σ : Mm) : KR E G 3 (ZV E G) (f_J7_rangeCheck_23922 aq0 aq1 aq2 σ) 0 [(0, .int aq0), (1, .int aq1), (2, .int aq2)] [] σ := by
  have F := B.1
  unfold f_J7_rangeCheck_23922
  refine k_iload_n (pc := 0) F 1 1 dJ7_rangeCheck_23922_0 rfl rfl ?_
  refine k_iload_n (pc := 1) F 2 2 dJ7_rangeCheck_23922_1 rfl rfl ?_
  refine k_icmp_le (pc := 2) F 46 dJ7_rangeCheck_23922_2 (by decide) (fun _ => ?_) (fun _ => ?_)
  · refine k_iload_n (pc := 46) F 1 1 dJ7_rangeCheck_23922_46 rfl rfl ?_
    refine k_if_ge (pc := 47) F 59 dJ7_rangeCheck_23922_47 (by decide) (fun _ => ?_) (fun _ => ?_)
    · refine k_iload_n (pc := 59) F 2 2 dJ7_rangeCheck_23922_59 rfl rfl ?_
      refine k_iload_n (pc := 60) F 0 0 dJ7_rangeCheck_23922_60 rfl rfl ?_
      refine k_icmp_le (pc := 61) F 73 dJ7_rangeCheck_23922_61 (by decide) (fun _ => ?_) (fun _ => ?_)
      · exact k_vret (pc := 73) B dJ7_rangeCheck_23922_73
      · exact k_none
    · exact k_none
  · exact k_none
set_option maxHeartbeats 4000000 in
set_option maxRecDepth 100000 in
theorem ct_J7_rangeCheck_23922 (E : En) (aq0 : Int32) (aq1 : Int32) (aq2 : Int32)  (σ : Mm) : CtV E yJ7_rangeCheck_23922 cJ7_rangeCheck_23922 3 none H_J7_rangeCheck_23922 [.int aq0, .int aq1, .int aq2] σ (f_J7_rangeCheck_23922 aq0 aq1 aq2 σ) := ct_V (by decide +kernel) (Nat.le_of_ble_eq_true rfl) rfl (fun G B => t_J7_rangeCheck_23922 B aq0 aq1 aq2  σ)
abbrev H_J7_fill_fda19 : Nat := 1
theorem hR_J7_fill_fda19_J7_rangeCheck_23922 : H_J7_rangeCheck_23922 + 1 ≤ H_J7_fill_fda19 ∧ 8 + (3 + 11) + 40 * H_J7_rangeCheck_23922 ≤ 40 * H_J7_fill_fda19 := by decide
set_option maxHeartbeats 4000000 in
set_option maxRecDepth 100000 in
theorem t_J7_fill_fda19_L10b {E : En} {G : Cx} (B : Bx E G cJ7_fill_fda19 5 RJ7 H_J7_fill_fda19 none) (xq2 : Int32) (xq3 : Int32)   (L10 : Int32 → Mm → Option (Unit × Mm)) (hL10 : ∀ (xq4 : Int32)  (σ : Mm), KR E G 5 (ZV E G) (L10 xq4 σ) 10 [(0, .ref (ad E 24)), (2, .int xq2), (3, .int xq3), (4, .int xq4)] [] σ) (xq4 : Int32)  (σ : Mm) : KR E G 5 (ZV E G) (f_J7_fill_fda19_L10 xq2 xq3 L10 xq4 σ) 10 [(0, .ref (ad E 24)), (2, .int xq2), (3, .int xq3), (4, .int xq4)] [] σ := by
  have F := B.1
  unfold f_J7_fill_fda19_L10
  refine k_iload (pc := 10) F 4 3 dJ7_fill_fda19_10 rfl ?_
  refine k_iload_n (pc := 12) F 2 1 dJ7_fill_fda19_12 rfl rfl ?_
  refine k_icmp_ge (pc := 13) F 27 dJ7_fill_fda19_13 (by decide) (fun _ => ?_) (fun _ => ?_)
  · exact k_vret (pc := 27) B dJ7_fill_fda19_27
  · refine k_aload_n (pc := 16) F 0 0 dJ7_fill_fda19_16 rfl rfl ?_
    refine k_iload (pc := 17) F 4 3 dJ7_fill_fda19_17 rfl ?_
    refine k_iload_n (pc := 19) F 3 2 dJ7_fill_fda19_19 rfl rfl ?_
    refine k_iast (pc := 20) F rfl dJ7_fill_fda19_20 (fun σ3 => ?_)
    refine k_iinc (pc := 21) F (c := (1 : Int32)) (lw := fun wq => [(4, .int wq), (0, .ref (ad E 24)), (2, .int xq2), (3, .int xq3)]) 4 3 dJ7_fill_fda19_21 rfl ci_1 (by decide) (fun _ => rfl) (fun vq4 => ?_)
    refine k_goto (pc := 24) F 10 dJ7_fill_fda19_24 (by decide) ?_
    exact k_sub [1, 2, 3, 0] rfl (hL10 vq4 σ3)
set_option maxHeartbeats 4000000 in
set_option maxRecDepth 100000 in
theorem t_J7_fill_fda19_L10 {E : En} {G : Cx} (B : Bx E G cJ7_fill_fda19 5 RJ7 H_J7_fill_fda19 none) (xq2 : Int32) (xq3 : Int32)   : ∀ (n : Nat) (xq4 : Int32)  (σ : Mm), KR E G 5 (ZV E G) (fx (fun _ _ => none) n (f_J7_fill_fda19_L10 xq2 xq3) xq4 σ) 10 [(0, .ref (ad E 24)), (2, .int xq2), (3, .int xq3), (4, .int xq4)] [] σ :=
  fun n => fx_ind (P := fun f => ∀ (xq4 : Int32)  (σ : Mm), KR E G 5 (ZV E G) (f xq4 σ) 10 [(0, .ref (ad E 24)), (2, .int xq2), (3, .int xq3), (4, .int xq4)] [] σ) (fun _ _ => k_none) (fun L10 hL10 xq4 σ => t_J7_fill_fda19_L10b B xq2 xq3   L10 hL10 xq4 σ) n
set_option maxHeartbeats 4000000 in
set_option maxRecDepth 100000 in
theorem t_J7_fill_fda19 {E : En} {G : Cx} (B : Bx E G cJ7_fill_fda19 5 RJ7 H_J7_fill_fda19 none) (aq1 : Int32) (aq2 : Int32) (aq3 : Int32)  (σ : Mm) : KR E G 5 (ZV E G) (f_J7_fill_fda19 aq1 aq2 aq3 σ) 0 [(0, .ref (ad E 24)), (1, .int aq1), (2, .int aq2), (3, .int aq3)] [] σ := by
  have F := B.1
  unfold f_J7_fill_fda19
  refine k_aload_n (pc := 0) F 0 0 dJ7_fill_fda19_0 rfl rfl ?_
  refine k_alen0 (pc := 1) F (v := (6000 : Int32)) rfl cn_6000 dJ7_fill_fda19_1 ?_
  refine k_iload_n (pc := 2) F 1 1 dJ7_fill_fda19_2 rfl rfl ?_
  refine k_iload_n (pc := 3) F 2 2 dJ7_fill_fda19_3 rfl rfl ?_
  refine k_callSV (pc := 4) B (As := [.int (6000 : Int32), .int aq1, .int aq2]) (rest := []) (ct_J7_rangeCheck_23922 E (6000 : Int32) aq1 aq2  σ) ms_J7_rangeCheck_23922 w_3_222 rfl hR_J7_fill_fda19_J7_rangeCheck_23922 rfl (Nat.le_of_ble_eq_true rfl) dJ7_fill_fda19_4 (fun rq2 σ1 hoq => ?_)
  refine k_iload_n (pc := 7) F 1 1 dJ7_fill_fda19_7 rfl rfl ?_
  refine k_istore F (lv' := [(4, .int aq1), (0, .ref (ad E 24)), (1, .int aq1), (2, .int aq2), (3, .int aq3)]) 4 dJ7_fill_fda19_8 (by decide) rfl ?_
  exact k_sub [1, 3, 4, 0] rfl (t_J7_fill_fda19_L10 B aq2 aq3   FU aq1  σ1)
set_option maxHeartbeats 4000000 in
set_option maxRecDepth 100000 in
theorem ct_J7_fill_fda19 (E : En) (aq1 : Int32) (aq2 : Int32) (aq3 : Int32)  (σ : Mm) : CtV E yJ7_fill_fda19 cJ7_fill_fda19 5 none H_J7_fill_fda19 [.ref (ad E 24), .int aq1, .int aq2, .int aq3] σ (f_J7_fill_fda19 aq1 aq2 aq3 σ) := ct_V (by decide +kernel) (Nat.le_of_ble_eq_true rfl) rfl (fun G B => t_J7_fill_fda19 B aq1 aq2 aq3  σ)
abbrev H_X9_leadsOut : Nat := 0
set_option maxHeartbeats 4000000 in
set_option maxRecDepth 100000 in
theorem t_X9_leadsOut_45 {E : En} {G : Cx} (B : Bx E G cX9_leadsOut 4 RX9 H_X9_leadsOut (some .boolean)) (xq1 : Int32) (xq2 : Int32) (xq3 : Int32)  (L7 : Int32 → Int32 → Mm → Option (Int32 × Mm)) (hL7 : ∀ (xq2 : Int32) (xq3 : Int32)  (σ : Mm), KR E G 4 (ZI E G) (L7 xq2 xq3 σ) 7 [(0, .ref (ad E 18)), (1, .int xq1), (2, .int xq2), (3, .int xq3)] [] σ)  (σ : Mm) : KR E G 4 (ZI E G) (f_X9_leadsOut_45 L7 xq1 xq2 xq3 σ) 45 [(0, .ref (ad E 18)), (1, .int xq1), (2, .int xq2), (3, .int xq3)] [] σ := by
  have F := B.1
  unfold f_X9_leadsOut_45
  refine k_iinc (pc := 45) F (c := (1 : Int32)) (lw := fun wq => [(3, .int wq), (0, .ref (ad E 18)), (1, .int xq1), (2, .int xq2)]) 3 3 dX9_leadsOut_45 rfl ci_1 (by decide) (fun _ => rfl) (fun vq2 => ?_)
  refine k_goto (pc := 48) F 7 dX9_leadsOut_48 (by decide) ?_
  exact k_sub [1, 2, 3, 0] rfl (hL7 xq2 vq2 σ)
set_option maxHeartbeats 4000000 in
set_option maxRecDepth 100000 in
theorem t_X9_leadsOut_L7b {E : En} {G : Cx} (B : Bx E G cX9_leadsOut 4 RX9 H_X9_leadsOut (some .boolean)) (xq1 : Int32)   (L7 : Int32 → Int32 → Mm → Option (Int32 × Mm)) (hL7 : ∀ (xq2 : Int32) (xq3 : Int32)  (σ : Mm), KR E G 4 (ZI E G) (L7 xq2 xq3 σ) 7 [(0, .ref (ad E 18)), (1, .int xq1), (2, .int xq2), (3, .int xq3)] [] σ) (xq2 : Int32) (xq3 : Int32)  (σ : Mm) : KR E G 4 (ZI E G) (f_X9_leadsOut_L7 xq1 L7 xq2 xq3 σ) 7 [(0, .ref (ad E 18)), (1, .int xq1), (2, .int xq2), (3, .int xq3)] [] σ := by
  have F := B.1
  unfold f_X9_leadsOut_L7
  refine k_iload_n (pc := 7) F 3 3 dX9_leadsOut_7 rfl rfl ?_
  refine k_iload_n (pc := 8) F 1 1 dX9_leadsOut_8 rfl rfl ?_
  refine k_iconst (pc := 9) F (v := (1 : Int32)) dX9_leadsOut_9 ci_1 ?_
  refine k_iadd (pc := 10) F dX9_leadsOut_10 ?_
  refine k_bipush (pc := 11) F (v := (6 : Int32)) dX9_leadsOut_11 cb_6 ?_
  refine k_imul (pc := 13) F dX9_leadsOut_13 ?_
  refine k_icmp_ge (pc := 14) F 51 dX9_leadsOut_14 (by decide) (fun _ => ?_) (fun _ => ?_)
  · refine k_iload_n (pc := 51) F 2 2 dX9_leadsOut_51 rfl rfl ?_
    exact k_zret (pc := 52) B dX9_leadsOut_52
  · refine k_aload_n (pc := 17) F 0 0 dX9_leadsOut_17 rfl rfl ?_
    refine gf_18_4 (pc := 18) F w_1_183 dX9_leadsOut_18 ?_
    refine k_iload_n (pc := 21) F 3 3 dX9_leadsOut_21 rfl rfl ?_
    refine k_iald (pc := 22) F rfl dX9_leadsOut_22 ?_
    refine k_if_lt (pc := 23) F 45 dX9_leadsOut_23 (by decide) (fun _ => ?_) (fun _ => ?_)
    · exact k_sub [0, 1, 2, 3] rfl (t_X9_leadsOut_45 B xq1 xq2 xq3  L7 hL7  σ)
    · refine k_iconst (pc := 26) F (v := (0 : Int32)) dX9_leadsOut_26 ci_0 ?_
      refine k_istore_n F (lv' := [(2, .int (0 : Int32)), (0, .ref (ad E 18)), (1, .int xq1), (3, .int xq3)]) 2 dX9_leadsOut_27 rfl (by decide) rfl ?_
      refine k_aload_n (pc := 28) F 0 1 dX9_leadsOut_28 rfl rfl ?_
      refine gf_18_5 (pc := 29) F w_1_184 dX9_leadsOut_29 ?_
      refine k_aload_n (pc := 32) F 0 1 dX9_leadsOut_32 rfl rfl ?_
      refine gf_18_4 (pc := 33) F w_1_183 dX9_leadsOut_33 ?_
      refine k_iload_n (pc := 36) F 3 3 dX9_leadsOut_36 rfl rfl ?_
      refine k_iald (pc := 37) F rfl dX9_leadsOut_37 ?_
      refine k_iald (pc := 38) F rfl dX9_leadsOut_38 ?_
      refine k_iconst (pc := 39) F (v := (1 : Int32)) dX9_leadsOut_39 ci_1 ?_
      refine k_icmp_ne (pc := 40) F 45 dX9_leadsOut_40 (by decide) (fun _ => ?_) (fun _ => ?_)
      · refine k_iconst (pc := 43) F (v := (1 : Int32)) dX9_leadsOut_43 ci_1 ?_
        exact k_zret (pc := 44) B dX9_leadsOut_44
      · exact k_sub [1, 2, 0, 3] rfl (t_X9_leadsOut_45 B xq1 (0 : Int32) xq3  L7 hL7  σ)
set_option maxHeartbeats 4000000 in
set_option maxRecDepth 100000 in
theorem t_X9_leadsOut_L7 {E : En} {G : Cx} (B : Bx E G cX9_leadsOut 4 RX9 H_X9_leadsOut (some .boolean)) (xq1 : Int32)   : ∀ (n : Nat) (xq2 : Int32) (xq3 : Int32)  (σ : Mm), KR E G 4 (ZI E G) (fx (fun _ _ _ => none) n (f_X9_leadsOut_L7 xq1) xq2 xq3 σ) 7 [(0, .ref (ad E 18)), (1, .int xq1), (2, .int xq2), (3, .int xq3)] [] σ :=
  fun n => fx_ind (P := fun f => ∀ (xq2 : Int32) (xq3 : Int32)  (σ : Mm), KR E G 4 (ZI E G) (f xq2 xq3 σ) 7 [(0, .ref (ad E 18)), (1, .int xq1), (2, .int xq2), (3, .int xq3)] [] σ) (fun _ _ _ => k_none) (fun L7 hL7 xq2 xq3 σ => t_X9_leadsOut_L7b B xq1   L7 hL7 xq2 xq3 σ) n
set_option maxHeartbeats 4000000 in
set_option maxRecDepth 100000 in
theorem t_X9_leadsOut {E : En} {G : Cx} (B : Bx E G cX9_leadsOut 4 RX9 H_X9_leadsOut (some .boolean)) (aq0 : Int32)  (σ : Mm) : KR E G 4 (ZI E G) (f_X9_leadsOut aq0 σ) 0 [(0, .ref (ad E 18)), (1, .int aq0)] [] σ := by
  have F := B.1
  unfold f_X9_leadsOut
  refine k_iconst (pc := 0) F (v := (1 : Int32)) dX9_leadsOut_0 ci_1 ?_
  refine k_istore_n F (lv' := [(2, .int (1 : Int32)), (0, .ref (ad E 18)), (1, .int aq0)]) 2 dX9_leadsOut_1 rfl (by decide) rfl ?_
  refine k_iload_n (pc := 2) F 1 2 dX9_leadsOut_2 rfl rfl ?_
  refine k_bipush (pc := 3) F (v := (6 : Int32)) dX9_leadsOut_3 cb_6 ?_
  refine k_imul (pc := 5) F dX9_leadsOut_5 ?_
  refine k_nmI (fun vq1 => ?_)
  refine k_istore_n F (lv' := [(3, .int vq1), (2, .int (1 : Int32)), (0, .ref (ad E 18)), (1, .int aq0)]) 3 dX9_leadsOut_6 rfl (by decide) rfl ?_
  exact k_sub [2, 3, 1, 0] rfl (t_X9_leadsOut_L7 B aq0   FU (1 : Int32) vq1  σ)
set_option maxHeartbeats 4000000 in
set_option maxRecDepth 100000 in
theorem ct_X9_leadsOut (E : En) (aq0 : Int32)  (σ : Mm) : CtI E yX9_leadsOut cX9_leadsOut 4 (some .boolean) H_X9_leadsOut [.ref (ad E 18), .int aq0] σ (f_X9_leadsOut aq0 σ) := ct_I (by decide) (Nat.le_of_ble_eq_true rfl) rfl (fun G B => t_X9_leadsOut B aq0  σ)
abbrev H_X9_countStuck : Nat := 2
theorem hR_X9_countStuck_X9_leadsOut : H_X9_leadsOut + 1 ≤ H_X9_countStuck ∧ 8 + (4 + 11) + 40 * H_X9_leadsOut ≤ 40 * H_X9_countStuck := by decide
theorem hR_X9_countStuck_J7_fill_fda19 : H_J7_fill_fda19 + 1 ≤ H_X9_countStuck ∧ 8 + (5 + 11) + 40 * H_J7_fill_fda19 ≤ 40 * H_X9_countStuck := by decide
set_option maxHeartbeats 4000000 in
set_option maxRecDepth 100000 in
theorem t_X9_countStuck_78 {E : En} {G : Cx} (B : Bx E G cX9_countStuck 5 RX9 H_X9_countStuck (some .int)) (xq1 : Int32) (xq2 : Int32) (xq3 : Int32) (xq4 : Int32)  (L41 : Int32 → Int32 → Int32 → Mm → Option (Int32 × Mm)) (hL41 : ∀ (xq1 : Int32) (xq2 : Int32) (xq4 : Int32)  (σ : Mm), KR E G 5 (ZI E G) (L41 xq1 xq2 xq4 σ) 41 [(0, .ref (ad E 18)), (1, .int xq1), (2, .int xq2), (3, .int xq3), (4, .int xq4)] [] σ)  (σ : Mm) : KR E G 5 (ZI E G) (f_X9_countStuck_78 L41 xq1 xq2 xq3 xq4 σ) 78 [(0, .ref (ad E 18)), (1, .int xq1), (2, .int xq2), (3, .int xq3), (4, .int xq4)] [] σ := by
  have F := B.1
  unfold f_X9_countStuck_78
  refine k_iinc (pc := 78) F (c := (-1 : Int32)) (lw := fun wq => [(4, .int wq), (0, .ref (ad E 18)), (1, .int xq1), (2, .int xq2), (3, .int xq3)]) 4 4 dX9_countStuck_78 rfl ci_m1 (by decide) (fun _ => rfl) (fun vq4 => ?_)
  refine k_goto (pc := 81) F 41 dX9_countStuck_81 (by decide) ?_
  exact k_sub [1, 2, 3, 4, 0] rfl (hL41 xq1 xq2 vq4 σ)
set_option maxHeartbeats 4000000 in
set_option maxRecDepth 100000 in
theorem t_X9_countStuck_L41b {E : En} {G : Cx} (B : Bx E G cX9_countStuck 5 RX9 H_X9_countStuck (some .int)) (xq3 : Int32)  (K84 : Int32 → Int32 → Mm → Option (Int32 × Mm)) (hK84 : ∀ (xq1 : Int32) (xq2 : Int32)  (σ : Mm), KR E G 5 (ZI E G) (K84 xq1 xq2 σ) 84 [(0, .ref (ad E 18)), (1, .int xq1), (2, .int xq2), (3, .int xq3)] [] σ)  (L41 : Int32 → Int32 → Int32 → Mm → Option (Int32 × Mm)) (hL41 : ∀ (xq1 : Int32) (xq2 : Int32) (xq4 : Int32)  (σ : Mm), KR E G 5 (ZI E G) (L41 xq1 xq2 xq4 σ) 41 [(0, .ref (ad E 18)), (1, .int xq1), (2, .int xq2), (3, .int xq3), (4, .int xq4)] [] σ) (xq1 : Int32) (xq2 : Int32) (xq4 : Int32)  (σ : Mm) : KR E G 5 (ZI E G) (f_X9_countStuck_L41 K84 xq3 L41 xq1 xq2 xq4 σ) 41 [(0, .ref (ad E 18)), (1, .int xq1), (2, .int xq2), (3, .int xq3), (4, .int xq4)] [] σ := by
  have F := B.1
  unfold f_X9_countStuck_L41
  refine k_iload (pc := 41) F 4 4 dX9_countStuck_41 rfl ?_
  refine k_if_lt (pc := 43) F 84 dX9_countStuck_43 (by decide) (fun _ => ?_) (fun _ => ?_)
  · exact k_sub [0, 1, 2, 3] rfl (hK84 xq1 xq2 σ)
  · refine k_aload_n (pc := 46) F 0 0 dX9_countStuck_46 rfl rfl ?_
    refine gf_18_5 (pc := 47) F w_1_184 dX9_countStuck_47 ?_
    refine k_iload (pc := 50) F 4 4 dX9_countStuck_50 rfl ?_
    refine k_iald (pc := 52) F rfl dX9_countStuck_52 ?_
    refine k_if_ne (pc := 53) F 78 dX9_countStuck_53 (by decide) (fun _ => ?_) (fun _ => ?_)
    · refine k_aload_n (pc := 56) F 0 0 dX9_countStuck_56 rfl rfl ?_
      refine k_iload (pc := 57) F 4 4 dX9_countStuck_57 rfl ?_
      refine k_callVI (pc := 59) B (k := 18) (As := [.int xq4]) (rest := []) (ct_X9_leadsOut E xq4  σ) rfl rfl mv_X9_leadsOut w_3_225 rfl hR_X9_countStuck_X9_leadsOut rfl (Nat.le_of_ble_eq_true rfl) dX9_countStuck_59 (fun rq6 σ5 hoq => ?_)
      refine k_if_eq (pc := 62) F 78 dX9_countStuck_62 (by decide) (fun _ => ?_) (fun _ => ?_)
      · exact k_sub [0, 1, 2, 3, 4] rfl (t_X9_countStuck_78 B xq1 xq2 xq3 xq4  L41 hL41  σ5)
      · refine k_aload_n (pc := 65) F 0 0 dX9_countStuck_65 rfl rfl ?_
        refine gf_18_5 (pc := 66) F w_1_184 dX9_countStuck_66 ?_
        refine k_iload (pc := 69) F 4 4 dX9_countStuck_69 rfl ?_
        refine k_iconst (pc := 71) F (v := (1 : Int32)) dX9_countStuck_71 ci_1 ?_
        refine k_iast (pc := 72) F rfl dX9_countStuck_72 (fun σ7 => ?_)
        refine k_iinc (pc := 73) F (c := (1 : Int32)) (lw := fun wq => [(1, .int wq), (0, .ref (ad E 18)), (2, .int xq2), (3, .int xq3), (4, .int xq4)]) 1 1 dX9_countStuck_73 rfl ci_1 (by decide) (fun _ => rfl) (fun vq8 => ?_)
        refine k_iconst (pc := 76) F (v := (1 : Int32)) dX9_countStuck_76 ci_1 ?_
        refine k_istore_n F (lv' := [(2, .int (1 : Int32)), (1, .int vq8), (0, .ref (ad E 18)), (3, .int xq3), (4, .int xq4)]) 2 dX9_countStuck_77 rfl (by decide) rfl ?_
        exact k_sub [2, 1, 0, 3, 4] rfl (t_X9_countStuck_78 B vq8 (1 : Int32) xq3 xq4  L41 hL41  σ7)
    · exact k_sub [0, 1, 2, 3, 4] rfl (t_X9_countStuck_78 B xq1 xq2 xq3 xq4  L41 hL41  σ)
set_option maxHeartbeats 4000000 in
set_option maxRecDepth 100000 in
theorem t_X9_countStuck_L41 {E : En} {G : Cx} (B : Bx E G cX9_countStuck 5 RX9 H_X9_countStuck (some .int)) (xq3 : Int32)  (K84 : Int32 → Int32 → Mm → Option (Int32 × Mm)) (hK84 : ∀ (xq1 : Int32) (xq2 : Int32)  (σ : Mm), KR E G 5 (ZI E G) (K84 xq1 xq2 σ) 84 [(0, .ref (ad E 18)), (1, .int xq1), (2, .int xq2), (3, .int xq3)] [] σ)  : ∀ (n : Nat) (xq1 : Int32) (xq2 : Int32) (xq4 : Int32)  (σ : Mm), KR E G 5 (ZI E G) (fx (fun _ _ _ _ => none) n (f_X9_countStuck_L41 K84 xq3) xq1 xq2 xq4 σ) 41 [(0, .ref (ad E 18)), (1, .int xq1), (2, .int xq2), (3, .int xq3), (4, .int xq4)] [] σ :=
  fun n => fx_ind (P := fun f => ∀ (xq1 : Int32) (xq2 : Int32) (xq4 : Int32)  (σ : Mm), KR E G 5 (ZI E G) (f xq1 xq2 xq4 σ) 41 [(0, .ref (ad E 18)), (1, .int xq1), (2, .int xq2), (3, .int xq3), (4, .int xq4)] [] σ) (fun _ _ _ _ => k_none) (fun L41 hL41 xq1 xq2 xq4 σ => t_X9_countStuck_L41b B xq3  K84 hK84  L41 hL41 xq1 xq2 xq4 σ) n
set_option maxHeartbeats 4000000 in
set_option maxRecDepth 100000 in
theorem t_X9_countStuck_84 {E : En} {G : Cx} (B : Bx E G cX9_countStuck 5 RX9 H_X9_countStuck (some .int)) (xq1 : Int32) (xq2 : Int32) (xq3 : Int32)  (L19 : Int32 → Int32 → Int32 → Mm → Option (Int32 × Mm)) (hL19 : ∀ (xq1 : Int32) (xq2 : Int32) (xq3 : Int32)  (σ : Mm), KR E G 5 (ZI E G) (L19 xq1 xq2 xq3 σ) 19 [(0, .ref (ad E 18)), (1, .int xq1), (2, .int xq2), (3, .int xq3)] [] σ)  (σ : Mm) : KR E G 5 (ZI E G) (f_X9_countStuck_84 L19 xq1 xq2 xq3 σ) 84 [(0, .ref (ad E 18)), (1, .int xq1), (2, .int xq2), (3, .int xq3)] [] σ := by
  have F := B.1
  unfold f_X9_countStuck_84
  refine k_iinc (pc := 84) F (c := (1 : Int32)) (lw := fun wq => [(3, .int wq), (0, .ref (ad E 18)), (1, .int xq1), (2, .int xq2)]) 3 3 dX9_countStuck_84 rfl ci_1 (by decide) (fun _ => rfl) (fun vq9 => ?_)
  refine k_goto (pc := 87) F 19 dX9_countStuck_87 (by decide) ?_
  exact k_sub [1, 2, 3, 0] rfl (hL19 xq1 xq2 vq9 σ)
set_option maxHeartbeats 4000000 in
set_option maxRecDepth 100000 in
theorem t_X9_countStuck_L19b {E : En} {G : Cx} (B : Bx E G cX9_countStuck 5 RX9 H_X9_countStuck (some .int))    (L19 : Int32 → Int32 → Int32 → Mm → Option (Int32 × Mm)) (hL19 : ∀ (xq1 : Int32) (xq2 : Int32) (xq3 : Int32)  (σ : Mm), KR E G 5 (ZI E G) (L19 xq1 xq2 xq3 σ) 19 [(0, .ref (ad E 18)), (1, .int xq1), (2, .int xq2), (3, .int xq3)] [] σ) (xq1 : Int32) (xq2 : Int32) (xq3 : Int32)  (σ : Mm) : KR E G 5 (ZI E G) (f_X9_countStuck_L19  L19 xq1 xq2 xq3 σ) 19 [(0, .ref (ad E 18)), (1, .int xq1), (2, .int xq2), (3, .int xq3)] [] σ := by
  have F := B.1
  unfold f_X9_countStuck_L19
  refine k_iload_n (pc := 19) F 3 3 dX9_countStuck_19 rfl rfl ?_
  refine k_aload_n (pc := 20) F 0 0 dX9_countStuck_20 rfl rfl ?_
  refine gf_18_7 (pc := 21) F w_1_186 dX9_countStuck_21 ?_
  refine k_icmp_gt (pc := 24) F 90 dX9_countStuck_24 (by decide) (fun _ => ?_) (fun _ => ?_)
  · refine k_aload_n (pc := 90) F 0 0 dX9_countStuck_90 rfl rfl ?_
    refine gf_18_7 (pc := 91) F w_1_186 dX9_countStuck_91 ?_
    refine k_iload_n (pc := 94) F 1 1 dX9_countStuck_94 rfl rfl ?_
    refine k_isub (pc := 95) F dX9_countStuck_95 ?_
    exact k_iret (pc := 96) B dX9_countStuck_96
  · refine k_iload_n (pc := 27) F 2 2 dX9_countStuck_27 rfl rfl ?_
    refine k_if_eq (pc := 28) F 90 dX9_countStuck_28 (by decide) (fun _ => ?_) (fun _ => ?_)
    · refine k_aload_n (pc := 90) F 0 0 dX9_countStuck_90 rfl rfl ?_
      refine gf_18_7 (pc := 91) F w_1_186 dX9_countStuck_91 ?_
      refine k_iload_n (pc := 94) F 1 1 dX9_countStuck_94 rfl rfl ?_
      refine k_isub (pc := 95) F dX9_countStuck_95 ?_
      exact k_iret (pc := 96) B dX9_countStuck_96
    · refine k_iconst (pc := 31) F (v := (0 : Int32)) dX9_countStuck_31 ci_0 ?_
      refine k_istore_n F (lv' := [(2, .int (0 : Int32)), (0, .ref (ad E 18)), (1, .int xq1), (3, .int xq3)]) 2 dX9_countStuck_32 rfl (by decide) rfl ?_
      refine k_aload_n (pc := 33) F 0 1 dX9_countStuck_33 rfl rfl ?_
      refine gf_18_7 (pc := 34) F w_1_186 dX9_countStuck_34 ?_
      refine k_iconst (pc := 37) F (v := (1 : Int32)) dX9_countStuck_37 ci_1 ?_
      refine k_isub (pc := 38) F dX9_countStuck_38 ?_
      refine k_nmI (fun vq3 => ?_)
      refine k_istore F (lv' := [(4, .int vq3), (2, .int (0 : Int32)), (0, .ref (ad E 18)), (1, .int xq1), (3, .int xq3)]) 4 dX9_countStuck_39 (by decide) rfl ?_
      exact k_sub [2, 3, 1, 4, 0] rfl (t_X9_countStuck_L41 B xq3  _ (fun xq1 xq2  σ => by
            exact k_sub [0, 1, 2, 3] rfl (t_X9_countStuck_84 B xq1 xq2 xq3  L19 hL19  σ)) FU xq1 (0 : Int32) vq3  σ)
set_option maxHeartbeats 4000000 in
set_option maxRecDepth 100000 in
theorem t_X9_countStuck_L19 {E : En} {G : Cx} (B : Bx E G cX9_countStuck 5 RX9 H_X9_countStuck (some .int))    : ∀ (n : Nat) (xq1 : Int32) (xq2 : Int32) (xq3 : Int32)  (σ : Mm), KR E G 5 (ZI E G) (fx (fun _ _ _ _ => none) n (f_X9_countStuck_L19 ) xq1 xq2 xq3 σ) 19 [(0, .ref (ad E 18)), (1, .int xq1), (2, .int xq2), (3, .int xq3)] [] σ :=
  fun n => fx_ind (P := fun f => ∀ (xq1 : Int32) (xq2 : Int32) (xq3 : Int32)  (σ : Mm), KR E G 5 (ZI E G) (f xq1 xq2 xq3 σ) 19 [(0, .ref (ad E 18)), (1, .int xq1), (2, .int xq2), (3, .int xq3)] [] σ) (fun _ _ _ _ => k_none) (fun L19 hL19 xq1 xq2 xq3 σ => t_X9_countStuck_L19b B    L19 hL19 xq1 xq2 xq3 σ) n
set_option maxHeartbeats 4000000 in
set_option maxRecDepth 100000 in
theorem t_X9_countStuck {E : En} {G : Cx} (B : Bx E G cX9_countStuck 5 RX9 H_X9_countStuck (some .int))   (σ : Mm) : KR E G 5 (ZI E G) (f_X9_countStuck  σ) 0 [(0, .ref (ad E 18))] [] σ := by
  have F := B.1
  unfold f_X9_countStuck
  refine k_aload_n (pc := 0) F 0 0 dX9_countStuck_0 rfl rfl ?_
  refine gf_18_5 (pc := 1) F w_1_184 dX9_countStuck_1 ?_
  refine k_iconst (pc := 4) F (v := (0 : Int32)) dX9_countStuck_4 ci_0 ?_
  refine k_aload_n (pc := 5) F 0 0 dX9_countStuck_5 rfl rfl ?_
  refine gf_18_7 (pc := 6) F w_1_186 dX9_countStuck_6 ?_
  refine k_iconst (pc := 9) F (v := (0 : Int32)) dX9_countStuck_9 ci_0 ?_
  refine k_callSV (pc := 10) B (As := [.ref (ad E 24), .int (0 : Int32), .int (σ.1 18 7), .int (0 : Int32)]) (rest := []) (ct_J7_fill_fda19 E (0 : Int32) (σ.1 18 7) (0 : Int32)  σ) ms_J7_fill_fda19 w_3_219 rfl hR_X9_countStuck_J7_fill_fda19 rfl (Nat.le_of_ble_eq_true rfl) dX9_countStuck_10 (fun rq2 σ1 hoq => ?_)
  refine k_iconst (pc := 13) F (v := (0 : Int32)) dX9_countStuck_13 ci_0 ?_
  refine k_istore_n F (lv' := [(1, .int (0 : Int32)), (0, .ref (ad E 18))]) 1 dX9_countStuck_14 rfl (by decide) rfl ?_
  refine k_iconst (pc := 15) F (v := (1 : Int32)) dX9_countStuck_15 ci_1 ?_
  refine k_istore_n F (lv' := [(2, .int (1 : Int32)), (1, .int (0 : Int32)), (0, .ref (ad E 18))]) 2 dX9_countStuck_16 rfl (by decide) rfl ?_
  refine k_iconst (pc := 17) F (v := (0 : Int32)) dX9_countStuck_17 ci_0 ?_
  refine k_istore_n F (lv' := [(3, .int (0 : Int32)), (2, .int (1 : Int32)), (1, .int (0 : Int32)), (0, .ref (ad E 18))]) 3 dX9_countStuck_18 rfl (by decide) rfl ?_
  exact k_sub [3, 2, 1, 0] rfl (t_X9_countStuck_L19 B    FU (0 : Int32) (1 : Int32) (0 : Int32)  σ1)
set_option maxHeartbeats 4000000 in
set_option maxRecDepth 100000 in
theorem ct_X9_countStuck (E : En)   (σ : Mm) : CtI E yX9_countStuck cX9_countStuck 5 (some .int) H_X9_countStuck [.ref (ad E 18)] σ (f_X9_countStuck  σ) := ct_I (by decide) (Nat.le_of_ble_eq_true rfl) rfl (fun G B => t_X9_countStuck B   σ)
abbrev H_X9_takeAway : Nat := 0
set_option maxHeartbeats 4000000 in
set_option maxRecDepth 100000 in
theorem t_X9_takeAway_72 {E : En} {G : Cx} (B : Bx E G cX9_takeAway 6 RX9 H_X9_takeAway (some .int)) (xq1 : Int32) (xq3 : Int32) (xq4 : Int32)  (L8 : Int32 → Int32 → Mm → Option (Int32 × Mm)) (hL8 : ∀ (xq3 : Int32) (xq4 : Int32)  (σ : Mm), KR E G 6 (ZI E G) (L8 xq3 xq4 σ) 8 [(0, .ref (ad E 18)), (1, .int xq1), (3, .int xq3), (4, .int xq4)] [] σ)  (σ : Mm) : KR E G 6 (ZI E G) (f_X9_takeAway_72 L8 xq1 xq3 xq4 σ) 72 [(0, .ref (ad E 18)), (1, .int xq1), (3, .int xq3), (4, .int xq4)] [] σ := by
  have F := B.1
  unfold f_X9_takeAway_72
  refine k_iinc (pc := 72) F (c := (1 : Int32)) (lw := fun wq => [(4, .int wq), (0, .ref (ad E 18)), (1, .int xq1), (3, .int xq3)]) 4 3 dX9_takeAway_72 rfl ci_1 (by decide) (fun _ => rfl) (fun vq3 => ?_)
  refine k_goto (pc := 75) F 8 dX9_takeAway_75 (by decide) ?_
  exact k_sub [1, 2, 3, 0] rfl (hL8 xq3 vq3 σ)
set_option maxHeartbeats 4000000 in
set_option maxRecDepth 100000 in
theorem t_X9_takeAway_L8b {E : En} {G : Cx} (B : Bx E G cX9_takeAway 6 RX9 H_X9_takeAway (some .int)) (xq1 : Int32)   (L8 : Int32 → Int32 → Mm → Option (Int32 × Mm)) (hL8 : ∀ (xq3 : Int32) (xq4 : Int32)  (σ : Mm), KR E G 6 (ZI E G) (L8 xq3 xq4 σ) 8 [(0, .ref (ad E 18)), (1, .int xq1), (3, .int xq3), (4, .int xq4)] [] σ) (xq3 : Int32) (xq4 : Int32)  (σ : Mm) : KR E G 6 (ZI E G) (f_X9_takeAway_L8 xq1 L8 xq3 xq4 σ) 8 [(0, .ref (ad E 18)), (1, .int xq1), (3, .int xq3), (4, .int xq4)] [] σ := by
  have F := B.1
  unfold f_X9_takeAway_L8
  refine k_iload (pc := 8) F 4 3 dX9_takeAway_8 rfl ?_
  refine k_iload_n (pc := 10) F 1 1 dX9_takeAway_10 rfl rfl ?_
  refine k_iconst (pc := 11) F (v := (1 : Int32)) dX9_takeAway_11 ci_1 ?_
  refine k_iadd (pc := 12) F dX9_takeAway_12 ?_
  refine k_bipush (pc := 13) F (v := (6 : Int32)) dX9_takeAway_13 cb_6 ?_
  refine k_imul (pc := 15) F dX9_takeAway_15 ?_
  refine k_icmp_ge (pc := 16) F 78 dX9_takeAway_16 (by decide) (fun _ => ?_) (fun _ => ?_)
  · refine k_iload_n (pc := 78) F 3 2 dX9_takeAway_78 rfl rfl ?_
    exact k_iret (pc := 79) B dX9_takeAway_79
  · refine k_aload_n (pc := 19) F 0 0 dX9_takeAway_19 rfl rfl ?_
    refine gf_18_4 (pc := 20) F w_1_183 dX9_takeAway_20 ?_
    refine k_iload (pc := 23) F 4 3 dX9_takeAway_23 rfl ?_
    refine k_iald (pc := 25) F rfl dX9_takeAway_25 ?_
    refine k_nmI (fun vq2 => ?_)
    refine k_istore F (lv' := [(5, .int vq2), (0, .ref (ad E 18)), (1, .int xq1), (3, .int xq3), (4, .int xq4)]) 5 dX9_takeAway_26 (by decide) rfl ?_
    refine k_iload (pc := 28) F 5 0 dX9_takeAway_28 rfl ?_
    refine k_if_lt (pc := 30) F 72 dX9_takeAway_30 (by decide) (fun _ => ?_) (fun _ => ?_)
    · exact k_sub [1, 2, 3, 4] rfl (t_X9_takeAway_72 B xq1 xq3 xq4  L8 hL8  σ)
    · refine k_aload_n (pc := 33) F 0 1 dX9_takeAway_33 rfl rfl ?_
      refine gf_18_5 (pc := 34) F w_1_184 dX9_takeAway_34 ?_
      refine k_iload (pc := 37) F 5 0 dX9_takeAway_37 rfl ?_
      refine k_dup2 (pc := 39) F dX9_takeAway_39 rfl rfl ?_
      refine k_iald (pc := 40) F rfl dX9_takeAway_40 ?_
      refine k_iconst (pc := 41) F (v := (1 : Int32)) dX9_takeAway_41 ci_1 ?_
      refine k_isub (pc := 42) F dX9_takeAway_42 ?_
      refine k_iast (pc := 43) F rfl dX9_takeAway_43 (fun σ4 => ?_)
      refine k_aload_n (pc := 44) F 0 1 dX9_takeAway_44 rfl rfl ?_
      refine gf_18_5 (pc := 45) F w_1_184 dX9_takeAway_45 ?_
      refine k_iload (pc := 48) F 5 0 dX9_takeAway_48 rfl ?_
      refine k_iald (pc := 50) F rfl dX9_takeAway_50 ?_
      refine k_if_ne (pc := 51) F 72 dX9_takeAway_51 (by decide) (fun _ => ?_) (fun _ => ?_)
      · refine k_iload_n (pc := 54) F 3 3 dX9_takeAway_54 rfl rfl ?_
        refine k_sipush (pc := 55) F (v := (6000 : Int32)) dX9_takeAway_55 cs_6000 ?_
        refine k_icmp_ge (pc := 58) F 72 dX9_takeAway_58 (by decide) (fun _ => ?_) (fun _ => ?_)
        · exact k_sub [1, 2, 3, 4] rfl (t_X9_takeAway_72 B xq1 xq3 xq4  L8 hL8  σ4)
        · refine k_aload_n (pc := 61) F 0 1 dX9_takeAway_61 rfl rfl ?_
          refine gf_18_6 (pc := 62) F w_1_185 dX9_takeAway_62 ?_
          refine k_iload_n (pc := 65) F 3 3 dX9_takeAway_65 rfl rfl ?_
          refine k_iload (pc := 66) F 5 0 dX9_takeAway_66 rfl ?_
          refine k_iast (pc := 68) F rfl dX9_takeAway_68 (fun σ5 => ?_)
          refine k_iinc (pc := 69) F (c := (1 : Int32)) (lw := fun wq => [(3, .int wq), (5, .int vq2), (0, .ref (ad E 18)), (1, .int xq1), (4, .int xq4)]) 3 3 dX9_takeAway_69 rfl ci_1 (by decide) (fun _ => rfl) (fun vq6 => ?_)
          exact k_sub [2, 3, 0, 4] rfl (t_X9_takeAway_72 B xq1 vq6 xq4  L8 hL8  σ5)
      · exact k_sub [1, 2, 3, 4] rfl (t_X9_takeAway_72 B xq1 xq3 xq4  L8 hL8  σ4)
set_option maxHeartbeats 4000000 in
set_option maxRecDepth 100000 in
theorem t_X9_takeAway_L8 {E : En} {G : Cx} (B : Bx E G cX9_takeAway 6 RX9 H_X9_takeAway (some .int)) (xq1 : Int32)   : ∀ (n : Nat) (xq3 : Int32) (xq4 : Int32)  (σ : Mm), KR E G 6 (ZI E G) (fx (fun _ _ _ => none) n (f_X9_takeAway_L8 xq1) xq3 xq4 σ) 8 [(0, .ref (ad E 18)), (1, .int xq1), (3, .int xq3), (4, .int xq4)] [] σ :=
  fun n => fx_ind (P := fun f => ∀ (xq3 : Int32) (xq4 : Int32)  (σ : Mm), KR E G 6 (ZI E G) (f xq3 xq4 σ) 8 [(0, .ref (ad E 18)), (1, .int xq1), (3, .int xq3), (4, .int xq4)] [] σ) (fun _ _ _ => k_none) (fun L8 hL8 xq3 xq4 σ => t_X9_takeAway_L8b B xq1   L8 hL8 xq3 xq4 σ) n
set_option maxHeartbeats 4000000 in
set_option maxRecDepth 100000 in
theorem t_X9_takeAway {E : En} {G : Cx} (B : Bx E G cX9_takeAway 6 RX9 H_X9_takeAway (some .int)) (aq0 : Int32) (aq1 : Int32)  (σ : Mm) : KR E G 6 (ZI E G) (f_X9_takeAway aq0 aq1 σ) 0 [(0, .ref (ad E 18)), (1, .int aq0), (2, .int aq1)] [] σ := by
  have F := B.1
  unfold f_X9_takeAway
  refine k_iload_n (pc := 0) F 2 2 dX9_takeAway_0 rfl rfl ?_
  refine k_istore_n F (lv' := [(3, .int aq1), (0, .ref (ad E 18)), (1, .int aq0), (2, .int aq1)]) 3 dX9_takeAway_1 rfl (by decide) rfl ?_
  refine k_iload_n (pc := 2) F 1 2 dX9_takeAway_2 rfl rfl ?_
  refine k_bipush (pc := 3) F (v := (6 : Int32)) dX9_takeAway_3 cb_6 ?_
  refine k_imul (pc := 5) F dX9_takeAway_5 ?_
  refine k_nmI (fun vq1 => ?_)
  refine k_istore F (lv' := [(4, .int vq1), (3, .int aq1), (0, .ref (ad E 18)), (1, .int aq0), (2, .int aq1)]) 4 dX9_takeAway_6 (by decide) rfl ?_
  exact k_sub [2, 3, 1, 0] rfl (t_X9_takeAway_L8 B aq0   FU aq1 vq1  σ)
set_option maxHeartbeats 4000000 in
set_option maxRecDepth 100000 in
theorem ct_X9_takeAway (E : En) (aq0 : Int32) (aq1 : Int32)  (σ : Mm) : CtI E yX9_takeAway cX9_takeAway 6 (some .int) H_X9_takeAway [.ref (ad E 18), .int aq0, .int aq1] σ (f_X9_takeAway aq0 aq1 σ) := ct_I (by decide) (Nat.le_of_ble_eq_true rfl) rfl (fun G B => t_X9_takeAway B aq0 aq1  σ)
abbrev H_X9_hasRound : Nat := 2
theorem hR_X9_hasRound_X9_takeAway : H_X9_takeAway + 1 ≤ H_X9_hasRound ∧ 8 + (6 + 11) + 40 * H_X9_takeAway ≤ 40 * H_X9_hasRound := by decide
theorem hR_X9_hasRound_J7_fill_fda19 : H_J7_fill_fda19 + 1 ≤ H_X9_hasRound ∧ 8 + (5 + 11) + 40 * H_J7_fill_fda19 ≤ 40 * H_X9_hasRound := by decide
set_option maxHeartbeats 4000000 in
set_option maxRecDepth 100000 in
theorem t_X9_hasRound_50 {E : En} {G : Cx} (B : Bx E G cX9_hasRound 3 RX9 H_X9_hasRound (some .boolean)) (xq1 : Int32)  (L15 : Int32 → Mm → Option (Int32 × Mm)) (hL15 : ∀ (xq1 : Int32)  (σ : Mm), KR E G 3 (ZI E G) (L15 xq1 σ) 15 [(0, .ref (ad E 18)), (1, .int xq1)] [] σ)  (σ : Mm) : KR E G 3 (ZI E G) (f_X9_hasRound_50 L15 xq1 σ) 50 [(0, .ref (ad E 18)), (1, .int xq1)] [] σ := by
  have F := B.1
  unfold f_X9_hasRound_50
  refine k_iinc (pc := 50) F (c := (1 : Int32)) (lw := fun wq => [(1, .int wq), (0, .ref (ad E 18))]) 1 1 dX9_hasRound_50 rfl ci_1 (by decide) (fun _ => rfl) (fun vq3 => ?_)
  refine k_goto (pc := 53) F 15 dX9_hasRound_53 (by decide) ?_
  exact k_sub [1, 0] rfl (hL15 vq3 σ)
set_option maxHeartbeats 4000000 in
set_option maxRecDepth 100000 in
theorem t_X9_hasRound_L15b {E : En} {G : Cx} (B : Bx E G cX9_hasRound 3 RX9 H_X9_hasRound (some .boolean))   (K56 : Mm → Option (Int32 × Mm)) (hK56 : ∀   (σ : Mm), KR E G 3 (ZI E G) (K56  σ) 56 [(0, .ref (ad E 18))] [] σ)  (L15 : Int32 → Mm → Option (Int32 × Mm)) (hL15 : ∀ (xq1 : Int32)  (σ : Mm), KR E G 3 (ZI E G) (L15 xq1 σ) 15 [(0, .ref (ad E 18)), (1, .int xq1)] [] σ) (xq1 : Int32)  (σ : Mm) : KR E G 3 (ZI E G) (f_X9_hasRound_L15 K56  L15 xq1 σ) 15 [(0, .ref (ad E 18)), (1, .int xq1)] [] σ := by
  have F := B.1
  unfold f_X9_hasRound_L15
  refine k_iload_n (pc := 15) F 1 1 dX9_hasRound_15 rfl rfl ?_
  refine k_aload_n (pc := 16) F 0 0 dX9_hasRound_16 rfl rfl ?_
  refine gf_18_7 (pc := 17) F w_1_186 dX9_hasRound_17 ?_
  refine k_bipush (pc := 20) F (v := (6 : Int32)) dX9_hasRound_20 cb_6 ?_
  refine k_imul (pc := 22) F dX9_hasRound_22 ?_
  refine k_icmp_ge (pc := 23) F 56 dX9_hasRound_23 (by decide) (fun _ => ?_) (fun _ => ?_)
  · exact k_sub [0] rfl (hK56 σ)
  · refine k_aload_n (pc := 26) F 0 0 dX9_hasRound_26 rfl rfl ?_
    refine gf_18_4 (pc := 27) F w_1_183 dX9_hasRound_27 ?_
    refine k_iload_n (pc := 30) F 1 1 dX9_hasRound_30 rfl rfl ?_
    refine k_iald (pc := 31) F rfl dX9_hasRound_31 ?_
    refine k_if_lt (pc := 32) F 50 dX9_hasRound_32 (by decide) (fun _ => ?_) (fun _ => ?_)
    · exact k_sub [0, 1] rfl (t_X9_hasRound_50 B xq1  L15 hL15  σ)
    · refine k_aload_n (pc := 35) F 0 0 dX9_hasRound_35 rfl rfl ?_
      refine gf_18_5 (pc := 36) F w_1_184 dX9_hasRound_36 ?_
      refine k_aload_n (pc := 39) F 0 0 dX9_hasRound_39 rfl rfl ?_
      refine gf_18_4 (pc := 40) F w_1_183 dX9_hasRound_40 ?_
      refine k_iload_n (pc := 43) F 1 1 dX9_hasRound_43 rfl rfl ?_
      refine k_iald (pc := 44) F rfl dX9_hasRound_44 ?_
      refine k_nmI (fun vq4 => ?_)
      refine k_dup2 (pc := 45) F dX9_hasRound_45 rfl rfl ?_
      refine k_iald (pc := 46) F rfl dX9_hasRound_46 ?_
      refine k_iconst (pc := 47) F (v := (1 : Int32)) dX9_hasRound_47 ci_1 ?_
      refine k_iadd (pc := 48) F dX9_hasRound_48 ?_
      refine k_iast (pc := 49) F rfl dX9_hasRound_49 (fun σ5 => ?_)
      exact k_sub [0, 1] rfl (t_X9_hasRound_50 B xq1  L15 hL15  σ5)
set_option maxHeartbeats 4000000 in
set_option maxRecDepth 100000 in
theorem t_X9_hasRound_L15 {E : En} {G : Cx} (B : Bx E G cX9_hasRound 3 RX9 H_X9_hasRound (some .boolean))   (K56 : Mm → Option (Int32 × Mm)) (hK56 : ∀   (σ : Mm), KR E G 3 (ZI E G) (K56  σ) 56 [(0, .ref (ad E 18))] [] σ)  : ∀ (n : Nat) (xq1 : Int32)  (σ : Mm), KR E G 3 (ZI E G) (fx (fun _ _ => none) n (f_X9_hasRound_L15 K56 ) xq1 σ) 15 [(0, .ref (ad E 18)), (1, .int xq1)] [] σ :=
  fun n => fx_ind (P := fun f => ∀ (xq1 : Int32)  (σ : Mm), KR E G 3 (ZI E G) (f xq1 σ) 15 [(0, .ref (ad E 18)), (1, .int xq1)] [] σ) (fun _ _ => k_none) (fun L15 hL15 xq1 σ => t_X9_hasRound_L15b B   K56 hK56  L15 hL15 xq1 σ) n
set_option maxHeartbeats 4000000 in
set_option maxRecDepth 100000 in
theorem t_X9_hasRound_L85b {E : En} {G : Cx} (B : Bx E G cX9_hasRound 3 RX9 H_X9_hasRound (some .boolean))   (K116 : Int32 → Mm → Option (Int32 × Mm)) (hK116 : ∀ (xq1 : Int32)  (σ : Mm), KR E G 3 (ZI E G) (K116 xq1 σ) 116 [(0, .ref (ad E 18)), (1, .int xq1)] [] σ)  (L85 : Int32 → Int32 → Mm → Option (Int32 × Mm)) (hL85 : ∀ (xq1 : Int32) (xq2 : Int32)  (σ : Mm), KR E G 3 (ZI E G) (L85 xq1 xq2 σ) 85 [(0, .ref (ad E 18)), (1, .int xq1), (2, .int xq2)] [] σ) (xq1 : Int32) (xq2 : Int32)  (σ : Mm) : KR E G 3 (ZI E G) (f_X9_hasRound_L85 K116  L85 xq1 xq2 σ) 85 [(0, .ref (ad E 18)), (1, .int xq1), (2, .int xq2)] [] σ := by
  have F := B.1
  unfold f_X9_hasRound_L85
  refine k_iload_n (pc := 85) F 2 2 dX9_hasRound_85 rfl rfl ?_
  refine k_aload_n (pc := 86) F 0 0 dX9_hasRound_86 rfl rfl ?_
  refine gf_18_7 (pc := 87) F w_1_186 dX9_hasRound_87 ?_
  refine k_icmp_ge (pc := 90) F 116 dX9_hasRound_90 (by decide) (fun _ => ?_) (fun _ => ?_)
  · exact k_sub [0, 1] rfl (hK116 xq1 σ)
  · refine k_iload_n (pc := 93) F 2 2 dX9_hasRound_93 rfl rfl ?_
    refine k_iload_n (pc := 94) F 1 1 dX9_hasRound_94 rfl rfl ?_
    refine k_icmp_ge (pc := 95) F 116 dX9_hasRound_95 (by decide) (fun _ => ?_) (fun _ => ?_)
    · exact k_sub [0, 1] rfl (hK116 xq1 σ)
    · refine k_aload_n (pc := 98) F 0 0 dX9_hasRound_98 rfl rfl ?_
      refine k_aload_n (pc := 99) F 0 0 dX9_hasRound_99 rfl rfl ?_
      refine gf_18_6 (pc := 100) F w_1_185 dX9_hasRound_100 ?_
      refine k_iload_n (pc := 103) F 2 2 dX9_hasRound_103 rfl rfl ?_
      refine k_iald (pc := 104) F rfl dX9_hasRound_104 ?_
      refine k_iload_n (pc := 105) F 1 1 dX9_hasRound_105 rfl rfl ?_
      refine k_callVI (pc := 106) B (k := 18) (As := [.int (σ.1 25 (ix xq2)), .int xq1]) (rest := []) (ct_X9_takeAway E (σ.1 25 (ix xq2)) xq1  σ) rfl rfl mv_X9_takeAway w_3_237 rfl hR_X9_hasRound_X9_takeAway rfl (Nat.le_of_ble_eq_true rfl) dX9_hasRound_106 (fun rq7 σ6 hoq => ?_)
      refine k_istore_n F (lv' := [(1, .int rq7), (0, .ref (ad E 18)), (2, .int xq2)]) 1 dX9_hasRound_109 rfl (by decide) rfl ?_
      refine k_iinc (pc := 110) F (c := (1 : Int32)) (lw := fun wq => [(2, .int wq), (1, .int rq7), (0, .ref (ad E 18))]) 2 2 dX9_hasRound_110 rfl ci_1 (by decide) (fun _ => rfl) (fun vq8 => ?_)
      refine k_goto (pc := 113) F 85 dX9_hasRound_113 (by decide) ?_
      exact k_sub [2, 1, 0] rfl (hL85 rq7 vq8 σ6)
set_option maxHeartbeats 4000000 in
set_option maxRecDepth 100000 in
theorem t_X9_hasRound_L85 {E : En} {G : Cx} (B : Bx E G cX9_hasRound 3 RX9 H_X9_hasRound (some .boolean))   (K116 : Int32 → Mm → Option (Int32 × Mm)) (hK116 : ∀ (xq1 : Int32)  (σ : Mm), KR E G 3 (ZI E G) (K116 xq1 σ) 116 [(0, .ref (ad E 18)), (1, .int xq1)] [] σ)  : ∀ (n : Nat) (xq1 : Int32) (xq2 : Int32)  (σ : Mm), KR E G 3 (ZI E G) (fx (fun _ _ _ => none) n (f_X9_hasRound_L85 K116 ) xq1 xq2 σ) 85 [(0, .ref (ad E 18)), (1, .int xq1), (2, .int xq2)] [] σ :=
  fun n => fx_ind (P := fun f => ∀ (xq1 : Int32) (xq2 : Int32)  (σ : Mm), KR E G 3 (ZI E G) (f xq1 xq2 σ) 85 [(0, .ref (ad E 18)), (1, .int xq1), (2, .int xq2)] [] σ) (fun _ _ _ => k_none) (fun L85 hL85 xq1 xq2 σ => t_X9_hasRound_L85b B   K116 hK116  L85 hL85 xq1 xq2 σ) n
set_option maxHeartbeats 4000000 in
set_option maxRecDepth 100000 in
theorem t_X9_hasRound_116 {E : En} {G : Cx} (B : Bx E G cX9_hasRound 3 RX9 H_X9_hasRound (some .boolean)) (xq1 : Int32)   (σ : Mm) : KR E G 3 (ZI E G) (f_X9_hasRound_116 xq1 σ) 116 [(0, .ref (ad E 18)), (1, .int xq1)] [] σ := by
  have F := B.1
  unfold f_X9_hasRound_116
  refine k_iload_n (pc := 116) F 1 1 dX9_hasRound_116 rfl rfl ?_
  refine k_aload_n (pc := 117) F 0 0 dX9_hasRound_117 rfl rfl ?_
  refine gf_18_7 (pc := 118) F w_1_186 dX9_hasRound_118 ?_
  refine k_icmp_ge (pc := 121) F 128 dX9_hasRound_121 (by decide) (fun _ => ?_) (fun _ => ?_)
  · refine k_iconst (pc := 128) F (v := (0 : Int32)) dX9_hasRound_128 ci_0 ?_
    exact k_zret (pc := 129) B dX9_hasRound_129
  · refine k_iconst (pc := 124) F (v := (1 : Int32)) dX9_hasRound_124 ci_1 ?_
    refine k_goto (pc := 125) F 129 dX9_hasRound_125 (by decide) ?_
    exact k_zret (pc := 129) B dX9_hasRound_129
set_option maxHeartbeats 4000000 in
set_option maxRecDepth 100000 in
theorem t_X9_hasRound_83 {E : En} {G : Cx} (B : Bx E G cX9_hasRound 3 RX9 H_X9_hasRound (some .boolean)) (xq1 : Int32)   (σ : Mm) : KR E G 3 (ZI E G) (f_X9_hasRound_83 xq1 σ) 83 [(0, .ref (ad E 18)), (1, .int xq1)] [] σ := by
  have F := B.1
  unfold f_X9_hasRound_83
  refine k_iconst (pc := 83) F (v := (0 : Int32)) dX9_hasRound_83 ci_0 ?_
  refine k_istore_n F (lv' := [(2, .int (0 : Int32)), (0, .ref (ad E 18)), (1, .int xq1)]) 2 dX9_hasRound_84 rfl (by decide) rfl ?_
  exact k_sub [1, 2, 0] rfl (t_X9_hasRound_L85 B   _ (fun xq1  σ => by
        exact k_sub [0, 1] rfl (t_X9_hasRound_116 B xq1   σ)) FU xq1 (0 : Int32)  σ)
set_option maxHeartbeats 4000000 in
set_option maxRecDepth 100000 in
theorem t_X9_hasRound_56 {E : En} {G : Cx} (B : Bx E G cX9_hasRound 3 RX9 H_X9_hasRound (some .boolean))    (σ : Mm) : KR E G 3 (ZI E G) (f_X9_hasRound_56  σ) 56 [(0, .ref (ad E 18))] [] σ := by
  have F := B.1
  unfold f_X9_hasRound_56
  refine k_iconst (pc := 56) F (v := (0 : Int32)) dX9_hasRound_56 ci_0 ?_
  refine k_istore_n F (lv' := [(1, .int (0 : Int32)), (0, .ref (ad E 18))]) 1 dX9_hasRound_57 rfl (by decide) rfl ?_
  refine k_aload_n (pc := 58) F 0 1 dX9_hasRound_58 rfl rfl ?_
  refine gf_18_7 (pc := 59) F w_1_186 dX9_hasRound_59 ?_
  refine k_if_le (pc := 62) F 83 dX9_hasRound_62 (by decide) (fun _ => ?_) (fun _ => ?_)
  · exact k_sub [1, 0] rfl (t_X9_hasRound_83 B (0 : Int32)   σ)
  · refine k_aload_n (pc := 65) F 0 1 dX9_hasRound_65 rfl rfl ?_
    refine gf_18_5 (pc := 66) F w_1_184 dX9_hasRound_66 ?_
    refine k_iconst (pc := 69) F (v := (0 : Int32)) dX9_hasRound_69 ci_0 ?_
    refine k_iald (pc := 70) F rfl dX9_hasRound_70 ?_
    refine k_if_ne (pc := 71) F 83 dX9_hasRound_71 (by decide) (fun _ => ?_) (fun _ => ?_)
    · refine k_aload_n (pc := 74) F 0 1 dX9_hasRound_74 rfl rfl ?_
      refine gf_18_6 (pc := 75) F w_1_185 dX9_hasRound_75 ?_
      refine k_iconst (pc := 78) F (v := (0 : Int32)) dX9_hasRound_78 ci_0 ?_
      refine k_iconst (pc := 79) F (v := (0 : Int32)) dX9_hasRound_79 ci_0 ?_
      refine k_iast (pc := 80) F rfl dX9_hasRound_80 (fun σ9 => ?_)
      refine k_iconst (pc := 81) F (v := (1 : Int32)) dX9_hasRound_81 ci_1 ?_
      refine k_istore_n F (lv' := [(1, .int (1 : Int32)), (0, .ref (ad E 18))]) 1 dX9_hasRound_82 rfl (by decide) rfl ?_
      exact k_sub [1, 0] rfl (t_X9_hasRound_83 B (1 : Int32)   σ9)
    · exact k_sub [1, 0] rfl (t_X9_hasRound_83 B (0 : Int32)   σ)
set_option maxHeartbeats 4000000 in
set_option maxRecDepth 100000 in
theorem t_X9_hasRound {E : En} {G : Cx} (B : Bx E G cX9_hasRound 3 RX9 H_X9_hasRound (some .boolean))   (σ : Mm) : KR E G 3 (ZI E G) (f_X9_hasRound  σ) 0 [(0, .ref (ad E 18))] [] σ := by
  have F := B.1
  unfold f_X9_hasRound
  refine k_aload_n (pc := 0) F 0 0 dX9_hasRound_0 rfl rfl ?_
  refine gf_18_5 (pc := 1) F w_1_184 dX9_hasRound_1 ?_
  refine k_iconst (pc := 4) F (v := (0 : Int32)) dX9_hasRound_4 ci_0 ?_
  refine k_aload_n (pc := 5) F 0 0 dX9_hasRound_5 rfl rfl ?_
  refine gf_18_7 (pc := 6) F w_1_186 dX9_hasRound_6 ?_
  refine k_iconst (pc := 9) F (v := (0 : Int32)) dX9_hasRound_9 ci_0 ?_
  refine k_callSV (pc := 10) B (As := [.ref (ad E 24), .int (0 : Int32), .int (σ.1 18 7), .int (0 : Int32)]) (rest := []) (ct_J7_fill_fda19 E (0 : Int32) (σ.1 18 7) (0 : Int32)  σ) ms_J7_fill_fda19 w_3_219 rfl hR_X9_hasRound_J7_fill_fda19 rfl (Nat.le_of_ble_eq_true rfl) dX9_hasRound_10 (fun rq2 σ1 hoq => ?_)
  refine k_iconst (pc := 13) F (v := (0 : Int32)) dX9_hasRound_13 ci_0 ?_
  refine k_istore_n F (lv' := [(1, .int (0 : Int32)), (0, .ref (ad E 18))]) 1 dX9_hasRound_14 rfl (by decide) rfl ?_
  exact k_sub [1, 0] rfl (t_X9_hasRound_L15 B   _ (fun   σ => by
        exact k_sub [0] rfl (t_X9_hasRound_56 B    σ)) FU (0 : Int32)  σ1)
set_option maxHeartbeats 4000000 in
set_option maxRecDepth 100000 in
theorem ct_X9_hasRound (E : En)   (σ : Mm) : CtI E yX9_hasRound cX9_hasRound 3 (some .boolean) H_X9_hasRound [.ref (ad E 18)] σ (f_X9_hasRound  σ) := ct_I (by decide) (Nat.le_of_ble_eq_true rfl) rfl (fun G B => t_X9_hasRound B   σ)
abbrev H_X10_feed : Nat := 1
theorem hR_X10_feed_X8_append : H_X8_append + 1 ≤ H_X10_feed ∧ 8 + (4 + 11) + 40 * H_X8_append ≤ 40 * H_X10_feed := by decide
theorem hR_X10_feed_X0_tell : H_X0_tell + 1 ≤ H_X10_feed ∧ 8 + (2 + 11) + 40 * H_X0_tell ≤ 40 * H_X10_feed := by decide
set_option maxHeartbeats 4000000 in
set_option maxRecDepth 100000 in
theorem t_X10_feed {E : En} {G : Cx} (B : Bx E G cX10_feed 3 RX10 H_X10_feed (some .int)) (aq0 : Int32) (aq1 : Int32)  (σ : Mm) : KR E G 3 (ZI E G) (f_X10_feed aq0 aq1 σ) 0 [(0, .ref (ad E 0)), (1, .int aq0), (2, .int aq1)] [] σ := by
  have F := B.1
  unfold f_X10_feed
  refine k_iload_n (pc := 0) F 2 2 dX10_feed_0 rfl rfl ?_
  refine k_iconst (pc := 1) F (v := (1 : Int32)) dX10_feed_1 ci_1 ?_
  refine k_icmp_lt (pc := 2) F 10 dX10_feed_2 (by decide) (fun _ => ?_) (fun _ => ?_)
  · refine k_aload_n (pc := 10) F 0 0 dX10_feed_10 rfl rfl ?_
    refine gf_0_0 (pc := 11) F w_2_66 dX10_feed_11 ?_
    refine k_iconst (pc := 14) F (v := (0 : Int32)) dX10_feed_14 ci_0 ?_
    refine k_callVI (pc := 15) B (k := 1) (As := [.int (0 : Int32)]) (rest := []) (ct_X0_tell E (0 : Int32)  σ) rfl rfl mv_X0_tell w_2_98 rfl hR_X10_feed_X0_tell rfl (Nat.le_of_ble_eq_true rfl) dX10_feed_15 (fun rq2 σ1 hoq => ?_)
    exact k_iret (pc := 18) B dX10_feed_18
  · refine k_iload_n (pc := 5) F 2 2 dX10_feed_5 rfl rfl ?_
    refine k_iconst (pc := 6) F (v := (4 : Int32)) dX10_feed_6 ci_4 ?_
    refine k_icmp_le (pc := 7) F 19 dX10_feed_7 (by decide) (fun _ => ?_) (fun _ => ?_)
    · refine k_aload_n (pc := 19) F 0 0 dX10_feed_19 rfl rfl ?_
      refine gf_0_2 (pc := 20) F w_2_68 dX10_feed_20 ?_
      refine gf_4_1 (pc := 23) F w_1_60 dX10_feed_23 ?_
      refine k_iload_n (pc := 26) F 2 2 dX10_feed_26 rfl rfl ?_
      refine k_iadd (pc := 27) F dX10_feed_27 ?_
      refine k_bipush (pc := 28) F (v := (120 : Int32)) dX10_feed_28 cb_120 ?_
      refine k_icmp_le (pc := 30) F 42 dX10_feed_30 (by decide) (fun _ => ?_) (fun _ => ?_)
      · refine k_aload_n (pc := 42) F 0 0 dX10_feed_42 rfl rfl ?_
        refine gf_0_2 (pc := 43) F w_2_68 dX10_feed_43 ?_
        refine k_iload_n (pc := 46) F 1 1 dX10_feed_46 rfl rfl ?_
        refine k_iload_n (pc := 47) F 2 2 dX10_feed_47 rfl rfl ?_
        refine k_callVV (pc := 48) B (k := 4) (As := [.int aq0, .int aq1]) (rest := []) (ct_X8_append E aq0 aq1  σ) rfl rfl mv_X8_append w_2_103 rfl hR_X10_feed_X8_append rfl (Nat.le_of_ble_eq_true rfl) dX10_feed_48 (fun rq4 σ3 hoq => ?_)
        refine k_aload_n (pc := 51) F 0 0 dX10_feed_51 rfl rfl ?_
        refine gf_0_2 (pc := 52) F w_2_68 dX10_feed_52 ?_
        refine gf_4_1 (pc := 55) F w_1_60 dX10_feed_55 ?_
        exact k_iret (pc := 58) B dX10_feed_58
      · refine k_aload_n (pc := 33) F 0 0 dX10_feed_33 rfl rfl ?_
        refine gf_0_0 (pc := 34) F w_2_66 dX10_feed_34 ?_
        refine k_iconst (pc := 37) F (v := (1 : Int32)) dX10_feed_37 ci_1 ?_
        refine k_callVI (pc := 38) B (k := 1) (As := [.int (1 : Int32)]) (rest := []) (ct_X0_tell E (1 : Int32)  σ) rfl rfl mv_X0_tell w_2_98 rfl hR_X10_feed_X0_tell rfl (Nat.le_of_ble_eq_true rfl) dX10_feed_38 (fun rq6 σ5 hoq => ?_)
        exact k_iret (pc := 41) B dX10_feed_41
    · refine k_aload_n (pc := 10) F 0 0 dX10_feed_10 rfl rfl ?_
      refine gf_0_0 (pc := 11) F w_2_66 dX10_feed_11 ?_
      refine k_iconst (pc := 14) F (v := (0 : Int32)) dX10_feed_14 ci_0 ?_
      refine k_callVI (pc := 15) B (k := 1) (As := [.int (0 : Int32)]) (rest := []) (ct_X0_tell E (0 : Int32)  σ) rfl rfl mv_X0_tell w_2_98 rfl hR_X10_feed_X0_tell rfl (Nat.le_of_ble_eq_true rfl) dX10_feed_15 (fun rq8 σ7 hoq => ?_)
      exact k_iret (pc := 18) B dX10_feed_18
set_option maxHeartbeats 4000000 in
set_option maxRecDepth 100000 in
theorem ct_X10_feed (E : En) (aq0 : Int32) (aq1 : Int32)  (σ : Mm) : CtI E yX10_feed cX10_feed 3 (some .int) H_X10_feed [.ref (ad E 0), .int aq0, .int aq1] σ (f_X10_feed aq0 aq1 σ) := ct_I (by decide) (Nat.le_of_ble_eq_true rfl) rfl (fun G B => t_X10_feed B aq0 aq1  σ)
abbrev H_X10_wipe : Nat := 0
set_option maxHeartbeats 4000000 in
set_option maxRecDepth 100000 in
theorem t_X10_wipe {E : En} {G : Cx} (B : Bx E G cX10_wipe 2 RX10 H_X10_wipe (some .int))   (σ : Mm) : KR E G 2 (ZI E G) (f_X10_wipe  σ) 0 [(0, .ref (ad E 0))] [] σ := by
  have F := B.1
  unfold f_X10_wipe
  refine k_aload_n (pc := 0) F 0 0 dX10_wipe_0 rfl rfl ?_
  refine gf_0_2 (pc := 1) F w_2_68 dX10_wipe_1 ?_
  refine gf_4_1 (pc := 4) F w_1_60 dX10_wipe_4 ?_
  refine k_nmI (fun vq1 => ?_)
  refine k_istore_n F (lv' := [(1, .int vq1), (0, .ref (ad E 0))]) 1 dX10_wipe_7 rfl (by decide) rfl ?_
  refine k_aload_n (pc := 8) F 0 1 dX10_wipe_8 rfl rfl ?_
  refine gf_0_2 (pc := 9) F w_2_68 dX10_wipe_9 ?_
  refine k_iconst (pc := 12) F (v := (0 : Int32)) dX10_wipe_12 ci_0 ?_
  refine pf_4_1 (pc := 13) F w_1_60 dX10_wipe_13 (fun σ2 => ?_)
  refine k_iload_n (pc := 16) F 1 0 dX10_wipe_16 rfl rfl ?_
  exact k_iret (pc := 17) B dX10_wipe_17
set_option maxHeartbeats 4000000 in
set_option maxRecDepth 100000 in
theorem ct_X10_wipe (E : En)   (σ : Mm) : CtI E yX10_wipe cX10_wipe 2 (some .int) H_X10_wipe [.ref (ad E 0)] σ (f_X10_wipe  σ) := ct_I (by decide) (Nat.le_of_ble_eq_true rfl) rfl (fun G B => t_X10_wipe B   σ)
abbrev H_X10_text : Nat := 8
theorem hR_X10_text_X7_forget : H_X7_forget + 1 ≤ H_X10_text ∧ 8 + (1 + 11) + 40 * H_X7_forget ≤ 40 * H_X10_text := by decide
theorem hR_X10_text_X3_faultOfNewCall : H_X3_faultOfNewCall + 1 ≤ H_X10_text ∧ 8 + (3 + 11) + 40 * H_X3_faultOfNewCall ≤ 40 * H_X10_text := by decide
theorem hR_X10_text_X0_tell : H_X0_tell + 1 ≤ H_X10_text ∧ 8 + (2 + 11) + 40 * H_X0_tell ≤ 40 * H_X10_text := by decide
set_option maxHeartbeats 4000000 in
set_option maxRecDepth 100000 in
theorem t_X10_text {E : En} {G : Cx} (B : Bx E G cX10_text 2 RX10 H_X10_text (some .int))   (σ : Mm) : KR E G 2 (ZI E G) (f_X10_text  σ) 0 [(0, .ref (ad E 0))] [] σ := by
  have F := B.1
  unfold f_X10_text
  refine k_aload_n (pc := 0) F 0 0 dX10_text_0 rfl rfl ?_
  refine gf_0_4 (pc := 1) F w_2_70 dX10_text_1 ?_
  refine gf_7_0 (pc := 4) F w_1_98 dX10_text_4 ?_
  refine k_bipush (pc := 7) F (v := (6 : Int32)) dX10_text_7 cb_6 ?_
  refine k_icmp_lt (pc := 9) F 21 dX10_text_9 (by decide) (fun _ => ?_) (fun _ => ?_)
  · refine k_aload_n (pc := 21) F 0 0 dX10_text_21 rfl rfl ?_
    refine gf_0_1 (pc := 22) F w_2_67 dX10_text_22 ?_
    refine k_aload_n (pc := 25) F 0 0 dX10_text_25 rfl rfl ?_
    refine gf_0_4 (pc := 26) F w_2_70 dX10_text_26 ?_
    refine k_callVI (pc := 29) B (k := 3) (As := [.ref (ad E 7)]) (rest := []) (ct_X3_faultOfNewCall E   σ) rfl rfl mv_X3_faultOfNewCall w_2_115 rfl hR_X10_text_X3_faultOfNewCall rfl (Nat.le_of_ble_eq_true rfl) dX10_text_29 (fun rq2 σ1 hoq => ?_)
    refine k_istore_n F (lv' := [(1, .int rq2), (0, .ref (ad E 0))]) 1 dX10_text_32 rfl (by decide) rfl ?_
    refine k_iload_n (pc := 33) F 1 0 dX10_text_33 rfl rfl ?_
    refine k_if_lt (pc := 34) F 41 dX10_text_34 (by decide) (fun _ => ?_) (fun _ => ?_)
    · refine k_aload_n (pc := 41) F 0 1 dX10_text_41 rfl rfl ?_
      refine gf_0_2 (pc := 42) F w_2_68 dX10_text_42 ?_
      refine k_iconst (pc := 45) F (v := (0 : Int32)) dX10_text_45 ci_0 ?_
      refine pf_4_1 (pc := 46) F w_1_60 dX10_text_46 (fun σ3 => ?_)
      refine k_aload_n (pc := 49) F 0 1 dX10_text_49 rfl rfl ?_
      refine gf_0_3 (pc := 50) F w_2_69 dX10_text_50 ?_
      refine k_callVV (pc := 53) B (k := 6) (As := []) (rest := []) (ct_X7_forget E   σ3) rfl rfl mv_X7_forget w_2_212 rfl hR_X10_text_X7_forget rfl (Nat.le_of_ble_eq_true rfl) dX10_text_53 (fun rq5 σ4 hoq => ?_)
      refine k_aload_n (pc := 56) F 0 1 dX10_text_56 rfl rfl ?_
      refine gf_0_4 (pc := 57) F w_2_70 dX10_text_57 ?_
      refine gf_7_0 (pc := 60) F w_1_98 dX10_text_60 ?_
      refine k_iconst (pc := 63) F (v := (1 : Int32)) dX10_text_63 ci_1 ?_
      refine k_isub (pc := 64) F dX10_text_64 ?_
      exact k_iret (pc := 65) B dX10_text_65
    · refine k_iconst (pc := 37) F (v := (-1 : Int32)) dX10_text_37 ci_m1 ?_
      refine k_iload_n (pc := 38) F 1 0 dX10_text_38 rfl rfl ?_
      refine k_isub (pc := 39) F dX10_text_39 ?_
      exact k_iret (pc := 40) B dX10_text_40
  · refine k_aload_n (pc := 12) F 0 0 dX10_text_12 rfl rfl ?_
    refine gf_0_0 (pc := 13) F w_2_66 dX10_text_13 ?_
    refine k_iconst (pc := 16) F (v := (1 : Int32)) dX10_text_16 ci_1 ?_
    refine k_callVI (pc := 17) B (k := 1) (As := [.int (1 : Int32)]) (rest := []) (ct_X0_tell E (1 : Int32)  σ) rfl rfl mv_X0_tell w_2_98 rfl hR_X10_text_X0_tell rfl (Nat.le_of_ble_eq_true rfl) dX10_text_17 (fun rq7 σ6 hoq => ?_)
    exact k_iret (pc := 20) B dX10_text_20
set_option maxHeartbeats 4000000 in
set_option maxRecDepth 100000 in
theorem ct_X10_text (E : En)   (σ : Mm) : CtI E yX10_text cX10_text 2 (some .int) H_X10_text [.ref (ad E 0)] σ (f_X10_text  σ) := ct_I (by decide) (Nat.le_of_ble_eq_true rfl) rfl (fun G B => t_X10_text B   σ)
abbrev H_X10_steps : Nat := 1
theorem hR_X10_steps_X5_hasCall : H_X5_hasCall + 1 ≤ H_X10_steps ∧ 8 + (2 + 11) + 40 * H_X5_hasCall ≤ 40 * H_X10_steps := by decide
theorem hR_X10_steps_X0_tell : H_X0_tell + 1 ≤ H_X10_steps ∧ 8 + (2 + 11) + 40 * H_X0_tell ≤ 40 * H_X10_steps := by decide
set_option maxHeartbeats 4000000 in
set_option maxRecDepth 100000 in
theorem t_X10_steps {E : En} {G : Cx} (B : Bx E G cX10_steps 2 RX10 H_X10_steps (some .int)) (aq0 : Int32)  (σ : Mm) : KR E G 2 (ZI E G) (f_X10_steps aq0 σ) 0 [(0, .ref (ad E 0)), (1, .int aq0)] [] σ := by
  have F := B.1
  unfold f_X10_steps
  refine k_aload_n (pc := 0) F 0 0 dX10_steps_0 rfl rfl ?_
  refine gf_0_4 (pc := 1) F w_2_70 dX10_steps_1 ?_
  refine k_iload_n (pc := 4) F 1 1 dX10_steps_4 rfl rfl ?_
  refine k_callVI (pc := 5) B (k := 7) (As := [.int aq0]) (rest := []) (ct_X5_hasCall E aq0  σ) rfl rfl mv_X5_hasCall w_2_221 rfl hR_X10_steps_X5_hasCall rfl (Nat.le_of_ble_eq_true rfl) dX10_steps_5 (fun rq2 σ1 hoq => ?_)
  refine k_if_eq (pc := 8) F 23 dX10_steps_8 (by decide) (fun _ => ?_) (fun _ => ?_)
  · refine k_aload_n (pc := 23) F 0 0 dX10_steps_23 rfl rfl ?_
    refine gf_0_0 (pc := 24) F w_2_66 dX10_steps_24 ?_
    refine k_iconst (pc := 27) F (v := (0 : Int32)) dX10_steps_27 ci_0 ?_
    refine k_callVI (pc := 28) B (k := 1) (As := [.int (0 : Int32)]) (rest := []) (ct_X0_tell E (0 : Int32)  σ1) rfl rfl mv_X0_tell w_2_98 rfl hR_X10_steps_X0_tell rfl (Nat.le_of_ble_eq_true rfl) dX10_steps_28 (fun rq4 σ3 hoq => ?_)
    exact k_iret (pc := 31) B dX10_steps_31
  · refine k_aload_n (pc := 11) F 0 0 dX10_steps_11 rfl rfl ?_
    refine gf_0_4 (pc := 12) F w_2_70 dX10_steps_12 ?_
    refine gf_7_1 (pc := 15) F w_1_103 dX10_steps_15 ?_
    refine k_iload_n (pc := 18) F 1 1 dX10_steps_18 rfl rfl ?_
    refine k_iald (pc := 19) F rfl dX10_steps_19 ?_
    refine k_goto (pc := 20) F 31 dX10_steps_20 (by decide) ?_
    exact k_iret (pc := 31) B dX10_steps_31
set_option maxHeartbeats 4000000 in
set_option maxRecDepth 100000 in
theorem ct_X10_steps (E : En) (aq0 : Int32)  (σ : Mm) : CtI E yX10_steps cX10_steps 2 (some .int) H_X10_steps [.ref (ad E 0), .int aq0] σ (f_X10_steps aq0 σ) := ct_I (by decide) (Nat.le_of_ble_eq_true rfl) rfl (fun G B => t_X10_steps B aq0  σ)
abbrev H_X10_step : Nat := 2
theorem hR_X10_step_X5_partOf : H_X5_partOf + 1 ≤ H_X10_step ∧ 8 + (4 + 11) + 40 * H_X5_partOf ≤ 40 * H_X10_step := by decide
theorem hR_X10_step_X5_hasStep : H_X5_hasStep + 1 ≤ H_X10_step ∧ 8 + (3 + 11) + 40 * H_X5_hasStep ≤ 40 * H_X10_step := by decide
theorem hR_X10_step_X0_tell : H_X0_tell + 1 ≤ H_X10_step ∧ 8 + (2 + 11) + 40 * H_X0_tell ≤ 40 * H_X10_step := by decide
set_option maxHeartbeats 4000000 in
set_option maxRecDepth 100000 in
theorem t_X10_step {E : En} {G : Cx} (B : Bx E G cX10_step 5 RX10 H_X10_step (some .int)) (aq0 : Int32) (aq1 : Int32) (aq2 : Int32)  (σ : Mm) : KR E G 5 (ZI E G) (f_X10_step aq0 aq1 aq2 σ) 0 [(0, .ref (ad E 0)), (1, .int aq0), (2, .int aq1), (3, .int aq2)] [] σ := by
  have F := B.1
  unfold f_X10_step
  refine k_aload_n (pc := 0) F 0 0 dX10_step_0 rfl rfl ?_
  refine gf_0_4 (pc := 1) F w_2_70 dX10_step_1 ?_
  refine k_iload_n (pc := 4) F 1 1 dX10_step_4 rfl rfl ?_
  refine k_iload_n (pc := 5) F 2 2 dX10_step_5 rfl rfl ?_
  refine k_callVI (pc := 6) B (k := 7) (As := [.int aq0, .int aq1]) (rest := []) (ct_X5_hasStep E aq0 aq1  σ) rfl rfl mv_X5_hasStep w_2_229 rfl hR_X10_step_X5_hasStep rfl (Nat.le_of_ble_eq_true rfl) dX10_step_6 (fun rq2 σ1 hoq => ?_)
  refine k_if_eq (pc := 9) F 21 dX10_step_9 (by decide) (fun _ => ?_) (fun _ => ?_)
  · refine k_aload_n (pc := 21) F 0 0 dX10_step_21 rfl rfl ?_
    refine gf_0_0 (pc := 22) F w_2_66 dX10_step_22 ?_
    refine k_iconst (pc := 25) F (v := (0 : Int32)) dX10_step_25 ci_0 ?_
    refine k_callVI (pc := 26) B (k := 1) (As := [.int (0 : Int32)]) (rest := []) (ct_X0_tell E (0 : Int32)  σ1) rfl rfl mv_X0_tell w_2_98 rfl hR_X10_step_X0_tell rfl (Nat.le_of_ble_eq_true rfl) dX10_step_26 (fun rq4 σ3 hoq => ?_)
    exact k_iret (pc := 29) B dX10_step_29
  · refine k_iload_n (pc := 12) F 3 3 dX10_step_12 rfl rfl ?_
    refine k_if_lt (pc := 13) F 21 dX10_step_13 (by decide) (fun _ => ?_) (fun _ => ?_)
    · refine k_aload_n (pc := 21) F 0 0 dX10_step_21 rfl rfl ?_
      refine gf_0_0 (pc := 22) F w_2_66 dX10_step_22 ?_
      refine k_iconst (pc := 25) F (v := (0 : Int32)) dX10_step_25 ci_0 ?_
      refine k_callVI (pc := 26) B (k := 1) (As := [.int (0 : Int32)]) (rest := []) (ct_X0_tell E (0 : Int32)  σ1) rfl rfl mv_X0_tell w_2_98 rfl hR_X10_step_X0_tell rfl (Nat.le_of_ble_eq_true rfl) dX10_step_26 (fun rq6 σ5 hoq => ?_)
      exact k_iret (pc := 29) B dX10_step_29
    · refine k_iload_n (pc := 16) F 3 3 dX10_step_16 rfl rfl ?_
      refine k_iconst (pc := 17) F (v := (5 : Int32)) dX10_step_17 ci_5 ?_
      refine k_icmp_lt (pc := 18) F 30 dX10_step_18 (by decide) (fun _ => ?_) (fun _ => ?_)
      · refine k_sget (pc := 30) F 1 (q := stQ1) rfl w_2_234 dX10_step_30 ?_
        refine k_aload_n (pc := 33) F 0 0 dX10_step_33 rfl rfl ?_
        refine gf_0_4 (pc := 34) F w_2_70 dX10_step_34 ?_
        refine k_iload_n (pc := 37) F 1 1 dX10_step_37 rfl rfl ?_
        refine k_iload_n (pc := 38) F 2 2 dX10_step_38 rfl rfl ?_
        refine k_iconst (pc := 39) F (v := (0 : Int32)) dX10_step_39 ci_0 ?_
        refine k_callVI (pc := 40) B (k := 7) (As := [.int aq0, .int aq1, .int (0 : Int32)]) (rest := [.ref (zA E 1)]) (ct_X5_partOf E aq0 aq1 (0 : Int32)  σ1) rfl rfl mv_X5_partOf w_2_236 rfl hR_X10_step_X5_partOf rfl (Nat.le_of_ble_eq_true rfl) dX10_step_40 (fun rq8 σ7 hoq => ?_)
        refine k_sld (pc := 43) F 1 (q := stQ1) rfl dX10_step_43 ?_
        refine k_nmI (fun vq9 => ?_)
        refine k_istore F (lv' := [(4, .int vq9), (0, .ref (ad E 0)), (1, .int aq0), (2, .int aq1), (3, .int aq2)]) 4 dX10_step_44 (by decide) rfl ?_
        refine k_iload (pc := 46) F 4 0 dX10_step_46 rfl ?_
        refine k_iload_n (pc := 48) F 3 4 dX10_step_48 rfl rfl ?_
        refine k_ishr (pc := 49) F dX10_step_49 ?_
        refine k_iconst (pc := 50) F (v := (1 : Int32)) dX10_step_50 ci_1 ?_
        refine k_iand (pc := 51) F dX10_step_51 ?_
        refine k_if_ne (pc := 52) F 64 dX10_step_52 (by decide) (fun _ => ?_) (fun _ => ?_)
        · refine k_aload_n (pc := 55) F 0 1 dX10_step_55 rfl rfl ?_
          refine gf_0_0 (pc := 56) F w_2_66 dX10_step_56 ?_
          refine k_iconst (pc := 59) F (v := (2 : Int32)) dX10_step_59 ci_2 ?_
          refine k_callVI (pc := 60) B (k := 1) (As := [.int (2 : Int32)]) (rest := []) (ct_X0_tell E (2 : Int32)  σ7) rfl rfl mv_X0_tell w_2_98 rfl hR_X10_step_X0_tell rfl (Nat.le_of_ble_eq_true rfl) dX10_step_60 (fun rq13 σ12 hoq => ?_)
          exact k_iret (pc := 63) B dX10_step_63
        · refine k_aload_n (pc := 64) F 0 1 dX10_step_64 rfl rfl ?_
          refine gf_0_4 (pc := 65) F w_2_70 dX10_step_65 ?_
          refine k_iload_n (pc := 68) F 1 2 dX10_step_68 rfl rfl ?_
          refine k_iload_n (pc := 69) F 2 3 dX10_step_69 rfl rfl ?_
          refine k_iload_n (pc := 70) F 3 4 dX10_step_70 rfl rfl ?_
          refine k_callVI (pc := 71) B (k := 7) (As := [.int aq0, .int aq1, .int aq2]) (rest := []) (ct_X5_partOf E aq0 aq1 aq2  σ7) rfl rfl mv_X5_partOf w_2_236 rfl hR_X10_step_X5_partOf rfl (Nat.le_of_ble_eq_true rfl) dX10_step_71 (fun rq11 σ10 hoq => ?_)
          exact k_iret (pc := 74) B dX10_step_74
      · refine k_aload_n (pc := 21) F 0 0 dX10_step_21 rfl rfl ?_
        refine gf_0_0 (pc := 22) F w_2_66 dX10_step_22 ?_
        refine k_iconst (pc := 25) F (v := (0 : Int32)) dX10_step_25 ci_0 ?_
        refine k_callVI (pc := 26) B (k := 1) (As := [.int (0 : Int32)]) (rest := []) (ct_X0_tell E (0 : Int32)  σ1) rfl rfl mv_X0_tell w_2_98 rfl hR_X10_step_X0_tell rfl (Nat.le_of_ble_eq_true rfl) dX10_step_26 (fun rq15 σ14 hoq => ?_)
        exact k_iret (pc := 29) B dX10_step_29
set_option maxHeartbeats 4000000 in
set_option maxRecDepth 100000 in
theorem ct_X10_step (E : En) (aq0 : Int32) (aq1 : Int32) (aq2 : Int32)  (σ : Mm) : CtI E yX10_step cX10_step 5 (some .int) H_X10_step [.ref (ad E 0), .int aq0, .int aq1, .int aq2] σ (f_X10_step aq0 aq1 aq2 σ) := ct_I (by decide) (Nat.le_of_ble_eq_true rfl) rfl (fun G B => t_X10_step B aq0 aq1 aq2  σ)
abbrev H_X10_isUnder : Nat := 0
set_option maxHeartbeats 4000000 in
set_option maxRecDepth 100000 in
theorem t_X10_isUnder_L4b {E : En} {G : Cx} (B : Bx E G cX10_isUnder 4 RX10 H_X10_isUnder (some .boolean)) (xq1 : Int32)   (L4 : Int32 → Int32 → Mm → Option (Int32 × Mm)) (hL4 : ∀ (xq2 : Int32) (xq3 : Int32)  (σ : Mm), KR E G 4 (ZI E G) (L4 xq2 xq3 σ) 4 [(1, .int xq1), (2, .int xq2), (3, .int xq3)] [] σ) (xq2 : Int32) (xq3 : Int32)  (σ : Mm) : KR E G 4 (ZI E G) (f_X10_isUnder_L4 xq1 L4 xq2 xq3 σ) 4 [(1, .int xq1), (2, .int xq2), (3, .int xq3)] [] σ := by
  have F := B.1
  unfold f_X10_isUnder_L4
  refine k_iload_n (pc := 4) F 3 2 dX10_isUnder_4 rfl rfl ?_
  refine k_sget (pc := 5) F 0 (q := stQ0) rfl w_3_4 dX10_isUnder_5 ?_
  refine k_slen (pc := 8) F 0 (q := stQ0) rfl (v := (8 : Int32)) cn_8 dX10_isUnder_8 ?_
  refine k_icmp_ge (pc := 9) F 35 dX10_isUnder_9 (by decide) (fun _ => ?_) (fun _ => ?_)
  · refine k_iconst (pc := 35) F (v := (0 : Int32)) dX10_isUnder_35 ci_0 ?_
    exact k_zret (pc := 36) B dX10_isUnder_36
  · refine k_iload_n (pc := 12) F 2 1 dX10_isUnder_12 rfl rfl ?_
    refine k_if_lt (pc := 13) F 35 dX10_isUnder_13 (by decide) (fun _ => ?_) (fun _ => ?_)
    · refine k_iconst (pc := 35) F (v := (0 : Int32)) dX10_isUnder_35 ci_0 ?_
      exact k_zret (pc := 36) B dX10_isUnder_36
    · refine k_iload_n (pc := 16) F 2 1 dX10_isUnder_16 rfl rfl ?_
      refine k_iload_n (pc := 17) F 1 0 dX10_isUnder_17 rfl rfl ?_
      refine k_icmp_ne (pc := 18) F 23 dX10_isUnder_18 (by decide) (fun _ => ?_) (fun _ => ?_)
      · refine k_iconst (pc := 21) F (v := (1 : Int32)) dX10_isUnder_21 ci_1 ?_
        exact k_zret (pc := 22) B dX10_isUnder_22
      · refine k_sget (pc := 23) F 0 (q := stQ0) rfl w_3_4 dX10_isUnder_23 ?_
        refine k_iload_n (pc := 26) F 2 1 dX10_isUnder_26 rfl rfl ?_
        refine k_sld (pc := 27) F 0 (q := stQ0) rfl dX10_isUnder_27 ?_
        refine k_nmI (fun vq1 => ?_)
        refine k_istore_n F (lv' := [(2, .int vq1), (1, .int xq1), (3, .int xq3)]) 2 dX10_isUnder_28 rfl (by decide) rfl ?_
        refine k_iinc (pc := 29) F (c := (1 : Int32)) (lw := fun wq => [(3, .int wq), (2, .int vq1), (1, .int xq1)]) 3 2 dX10_isUnder_29 rfl ci_1 (by decide) (fun _ => rfl) (fun vq2 => ?_)
        refine k_goto (pc := 32) F 4 dX10_isUnder_32 (by decide) ?_
        exact k_sub [2, 1, 0] rfl (hL4 vq1 vq2 σ)
set_option maxHeartbeats 4000000 in
set_option maxRecDepth 100000 in
theorem t_X10_isUnder_L4 {E : En} {G : Cx} (B : Bx E G cX10_isUnder 4 RX10 H_X10_isUnder (some .boolean)) (xq1 : Int32)   : ∀ (n : Nat) (xq2 : Int32) (xq3 : Int32)  (σ : Mm), KR E G 4 (ZI E G) (fx (fun _ _ _ => none) n (f_X10_isUnder_L4 xq1) xq2 xq3 σ) 4 [(1, .int xq1), (2, .int xq2), (3, .int xq3)] [] σ :=
  fun n => fx_ind (P := fun f => ∀ (xq2 : Int32) (xq3 : Int32)  (σ : Mm), KR E G 4 (ZI E G) (f xq2 xq3 σ) 4 [(1, .int xq1), (2, .int xq2), (3, .int xq3)] [] σ) (fun _ _ _ => k_none) (fun L4 hL4 xq2 xq3 σ => t_X10_isUnder_L4b B xq1   L4 hL4 xq2 xq3 σ) n
set_option maxHeartbeats 4000000 in
set_option maxRecDepth 100000 in
theorem t_X10_isUnder {E : En} {G : Cx} (B : Bx E G cX10_isUnder 4 RX10 H_X10_isUnder (some .boolean)) (aq0 : Int32) (aq1 : Int32)  (σ : Mm) : KR E G 4 (ZI E G) (f_X10_isUnder aq0 aq1 σ) 0 [(0, .int aq0), (1, .int aq1)] [] σ := by
  have F := B.1
  unfold f_X10_isUnder
  refine k_iload_n (pc := 0) F 0 0 dX10_isUnder_0 rfl rfl ?_
  refine k_istore_n F (lv' := [(2, .int aq0), (0, .int aq0), (1, .int aq1)]) 2 dX10_isUnder_1 rfl (by decide) rfl ?_
  refine k_iconst (pc := 2) F (v := (0 : Int32)) dX10_isUnder_2 ci_0 ?_
  refine k_istore_n F (lv' := [(3, .int (0 : Int32)), (2, .int aq0), (0, .int aq0), (1, .int aq1)]) 3 dX10_isUnder_3 rfl (by decide) rfl ?_
  exact k_sub [3, 1, 0] rfl (t_X10_isUnder_L4 B aq1   FU aq0 (0 : Int32)  σ)
set_option maxHeartbeats 4000000 in
set_option maxRecDepth 100000 in
theorem ct_X10_isUnder (E : En) (aq0 : Int32) (aq1 : Int32)  (σ : Mm) : CtI E yX10_isUnder cX10_isUnder 4 (some .boolean) H_X10_isUnder [.int aq0, .int aq1] σ (f_X10_isUnder aq0 aq1 σ) := ct_I (by decide) (Nat.le_of_ble_eq_true rfl) rfl (fun G B => t_X10_isUnder B aq0 aq1  σ)
abbrev H_X10_as : Nat := 2
theorem hR_X10_as_X5_partOf : H_X5_partOf + 1 ≤ H_X10_as ∧ 8 + (4 + 11) + 40 * H_X5_partOf ≤ 40 * H_X10_as := by decide
theorem hR_X10_as_X5_hasStep : H_X5_hasStep + 1 ≤ H_X10_as ∧ 8 + (3 + 11) + 40 * H_X5_hasStep ≤ 40 * H_X10_as := by decide
theorem hR_X10_as_X0_tell : H_X0_tell + 1 ≤ H_X10_as ∧ 8 + (2 + 11) + 40 * H_X0_tell ≤ 40 * H_X10_as := by decide
theorem hR_X10_as_X10_isUnder : H_X10_isUnder + 1 ≤ H_X10_as ∧ 8 + (4 + 11) + 40 * H_X10_isUnder ≤ 40 * H_X10_as := by decide
set_option maxHeartbeats 4000000 in
set_option maxRecDepth 100000 in
theorem t_X10_as {E : En} {G : Cx} (B : Bx E G cX10_as 5 RX10 H_X10_as (some .int)) (aq0 : Int32) (aq1 : Int32) (aq2 : Int32)  (σ : Mm) : KR E G 5 (ZI E G) (f_X10_as aq0 aq1 aq2 σ) 0 [(0, .ref (ad E 0)), (1, .int aq0), (2, .int aq1), (3, .int aq2)] [] σ := by
  have F := B.1
  unfold f_X10_as
  refine k_aload_n (pc := 0) F 0 0 dX10_as_0 rfl rfl ?_
  refine gf_0_4 (pc := 1) F w_2_70 dX10_as_1 ?_
  refine k_iload_n (pc := 4) F 1 1 dX10_as_4 rfl rfl ?_
  refine k_iload_n (pc := 5) F 2 2 dX10_as_5 rfl rfl ?_
  refine k_callVI (pc := 6) B (k := 7) (As := [.int aq0, .int aq1]) (rest := []) (ct_X5_hasStep E aq0 aq1  σ) rfl rfl mv_X5_hasStep w_2_229 rfl hR_X10_as_X5_hasStep rfl (Nat.le_of_ble_eq_true rfl) dX10_as_6 (fun rq2 σ1 hoq => ?_)
  refine k_if_eq (pc := 9) F 24 dX10_as_9 (by decide) (fun _ => ?_) (fun _ => ?_)
  · refine k_aload_n (pc := 24) F 0 0 dX10_as_24 rfl rfl ?_
    refine gf_0_0 (pc := 25) F w_2_66 dX10_as_25 ?_
    refine k_iconst (pc := 28) F (v := (0 : Int32)) dX10_as_28 ci_0 ?_
    refine k_callVI (pc := 29) B (k := 1) (As := [.int (0 : Int32)]) (rest := []) (ct_X0_tell E (0 : Int32)  σ1) rfl rfl mv_X0_tell w_2_98 rfl hR_X10_as_X0_tell rfl (Nat.le_of_ble_eq_true rfl) dX10_as_29 (fun rq4 σ3 hoq => ?_)
    exact k_iret (pc := 32) B dX10_as_32
  · refine k_iload_n (pc := 12) F 3 3 dX10_as_12 rfl rfl ?_
    refine k_if_lt (pc := 13) F 24 dX10_as_13 (by decide) (fun _ => ?_) (fun _ => ?_)
    · refine k_aload_n (pc := 24) F 0 0 dX10_as_24 rfl rfl ?_
      refine gf_0_0 (pc := 25) F w_2_66 dX10_as_25 ?_
      refine k_iconst (pc := 28) F (v := (0 : Int32)) dX10_as_28 ci_0 ?_
      refine k_callVI (pc := 29) B (k := 1) (As := [.int (0 : Int32)]) (rest := []) (ct_X0_tell E (0 : Int32)  σ1) rfl rfl mv_X0_tell w_2_98 rfl hR_X10_as_X0_tell rfl (Nat.le_of_ble_eq_true rfl) dX10_as_29 (fun rq6 σ5 hoq => ?_)
      exact k_iret (pc := 32) B dX10_as_32
    · refine k_iload_n (pc := 16) F 3 3 dX10_as_16 rfl rfl ?_
      refine k_sget (pc := 17) F 0 (q := stQ0) rfl w_3_4 dX10_as_17 ?_
      refine k_slen (pc := 20) F 0 (q := stQ0) rfl (v := (8 : Int32)) cn_8 dX10_as_20 ?_
      refine k_icmp_lt (pc := 21) F 33 dX10_as_21 (by decide) (fun _ => ?_) (fun _ => ?_)
      · refine k_aload_n (pc := 33) F 0 0 dX10_as_33 rfl rfl ?_
        refine gf_0_4 (pc := 34) F w_2_70 dX10_as_34 ?_
        refine k_iload_n (pc := 37) F 1 1 dX10_as_37 rfl rfl ?_
        refine k_iload_n (pc := 38) F 2 2 dX10_as_38 rfl rfl ?_
        refine k_iconst (pc := 39) F (v := (0 : Int32)) dX10_as_39 ci_0 ?_
        refine k_callVI (pc := 40) B (k := 7) (As := [.int aq0, .int aq1, .int (0 : Int32)]) (rest := []) (ct_X5_partOf E aq0 aq1 (0 : Int32)  σ1) rfl rfl mv_X5_partOf w_2_236 rfl hR_X10_as_X5_partOf rfl (Nat.le_of_ble_eq_true rfl) dX10_as_40 (fun rq8 σ7 hoq => ?_)
        refine k_istore F (lv' := [(4, .int rq8), (0, .ref (ad E 0)), (1, .int aq0), (2, .int aq1), (3, .int aq2)]) 4 dX10_as_43 (by decide) rfl ?_
        refine k_iload (pc := 45) F 4 0 dX10_as_45 rfl ?_
        refine k_iload_n (pc := 47) F 3 4 dX10_as_47 rfl rfl ?_
        refine k_callSI (pc := 48) B (As := [.int rq8, .int aq2]) (rest := []) (ct_X10_isUnder E rq8 aq2  σ7) ms_X10_isUnder w_3_6 rfl hR_X10_as_X10_isUnder rfl (Nat.le_of_ble_eq_true rfl) dX10_as_48 (fun rq10 σ9 hoq => ?_)
        refine k_if_eq (pc := 51) F 59 dX10_as_51 (by decide) (fun _ => ?_) (fun _ => ?_)
        · refine k_aload_n (pc := 59) F 0 1 dX10_as_59 rfl rfl ?_
          refine gf_0_0 (pc := 60) F w_2_66 dX10_as_60 ?_
          refine k_iconst (pc := 63) F (v := (2 : Int32)) dX10_as_63 ci_2 ?_
          refine k_callVI (pc := 64) B (k := 1) (As := [.int (2 : Int32)]) (rest := []) (ct_X0_tell E (2 : Int32)  σ9) rfl rfl mv_X0_tell w_2_98 rfl hR_X10_as_X0_tell rfl (Nat.le_of_ble_eq_true rfl) dX10_as_64 (fun rq12 σ11 hoq => ?_)
          exact k_iret (pc := 67) B dX10_as_67
        · refine k_iload (pc := 54) F 4 0 dX10_as_54 rfl ?_
          refine k_goto (pc := 56) F 67 dX10_as_56 (by decide) ?_
          exact k_iret (pc := 67) B dX10_as_67
      · refine k_aload_n (pc := 24) F 0 0 dX10_as_24 rfl rfl ?_
        refine gf_0_0 (pc := 25) F w_2_66 dX10_as_25 ?_
        refine k_iconst (pc := 28) F (v := (0 : Int32)) dX10_as_28 ci_0 ?_
        refine k_callVI (pc := 29) B (k := 1) (As := [.int (0 : Int32)]) (rest := []) (ct_X0_tell E (0 : Int32)  σ1) rfl rfl mv_X0_tell w_2_98 rfl hR_X10_as_X0_tell rfl (Nat.le_of_ble_eq_true rfl) dX10_as_29 (fun rq14 σ13 hoq => ?_)
        exact k_iret (pc := 32) B dX10_as_32
set_option maxHeartbeats 4000000 in
set_option maxRecDepth 100000 in
theorem ct_X10_as (E : En) (aq0 : Int32) (aq1 : Int32) (aq2 : Int32)  (σ : Mm) : CtI E yX10_as cX10_as 5 (some .int) H_X10_as [.ref (ad E 0), .int aq0, .int aq1, .int aq2] σ (f_X10_as aq0 aq1 aq2 σ) := ct_I (by decide) (Nat.le_of_ble_eq_true rfl) rfl (fun G B => t_X10_as B aq0 aq1 aq2  σ)
abbrev H_X10_isValue : Nat := 0
set_option maxHeartbeats 4000000 in
set_option maxRecDepth 100000 in
theorem t_X10_isValue_13 {E : En} {G : Cx} (B : Bx E G cX10_isValue 1 RX10 H_X10_isValue (some .boolean))    (σ : Mm) : KR E G 1 (ZI E G) (f_X10_isValue_13  σ) 13 [] [] σ := by
  have F := B.1
  unfold f_X10_isValue_13
  refine k_iconst (pc := 13) F (v := (0 : Int32)) dX10_isValue_13 ci_0 ?_
  exact k_zret (pc := 14) B dX10_isValue_14
set_option maxHeartbeats 4000000 in
set_option maxRecDepth 100000 in
theorem t_X10_isValue {E : En} {G : Cx} (B : Bx E G cX10_isValue 1 RX10 H_X10_isValue (some .boolean)) (aq0 : Int32)  (σ : Mm) : KR E G 1 (ZI E G) (f_X10_isValue aq0 σ) 0 [(0, .int aq0)] [] σ := by
  have F := B.1
  unfold f_X10_isValue
  refine k_iload_n (pc := 0) F 0 0 dX10_isValue_0 rfl rfl ?_
  refine k_if_lt (pc := 1) F 13 dX10_isValue_1 (by decide) (fun _ => ?_) (fun _ => ?_)
  · exact k_sub [] rfl (t_X10_isValue_13 B    σ)
  · refine k_iload_n (pc := 4) F 0 0 dX10_isValue_4 rfl rfl ?_
    refine k_iconst (pc := 5) F (v := (4 : Int32)) dX10_isValue_5 ci_4 ?_
    refine k_icmp_ge (pc := 6) F 13 dX10_isValue_6 (by decide) (fun _ => ?_) (fun _ => ?_)
    · exact k_sub [] rfl (t_X10_isValue_13 B    σ)
    · refine k_iconst (pc := 9) F (v := (1 : Int32)) dX10_isValue_9 ci_1 ?_
      refine k_goto (pc := 10) F 14 dX10_isValue_10 (by decide) ?_
      exact k_zret (pc := 14) B dX10_isValue_14
set_option maxHeartbeats 4000000 in
set_option maxRecDepth 100000 in
theorem ct_X10_isValue (E : En) (aq0 : Int32)  (σ : Mm) : CtI E yX10_isValue cX10_isValue 1 (some .boolean) H_X10_isValue [.int aq0] σ (f_X10_isValue aq0 σ) := ct_I (by decide) (Nat.le_of_ble_eq_true rfl) rfl (fun G B => t_X10_isValue B aq0  σ)
abbrev H_X10_change : Nat := 2
theorem hR_X10_change_X7_forget : H_X7_forget + 1 ≤ H_X10_change ∧ 8 + (1 + 11) + 40 * H_X7_forget ≤ 40 * H_X10_change := by decide
theorem hR_X10_change_X5_changeablePart : H_X5_changeablePart + 1 ≤ H_X10_change ∧ 8 + (3 + 11) + 40 * H_X5_changeablePart ≤ 40 * H_X10_change := by decide
theorem hR_X10_change_X5_hasStep : H_X5_hasStep + 1 ≤ H_X10_change ∧ 8 + (3 + 11) + 40 * H_X5_hasStep ≤ 40 * H_X10_change := by decide
theorem hR_X10_change_X5_partOf : H_X5_partOf + 1 ≤ H_X10_change ∧ 8 + (4 + 11) + 40 * H_X5_partOf ≤ 40 * H_X10_change := by decide
theorem hR_X10_change_X0_tell : H_X0_tell + 1 ≤ H_X10_change ∧ 8 + (2 + 11) + 40 * H_X0_tell ≤ 40 * H_X10_change := by decide
theorem hR_X10_change_X10_isValue : H_X10_isValue + 1 ≤ H_X10_change ∧ 8 + (1 + 11) + 40 * H_X10_isValue ≤ 40 * H_X10_change := by decide
theorem hR_X10_change_X5_putPart : H_X5_putPart + 1 ≤ H_X10_change ∧ 8 + (5 + 11) + 40 * H_X5_putPart ≤ 40 * H_X10_change := by decide
set_option maxHeartbeats 4000000 in
set_option maxRecDepth 100000 in
theorem t_X10_change {E : En} {G : Cx} (B : Bx E G cX10_change 6 RX10 H_X10_change (some .int)) (aq0 : Int32) (aq1 : Int32) (aq2 : Int32)  (σ : Mm) : KR E G 6 (ZI E G) (f_X10_change aq0 aq1 aq2 σ) 0 [(0, .ref (ad E 0)), (1, .int aq0), (2, .int aq1), (3, .int aq2)] [] σ := by
  have F := B.1
  unfold f_X10_change
  refine k_aload_n (pc := 0) F 0 0 dX10_change_0 rfl rfl ?_
  refine gf_0_4 (pc := 1) F w_2_70 dX10_change_1 ?_
  refine k_iload_n (pc := 4) F 1 1 dX10_change_4 rfl rfl ?_
  refine k_iload_n (pc := 5) F 2 2 dX10_change_5 rfl rfl ?_
  refine k_callVI (pc := 6) B (k := 7) (As := [.int aq0, .int aq1]) (rest := []) (ct_X5_hasStep E aq0 aq1  σ) rfl rfl mv_X5_hasStep w_2_229 rfl hR_X10_change_X5_hasStep rfl (Nat.le_of_ble_eq_true rfl) dX10_change_6 (fun rq2 σ1 hoq => ?_)
  refine k_if_eq (pc := 9) F 19 dX10_change_9 (by decide) (fun _ => ?_) (fun _ => ?_)
  · refine k_aload_n (pc := 19) F 0 0 dX10_change_19 rfl rfl ?_
    refine gf_0_0 (pc := 20) F w_2_66 dX10_change_20 ?_
    refine k_iconst (pc := 23) F (v := (0 : Int32)) dX10_change_23 ci_0 ?_
    refine k_callVI (pc := 24) B (k := 1) (As := [.int (0 : Int32)]) (rest := []) (ct_X0_tell E (0 : Int32)  σ1) rfl rfl mv_X0_tell w_2_98 rfl hR_X10_change_X0_tell rfl (Nat.le_of_ble_eq_true rfl) dX10_change_24 (fun rq4 σ3 hoq => ?_)
    exact k_iret (pc := 27) B dX10_change_27
  · refine k_iload_n (pc := 12) F 3 3 dX10_change_12 rfl rfl ?_
    refine k_callSI (pc := 13) B (As := [.int aq2]) (rest := []) (ct_X10_isValue E aq2  σ1) ms_X10_isValue w_3_13 rfl hR_X10_change_X10_isValue rfl (Nat.le_of_ble_eq_true rfl) dX10_change_13 (fun rq6 σ5 hoq => ?_)
    refine k_if_ne (pc := 16) F 28 dX10_change_16 (by decide) (fun _ => ?_) (fun _ => ?_)
    · refine k_aload_n (pc := 19) F 0 0 dX10_change_19 rfl rfl ?_
      refine gf_0_0 (pc := 20) F w_2_66 dX10_change_20 ?_
      refine k_iconst (pc := 23) F (v := (0 : Int32)) dX10_change_23 ci_0 ?_
      refine k_callVI (pc := 24) B (k := 1) (As := [.int (0 : Int32)]) (rest := []) (ct_X0_tell E (0 : Int32)  σ5) rfl rfl mv_X0_tell w_2_98 rfl hR_X10_change_X0_tell rfl (Nat.le_of_ble_eq_true rfl) dX10_change_24 (fun rq18 σ17 hoq => ?_)
      exact k_iret (pc := 27) B dX10_change_27
    · refine k_aload_n (pc := 28) F 0 0 dX10_change_28 rfl rfl ?_
      refine gf_0_4 (pc := 29) F w_2_70 dX10_change_29 ?_
      refine k_iload_n (pc := 32) F 1 1 dX10_change_32 rfl rfl ?_
      refine k_iload_n (pc := 33) F 2 2 dX10_change_33 rfl rfl ?_
      refine k_callVI (pc := 34) B (k := 7) (As := [.int aq0, .int aq1]) (rest := []) (ct_X5_changeablePart E aq0 aq1  σ5) rfl rfl mv_X5_changeablePart w_3_16 rfl hR_X10_change_X5_changeablePart rfl (Nat.le_of_ble_eq_true rfl) dX10_change_34 (fun rq8 σ7 hoq => ?_)
      refine k_istore F (lv' := [(4, .int rq8), (0, .ref (ad E 0)), (1, .int aq0), (2, .int aq1), (3, .int aq2)]) 4 dX10_change_37 (by decide) rfl ?_
      refine k_iload (pc := 39) F 4 0 dX10_change_39 rfl ?_
      refine k_if_ge (pc := 41) F 53 dX10_change_41 (by decide) (fun _ => ?_) (fun _ => ?_)
      · refine k_aload_n (pc := 53) F 0 1 dX10_change_53 rfl rfl ?_
        refine gf_0_4 (pc := 54) F w_2_70 dX10_change_54 ?_
        refine k_iload_n (pc := 57) F 1 2 dX10_change_57 rfl rfl ?_
        refine k_iload_n (pc := 58) F 2 3 dX10_change_58 rfl rfl ?_
        refine k_iload (pc := 59) F 4 0 dX10_change_59 rfl ?_
        refine k_callVI (pc := 61) B (k := 7) (As := [.int aq0, .int aq1, .int rq8]) (rest := []) (ct_X5_partOf E aq0 aq1 rq8  σ7) rfl rfl mv_X5_partOf w_2_236 rfl hR_X10_change_X5_partOf rfl (Nat.le_of_ble_eq_true rfl) dX10_change_61 (fun rq10 σ9 hoq => ?_)
        refine k_istore F (lv' := [(5, .int rq10), (4, .int rq8), (0, .ref (ad E 0)), (1, .int aq0), (2, .int aq1), (3, .int aq2)]) 5 dX10_change_64 (by decide) rfl ?_
        refine k_aload_n (pc := 66) F 0 2 dX10_change_66 rfl rfl ?_
        refine gf_0_4 (pc := 67) F w_2_70 dX10_change_67 ?_
        refine k_iload_n (pc := 70) F 1 3 dX10_change_70 rfl rfl ?_
        refine k_iload_n (pc := 71) F 2 4 dX10_change_71 rfl rfl ?_
        refine k_iload (pc := 72) F 4 1 dX10_change_72 rfl ?_
        refine k_iload_n (pc := 74) F 3 5 dX10_change_74 rfl rfl ?_
        refine k_callVV (pc := 75) B (k := 7) (As := [.int aq0, .int aq1, .int rq8, .int aq2]) (rest := []) (ct_X5_putPart E aq0 aq1 rq8 aq2  σ9) rfl rfl mv_X5_putPart w_3_21 rfl hR_X10_change_X5_putPart rfl (Nat.le_of_ble_eq_true rfl) dX10_change_75 (fun rq12 σ11 hoq => ?_)
        refine k_aload_n (pc := 78) F 0 2 dX10_change_78 rfl rfl ?_
        refine gf_0_3 (pc := 79) F w_2_69 dX10_change_79 ?_
        refine k_callVV (pc := 82) B (k := 6) (As := []) (rest := []) (ct_X7_forget E   σ11) rfl rfl mv_X7_forget w_2_212 rfl hR_X10_change_X7_forget rfl (Nat.le_of_ble_eq_true rfl) dX10_change_82 (fun rq14 σ13 hoq => ?_)
        refine k_iload (pc := 85) F 5 0 dX10_change_85 rfl ?_
        exact k_iret (pc := 87) B dX10_change_87
      · refine k_aload_n (pc := 44) F 0 1 dX10_change_44 rfl rfl ?_
        refine gf_0_0 (pc := 45) F w_2_66 dX10_change_45 ?_
        refine k_iconst (pc := 48) F (v := (2 : Int32)) dX10_change_48 ci_2 ?_
        refine k_callVI (pc := 49) B (k := 1) (As := [.int (2 : Int32)]) (rest := []) (ct_X0_tell E (2 : Int32)  σ7) rfl rfl mv_X0_tell w_2_98 rfl hR_X10_change_X0_tell rfl (Nat.le_of_ble_eq_true rfl) dX10_change_49 (fun rq16 σ15 hoq => ?_)
        exact k_iret (pc := 52) B dX10_change_52
set_option maxHeartbeats 4000000 in
set_option maxRecDepth 100000 in
theorem ct_X10_change (E : En) (aq0 : Int32) (aq1 : Int32) (aq2 : Int32)  (σ : Mm) : CtI E yX10_change cX10_change 6 (some .int) H_X10_change [.ref (ad E 0), .int aq0, .int aq1, .int aq2] σ (f_X10_change aq0 aq1 aq2 σ) := ct_I (by decide) (Nat.le_of_ble_eq_true rfl) rfl (fun G B => t_X10_change B aq0 aq1 aq2  σ)
abbrev H_X10_cell : Nat := 1
theorem hR_X10_cell_X7_forget : H_X7_forget + 1 ≤ H_X10_cell ∧ 8 + (1 + 11) + 40 * H_X7_forget ≤ 40 * H_X10_cell := by decide
theorem hR_X10_cell_X0_tell : H_X0_tell + 1 ≤ H_X10_cell ∧ 8 + (2 + 11) + 40 * H_X0_tell ≤ 40 * H_X10_cell := by decide
theorem hR_X10_cell_X10_isValue : H_X10_isValue + 1 ≤ H_X10_cell ∧ 8 + (1 + 11) + 40 * H_X10_isValue ≤ 40 * H_X10_cell := by decide
set_option maxHeartbeats 4000000 in
set_option maxRecDepth 100000 in
theorem t_X10_cell {E : En} {G : Cx} (B : Bx E G cX10_cell 4 RX10 H_X10_cell (some .int)) (aq0 : Int32) (aq1 : Int32)  (σ : Mm) : KR E G 4 (ZI E G) (f_X10_cell aq0 aq1 σ) 0 [(0, .ref (ad E 0)), (1, .int aq0), (2, .int aq1)] [] σ := by
  have F := B.1
  unfold f_X10_cell
  refine k_iload_n (pc := 0) F 1 1 dX10_cell_0 rfl rfl ?_
  refine k_if_lt (pc := 1) F 16 dX10_cell_1 (by decide) (fun _ => ?_) (fun _ => ?_)
  · refine k_aload_n (pc := 16) F 0 0 dX10_cell_16 rfl rfl ?_
    refine gf_0_0 (pc := 17) F w_2_66 dX10_cell_17 ?_
    refine k_iconst (pc := 20) F (v := (0 : Int32)) dX10_cell_20 ci_0 ?_
    refine k_callVI (pc := 21) B (k := 1) (As := [.int (0 : Int32)]) (rest := []) (ct_X0_tell E (0 : Int32)  σ) rfl rfl mv_X0_tell w_2_98 rfl hR_X10_cell_X0_tell rfl (Nat.le_of_ble_eq_true rfl) dX10_cell_21 (fun rq2 σ1 hoq => ?_)
    exact k_iret (pc := 24) B dX10_cell_24
  · refine k_iload_n (pc := 4) F 1 1 dX10_cell_4 rfl rfl ?_
    refine k_iconst (pc := 5) F (v := (3 : Int32)) dX10_cell_5 ci_3 ?_
    refine k_icmp_ge (pc := 6) F 16 dX10_cell_6 (by decide) (fun _ => ?_) (fun _ => ?_)
    · refine k_aload_n (pc := 16) F 0 0 dX10_cell_16 rfl rfl ?_
      refine gf_0_0 (pc := 17) F w_2_66 dX10_cell_17 ?_
      refine k_iconst (pc := 20) F (v := (0 : Int32)) dX10_cell_20 ci_0 ?_
      refine k_callVI (pc := 21) B (k := 1) (As := [.int (0 : Int32)]) (rest := []) (ct_X0_tell E (0 : Int32)  σ) rfl rfl mv_X0_tell w_2_98 rfl hR_X10_cell_X0_tell rfl (Nat.le_of_ble_eq_true rfl) dX10_cell_21 (fun rq4 σ3 hoq => ?_)
      exact k_iret (pc := 24) B dX10_cell_24
    · refine k_iload_n (pc := 9) F 2 2 dX10_cell_9 rfl rfl ?_
      refine k_callSI (pc := 10) B (As := [.int aq1]) (rest := []) (ct_X10_isValue E aq1  σ) ms_X10_isValue w_3_13 rfl hR_X10_cell_X10_isValue rfl (Nat.le_of_ble_eq_true rfl) dX10_cell_10 (fun rq6 σ5 hoq => ?_)
      refine k_if_ne (pc := 13) F 25 dX10_cell_13 (by decide) (fun _ => ?_) (fun _ => ?_)
      · refine k_aload_n (pc := 16) F 0 0 dX10_cell_16 rfl rfl ?_
        refine gf_0_0 (pc := 17) F w_2_66 dX10_cell_17 ?_
        refine k_iconst (pc := 20) F (v := (0 : Int32)) dX10_cell_20 ci_0 ?_
        refine k_callVI (pc := 21) B (k := 1) (As := [.int (0 : Int32)]) (rest := []) (ct_X0_tell E (0 : Int32)  σ5) rfl rfl mv_X0_tell w_2_98 rfl hR_X10_cell_X0_tell rfl (Nat.le_of_ble_eq_true rfl) dX10_cell_21 (fun rq12 σ11 hoq => ?_)
        exact k_iret (pc := 24) B dX10_cell_24
      · refine k_aload_n (pc := 25) F 0 0 dX10_cell_25 rfl rfl ?_
        refine gf_0_4 (pc := 26) F w_2_70 dX10_cell_26 ?_
        refine gf_7_6 (pc := 29) F w_1_117 dX10_cell_29 ?_
        refine k_iload_n (pc := 32) F 1 1 dX10_cell_32 rfl rfl ?_
        refine k_iald (pc := 33) F rfl dX10_cell_33 ?_
        refine k_nmI (fun vq7 => ?_)
        refine k_istore_n F (lv' := [(3, .int vq7), (0, .ref (ad E 0)), (1, .int aq0), (2, .int aq1)]) 3 dX10_cell_34 rfl (by decide) rfl ?_
        refine k_aload_n (pc := 35) F 0 1 dX10_cell_35 rfl rfl ?_
        refine gf_0_4 (pc := 36) F w_2_70 dX10_cell_36 ?_
        refine gf_7_6 (pc := 39) F w_1_117 dX10_cell_39 ?_
        refine k_iload_n (pc := 42) F 1 2 dX10_cell_42 rfl rfl ?_
        refine k_iload_n (pc := 43) F 2 3 dX10_cell_43 rfl rfl ?_
        refine k_iast (pc := 44) F rfl dX10_cell_44 (fun σ8 => ?_)
        refine k_aload_n (pc := 45) F 0 1 dX10_cell_45 rfl rfl ?_
        refine gf_0_3 (pc := 46) F w_2_69 dX10_cell_46 ?_
        refine k_callVV (pc := 49) B (k := 6) (As := []) (rest := []) (ct_X7_forget E   σ8) rfl rfl mv_X7_forget w_2_212 rfl hR_X10_cell_X7_forget rfl (Nat.le_of_ble_eq_true rfl) dX10_cell_49 (fun rq10 σ9 hoq => ?_)
        refine k_iload_n (pc := 52) F 3 0 dX10_cell_52 rfl rfl ?_
        exact k_iret (pc := 53) B dX10_cell_53
set_option maxHeartbeats 4000000 in
set_option maxRecDepth 100000 in
theorem ct_X10_cell (E : En) (aq0 : Int32) (aq1 : Int32)  (σ : Mm) : CtI E yX10_cell cX10_cell 4 (some .int) H_X10_cell [.ref (ad E 0), .int aq0, .int aq1] σ (f_X10_cell aq0 aq1 σ) := ct_I (by decide) (Nat.le_of_ble_eq_true rfl) rfl (fun G B => t_X10_cell B aq0 aq1  σ)
abbrev H_X10_machine : Nat := 1
theorem hR_X10_machine_X7_forget : H_X7_forget + 1 ≤ H_X10_machine ∧ 8 + (1 + 11) + 40 * H_X7_forget ≤ 40 * H_X10_machine := by decide
theorem hR_X10_machine_X0_tell : H_X0_tell + 1 ≤ H_X10_machine ∧ 8 + (2 + 11) + 40 * H_X0_tell ≤ 40 * H_X10_machine := by decide
set_option maxHeartbeats 4000000 in
set_option maxRecDepth 100000 in
theorem t_X10_machine {E : En} {G : Cx} (B : Bx E G cX10_machine 3 RX10 H_X10_machine (some .int)) (aq0 : Int32)  (σ : Mm) : KR E G 3 (ZI E G) (f_X10_machine aq0 σ) 0 [(0, .ref (ad E 0)), (1, .int aq0)] [] σ := by
  have F := B.1
  unfold f_X10_machine
  refine k_iload_n (pc := 0) F 1 1 dX10_machine_0 rfl rfl ?_
  refine k_if_lt (pc := 1) F 9 dX10_machine_1 (by decide) (fun _ => ?_) (fun _ => ?_)
  · refine k_aload_n (pc := 9) F 0 0 dX10_machine_9 rfl rfl ?_
    refine gf_0_0 (pc := 10) F w_2_66 dX10_machine_10 ?_
    refine k_iconst (pc := 13) F (v := (0 : Int32)) dX10_machine_13 ci_0 ?_
    refine k_callVI (pc := 14) B (k := 1) (As := [.int (0 : Int32)]) (rest := []) (ct_X0_tell E (0 : Int32)  σ) rfl rfl mv_X0_tell w_2_98 rfl hR_X10_machine_X0_tell rfl (Nat.le_of_ble_eq_true rfl) dX10_machine_14 (fun rq2 σ1 hoq => ?_)
    exact k_iret (pc := 17) B dX10_machine_17
  · refine k_iload_n (pc := 4) F 1 1 dX10_machine_4 rfl rfl ?_
    refine k_iconst (pc := 5) F (v := (1 : Int32)) dX10_machine_5 ci_1 ?_
    refine k_icmp_le (pc := 6) F 18 dX10_machine_6 (by decide) (fun _ => ?_) (fun _ => ?_)
    · refine k_aload_n (pc := 18) F 0 0 dX10_machine_18 rfl rfl ?_
      refine gf_0_4 (pc := 19) F w_2_70 dX10_machine_19 ?_
      refine gf_7_7 (pc := 22) F w_1_120 dX10_machine_22 ?_
      refine k_nmI (fun vq3 => ?_)
      refine k_istore_n F (lv' := [(2, .int vq3), (0, .ref (ad E 0)), (1, .int aq0)]) 2 dX10_machine_25 rfl (by decide) rfl ?_
      refine k_aload_n (pc := 26) F 0 1 dX10_machine_26 rfl rfl ?_
      refine gf_0_4 (pc := 27) F w_2_70 dX10_machine_27 ?_
      refine k_iload_n (pc := 30) F 1 2 dX10_machine_30 rfl rfl ?_
      refine pf_7_7 (pc := 31) F w_1_120 dX10_machine_31 (fun σ4 => ?_)
      refine k_aload_n (pc := 34) F 0 1 dX10_machine_34 rfl rfl ?_
      refine gf_0_3 (pc := 35) F w_2_69 dX10_machine_35 ?_
      refine k_callVV (pc := 38) B (k := 6) (As := []) (rest := []) (ct_X7_forget E   σ4) rfl rfl mv_X7_forget w_2_212 rfl hR_X10_machine_X7_forget rfl (Nat.le_of_ble_eq_true rfl) dX10_machine_38 (fun rq6 σ5 hoq => ?_)
      refine k_iload_n (pc := 41) F 2 0 dX10_machine_41 rfl rfl ?_
      exact k_iret (pc := 42) B dX10_machine_42
    · refine k_aload_n (pc := 9) F 0 0 dX10_machine_9 rfl rfl ?_
      refine gf_0_0 (pc := 10) F w_2_66 dX10_machine_10 ?_
      refine k_iconst (pc := 13) F (v := (0 : Int32)) dX10_machine_13 ci_0 ?_
      refine k_callVI (pc := 14) B (k := 1) (As := [.int (0 : Int32)]) (rest := []) (ct_X0_tell E (0 : Int32)  σ) rfl rfl mv_X0_tell w_2_98 rfl hR_X10_machine_X0_tell rfl (Nat.le_of_ble_eq_true rfl) dX10_machine_14 (fun rq8 σ7 hoq => ?_)
      exact k_iret (pc := 17) B dX10_machine_17
set_option maxHeartbeats 4000000 in
set_option maxRecDepth 100000 in
theorem ct_X10_machine (E : En) (aq0 : Int32)  (σ : Mm) : CtI E yX10_machine cX10_machine 3 (some .int) H_X10_machine [.ref (ad E 0), .int aq0] σ (f_X10_machine aq0 σ) := ct_I (by decide) (Nat.le_of_ble_eq_true rfl) rfl (fun G B => t_X10_machine B aq0  σ)
