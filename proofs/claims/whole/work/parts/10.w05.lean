abbrev H_X10_hand : Nat := 1
theorem hR_X10_hand_X5_hasCall : H_X5_hasCall + 1 ≤ H_X10_hand ∧ 8 + (2 + 11) + 40 * H_X5_hasCall ≤ 40 * H_X10_hand := by decide
theorem hR_X10_hand_X7_forget : H_X7_forget + 1 ≤ H_X10_hand ∧ 8 + (1 + 11) + 40 * H_X7_forget ≤ 40 * H_X10_hand := by decide
theorem hR_X10_hand_X0_tell : H_X0_tell + 1 ≤ H_X10_hand ∧ 8 + (2 + 11) + 40 * H_X0_tell ≤ 40 * H_X10_hand := by decide
set_option maxHeartbeats 4000000 in
set_option maxRecDepth 100000 in
theorem t_X10_hand_36 {E : En} {G : Cx} (B : Bx E G cX10_hand 3 RX10 H_X10_hand (some .int)) (xq1 : Int32) (xq2 : Int32)   (σ : Mm) : KR E G 3 (ZI E G) (f_X10_hand_36 xq1 xq2 σ) 36 [(0, .ref (ad E 0)), (1, .int xq1), (2, .int xq2)] [] σ := by
  have F := B.1
  unfold f_X10_hand_36
  refine k_aload_n (pc := 36) F 0 0 dX10_hand_36 rfl rfl ?_
  refine gf_0_4 (pc := 37) F w_2_70 dX10_hand_37 ?_
  refine gf_7_3 (pc := 40) F w_1_108 dX10_hand_40 ?_
  refine k_iconst (pc := 43) F (v := (3 : Int32)) dX10_hand_43 ci_3 ?_
  refine k_icmp_lt (pc := 44) F 56 dX10_hand_44 (by decide) (fun _ => ?_) (fun _ => ?_)
  · refine k_aload_n (pc := 56) F 0 0 dX10_hand_56 rfl rfl ?_
    refine gf_0_4 (pc := 57) F w_2_70 dX10_hand_57 ?_
    refine gf_7_4 (pc := 60) F w_1_111 dX10_hand_60 ?_
    refine k_aload_n (pc := 63) F 0 0 dX10_hand_63 rfl rfl ?_
    refine gf_0_4 (pc := 64) F w_2_70 dX10_hand_64 ?_
    refine gf_7_3 (pc := 67) F w_1_108 dX10_hand_67 ?_
    refine k_iload_n (pc := 70) F 1 1 dX10_hand_70 rfl rfl ?_
    refine k_iast (pc := 71) F rfl dX10_hand_71 (fun σ5 => ?_)
    refine k_aload_n (pc := 72) F 0 0 dX10_hand_72 rfl rfl ?_
    refine gf_0_4 (pc := 73) F w_2_70 dX10_hand_73 ?_
    refine gf_7_5 (pc := 76) F w_1_114 dX10_hand_76 ?_
    refine k_aload_n (pc := 79) F 0 0 dX10_hand_79 rfl rfl ?_
    refine gf_0_4 (pc := 80) F w_2_70 dX10_hand_80 ?_
    refine gf_7_3 (pc := 83) F w_1_108 dX10_hand_83 ?_
    refine k_iload_n (pc := 86) F 2 2 dX10_hand_86 rfl rfl ?_
    refine k_iast (pc := 87) F rfl dX10_hand_87 (fun σ6 => ?_)
    refine k_aload_n (pc := 88) F 0 0 dX10_hand_88 rfl rfl ?_
    refine gf_0_4 (pc := 89) F w_2_70 dX10_hand_89 ?_
    refine k_dup (pc := 92) F dX10_hand_92 rfl ?_
    refine gf_7_3 (pc := 93) F w_1_108 dX10_hand_93 ?_
    refine k_iconst (pc := 96) F (v := (1 : Int32)) dX10_hand_96 ci_1 ?_
    refine k_iadd (pc := 97) F dX10_hand_97 ?_
    refine pf_7_3 (pc := 98) F w_1_108 dX10_hand_98 (fun σ7 => ?_)
    refine k_aload_n (pc := 101) F 0 0 dX10_hand_101 rfl rfl ?_
    refine gf_0_3 (pc := 102) F w_2_69 dX10_hand_102 ?_
    refine k_callVV (pc := 105) B (k := 6) (As := []) (rest := []) (ct_X7_forget E   σ7) rfl rfl mv_X7_forget w_2_212 rfl hR_X10_hand_X7_forget rfl (Nat.le_of_ble_eq_true rfl) dX10_hand_105 (fun rq9 σ8 hoq => ?_)
    refine k_aload_n (pc := 108) F 0 0 dX10_hand_108 rfl rfl ?_
    refine gf_0_4 (pc := 109) F w_2_70 dX10_hand_109 ?_
    refine gf_7_3 (pc := 112) F w_1_108 dX10_hand_112 ?_
    refine k_iconst (pc := 115) F (v := (1 : Int32)) dX10_hand_115 ci_1 ?_
    refine k_isub (pc := 116) F dX10_hand_116 ?_
    exact k_iret (pc := 117) B dX10_hand_117
  · refine k_aload_n (pc := 47) F 0 0 dX10_hand_47 rfl rfl ?_
    refine gf_0_0 (pc := 48) F w_2_66 dX10_hand_48 ?_
    refine k_iconst (pc := 51) F (v := (1 : Int32)) dX10_hand_51 ci_1 ?_
    refine k_callVI (pc := 52) B (k := 1) (As := [.int (1 : Int32)]) (rest := []) (ct_X0_tell E (1 : Int32)  σ) rfl rfl mv_X0_tell w_2_98 rfl hR_X10_hand_X0_tell rfl (Nat.le_of_ble_eq_true rfl) dX10_hand_52 (fun rq11 σ10 hoq => ?_)
    exact k_iret (pc := 55) B dX10_hand_55
set_option maxHeartbeats 4000000 in
set_option maxRecDepth 100000 in
theorem t_X10_hand {E : En} {G : Cx} (B : Bx E G cX10_hand 3 RX10 H_X10_hand (some .int)) (aq0 : Int32) (aq1 : Int32)  (σ : Mm) : KR E G 3 (ZI E G) (f_X10_hand aq0 aq1 σ) 0 [(0, .ref (ad E 0)), (1, .int aq0), (2, .int aq1)] [] σ := by
  have F := B.1
  unfold f_X10_hand
  refine k_aload_n (pc := 0) F 0 0 dX10_hand_0 rfl rfl ?_
  refine gf_0_4 (pc := 1) F w_2_70 dX10_hand_1 ?_
  refine k_iload_n (pc := 4) F 1 1 dX10_hand_4 rfl rfl ?_
  refine k_callVI (pc := 5) B (k := 7) (As := [.int aq0]) (rest := []) (ct_X5_hasCall E aq0  σ) rfl rfl mv_X5_hasCall w_2_221 rfl hR_X10_hand_X5_hasCall rfl (Nat.le_of_ble_eq_true rfl) dX10_hand_5 (fun rq2 σ1 hoq => ?_)
  refine k_if_eq (pc := 8) F 27 dX10_hand_8 (by decide) (fun _ => ?_) (fun _ => ?_)
  · refine k_aload_n (pc := 27) F 0 0 dX10_hand_27 rfl rfl ?_
    refine gf_0_0 (pc := 28) F w_2_66 dX10_hand_28 ?_
    refine k_iconst (pc := 31) F (v := (0 : Int32)) dX10_hand_31 ci_0 ?_
    refine k_callVI (pc := 32) B (k := 1) (As := [.int (0 : Int32)]) (rest := []) (ct_X0_tell E (0 : Int32)  σ1) rfl rfl mv_X0_tell w_2_98 rfl hR_X10_hand_X0_tell rfl (Nat.le_of_ble_eq_true rfl) dX10_hand_32 (fun rq4 σ3 hoq => ?_)
    exact k_iret (pc := 35) B dX10_hand_35
  · refine k_iload_n (pc := 11) F 2 2 dX10_hand_11 rfl rfl ?_
    refine k_iconst (pc := 12) F (v := (-1 : Int32)) dX10_hand_12 ci_m1 ?_
    refine k_icmp_eq (pc := 13) F 36 dX10_hand_13 (by decide) (fun _ => ?_) (fun _ => ?_)
    · exact k_sub [0, 1, 2] rfl (t_X10_hand_36 B aq0 aq1   σ1)
    · refine k_aload_n (pc := 16) F 0 0 dX10_hand_16 rfl rfl ?_
      refine gf_0_4 (pc := 17) F w_2_70 dX10_hand_17 ?_
      refine k_iload_n (pc := 20) F 2 2 dX10_hand_20 rfl rfl ?_
      refine k_callVI (pc := 21) B (k := 7) (As := [.int aq1]) (rest := []) (ct_X5_hasCall E aq1  σ1) rfl rfl mv_X5_hasCall w_2_221 rfl hR_X10_hand_X5_hasCall rfl (Nat.le_of_ble_eq_true rfl) dX10_hand_21 (fun rq13 σ12 hoq => ?_)
      refine k_if_ne (pc := 24) F 36 dX10_hand_24 (by decide) (fun _ => ?_) (fun _ => ?_)
      · refine k_aload_n (pc := 27) F 0 0 dX10_hand_27 rfl rfl ?_
        refine gf_0_0 (pc := 28) F w_2_66 dX10_hand_28 ?_
        refine k_iconst (pc := 31) F (v := (0 : Int32)) dX10_hand_31 ci_0 ?_
        refine k_callVI (pc := 32) B (k := 1) (As := [.int (0 : Int32)]) (rest := []) (ct_X0_tell E (0 : Int32)  σ12) rfl rfl mv_X0_tell w_2_98 rfl hR_X10_hand_X0_tell rfl (Nat.le_of_ble_eq_true rfl) dX10_hand_32 (fun rq15 σ14 hoq => ?_)
        exact k_iret (pc := 35) B dX10_hand_35
      · exact k_sub [0, 1, 2] rfl (t_X10_hand_36 B aq0 aq1   σ12)
set_option maxHeartbeats 4000000 in
set_option maxRecDepth 100000 in
theorem ct_X10_hand (E : En) (aq0 : Int32) (aq1 : Int32)  (σ : Mm) : CtI E yX10_hand cX10_hand 3 (some .int) H_X10_hand [.ref (ad E 0), .int aq0, .int aq1] σ (f_X10_hand aq0 aq1 σ) := ct_I (by decide) (Nat.le_of_ble_eq_true rfl) rfl (fun G B => t_X10_hand B aq0 aq1  σ)
abbrev H_X10_clear : Nat := 1
theorem hR_X10_clear_X7_forget : H_X7_forget + 1 ≤ H_X10_clear ∧ 8 + (1 + 11) + 40 * H_X7_forget ≤ 40 * H_X10_clear := by decide
set_option maxHeartbeats 4000000 in
set_option maxRecDepth 100000 in
theorem t_X10_clear {E : En} {G : Cx} (B : Bx E G cX10_clear 2 RX10 H_X10_clear (some .int))   (σ : Mm) : KR E G 2 (ZI E G) (f_X10_clear  σ) 0 [(0, .ref (ad E 0))] [] σ := by
  have F := B.1
  unfold f_X10_clear
  refine k_aload_n (pc := 0) F 0 0 dX10_clear_0 rfl rfl ?_
  refine gf_0_4 (pc := 1) F w_2_70 dX10_clear_1 ?_
  refine gf_7_3 (pc := 4) F w_1_108 dX10_clear_4 ?_
  refine k_nmI (fun vq1 => ?_)
  refine k_istore_n F (lv' := [(1, .int vq1), (0, .ref (ad E 0))]) 1 dX10_clear_7 rfl (by decide) rfl ?_
  refine k_aload_n (pc := 8) F 0 1 dX10_clear_8 rfl rfl ?_
  refine gf_0_4 (pc := 9) F w_2_70 dX10_clear_9 ?_
  refine k_iconst (pc := 12) F (v := (0 : Int32)) dX10_clear_12 ci_0 ?_
  refine pf_7_3 (pc := 13) F w_1_108 dX10_clear_13 (fun σ2 => ?_)
  refine k_aload_n (pc := 16) F 0 1 dX10_clear_16 rfl rfl ?_
  refine gf_0_3 (pc := 17) F w_2_69 dX10_clear_17 ?_
  refine k_callVV (pc := 20) B (k := 6) (As := []) (rest := []) (ct_X7_forget E   σ2) rfl rfl mv_X7_forget w_2_212 rfl hR_X10_clear_X7_forget rfl (Nat.le_of_ble_eq_true rfl) dX10_clear_20 (fun rq4 σ3 hoq => ?_)
  refine k_iload_n (pc := 23) F 1 0 dX10_clear_23 rfl rfl ?_
  exact k_iret (pc := 24) B dX10_clear_24
set_option maxHeartbeats 4000000 in
set_option maxRecDepth 100000 in
theorem ct_X10_clear (E : En)   (σ : Mm) : CtI E yX10_clear cX10_clear 2 (some .int) H_X10_clear [.ref (ad E 0)] σ (f_X10_clear  σ) := ct_I (by decide) (Nat.le_of_ble_eq_true rfl) rfl (fun G B => t_X10_clear B   σ)
abbrev H_X10_states : Nat := 6
theorem hR_X10_states_X7_isTooLarge : H_X7_isTooLarge + 1 ≤ H_X10_states ∧ 8 + (1 + 11) + 40 * H_X7_isTooLarge ≤ 40 * H_X10_states := by decide
theorem hR_X10_states_X0_tell : H_X0_tell + 1 ≤ H_X10_states ∧ 8 + (2 + 11) + 40 * H_X0_tell ≤ 40 * H_X10_states := by decide
set_option maxHeartbeats 4000000 in
set_option maxRecDepth 100000 in
theorem t_X10_states {E : En} {G : Cx} (B : Bx E G cX10_states 1 RX10 H_X10_states (some .int))   (σ : Mm) : KR E G 1 (ZI E G) (f_X10_states  σ) 0 [(0, .ref (ad E 0))] [] σ := by
  have F := B.1
  unfold f_X10_states
  refine k_aload_n (pc := 0) F 0 0 dX10_states_0 rfl rfl ?_
  refine gf_0_3 (pc := 1) F w_2_69 dX10_states_1 ?_
  refine k_callVI (pc := 4) B (k := 6) (As := []) (rest := []) (ct_X7_isTooLarge E   σ) rfl rfl mv_X7_isTooLarge w_3_42 rfl hR_X10_states_X7_isTooLarge rfl (Nat.le_of_ble_eq_true rfl) dX10_states_4 (fun rq2 σ1 hoq => ?_)
  refine k_if_eq (pc := 7) F 22 dX10_states_7 (by decide) (fun _ => ?_) (fun _ => ?_)
  · refine k_aload_n (pc := 22) F 0 0 dX10_states_22 rfl rfl ?_
    refine gf_0_3 (pc := 23) F w_2_69 dX10_states_23 ?_
    refine gf_6_2 (pc := 26) F w_1_236 dX10_states_26 ?_
    refine gf_18_7 (pc := 29) F w_1_187 dX10_states_29 ?_
    exact k_iret (pc := 32) B dX10_states_32
  · refine k_aload_n (pc := 10) F 0 0 dX10_states_10 rfl rfl ?_
    refine gf_0_0 (pc := 11) F w_2_66 dX10_states_11 ?_
    refine k_bipush (pc := 14) F (v := (6 : Int32)) dX10_states_14 cb_6 ?_
    refine k_callVI (pc := 16) B (k := 1) (As := [.int (6 : Int32)]) (rest := []) (ct_X0_tell E (6 : Int32)  σ1) rfl rfl mv_X0_tell w_2_98 rfl hR_X10_states_X0_tell rfl (Nat.le_of_ble_eq_true rfl) dX10_states_16 (fun rq4 σ3 hoq => ?_)
    refine k_goto (pc := 19) F 32 dX10_states_19 (by decide) ?_
    exact k_iret (pc := 32) B dX10_states_32
set_option maxHeartbeats 4000000 in
set_option maxRecDepth 100000 in
theorem ct_X10_states (E : En)   (σ : Mm) : CtI E yX10_states cX10_states 1 (some .int) H_X10_states [.ref (ad E 0)] σ (f_X10_states  σ) := ct_I (by decide) (Nat.le_of_ble_eq_true rfl) rfl (fun G B => t_X10_states B   σ)
abbrev H_X10_ends : Nat := 6
theorem hR_X10_ends_X7_isTooLarge : H_X7_isTooLarge + 1 ≤ H_X10_ends ∧ 8 + (1 + 11) + 40 * H_X7_isTooLarge ≤ 40 * H_X10_ends := by decide
theorem hR_X10_ends_X0_tell : H_X0_tell + 1 ≤ H_X10_ends ∧ 8 + (2 + 11) + 40 * H_X0_tell ≤ 40 * H_X10_ends := by decide
set_option maxHeartbeats 4000000 in
set_option maxRecDepth 100000 in
theorem t_X10_ends {E : En} {G : Cx} (B : Bx E G cX10_ends 1 RX10 H_X10_ends (some .int))   (σ : Mm) : KR E G 1 (ZI E G) (f_X10_ends  σ) 0 [(0, .ref (ad E 0))] [] σ := by
  have F := B.1
  unfold f_X10_ends
  refine k_aload_n (pc := 0) F 0 0 dX10_ends_0 rfl rfl ?_
  refine gf_0_3 (pc := 1) F w_2_69 dX10_ends_1 ?_
  refine k_callVI (pc := 4) B (k := 6) (As := []) (rest := []) (ct_X7_isTooLarge E   σ) rfl rfl mv_X7_isTooLarge w_3_42 rfl hR_X10_ends_X7_isTooLarge rfl (Nat.le_of_ble_eq_true rfl) dX10_ends_4 (fun rq2 σ1 hoq => ?_)
  refine k_if_eq (pc := 7) F 22 dX10_ends_7 (by decide) (fun _ => ?_) (fun _ => ?_)
  · refine k_aload_n (pc := 22) F 0 0 dX10_ends_22 rfl rfl ?_
    refine gf_0_3 (pc := 23) F w_2_69 dX10_ends_23 ?_
    refine gf_6_3 (pc := 26) F w_1_238 dX10_ends_26 ?_
    refine gf_isRow_1 (pc := 29) F isRow_26 w_1_225 dX10_ends_29 ?_
    exact k_iret (pc := 32) B dX10_ends_32
  · refine k_aload_n (pc := 10) F 0 0 dX10_ends_10 rfl rfl ?_
    refine gf_0_0 (pc := 11) F w_2_66 dX10_ends_11 ?_
    refine k_bipush (pc := 14) F (v := (6 : Int32)) dX10_ends_14 cb_6 ?_
    refine k_callVI (pc := 16) B (k := 1) (As := [.int (6 : Int32)]) (rest := []) (ct_X0_tell E (6 : Int32)  σ1) rfl rfl mv_X0_tell w_2_98 rfl hR_X10_ends_X0_tell rfl (Nat.le_of_ble_eq_true rfl) dX10_ends_16 (fun rq4 σ3 hoq => ?_)
    refine k_goto (pc := 19) F 32 dX10_ends_19 (by decide) ?_
    exact k_iret (pc := 32) B dX10_ends_32
set_option maxHeartbeats 4000000 in
set_option maxRecDepth 100000 in
theorem ct_X10_ends (E : En)   (σ : Mm) : CtI E yX10_ends cX10_ends 1 (some .int) H_X10_ends [.ref (ad E 0)] σ (f_X10_ends  σ) := ct_I (by decide) (Nat.le_of_ble_eq_true rfl) rfl (fun G B => t_X10_ends B   σ)
abbrev H_X10_result : Nat := 6
theorem hR_X10_result_X7_isTooLarge : H_X7_isTooLarge + 1 ≤ H_X10_result ∧ 8 + (1 + 11) + 40 * H_X7_isTooLarge ≤ 40 * H_X10_result := by decide
theorem hR_X10_result_X0_tell : H_X0_tell + 1 ≤ H_X10_result ∧ 8 + (2 + 11) + 40 * H_X0_tell ≤ 40 * H_X10_result := by decide
set_option maxHeartbeats 4000000 in
set_option maxRecDepth 100000 in
theorem t_X10_result {E : En} {G : Cx} (B : Bx E G cX10_result 2 RX10 H_X10_result (some .int)) (aq0 : Int32)  (σ : Mm) : KR E G 2 (ZI E G) (f_X10_result aq0 σ) 0 [(0, .ref (ad E 0)), (1, .int aq0)] [] σ := by
  have F := B.1
  unfold f_X10_result
  refine k_iload_n (pc := 0) F 1 1 dX10_result_0 rfl rfl ?_
  refine k_if_ge (pc := 1) F 13 dX10_result_1 (by decide) (fun _ => ?_) (fun _ => ?_)
  · refine k_aload_n (pc := 13) F 0 0 dX10_result_13 rfl rfl ?_
    refine gf_0_3 (pc := 14) F w_2_69 dX10_result_14 ?_
    refine k_callVI (pc := 17) B (k := 6) (As := []) (rest := []) (ct_X7_isTooLarge E   σ) rfl rfl mv_X7_isTooLarge w_3_42 rfl hR_X10_result_X7_isTooLarge rfl (Nat.le_of_ble_eq_true rfl) dX10_result_17 (fun rq2 σ1 hoq => ?_)
    refine k_if_eq (pc := 20) F 33 dX10_result_20 (by decide) (fun _ => ?_) (fun _ => ?_)
    · refine k_iload_n (pc := 33) F 1 1 dX10_result_33 rfl rfl ?_
      refine k_aload_n (pc := 34) F 0 0 dX10_result_34 rfl rfl ?_
      refine gf_0_3 (pc := 35) F w_2_69 dX10_result_35 ?_
      refine gf_6_3 (pc := 38) F w_1_238 dX10_result_38 ?_
      refine gf_isRow_1 (pc := 41) F isRow_26 w_1_225 dX10_result_41 ?_
      refine k_icmp_ge (pc := 44) F 62 dX10_result_44 (by decide) (fun _ => ?_) (fun _ => ?_)
      · refine k_aload_n (pc := 62) F 0 0 dX10_result_62 rfl rfl ?_
        refine gf_0_0 (pc := 63) F w_2_66 dX10_result_63 ?_
        refine k_iconst (pc := 66) F (v := (3 : Int32)) dX10_result_66 ci_3 ?_
        refine k_callVI (pc := 67) B (k := 1) (As := [.int (3 : Int32)]) (rest := []) (ct_X0_tell E (3 : Int32)  σ1) rfl rfl mv_X0_tell w_2_98 rfl hR_X10_result_X0_tell rfl (Nat.le_of_ble_eq_true rfl) dX10_result_67 (fun rq4 σ3 hoq => ?_)
        exact k_iret (pc := 70) B dX10_result_70
      · refine k_aload_n (pc := 47) F 0 0 dX10_result_47 rfl rfl ?_
        refine gf_0_3 (pc := 48) F w_2_69 dX10_result_48 ?_
        refine gf_6_3 (pc := 51) F w_1_238 dX10_result_51 ?_
        refine gf_isRow_0 (pc := 54) F isRow_26 w_1_221 dX10_result_54 ?_
        refine k_iload_n (pc := 57) F 1 1 dX10_result_57 rfl rfl ?_
        refine k_iald (pc := 58) F rfl dX10_result_58 ?_
        refine k_goto (pc := 59) F 70 dX10_result_59 (by decide) ?_
        exact k_iret (pc := 70) B dX10_result_70
    · refine k_aload_n (pc := 23) F 0 0 dX10_result_23 rfl rfl ?_
      refine gf_0_0 (pc := 24) F w_2_66 dX10_result_24 ?_
      refine k_bipush (pc := 27) F (v := (6 : Int32)) dX10_result_27 cb_6 ?_
      refine k_callVI (pc := 29) B (k := 1) (As := [.int (6 : Int32)]) (rest := []) (ct_X0_tell E (6 : Int32)  σ1) rfl rfl mv_X0_tell w_2_98 rfl hR_X10_result_X0_tell rfl (Nat.le_of_ble_eq_true rfl) dX10_result_29 (fun rq6 σ5 hoq => ?_)
      exact k_iret (pc := 32) B dX10_result_32
  · refine k_aload_n (pc := 4) F 0 0 dX10_result_4 rfl rfl ?_
    refine gf_0_0 (pc := 5) F w_2_66 dX10_result_5 ?_
    refine k_iconst (pc := 8) F (v := (0 : Int32)) dX10_result_8 ci_0 ?_
    refine k_callVI (pc := 9) B (k := 1) (As := [.int (0 : Int32)]) (rest := []) (ct_X0_tell E (0 : Int32)  σ) rfl rfl mv_X0_tell w_2_98 rfl hR_X10_result_X0_tell rfl (Nat.le_of_ble_eq_true rfl) dX10_result_9 (fun rq8 σ7 hoq => ?_)
    exact k_iret (pc := 12) B dX10_result_12
set_option maxHeartbeats 4000000 in
set_option maxRecDepth 100000 in
theorem ct_X10_result (E : En) (aq0 : Int32)  (σ : Mm) : CtI E yX10_result cX10_result 2 (some .int) H_X10_result [.ref (ad E 0), .int aq0] σ (f_X10_result aq0 σ) := ct_I (by decide) (Nat.le_of_ble_eq_true rfl) rfl (fun G B => t_X10_result B aq0  σ)
abbrev H_X10_orders : Nat := 14
theorem hR_X10_orders_X7_orderedResults : H_X7_orderedResults + 1 ≤ H_X10_orders ∧ 8 + (1 + 11) + 40 * H_X7_orderedResults ≤ 40 * H_X10_orders := by decide
set_option maxHeartbeats 4000000 in
set_option maxRecDepth 100000 in
theorem t_X10_orders {E : En} {G : Cx} (B : Bx E G cX10_orders 1 RX10 H_X10_orders (some .int))   (σ : Mm) : KR E G 1 (ZI E G) (f_X10_orders  σ) 0 [(0, .ref (ad E 0))] [] σ := by
  have F := B.1
  unfold f_X10_orders
  refine k_aload_n (pc := 0) F 0 0 dX10_orders_0 rfl rfl ?_
  refine gf_0_3 (pc := 1) F w_2_69 dX10_orders_1 ?_
  refine k_callVU (pc := 4) B (k := 6) (As := []) (rest := []) (ct_X7_orderedResults E   σ) rfl rfl mv_X7_orderedResults w_3_153 rfl hR_X10_orders_X7_orderedResults rfl (Nat.le_of_ble_eq_true rfl) dX10_orders_4 (fun rq2 σ1 hoq => ?_)
  refine gf_isRow_1 (pc := 7) F isRow_28 w_1_225 dX10_orders_7 ?_
  exact k_iret (pc := 10) B dX10_orders_10
set_option maxHeartbeats 4000000 in
set_option maxRecDepth 100000 in
theorem ct_X10_orders (E : En)   (σ : Mm) : CtI E yX10_orders cX10_orders 1 (some .int) H_X10_orders [.ref (ad E 0)] σ (f_X10_orders  σ) := ct_I (by decide) (Nat.le_of_ble_eq_true rfl) rfl (fun G B => t_X10_orders B   σ)
abbrev H_X10_inOrder : Nat := 14
theorem hR_X10_inOrder_X7_orderedResults : H_X7_orderedResults + 1 ≤ H_X10_inOrder ∧ 8 + (1 + 11) + 40 * H_X7_orderedResults ≤ 40 * H_X10_inOrder := by decide
theorem hR_X10_inOrder_X0_tell : H_X0_tell + 1 ≤ H_X10_inOrder ∧ 8 + (2 + 11) + 40 * H_X0_tell ≤ 40 * H_X10_inOrder := by decide
set_option maxHeartbeats 4000000 in
set_option maxRecDepth 100000 in
theorem t_X10_inOrder {E : En} {G : Cx} (B : Bx E G cX10_inOrder 3 RX10 H_X10_inOrder (some .int)) (aq0 : Int32)  (σ : Mm) : KR E G 3 (ZI E G) (f_X10_inOrder aq0 σ) 0 [(0, .ref (ad E 0)), (1, .int aq0)] [] σ := by
  have F := B.1
  unfold f_X10_inOrder
  refine k_iload_n (pc := 0) F 1 1 dX10_inOrder_0 rfl rfl ?_
  refine k_if_ge (pc := 1) F 13 dX10_inOrder_1 (by decide) (fun _ => ?_) (fun _ => ?_)
  · refine k_aload_n (pc := 13) F 0 0 dX10_inOrder_13 rfl rfl ?_
    refine gf_0_3 (pc := 14) F w_2_69 dX10_inOrder_14 ?_
    refine k_callVU (pc := 17) B (k := 6) (As := []) (rest := []) (ct_X7_orderedResults E   σ) rfl rfl mv_X7_orderedResults w_3_153 rfl hR_X10_inOrder_X7_orderedResults rfl (Nat.le_of_ble_eq_true rfl) dX10_inOrder_17 (fun rq2 σ1 hoq => ?_)
    refine k_astore_n F (lv' := [(2, .ref (ad E 28)), (0, .ref (ad E 0)), (1, .int aq0)]) 2 dX10_inOrder_20 rfl (by decide) rfl ?_
    refine k_iload_n (pc := 21) F 1 2 dX10_inOrder_21 rfl rfl ?_
    refine k_aload_n (pc := 22) F 2 0 dX10_inOrder_22 rfl rfl ?_
    refine gf_isRow_1 (pc := 23) F isRow_28 w_1_225 dX10_inOrder_23 ?_
    refine k_icmp_ge (pc := 26) F 38 dX10_inOrder_26 (by decide) (fun _ => ?_) (fun _ => ?_)
    · refine k_aload_n (pc := 38) F 0 1 dX10_inOrder_38 rfl rfl ?_
      refine gf_0_0 (pc := 39) F w_2_66 dX10_inOrder_39 ?_
      refine k_iconst (pc := 42) F (v := (3 : Int32)) dX10_inOrder_42 ci_3 ?_
      refine k_callVI (pc := 43) B (k := 1) (As := [.int (3 : Int32)]) (rest := []) (ct_X0_tell E (3 : Int32)  σ1) rfl rfl mv_X0_tell w_2_98 rfl hR_X10_inOrder_X0_tell rfl (Nat.le_of_ble_eq_true rfl) dX10_inOrder_43 (fun rq4 σ3 hoq => ?_)
      exact k_iret (pc := 46) B dX10_inOrder_46
    · refine k_aload_n (pc := 29) F 2 0 dX10_inOrder_29 rfl rfl ?_
      refine gf_isRow_0 (pc := 30) F isRow_28 w_1_221 dX10_inOrder_30 ?_
      refine k_iload_n (pc := 33) F 1 2 dX10_inOrder_33 rfl rfl ?_
      refine k_iald (pc := 34) F rfl dX10_inOrder_34 ?_
      refine k_goto (pc := 35) F 46 dX10_inOrder_35 (by decide) ?_
      exact k_iret (pc := 46) B dX10_inOrder_46
  · refine k_aload_n (pc := 4) F 0 0 dX10_inOrder_4 rfl rfl ?_
    refine gf_0_0 (pc := 5) F w_2_66 dX10_inOrder_5 ?_
    refine k_iconst (pc := 8) F (v := (0 : Int32)) dX10_inOrder_8 ci_0 ?_
    refine k_callVI (pc := 9) B (k := 1) (As := [.int (0 : Int32)]) (rest := []) (ct_X0_tell E (0 : Int32)  σ) rfl rfl mv_X0_tell w_2_98 rfl hR_X10_inOrder_X0_tell rfl (Nat.le_of_ble_eq_true rfl) dX10_inOrder_9 (fun rq6 σ5 hoq => ?_)
    exact k_iret (pc := 12) B dX10_inOrder_12
set_option maxHeartbeats 4000000 in
set_option maxRecDepth 100000 in
theorem ct_X10_inOrder (E : En) (aq0 : Int32)  (σ : Mm) : CtI E yX10_inOrder cX10_inOrder 3 (some .int) H_X10_inOrder [.ref (ad E 0), .int aq0] σ (f_X10_inOrder aq0 σ) := ct_I (by decide) (Nat.le_of_ble_eq_true rfl) rfl (fun G B => t_X10_inOrder B aq0  σ)
abbrev H_X10_bad : Nat := 14
theorem hR_X10_bad_X7_orderedResults : H_X7_orderedResults + 1 ≤ H_X10_bad ∧ 8 + (1 + 11) + 40 * H_X7_orderedResults ≤ 40 * H_X10_bad := by decide
theorem hR_X10_bad_X7_isTooLarge : H_X7_isTooLarge + 1 ≤ H_X10_bad ∧ 8 + (1 + 11) + 40 * H_X7_isTooLarge ≤ 40 * H_X10_bad := by decide
theorem hR_X10_bad_X0_tell : H_X0_tell + 1 ≤ H_X10_bad ∧ 8 + (2 + 11) + 40 * H_X0_tell ≤ 40 * H_X10_bad := by decide
theorem hR_X10_bad_X7_countBad : H_X7_countBad + 1 ≤ H_X10_bad ∧ 8 + (4 + 11) + 40 * H_X7_countBad ≤ 40 * H_X10_bad := by decide
set_option maxHeartbeats 4000000 in
set_option maxRecDepth 100000 in
theorem t_X10_bad {E : En} {G : Cx} (B : Bx E G cX10_bad 1 RX10 H_X10_bad (some .int))   (σ : Mm) : KR E G 1 (ZI E G) (f_X10_bad  σ) 0 [(0, .ref (ad E 0))] [] σ := by
  have F := B.1
  unfold f_X10_bad
  refine k_aload_n (pc := 0) F 0 0 dX10_bad_0 rfl rfl ?_
  refine gf_0_3 (pc := 1) F w_2_69 dX10_bad_1 ?_
  refine k_callVI (pc := 4) B (k := 6) (As := []) (rest := []) (ct_X7_isTooLarge E   σ) rfl rfl mv_X7_isTooLarge w_3_42 rfl hR_X10_bad_X7_isTooLarge rfl (Nat.le_of_ble_eq_true rfl) dX10_bad_4 (fun rq2 σ1 hoq => ?_)
  refine k_if_eq (pc := 7) F 22 dX10_bad_7 (by decide) (fun _ => ?_) (fun _ => ?_)
  · refine k_aload_n (pc := 22) F 0 0 dX10_bad_22 rfl rfl ?_
    refine gf_0_3 (pc := 23) F w_2_69 dX10_bad_23 ?_
    refine k_aload_n (pc := 26) F 0 0 dX10_bad_26 rfl rfl ?_
    refine gf_0_3 (pc := 27) F w_2_69 dX10_bad_27 ?_
    refine k_callVU (pc := 30) B (k := 6) (As := []) (rest := [.ref (ad E 6)]) (ct_X7_orderedResults E   σ1) rfl rfl mv_X7_orderedResults w_3_153 rfl hR_X10_bad_X7_orderedResults rfl (Nat.le_of_ble_eq_true rfl) dX10_bad_30 (fun rq4 σ3 hoq => ?_)
    refine k_callVI (pc := 33) B (k := 6) (As := [.ref (ad E 28)]) (rest := []) (ct_X7_countBad E   σ3) rfl rfl mv_X7_countBad w_3_177 rfl hR_X10_bad_X7_countBad rfl (Nat.le_of_ble_eq_true rfl) dX10_bad_33 (fun rq6 σ5 hoq => ?_)
    exact k_iret (pc := 36) B dX10_bad_36
  · refine k_aload_n (pc := 10) F 0 0 dX10_bad_10 rfl rfl ?_
    refine gf_0_0 (pc := 11) F w_2_66 dX10_bad_11 ?_
    refine k_bipush (pc := 14) F (v := (6 : Int32)) dX10_bad_14 cb_6 ?_
    refine k_callVI (pc := 16) B (k := 1) (As := [.int (6 : Int32)]) (rest := []) (ct_X0_tell E (6 : Int32)  σ1) rfl rfl mv_X0_tell w_2_98 rfl hR_X10_bad_X0_tell rfl (Nat.le_of_ble_eq_true rfl) dX10_bad_16 (fun rq8 σ7 hoq => ?_)
    refine k_goto (pc := 19) F 36 dX10_bad_19 (by decide) ?_
    exact k_iret (pc := 36) B dX10_bad_36
set_option maxHeartbeats 4000000 in
set_option maxRecDepth 100000 in
theorem ct_X10_bad (E : En)   (σ : Mm) : CtI E yX10_bad cX10_bad 1 (some .int) H_X10_bad [.ref (ad E 0)] σ (f_X10_bad  σ) := ct_I (by decide) (Nat.le_of_ble_eq_true rfl) rfl (fun G B => t_X10_bad B   σ)
abbrev H_X10_worst : Nat := 14
theorem hR_X10_worst_X7_orderedResults : H_X7_orderedResults + 1 ≤ H_X10_worst ∧ 8 + (1 + 11) + 40 * H_X7_orderedResults ≤ 40 * H_X10_worst := by decide
theorem hR_X10_worst_X7_isTooLarge : H_X7_isTooLarge + 1 ≤ H_X10_worst ∧ 8 + (1 + 11) + 40 * H_X7_isTooLarge ≤ 40 * H_X10_worst := by decide
theorem hR_X10_worst_X0_tell : H_X0_tell + 1 ≤ H_X10_worst ∧ 8 + (2 + 11) + 40 * H_X0_tell ≤ 40 * H_X10_worst := by decide
theorem hR_X10_worst_X7_leastBad : H_X7_leastBad + 1 ≤ H_X10_worst ∧ 8 + (3 + 11) + 40 * H_X7_leastBad ≤ 40 * H_X10_worst := by decide
set_option maxHeartbeats 4000000 in
set_option maxRecDepth 100000 in
theorem t_X10_worst {E : En} {G : Cx} (B : Bx E G cX10_worst 2 RX10 H_X10_worst (some .int))   (σ : Mm) : KR E G 2 (ZI E G) (f_X10_worst  σ) 0 [(0, .ref (ad E 0))] [] σ := by
  have F := B.1
  unfold f_X10_worst
  refine k_aload_n (pc := 0) F 0 0 dX10_worst_0 rfl rfl ?_
  refine gf_0_3 (pc := 1) F w_2_69 dX10_worst_1 ?_
  refine k_callVI (pc := 4) B (k := 6) (As := []) (rest := []) (ct_X7_isTooLarge E   σ) rfl rfl mv_X7_isTooLarge w_3_42 rfl hR_X10_worst_X7_isTooLarge rfl (Nat.le_of_ble_eq_true rfl) dX10_worst_4 (fun rq2 σ1 hoq => ?_)
  refine k_if_eq (pc := 7) F 20 dX10_worst_7 (by decide) (fun _ => ?_) (fun _ => ?_)
  · refine k_aload_n (pc := 20) F 0 0 dX10_worst_20 rfl rfl ?_
    refine gf_0_3 (pc := 21) F w_2_69 dX10_worst_21 ?_
    refine k_aload_n (pc := 24) F 0 0 dX10_worst_24 rfl rfl ?_
    refine gf_0_3 (pc := 25) F w_2_69 dX10_worst_25 ?_
    refine k_callVU (pc := 28) B (k := 6) (As := []) (rest := [.ref (ad E 6)]) (ct_X7_orderedResults E   σ1) rfl rfl mv_X7_orderedResults w_3_153 rfl hR_X10_worst_X7_orderedResults rfl (Nat.le_of_ble_eq_true rfl) dX10_worst_28 (fun rq4 σ3 hoq => ?_)
    refine k_callVI (pc := 31) B (k := 6) (As := [.ref (ad E 28)]) (rest := []) (ct_X7_leastBad E   σ3) rfl rfl mv_X7_leastBad w_3_189 rfl hR_X10_worst_X7_leastBad rfl (Nat.le_of_ble_eq_true rfl) dX10_worst_31 (fun rq6 σ5 hoq => ?_)
    refine k_istore_n F (lv' := [(1, .int rq6), (0, .ref (ad E 0))]) 1 dX10_worst_34 rfl (by decide) rfl ?_
    refine k_iload_n (pc := 35) F 1 0 dX10_worst_35 rfl rfl ?_
    refine k_if_lt (pc := 36) F 43 dX10_worst_36 (by decide) (fun _ => ?_) (fun _ => ?_)
    · refine k_aload_n (pc := 43) F 0 1 dX10_worst_43 rfl rfl ?_
      refine gf_0_0 (pc := 44) F w_2_66 dX10_worst_44 ?_
      refine k_iconst (pc := 47) F (v := (3 : Int32)) dX10_worst_47 ci_3 ?_
      refine k_callVI (pc := 48) B (k := 1) (As := [.int (3 : Int32)]) (rest := []) (ct_X0_tell E (3 : Int32)  σ5) rfl rfl mv_X0_tell w_2_98 rfl hR_X10_worst_X0_tell rfl (Nat.le_of_ble_eq_true rfl) dX10_worst_48 (fun rq8 σ7 hoq => ?_)
      exact k_iret (pc := 51) B dX10_worst_51
    · refine k_iload_n (pc := 39) F 1 0 dX10_worst_39 rfl rfl ?_
      refine k_goto (pc := 40) F 51 dX10_worst_40 (by decide) ?_
      exact k_iret (pc := 51) B dX10_worst_51
  · refine k_aload_n (pc := 10) F 0 0 dX10_worst_10 rfl rfl ?_
    refine gf_0_0 (pc := 11) F w_2_66 dX10_worst_11 ?_
    refine k_bipush (pc := 14) F (v := (6 : Int32)) dX10_worst_14 cb_6 ?_
    refine k_callVI (pc := 16) B (k := 1) (As := [.int (6 : Int32)]) (rest := []) (ct_X0_tell E (6 : Int32)  σ1) rfl rfl mv_X0_tell w_2_98 rfl hR_X10_worst_X0_tell rfl (Nat.le_of_ble_eq_true rfl) dX10_worst_16 (fun rq10 σ9 hoq => ?_)
    exact k_iret (pc := 19) B dX10_worst_19
set_option maxHeartbeats 4000000 in
set_option maxRecDepth 100000 in
theorem ct_X10_worst (E : En)   (σ : Mm) : CtI E yX10_worst cX10_worst 2 (some .int) H_X10_worst [.ref (ad E 0)] σ (f_X10_worst  σ) := ct_I (by decide) (Nat.le_of_ble_eq_true rfl) rfl (fun G B => t_X10_worst B   σ)
abbrev H_X10_turn : Nat := 15
theorem hR_X10_turn_X7_walkToWorst : H_X7_walkToWorst + 1 ≤ H_X10_turn ∧ 8 + (2 + 11) + 40 * H_X7_walkToWorst ≤ 40 * H_X10_turn := by decide
theorem hR_X10_turn_X9_moveOnPath : H_X9_moveOnPath + 1 ≤ H_X10_turn ∧ 8 + (2 + 11) + 40 * H_X9_moveOnPath ≤ 40 * H_X10_turn := by decide
theorem hR_X10_turn_X7_isTooLarge : H_X7_isTooLarge + 1 ≤ H_X10_turn ∧ 8 + (1 + 11) + 40 * H_X7_isTooLarge ≤ 40 * H_X10_turn := by decide
theorem hR_X10_turn_X0_tell : H_X0_tell + 1 ≤ H_X10_turn ∧ 8 + (2 + 11) + 40 * H_X0_tell ≤ 40 * H_X10_turn := by decide
set_option maxHeartbeats 4000000 in
set_option maxRecDepth 100000 in
theorem t_X10_turn {E : En} {G : Cx} (B : Bx E G cX10_turn 3 RX10 H_X10_turn (some .int)) (aq0 : Int32)  (σ : Mm) : KR E G 3 (ZI E G) (f_X10_turn aq0 σ) 0 [(0, .ref (ad E 0)), (1, .int aq0)] [] σ := by
  have F := B.1
  unfold f_X10_turn
  refine k_iload_n (pc := 0) F 1 1 dX10_turn_0 rfl rfl ?_
  refine k_iconst (pc := 1) F (v := (-1 : Int32)) dX10_turn_1 ci_m1 ?_
  refine k_icmp_ge (pc := 2) F 14 dX10_turn_2 (by decide) (fun _ => ?_) (fun _ => ?_)
  · refine k_aload_n (pc := 14) F 0 0 dX10_turn_14 rfl rfl ?_
    refine gf_0_3 (pc := 15) F w_2_69 dX10_turn_15 ?_
    refine k_callVI (pc := 18) B (k := 6) (As := []) (rest := []) (ct_X7_isTooLarge E   σ) rfl rfl mv_X7_isTooLarge w_3_42 rfl hR_X10_turn_X7_isTooLarge rfl (Nat.le_of_ble_eq_true rfl) dX10_turn_18 (fun rq2 σ1 hoq => ?_)
    refine k_if_eq (pc := 21) F 34 dX10_turn_21 (by decide) (fun _ => ?_) (fun _ => ?_)
    · refine k_aload_n (pc := 34) F 0 0 dX10_turn_34 rfl rfl ?_
      refine gf_0_3 (pc := 35) F w_2_69 dX10_turn_35 ?_
      refine k_callVI (pc := 38) B (k := 6) (As := []) (rest := []) (ct_X7_walkToWorst E   σ1) rfl rfl mv_X7_walkToWorst w_3_197 rfl hR_X10_turn_X7_walkToWorst rfl (Nat.le_of_ble_eq_true rfl) dX10_turn_38 (fun rq4 σ3 hoq => ?_)
      refine k_istore_n F (lv' := [(2, .int rq4), (0, .ref (ad E 0)), (1, .int aq0)]) 2 dX10_turn_41 rfl (by decide) rfl ?_
      refine k_iload_n (pc := 42) F 2 0 dX10_turn_42 rfl rfl ?_
      refine k_if_lt (pc := 43) F 51 dX10_turn_43 (by decide) (fun _ => ?_) (fun _ => ?_)
      · refine k_aload_n (pc := 51) F 0 1 dX10_turn_51 rfl rfl ?_
        refine gf_0_0 (pc := 52) F w_2_66 dX10_turn_52 ?_
        refine k_iconst (pc := 55) F (v := (3 : Int32)) dX10_turn_55 ci_3 ?_
        refine k_callVI (pc := 56) B (k := 1) (As := [.int (3 : Int32)]) (rest := []) (ct_X0_tell E (3 : Int32)  σ3) rfl rfl mv_X0_tell w_2_98 rfl hR_X10_turn_X0_tell rfl (Nat.le_of_ble_eq_true rfl) dX10_turn_56 (fun rq6 σ5 hoq => ?_)
        exact k_iret (pc := 59) B dX10_turn_59
      · refine k_iload_n (pc := 46) F 1 2 dX10_turn_46 rfl rfl ?_
        refine k_iload_n (pc := 47) F 2 0 dX10_turn_47 rfl rfl ?_
        refine k_icmp_lt (pc := 48) F 60 dX10_turn_48 (by decide) (fun _ => ?_) (fun _ => ?_)
        · refine k_iload_n (pc := 60) F 1 2 dX10_turn_60 rfl rfl ?_
          refine k_iconst (pc := 61) F (v := (-1 : Int32)) dX10_turn_61 ci_m1 ?_
          refine k_icmp_ne (pc := 62) F 69 dX10_turn_62 (by decide) (fun _ => ?_) (fun _ => ?_)
          · refine k_iload_n (pc := 65) F 2 0 dX10_turn_65 rfl rfl ?_
            refine k_goto (pc := 66) F 80 dX10_turn_66 (by decide) ?_
            exact k_iret (pc := 80) B dX10_turn_80
          · refine k_aload_n (pc := 69) F 0 1 dX10_turn_69 rfl rfl ?_
            refine gf_0_3 (pc := 70) F w_2_69 dX10_turn_70 ?_
            refine gf_6_2 (pc := 73) F w_1_236 dX10_turn_73 ?_
            refine k_iload_n (pc := 76) F 1 2 dX10_turn_76 rfl rfl ?_
            refine k_callVI (pc := 77) B (k := 18) (As := [.int aq0]) (rest := []) (ct_X9_moveOnPath E aq0  σ3) rfl rfl mv_X9_moveOnPath w_3_207 rfl hR_X10_turn_X9_moveOnPath rfl (Nat.le_of_ble_eq_true rfl) dX10_turn_77 (fun rq8 σ7 hoq => ?_)
            exact k_iret (pc := 80) B dX10_turn_80
        · refine k_aload_n (pc := 51) F 0 1 dX10_turn_51 rfl rfl ?_
          refine gf_0_0 (pc := 52) F w_2_66 dX10_turn_52 ?_
          refine k_iconst (pc := 55) F (v := (3 : Int32)) dX10_turn_55 ci_3 ?_
          refine k_callVI (pc := 56) B (k := 1) (As := [.int (3 : Int32)]) (rest := []) (ct_X0_tell E (3 : Int32)  σ3) rfl rfl mv_X0_tell w_2_98 rfl hR_X10_turn_X0_tell rfl (Nat.le_of_ble_eq_true rfl) dX10_turn_56 (fun rq10 σ9 hoq => ?_)
          exact k_iret (pc := 59) B dX10_turn_59
    · refine k_aload_n (pc := 24) F 0 0 dX10_turn_24 rfl rfl ?_
      refine gf_0_0 (pc := 25) F w_2_66 dX10_turn_25 ?_
      refine k_bipush (pc := 28) F (v := (6 : Int32)) dX10_turn_28 cb_6 ?_
      refine k_callVI (pc := 30) B (k := 1) (As := [.int (6 : Int32)]) (rest := []) (ct_X0_tell E (6 : Int32)  σ1) rfl rfl mv_X0_tell w_2_98 rfl hR_X10_turn_X0_tell rfl (Nat.le_of_ble_eq_true rfl) dX10_turn_30 (fun rq12 σ11 hoq => ?_)
      exact k_iret (pc := 33) B dX10_turn_33
  · refine k_aload_n (pc := 5) F 0 0 dX10_turn_5 rfl rfl ?_
    refine gf_0_0 (pc := 6) F w_2_66 dX10_turn_6 ?_
    refine k_iconst (pc := 9) F (v := (0 : Int32)) dX10_turn_9 ci_0 ?_
    refine k_callVI (pc := 10) B (k := 1) (As := [.int (0 : Int32)]) (rest := []) (ct_X0_tell E (0 : Int32)  σ) rfl rfl mv_X0_tell w_2_98 rfl hR_X10_turn_X0_tell rfl (Nat.le_of_ble_eq_true rfl) dX10_turn_10 (fun rq14 σ13 hoq => ?_)
    exact k_iret (pc := 13) B dX10_turn_13
set_option maxHeartbeats 4000000 in
set_option maxRecDepth 100000 in
theorem ct_X10_turn (E : En) (aq0 : Int32)  (σ : Mm) : CtI E yX10_turn cX10_turn 3 (some .int) H_X10_turn [.ref (ad E 0), .int aq0] σ (f_X10_turn aq0 σ) := ct_I (by decide) (Nat.le_of_ble_eq_true rfl) rfl (fun G B => t_X10_turn B aq0  σ)
abbrev H_X10_stuck : Nat := 6
theorem hR_X10_stuck_X7_isTooLarge : H_X7_isTooLarge + 1 ≤ H_X10_stuck ∧ 8 + (1 + 11) + 40 * H_X7_isTooLarge ≤ 40 * H_X10_stuck := by decide
theorem hR_X10_stuck_X0_tell : H_X0_tell + 1 ≤ H_X10_stuck ∧ 8 + (2 + 11) + 40 * H_X0_tell ≤ 40 * H_X10_stuck := by decide
theorem hR_X10_stuck_X9_countStuck : H_X9_countStuck + 1 ≤ H_X10_stuck ∧ 8 + (5 + 11) + 40 * H_X9_countStuck ≤ 40 * H_X10_stuck := by decide
set_option maxHeartbeats 4000000 in
set_option maxRecDepth 100000 in
theorem t_X10_stuck {E : En} {G : Cx} (B : Bx E G cX10_stuck 1 RX10 H_X10_stuck (some .int))   (σ : Mm) : KR E G 1 (ZI E G) (f_X10_stuck  σ) 0 [(0, .ref (ad E 0))] [] σ := by
  have F := B.1
  unfold f_X10_stuck
  refine k_aload_n (pc := 0) F 0 0 dX10_stuck_0 rfl rfl ?_
  refine gf_0_3 (pc := 1) F w_2_69 dX10_stuck_1 ?_
  refine k_callVI (pc := 4) B (k := 6) (As := []) (rest := []) (ct_X7_isTooLarge E   σ) rfl rfl mv_X7_isTooLarge w_3_42 rfl hR_X10_stuck_X7_isTooLarge rfl (Nat.le_of_ble_eq_true rfl) dX10_stuck_4 (fun rq2 σ1 hoq => ?_)
  refine k_if_eq (pc := 7) F 22 dX10_stuck_7 (by decide) (fun _ => ?_) (fun _ => ?_)
  · refine k_aload_n (pc := 22) F 0 0 dX10_stuck_22 rfl rfl ?_
    refine gf_0_3 (pc := 23) F w_2_69 dX10_stuck_23 ?_
    refine gf_6_2 (pc := 26) F w_1_236 dX10_stuck_26 ?_
    refine k_callVI (pc := 29) B (k := 18) (As := []) (rest := []) (ct_X9_countStuck E   σ1) rfl rfl mv_X9_countStuck w_3_215 rfl hR_X10_stuck_X9_countStuck rfl (Nat.le_of_ble_eq_true rfl) dX10_stuck_29 (fun rq4 σ3 hoq => ?_)
    exact k_iret (pc := 32) B dX10_stuck_32
  · refine k_aload_n (pc := 10) F 0 0 dX10_stuck_10 rfl rfl ?_
    refine gf_0_0 (pc := 11) F w_2_66 dX10_stuck_11 ?_
    refine k_bipush (pc := 14) F (v := (6 : Int32)) dX10_stuck_14 cb_6 ?_
    refine k_callVI (pc := 16) B (k := 1) (As := [.int (6 : Int32)]) (rest := []) (ct_X0_tell E (6 : Int32)  σ1) rfl rfl mv_X0_tell w_2_98 rfl hR_X10_stuck_X0_tell rfl (Nat.le_of_ble_eq_true rfl) dX10_stuck_16 (fun rq6 σ5 hoq => ?_)
    refine k_goto (pc := 19) F 32 dX10_stuck_19 (by decide) ?_
    exact k_iret (pc := 32) B dX10_stuck_32
set_option maxHeartbeats 4000000 in
set_option maxRecDepth 100000 in
theorem ct_X10_stuck (E : En)   (σ : Mm) : CtI E yX10_stuck cX10_stuck 1 (some .int) H_X10_stuck [.ref (ad E 0)] σ (f_X10_stuck  σ) := ct_I (by decide) (Nat.le_of_ble_eq_true rfl) rfl (fun G B => t_X10_stuck B   σ)
abbrev H_X10_round : Nat := 6
theorem hR_X10_round_X7_isTooLarge : H_X7_isTooLarge + 1 ≤ H_X10_round ∧ 8 + (1 + 11) + 40 * H_X7_isTooLarge ≤ 40 * H_X10_round := by decide
theorem hR_X10_round_X9_hasRound : H_X9_hasRound + 1 ≤ H_X10_round ∧ 8 + (3 + 11) + 40 * H_X9_hasRound ≤ 40 * H_X10_round := by decide
theorem hR_X10_round_X0_tell : H_X0_tell + 1 ≤ H_X10_round ∧ 8 + (2 + 11) + 40 * H_X0_tell ≤ 40 * H_X10_round := by decide
set_option maxHeartbeats 4000000 in
set_option maxRecDepth 100000 in
theorem t_X10_round {E : En} {G : Cx} (B : Bx E G cX10_round 1 RX10 H_X10_round (some .int))   (σ : Mm) : KR E G 1 (ZI E G) (f_X10_round  σ) 0 [(0, .ref (ad E 0))] [] σ := by
  have F := B.1
  unfold f_X10_round
  refine k_aload_n (pc := 0) F 0 0 dX10_round_0 rfl rfl ?_
  refine gf_0_3 (pc := 1) F w_2_69 dX10_round_1 ?_
  refine k_callVI (pc := 4) B (k := 6) (As := []) (rest := []) (ct_X7_isTooLarge E   σ) rfl rfl mv_X7_isTooLarge w_3_42 rfl hR_X10_round_X7_isTooLarge rfl (Nat.le_of_ble_eq_true rfl) dX10_round_4 (fun rq2 σ1 hoq => ?_)
  refine k_if_eq (pc := 7) F 20 dX10_round_7 (by decide) (fun _ => ?_) (fun _ => ?_)
  · refine k_aload_n (pc := 20) F 0 0 dX10_round_20 rfl rfl ?_
    refine gf_0_3 (pc := 21) F w_2_69 dX10_round_21 ?_
    refine gf_6_2 (pc := 24) F w_1_236 dX10_round_24 ?_
    refine k_callVI (pc := 27) B (k := 18) (As := []) (rest := []) (ct_X9_hasRound E   σ1) rfl rfl mv_X9_hasRound w_3_233 rfl hR_X10_round_X9_hasRound rfl (Nat.le_of_ble_eq_true rfl) dX10_round_27 (fun rq4 σ3 hoq => ?_)
    refine k_if_eq (pc := 30) F 37 dX10_round_30 (by decide) (fun _ => ?_) (fun _ => ?_)
    · refine k_iconst (pc := 37) F (v := (0 : Int32)) dX10_round_37 ci_0 ?_
      exact k_iret (pc := 38) B dX10_round_38
    · refine k_iconst (pc := 33) F (v := (1 : Int32)) dX10_round_33 ci_1 ?_
      refine k_goto (pc := 34) F 38 dX10_round_34 (by decide) ?_
      exact k_iret (pc := 38) B dX10_round_38
  · refine k_aload_n (pc := 10) F 0 0 dX10_round_10 rfl rfl ?_
    refine gf_0_0 (pc := 11) F w_2_66 dX10_round_11 ?_
    refine k_bipush (pc := 14) F (v := (6 : Int32)) dX10_round_14 cb_6 ?_
    refine k_callVI (pc := 16) B (k := 1) (As := [.int (6 : Int32)]) (rest := []) (ct_X0_tell E (6 : Int32)  σ1) rfl rfl mv_X0_tell w_2_98 rfl hR_X10_round_X0_tell rfl (Nat.le_of_ble_eq_true rfl) dX10_round_16 (fun rq6 σ5 hoq => ?_)
    exact k_iret (pc := 19) B dX10_round_19
set_option maxHeartbeats 4000000 in
set_option maxRecDepth 100000 in
theorem ct_X10_round (E : En)   (σ : Mm) : CtI E yX10_round cX10_round 1 (some .int) H_X10_round [.ref (ad E 0)] σ (f_X10_round  σ) := ct_I (by decide) (Nat.le_of_ble_eq_true rfl) rfl (fun G B => t_X10_round B   σ)
abbrev H_X10_heal : Nat := 15
theorem hR_X10_heal_X0_tell : H_X0_tell + 1 ≤ H_X10_heal ∧ 8 + (2 + 11) + 40 * H_X0_tell ≤ 40 * H_X10_heal := by decide
theorem hR_X10_heal_X7_healingValues : H_X7_healingValues + 1 ≤ H_X10_heal ∧ 8 + (7 + 11) + 40 * H_X7_healingValues ≤ 40 * H_X10_heal := by decide
theorem hR_X10_heal_X5_hasStep : H_X5_hasStep + 1 ≤ H_X10_heal ∧ 8 + (3 + 11) + 40 * H_X5_hasStep ≤ 40 * H_X10_heal := by decide
theorem hR_X10_heal_X5_changeablePart : H_X5_changeablePart + 1 ≤ H_X10_heal ∧ 8 + (3 + 11) + 40 * H_X5_changeablePart ≤ 40 * H_X10_heal := by decide
set_option maxHeartbeats 4000000 in
set_option maxRecDepth 100000 in
theorem t_X10_heal {E : En} {G : Cx} (B : Bx E G cX10_heal 5 RX10 H_X10_heal (some .int)) (aq0 : Int32) (aq1 : Int32)  (σ : Mm) : KR E G 5 (ZI E G) (f_X10_heal aq0 aq1 σ) 0 [(0, .ref (ad E 0)), (1, .int aq0), (2, .int aq1)] [] σ := by
  have F := B.1
  unfold f_X10_heal
  refine k_aload_n (pc := 0) F 0 0 dX10_heal_0 rfl rfl ?_
  refine gf_0_4 (pc := 1) F w_2_70 dX10_heal_1 ?_
  refine k_iload_n (pc := 4) F 1 1 dX10_heal_4 rfl rfl ?_
  refine k_iload_n (pc := 5) F 2 2 dX10_heal_5 rfl rfl ?_
  refine k_callVI (pc := 6) B (k := 7) (As := [.int aq0, .int aq1]) (rest := []) (ct_X5_hasStep E aq0 aq1  σ) rfl rfl mv_X5_hasStep w_2_229 rfl hR_X10_heal_X5_hasStep rfl (Nat.le_of_ble_eq_true rfl) dX10_heal_6 (fun rq2 σ1 hoq => ?_)
  refine k_if_ne (pc := 9) F 21 dX10_heal_9 (by decide) (fun _ => ?_) (fun _ => ?_)
  · refine k_aload_n (pc := 12) F 0 0 dX10_heal_12 rfl rfl ?_
    refine gf_0_0 (pc := 13) F w_2_66 dX10_heal_13 ?_
    refine k_iconst (pc := 16) F (v := (0 : Int32)) dX10_heal_16 ci_0 ?_
    refine k_callVI (pc := 17) B (k := 1) (As := [.int (0 : Int32)]) (rest := []) (ct_X0_tell E (0 : Int32)  σ1) rfl rfl mv_X0_tell w_2_98 rfl hR_X10_heal_X0_tell rfl (Nat.le_of_ble_eq_true rfl) dX10_heal_17 (fun rq12 σ11 hoq => ?_)
    exact k_iret (pc := 20) B dX10_heal_20
  · refine k_aload_n (pc := 21) F 0 0 dX10_heal_21 rfl rfl ?_
    refine gf_0_4 (pc := 22) F w_2_70 dX10_heal_22 ?_
    refine k_iload_n (pc := 25) F 1 1 dX10_heal_25 rfl rfl ?_
    refine k_iload_n (pc := 26) F 2 2 dX10_heal_26 rfl rfl ?_
    refine k_callVI (pc := 27) B (k := 7) (As := [.int aq0, .int aq1]) (rest := []) (ct_X5_changeablePart E aq0 aq1  σ1) rfl rfl mv_X5_changeablePart w_3_16 rfl hR_X10_heal_X5_changeablePart rfl (Nat.le_of_ble_eq_true rfl) dX10_heal_27 (fun rq4 σ3 hoq => ?_)
    refine k_istore_n F (lv' := [(3, .int rq4), (0, .ref (ad E 0)), (1, .int aq0), (2, .int aq1)]) 3 dX10_heal_30 rfl (by decide) rfl ?_
    refine k_iload_n (pc := 31) F 3 0 dX10_heal_31 rfl rfl ?_
    refine k_if_ge (pc := 32) F 44 dX10_heal_32 (by decide) (fun _ => ?_) (fun _ => ?_)
    · refine k_aload_n (pc := 44) F 0 1 dX10_heal_44 rfl rfl ?_
      refine gf_0_3 (pc := 45) F w_2_69 dX10_heal_45 ?_
      refine k_iload_n (pc := 48) F 1 2 dX10_heal_48 rfl rfl ?_
      refine k_iload_n (pc := 49) F 2 3 dX10_heal_49 rfl rfl ?_
      refine k_iload_n (pc := 50) F 3 0 dX10_heal_50 rfl rfl ?_
      refine k_callVI (pc := 51) B (k := 6) (As := [.int aq0, .int aq1, .int rq4]) (rest := []) (ct_X7_healingValues E aq0 aq1 rq4  σ3) rfl rfl mv_X7_healingValues w_4_5 rfl hR_X10_heal_X7_healingValues rfl (Nat.le_of_ble_eq_true rfl) dX10_heal_51 (fun rq6 σ5 hoq => ?_)
      refine k_istore F (lv' := [(4, .int rq6), (3, .int rq4), (0, .ref (ad E 0)), (1, .int aq0), (2, .int aq1)]) 4 dX10_heal_54 (by decide) rfl ?_
      refine k_iload (pc := 56) F 4 0 dX10_heal_56 rfl ?_
      refine k_if_lt (pc := 58) F 66 dX10_heal_58 (by decide) (fun _ => ?_) (fun _ => ?_)
      · refine k_aload_n (pc := 66) F 0 2 dX10_heal_66 rfl rfl ?_
        refine gf_0_0 (pc := 67) F w_2_66 dX10_heal_67 ?_
        refine k_bipush (pc := 70) F (v := (6 : Int32)) dX10_heal_70 cb_6 ?_
        refine k_callVI (pc := 72) B (k := 1) (As := [.int (6 : Int32)]) (rest := []) (ct_X0_tell E (6 : Int32)  σ5) rfl rfl mv_X0_tell w_2_98 rfl hR_X10_heal_X0_tell rfl (Nat.le_of_ble_eq_true rfl) dX10_heal_72 (fun rq8 σ7 hoq => ?_)
        exact k_iret (pc := 75) B dX10_heal_75
      · refine k_iload (pc := 61) F 4 0 dX10_heal_61 rfl ?_
        refine k_goto (pc := 63) F 75 dX10_heal_63 (by decide) ?_
        exact k_iret (pc := 75) B dX10_heal_75
    · refine k_aload_n (pc := 35) F 0 1 dX10_heal_35 rfl rfl ?_
      refine gf_0_0 (pc := 36) F w_2_66 dX10_heal_36 ?_
      refine k_iconst (pc := 39) F (v := (2 : Int32)) dX10_heal_39 ci_2 ?_
      refine k_callVI (pc := 40) B (k := 1) (As := [.int (2 : Int32)]) (rest := []) (ct_X0_tell E (2 : Int32)  σ3) rfl rfl mv_X0_tell w_2_98 rfl hR_X10_heal_X0_tell rfl (Nat.le_of_ble_eq_true rfl) dX10_heal_40 (fun rq10 σ9 hoq => ?_)
      exact k_iret (pc := 43) B dX10_heal_43
set_option maxHeartbeats 4000000 in
set_option maxRecDepth 100000 in
theorem ct_X10_heal (E : En) (aq0 : Int32) (aq1 : Int32)  (σ : Mm) : CtI E yX10_heal cX10_heal 5 (some .int) H_X10_heal [.ref (ad E 0), .int aq0, .int aq1] σ (f_X10_heal aq0 aq1 σ) := ct_I (by decide) (Nat.le_of_ble_eq_true rfl) rfl (fun G B => t_X10_heal B aq0 aq1  σ)
abbrev H_X10_fences : Nat := 15
theorem hR_X10_fences_X7_fewestFences : H_X7_fewestFences + 1 ≤ H_X10_fences ∧ 8 + (6 + 11) + 40 * H_X7_fewestFences ≤ 40 * H_X10_fences := by decide
theorem hR_X10_fences_X0_tell : H_X0_tell + 1 ≤ H_X10_fences ∧ 8 + (2 + 11) + 40 * H_X0_tell ≤ 40 * H_X10_fences := by decide
set_option maxHeartbeats 4000000 in
set_option maxRecDepth 100000 in
theorem t_X10_fences {E : En} {G : Cx} (B : Bx E G cX10_fences 2 RX10 H_X10_fences (some .int))   (σ : Mm) : KR E G 2 (ZI E G) (f_X10_fences  σ) 0 [(0, .ref (ad E 0))] [] σ := by
  have F := B.1
  unfold f_X10_fences
  refine k_aload_n (pc := 0) F 0 0 dX10_fences_0 rfl rfl ?_
  refine gf_0_3 (pc := 1) F w_2_69 dX10_fences_1 ?_
  refine k_callVI (pc := 4) B (k := 6) (As := []) (rest := []) (ct_X7_fewestFences E   σ) rfl rfl mv_X7_fewestFences w_4_17 rfl hR_X10_fences_X7_fewestFences rfl (Nat.le_of_ble_eq_true rfl) dX10_fences_4 (fun rq2 σ1 hoq => ?_)
  refine k_istore_n F (lv' := [(1, .int rq2), (0, .ref (ad E 0))]) 1 dX10_fences_7 rfl (by decide) rfl ?_
  refine k_iload_n (pc := 8) F 1 0 dX10_fences_8 rfl rfl ?_
  refine k_bipush (pc := 9) F (v := (-2 : Int32)) dX10_fences_9 cb_m2 ?_
  refine k_icmp_ne (pc := 11) F 24 dX10_fences_11 (by decide) (fun _ => ?_) (fun _ => ?_)
  · refine k_aload_n (pc := 14) F 0 1 dX10_fences_14 rfl rfl ?_
    refine gf_0_0 (pc := 15) F w_2_66 dX10_fences_15 ?_
    refine k_bipush (pc := 18) F (v := (6 : Int32)) dX10_fences_18 cb_6 ?_
    refine k_callVI (pc := 20) B (k := 1) (As := [.int (6 : Int32)]) (rest := []) (ct_X0_tell E (6 : Int32)  σ1) rfl rfl mv_X0_tell w_2_98 rfl hR_X10_fences_X0_tell rfl (Nat.le_of_ble_eq_true rfl) dX10_fences_20 (fun rq6 σ5 hoq => ?_)
    exact k_iret (pc := 23) B dX10_fences_23
  · refine k_iload_n (pc := 24) F 1 0 dX10_fences_24 rfl rfl ?_
    refine k_if_lt (pc := 25) F 32 dX10_fences_25 (by decide) (fun _ => ?_) (fun _ => ?_)
    · refine k_aload_n (pc := 32) F 0 1 dX10_fences_32 rfl rfl ?_
      refine gf_0_0 (pc := 33) F w_2_66 dX10_fences_33 ?_
      refine k_iconst (pc := 36) F (v := (3 : Int32)) dX10_fences_36 ci_3 ?_
      refine k_callVI (pc := 37) B (k := 1) (As := [.int (3 : Int32)]) (rest := []) (ct_X0_tell E (3 : Int32)  σ1) rfl rfl mv_X0_tell w_2_98 rfl hR_X10_fences_X0_tell rfl (Nat.le_of_ble_eq_true rfl) dX10_fences_37 (fun rq4 σ3 hoq => ?_)
      exact k_iret (pc := 40) B dX10_fences_40
    · refine k_iload_n (pc := 28) F 1 0 dX10_fences_28 rfl rfl ?_
      refine k_goto (pc := 29) F 40 dX10_fences_29 (by decide) ?_
      exact k_iret (pc := 40) B dX10_fences_40
set_option maxHeartbeats 4000000 in
set_option maxRecDepth 100000 in
theorem ct_X10_fences (E : En)   (σ : Mm) : CtI E yX10_fences cX10_fences 2 (some .int) H_X10_fences [.ref (ad E 0)] σ (f_X10_fences  σ) := ct_I (by decide) (Nat.le_of_ble_eq_true rfl) rfl (fun G B => t_X10_fences B   σ)
abbrev H_X10_isSheet : Nat := 0
set_option maxHeartbeats 4000000 in
set_option maxRecDepth 100000 in
theorem t_X10_isSheet_13 {E : En} {G : Cx} (B : Bx E G cX10_isSheet 1 RX10 H_X10_isSheet (some .boolean))    (σ : Mm) : KR E G 1 (ZI E G) (f_X10_isSheet_13  σ) 13 [] [] σ := by
  have F := B.1
  unfold f_X10_isSheet_13
  refine k_iconst (pc := 13) F (v := (0 : Int32)) dX10_isSheet_13 ci_0 ?_
  exact k_zret (pc := 14) B dX10_isSheet_14
set_option maxHeartbeats 4000000 in
set_option maxRecDepth 100000 in
theorem t_X10_isSheet {E : En} {G : Cx} (B : Bx E G cX10_isSheet 1 RX10 H_X10_isSheet (some .boolean)) (aq0 : Int32)  (σ : Mm) : KR E G 1 (ZI E G) (f_X10_isSheet aq0 σ) 0 [(0, .int aq0)] [] σ := by
  have F := B.1
  unfold f_X10_isSheet
  refine k_iload_n (pc := 0) F 0 0 dX10_isSheet_0 rfl rfl ?_
  refine k_if_lt (pc := 1) F 13 dX10_isSheet_1 (by decide) (fun _ => ?_) (fun _ => ?_)
  · exact k_sub [] rfl (t_X10_isSheet_13 B    σ)
  · refine k_iload_n (pc := 4) F 0 0 dX10_isSheet_4 rfl rfl ?_
    refine k_iconst (pc := 5) F (v := (4 : Int32)) dX10_isSheet_5 ci_4 ?_
    refine k_icmp_ge (pc := 6) F 13 dX10_isSheet_6 (by decide) (fun _ => ?_) (fun _ => ?_)
    · exact k_sub [] rfl (t_X10_isSheet_13 B    σ)
    · refine k_iconst (pc := 9) F (v := (1 : Int32)) dX10_isSheet_9 ci_1 ?_
      refine k_goto (pc := 10) F 14 dX10_isSheet_10 (by decide) ?_
      exact k_zret (pc := 14) B dX10_isSheet_14
set_option maxHeartbeats 4000000 in
set_option maxRecDepth 100000 in
theorem ct_X10_isSheet (E : En) (aq0 : Int32)  (σ : Mm) : CtI E yX10_isSheet cX10_isSheet 1 (some .boolean) H_X10_isSheet [.int aq0] σ (f_X10_isSheet aq0 σ) := ct_I (by decide) (Nat.le_of_ble_eq_true rfl) rfl (fun G B => t_X10_isSheet B aq0  σ)
abbrev H_X10_findingOfTurn : Nat := 4
theorem hR_X10_findingOfTurn_X2_through : H_X2_through + 1 ≤ H_X10_findingOfTurn ∧ 8 + (7 + 11) + 40 * H_X2_through ≤ 40 * H_X10_findingOfTurn := by decide
theorem hR_X10_findingOfTurn_X10_isSheet : H_X10_isSheet + 1 ≤ H_X10_findingOfTurn ∧ 8 + (1 + 11) + 40 * H_X10_isSheet ≤ 40 * H_X10_findingOfTurn := by decide
theorem hR_X10_findingOfTurn_X1_load : H_X1_load + 1 ≤ H_X10_findingOfTurn ∧ 8 + (5 + 11) + 40 * H_X1_load ≤ 40 * H_X10_findingOfTurn := by decide
set_option maxHeartbeats 4000000 in
set_option maxRecDepth 100000 in
theorem t_X10_findingOfTurn {E : En} {G : Cx} (B : Bx E G cX10_findingOfTurn 2 RX10 H_X10_findingOfTurn (some .int)) (aq0 : Int32)  (σ : Mm) : KR E G 2 (ZI E G) (f_X10_findingOfTurn aq0 σ) 0 [(0, .ref (ad E 0)), (1, .int aq0)] [] σ := by
  have F := B.1
  unfold f_X10_findingOfTurn
  refine k_iload_n (pc := 0) F 1 1 dX10_findingOfTurn_0 rfl rfl ?_
  refine k_callSI (pc := 1) B (As := [.int aq0]) (rest := []) (ct_X10_isSheet E aq0  σ) ms_X10_isSheet w_4_47 rfl hR_X10_findingOfTurn_X10_isSheet rfl (Nat.le_of_ble_eq_true rfl) dX10_findingOfTurn_1 (fun rq2 σ1 hoq => ?_)
  refine k_if_ne (pc := 4) F 9 dX10_findingOfTurn_4 (by decide) (fun _ => ?_) (fun _ => ?_)
  · refine k_iconst (pc := 7) F (v := (0 : Int32)) dX10_findingOfTurn_7 ci_0 ?_
    exact k_iret (pc := 8) B dX10_findingOfTurn_8
  · refine k_aload_n (pc := 9) F 0 0 dX10_findingOfTurn_9 rfl rfl ?_
    refine gf_0_8 (pc := 10) F w_2_74 dX10_findingOfTurn_10 ?_
    refine k_iload_n (pc := 13) F 1 1 dX10_findingOfTurn_13 rfl rfl ?_
    refine k_aald4 (pc := 14) F dX10_findingOfTurn_14 (fun hsq3 => ?_)
    refine gf_isSh_0 (pc := 15) F hsq3 w_2_52 dX10_findingOfTurn_15 ?_
    refine k_if_ne (pc := 18) F 23 dX10_findingOfTurn_18 (by decide) (fun _ => ?_) (fun _ => ?_)
    · refine k_iconst (pc := 21) F (v := (5 : Int32)) dX10_findingOfTurn_21 ci_5 ?_
      exact k_iret (pc := 22) B dX10_findingOfTurn_22
    · refine k_aload_n (pc := 23) F 0 0 dX10_findingOfTurn_23 rfl rfl ?_
      refine gf_0_3 (pc := 24) F w_2_69 dX10_findingOfTurn_24 ?_
      refine gf_6_1 (pc := 27) F w_1_234 dX10_findingOfTurn_27 ?_
      refine k_aload_n (pc := 30) F 0 0 dX10_findingOfTurn_30 rfl rfl ?_
      refine gf_0_4 (pc := 31) F w_2_70 dX10_findingOfTurn_31 ?_
      refine k_lconst (pc := 34) F (v := (0 : Int64)) dX10_findingOfTurn_34 cl_0 ?_
      refine k_callVV (pc := 35) B (k := 13) (As := [.ref (ad E 7), .long (0 : Int64)]) (rest := []) (ct_X1_load E (0 : Int64)  σ1) rfl rfl mv_X1_load w_4_50 rfl hR_X10_findingOfTurn_X1_load rfl (Nat.le_of_ble_eq_true rfl) dX10_findingOfTurn_35 (fun rq5 σ4 hoq => ?_)
      refine k_aload_n (pc := 38) F 0 0 dX10_findingOfTurn_38 rfl rfl ?_
      refine gf_0_7 (pc := 39) F w_2_73 dX10_findingOfTurn_39 ?_
      refine k_aload_n (pc := 42) F 0 0 dX10_findingOfTurn_42 rfl rfl ?_
      refine gf_0_8 (pc := 43) F w_2_74 dX10_findingOfTurn_43 ?_
      refine k_iload_n (pc := 46) F 1 1 dX10_findingOfTurn_46 rfl rfl ?_
      refine k_aald4 (pc := 47) F dX10_findingOfTurn_47 (fun hsq6 => ?_)
      refine k_aload_n (pc := 48) F 0 0 dX10_findingOfTurn_48 rfl rfl ?_
      refine gf_0_3 (pc := 49) F w_2_69 dX10_findingOfTurn_49 ?_
      refine gf_6_1 (pc := 52) F w_1_234 dX10_findingOfTurn_52 ?_
      refine k_callVV (pc := 55) B (k := 37) (As := [.ref (ad E (shI aq0)), .ref (ad E 13)]) (rest := []) (ct_X2_through E (shI aq0) hsq6 σ4) rfl rfl mv_X2_through w_4_51 rfl hR_X10_findingOfTurn_X2_through rfl (Nat.le_of_ble_eq_true rfl) dX10_findingOfTurn_55 (fun rq8 σ7 hoq => ?_)
      refine k_aload_n (pc := 58) F 0 0 dX10_findingOfTurn_58 rfl rfl ?_
      refine gf_0_7 (pc := 59) F w_2_73 dX10_findingOfTurn_59 ?_
      refine gf_37_2 (pc := 62) F w_2_32 dX10_findingOfTurn_62 ?_
      refine k_aload_n (pc := 65) F 0 0 dX10_findingOfTurn_65 rfl rfl ?_
      refine gf_0_8 (pc := 66) F w_2_74 dX10_findingOfTurn_66 ?_
      refine k_iload_n (pc := 69) F 1 1 dX10_findingOfTurn_69 rfl rfl ?_
      refine k_aald4 (pc := 70) F dX10_findingOfTurn_70 (fun hsq9 => ?_)
      refine gf_isSh_1 (pc := 71) F hsq9 w_2_55 dX10_findingOfTurn_71 ?_
      refine k_icmp_ge (pc := 74) F 81 dX10_findingOfTurn_74 (by decide) (fun _ => ?_) (fun _ => ?_)
      · refine k_iconst (pc := 81) F (v := (-1 : Int32)) dX10_findingOfTurn_81 ci_m1 ?_
        exact k_iret (pc := 82) B dX10_findingOfTurn_82
      · refine k_iconst (pc := 77) F (v := (4 : Int32)) dX10_findingOfTurn_77 ci_4 ?_
        refine k_goto (pc := 78) F 82 dX10_findingOfTurn_78 (by decide) ?_
        exact k_iret (pc := 82) B dX10_findingOfTurn_82
set_option maxHeartbeats 4000000 in
set_option maxRecDepth 100000 in
theorem ct_X10_findingOfTurn (E : En) (aq0 : Int32)  (σ : Mm) : CtI E yX10_findingOfTurn cX10_findingOfTurn 2 (some .int) H_X10_findingOfTurn [.ref (ad E 0), .int aq0] σ (f_X10_findingOfTurn aq0 σ) := ct_I (by decide) (Nat.le_of_ble_eq_true rfl) rfl (fun G B => t_X10_findingOfTurn B aq0  σ)
abbrev H_X10_cost : Nat := 5
theorem hR_X10_cost_X10_findingOfTurn : H_X10_findingOfTurn + 1 ≤ H_X10_cost ∧ 8 + (2 + 11) + 40 * H_X10_findingOfTurn ≤ 40 * H_X10_cost := by decide
theorem hR_X10_cost_X0_tell : H_X0_tell + 1 ≤ H_X10_cost ∧ 8 + (2 + 11) + 40 * H_X0_tell ≤ 40 * H_X10_cost := by decide
set_option maxHeartbeats 4000000 in
set_option maxRecDepth 100000 in
theorem t_X10_cost {E : En} {G : Cx} (B : Bx E G cX10_cost 3 RX10 H_X10_cost (some .int)) (aq0 : Int32)  (σ : Mm) : KR E G 3 (ZI E G) (f_X10_cost aq0 σ) 0 [(0, .ref (ad E 0)), (1, .int aq0)] [] σ := by
  have F := B.1
  unfold f_X10_cost
  refine k_aload_n (pc := 0) F 0 0 dX10_cost_0 rfl rfl ?_
  refine k_iload_n (pc := 1) F 1 1 dX10_cost_1 rfl rfl ?_
  refine k_callVI (pc := 2) B (k := 0) (As := [.int aq0]) (rest := []) (ct_X10_findingOfTurn E aq0  σ) rfl rfl mv_X10_findingOfTurn w_4_43 rfl hR_X10_cost_X10_findingOfTurn rfl (Nat.le_of_ble_eq_true rfl) dX10_cost_2 (fun rq2 σ1 hoq => ?_)
  refine k_istore_n F (lv' := [(2, .int rq2), (0, .ref (ad E 0)), (1, .int aq0)]) 2 dX10_cost_5 rfl (by decide) rfl ?_
  refine k_iload_n (pc := 6) F 2 0 dX10_cost_6 rfl rfl ?_
  refine k_if_ge (pc := 7) F 20 dX10_cost_7 (by decide) (fun _ => ?_) (fun _ => ?_)
  · refine k_aload_n (pc := 20) F 0 1 dX10_cost_20 rfl rfl ?_
    refine gf_0_0 (pc := 21) F w_2_66 dX10_cost_21 ?_
    refine k_iload_n (pc := 24) F 2 0 dX10_cost_24 rfl rfl ?_
    refine k_callVI (pc := 25) B (k := 1) (As := [.int rq2]) (rest := []) (ct_X0_tell E rq2  σ1) rfl rfl mv_X0_tell w_2_98 rfl hR_X10_cost_X0_tell rfl (Nat.le_of_ble_eq_true rfl) dX10_cost_25 (fun rq4 σ3 hoq => ?_)
    exact k_iret (pc := 28) B dX10_cost_28
  · refine k_aload_n (pc := 10) F 0 1 dX10_cost_10 rfl rfl ?_
    refine gf_0_7 (pc := 11) F w_2_73 dX10_cost_11 ?_
    refine gf_37_3 (pc := 14) F w_2_34 dX10_cost_14 ?_
    refine k_goto (pc := 17) F 28 dX10_cost_17 (by decide) ?_
    exact k_iret (pc := 28) B dX10_cost_28
set_option maxHeartbeats 4000000 in
set_option maxRecDepth 100000 in
theorem ct_X10_cost (E : En) (aq0 : Int32)  (σ : Mm) : CtI E yX10_cost cX10_cost 3 (some .int) H_X10_cost [.ref (ad E 0), .int aq0] σ (f_X10_cost aq0 σ) := ct_I (by decide) (Nat.le_of_ble_eq_true rfl) rfl (fun G B => t_X10_cost B aq0  σ)
abbrev H_X10_played : Nat := 5
theorem hR_X10_played_X10_findingOfTurn : H_X10_findingOfTurn + 1 ≤ H_X10_played ∧ 8 + (2 + 11) + 40 * H_X10_findingOfTurn ≤ 40 * H_X10_played := by decide
theorem hR_X10_played_X0_tell : H_X0_tell + 1 ≤ H_X10_played ∧ 8 + (2 + 11) + 40 * H_X0_tell ≤ 40 * H_X10_played := by decide
set_option maxHeartbeats 4000000 in
set_option maxRecDepth 100000 in
theorem t_X10_played {E : En} {G : Cx} (B : Bx E G cX10_played 3 RX10 H_X10_played (some .int)) (aq0 : Int32)  (σ : Mm) : KR E G 3 (ZI E G) (f_X10_played aq0 σ) 0 [(0, .ref (ad E 0)), (1, .int aq0)] [] σ := by
  have F := B.1
  unfold f_X10_played
  refine k_aload_n (pc := 0) F 0 0 dX10_played_0 rfl rfl ?_
  refine k_iload_n (pc := 1) F 1 1 dX10_played_1 rfl rfl ?_
  refine k_callVI (pc := 2) B (k := 0) (As := [.int aq0]) (rest := []) (ct_X10_findingOfTurn E aq0  σ) rfl rfl mv_X10_findingOfTurn w_4_43 rfl hR_X10_played_X10_findingOfTurn rfl (Nat.le_of_ble_eq_true rfl) dX10_played_2 (fun rq2 σ1 hoq => ?_)
  refine k_istore_n F (lv' := [(2, .int rq2), (0, .ref (ad E 0)), (1, .int aq0)]) 2 dX10_played_5 rfl (by decide) rfl ?_
  refine k_iload_n (pc := 6) F 2 0 dX10_played_6 rfl rfl ?_
  refine k_if_lt (pc := 7) F 15 dX10_played_7 (by decide) (fun _ => ?_) (fun _ => ?_)
  · refine k_aload_n (pc := 15) F 0 1 dX10_played_15 rfl rfl ?_
    refine gf_0_7 (pc := 16) F w_2_73 dX10_played_16 ?_
    refine gf_37_2 (pc := 19) F w_2_32 dX10_played_19 ?_
    refine k_goto (pc := 22) F 33 dX10_played_22 (by decide) ?_
    exact k_iret (pc := 33) B dX10_played_33
  · refine k_iload_n (pc := 10) F 2 0 dX10_played_10 rfl rfl ?_
    refine k_iconst (pc := 11) F (v := (4 : Int32)) dX10_played_11 ci_4 ?_
    refine k_icmp_ne (pc := 12) F 25 dX10_played_12 (by decide) (fun _ => ?_) (fun _ => ?_)
    · refine k_aload_n (pc := 15) F 0 1 dX10_played_15 rfl rfl ?_
      refine gf_0_7 (pc := 16) F w_2_73 dX10_played_16 ?_
      refine gf_37_2 (pc := 19) F w_2_32 dX10_played_19 ?_
      refine k_goto (pc := 22) F 33 dX10_played_22 (by decide) ?_
      exact k_iret (pc := 33) B dX10_played_33
    · refine k_aload_n (pc := 25) F 0 1 dX10_played_25 rfl rfl ?_
      refine gf_0_0 (pc := 26) F w_2_66 dX10_played_26 ?_
      refine k_iload_n (pc := 29) F 2 0 dX10_played_29 rfl rfl ?_
      refine k_callVI (pc := 30) B (k := 1) (As := [.int rq2]) (rest := []) (ct_X0_tell E rq2  σ1) rfl rfl mv_X0_tell w_2_98 rfl hR_X10_played_X0_tell rfl (Nat.le_of_ble_eq_true rfl) dX10_played_30 (fun rq4 σ3 hoq => ?_)
      exact k_iret (pc := 33) B dX10_played_33
set_option maxHeartbeats 4000000 in
set_option maxRecDepth 100000 in
theorem ct_X10_played (E : En) (aq0 : Int32)  (σ : Mm) : CtI E yX10_played cX10_played 3 (some .int) H_X10_played [.ref (ad E 0), .int aq0] σ (f_X10_played aq0 σ) := ct_I (by decide) (Nat.le_of_ble_eq_true rfl) rfl (fun G B => t_X10_played B aq0  σ)
abbrev H_X10_judge : Nat := 14
theorem hR_X10_judge_X7_orderedResults : H_X7_orderedResults + 1 ≤ H_X10_judge ∧ 8 + (1 + 11) + 40 * H_X7_orderedResults ≤ 40 * H_X10_judge := by decide
theorem hR_X10_judge_X1_isEnd : H_X1_isEnd + 1 ≤ H_X10_judge ∧ 8 + (4 + 11) + 40 * H_X1_isEnd ≤ 40 * H_X10_judge := by decide
theorem hR_X10_judge_X4_holds : H_X4_holds + 1 ≤ H_X10_judge ∧ 8 + (3 + 11) + 40 * H_X4_holds ≤ 40 * H_X10_judge := by decide
theorem hR_X10_judge_X0_tell : H_X0_tell + 1 ≤ H_X10_judge ∧ 8 + (2 + 11) + 40 * H_X0_tell ≤ 40 * H_X10_judge := by decide
theorem hR_X10_judge_X10_findingOfTurn : H_X10_findingOfTurn + 1 ≤ H_X10_judge ∧ 8 + (2 + 11) + 40 * H_X10_findingOfTurn ≤ 40 * H_X10_judge := by decide
theorem hR_X10_judge_X1_resultOf : H_X1_resultOf + 1 ≤ H_X10_judge ∧ 8 + (6 + 11) + 40 * H_X1_resultOf ≤ 40 * H_X10_judge := by decide
set_option maxHeartbeats 4000000 in
set_option maxRecDepth 100000 in
theorem t_X10_judge {E : En} {G : Cx} (B : Bx E G cX10_judge 3 RX10 H_X10_judge (some .int)) (aq0 : Int32)  (σ : Mm) : KR E G 3 (ZI E G) (f_X10_judge aq0 σ) 0 [(0, .ref (ad E 0)), (1, .int aq0)] [] σ := by
  have F := B.1
  unfold f_X10_judge
  refine k_aload_n (pc := 0) F 0 0 dX10_judge_0 rfl rfl ?_
  refine k_iload_n (pc := 1) F 1 1 dX10_judge_1 rfl rfl ?_
  refine k_callVI (pc := 2) B (k := 0) (As := [.int aq0]) (rest := []) (ct_X10_findingOfTurn E aq0  σ) rfl rfl mv_X10_findingOfTurn w_4_43 rfl hR_X10_judge_X10_findingOfTurn rfl (Nat.le_of_ble_eq_true rfl) dX10_judge_2 (fun rq2 σ1 hoq => ?_)
  refine k_istore_n F (lv' := [(2, .int rq2), (0, .ref (ad E 0)), (1, .int aq0)]) 2 dX10_judge_5 rfl (by decide) rfl ?_
  refine k_iload_n (pc := 6) F 2 0 dX10_judge_6 rfl rfl ?_
  refine k_if_lt (pc := 7) F 19 dX10_judge_7 (by decide) (fun _ => ?_) (fun _ => ?_)
  · refine k_aload_n (pc := 19) F 0 1 dX10_judge_19 rfl rfl ?_
    refine gf_0_3 (pc := 20) F w_2_69 dX10_judge_20 ?_
    refine gf_6_1 (pc := 23) F w_1_234 dX10_judge_23 ?_
    refine k_aload_n (pc := 26) F 0 1 dX10_judge_26 rfl rfl ?_
    refine gf_0_7 (pc := 27) F w_2_73 dX10_judge_27 ?_
    refine gf_37_1 (pc := 30) F w_2_30 dX10_judge_30 ?_
    refine k_callVI (pc := 33) B (k := 13) (As := [.long (σ1.2 37 1)]) (rest := []) (ct_X1_isEnd E (σ1.2 37 1)  σ1) rfl rfl mv_X1_isEnd w_4_82 rfl hR_X10_judge_X1_isEnd rfl (Nat.le_of_ble_eq_true rfl) dX10_judge_33 (fun rq4 σ3 hoq => ?_)
    refine k_if_ne (pc := 36) F 41 dX10_judge_36 (by decide) (fun _ => ?_) (fun _ => ?_)
    · refine k_iconst (pc := 39) F (v := (2 : Int32)) dX10_judge_39 ci_2 ?_
      exact k_iret (pc := 40) B dX10_judge_40
    · refine k_aload_n (pc := 41) F 0 1 dX10_judge_41 rfl rfl ?_
      refine gf_0_3 (pc := 42) F w_2_69 dX10_judge_42 ?_
      refine k_callVU (pc := 45) B (k := 6) (As := []) (rest := []) (ct_X7_orderedResults E   σ3) rfl rfl mv_X7_orderedResults w_3_153 rfl hR_X10_judge_X7_orderedResults rfl (Nat.le_of_ble_eq_true rfl) dX10_judge_45 (fun rq6 σ5 hoq => ?_)
      refine k_aload_n (pc := 48) F 0 1 dX10_judge_48 rfl rfl ?_
      refine gf_0_3 (pc := 49) F w_2_69 dX10_judge_49 ?_
      refine gf_6_1 (pc := 52) F w_1_234 dX10_judge_52 ?_
      refine k_aload_n (pc := 55) F 0 1 dX10_judge_55 rfl rfl ?_
      refine gf_0_7 (pc := 56) F w_2_73 dX10_judge_56 ?_
      refine gf_37_1 (pc := 59) F w_2_30 dX10_judge_59 ?_
      refine k_callVI (pc := 62) B (k := 13) (As := [.long (σ5.2 37 1)]) (rest := [.ref (ad E 28)]) (ct_X1_resultOf E (σ5.2 37 1)  σ5) rfl rfl mv_X1_resultOf w_4_83 rfl hR_X10_judge_X1_resultOf rfl (Nat.le_of_ble_eq_true rfl) dX10_judge_62 (fun rq8 σ7 hoq => ?_)
      refine k_callVI (pc := 65) B (k := 28) (As := [.int rq8]) (rest := []) (ct_X4_holds E rq8  σ7) rfl rfl mv_X4_holds w_4_84 rfl hR_X10_judge_X4_holds rfl (Nat.le_of_ble_eq_true rfl) dX10_judge_65 (fun rq10 σ9 hoq => ?_)
      refine k_if_eq (pc := 68) F 75 dX10_judge_68 (by decide) (fun _ => ?_) (fun _ => ?_)
      · refine k_iconst (pc := 75) F (v := (1 : Int32)) dX10_judge_75 ci_1 ?_
        exact k_iret (pc := 76) B dX10_judge_76
      · refine k_iconst (pc := 71) F (v := (0 : Int32)) dX10_judge_71 ci_0 ?_
        refine k_goto (pc := 72) F 76 dX10_judge_72 (by decide) ?_
        exact k_iret (pc := 76) B dX10_judge_76
  · refine k_aload_n (pc := 10) F 0 1 dX10_judge_10 rfl rfl ?_
    refine gf_0_0 (pc := 11) F w_2_66 dX10_judge_11 ?_
    refine k_iload_n (pc := 14) F 2 0 dX10_judge_14 rfl rfl ?_
    refine k_callVI (pc := 15) B (k := 1) (As := [.int rq2]) (rest := []) (ct_X0_tell E rq2  σ1) rfl rfl mv_X0_tell w_2_98 rfl hR_X10_judge_X0_tell rfl (Nat.le_of_ble_eq_true rfl) dX10_judge_15 (fun rq12 σ11 hoq => ?_)
    exact k_iret (pc := 18) B dX10_judge_18
set_option maxHeartbeats 4000000 in
set_option maxRecDepth 100000 in
theorem ct_X10_judge (E : En) (aq0 : Int32)  (σ : Mm) : CtI E yX10_judge cX10_judge 3 (some .int) H_X10_judge [.ref (ad E 0), .int aq0] σ (f_X10_judge aq0 σ) := ct_I (by decide) (Nat.le_of_ble_eq_true rfl) rfl (fun G B => t_X10_judge B aq0  σ)
abbrev H_X10_moves : Nat := 5
theorem hR_X10_moves_X1_possible : H_X1_possible + 1 ≤ H_X10_moves ∧ 8 + (5 + 11) + 40 * H_X1_possible ≤ 40 * H_X10_moves := by decide
theorem hR_X10_moves_X10_findingOfTurn : H_X10_findingOfTurn + 1 ≤ H_X10_moves ∧ 8 + (2 + 11) + 40 * H_X10_findingOfTurn ≤ 40 * H_X10_moves := by decide
theorem hR_X10_moves_X0_tell : H_X0_tell + 1 ≤ H_X10_moves ∧ 8 + (2 + 11) + 40 * H_X0_tell ≤ 40 * H_X10_moves := by decide
set_option maxHeartbeats 4000000 in
set_option maxRecDepth 100000 in
theorem t_X10_moves {E : En} {G : Cx} (B : Bx E G cX10_moves 3 RX10 H_X10_moves (some .int)) (aq0 : Int32)  (σ : Mm) : KR E G 3 (ZI E G) (f_X10_moves aq0 σ) 0 [(0, .ref (ad E 0)), (1, .int aq0)] [] σ := by
  have F := B.1
  unfold f_X10_moves
  refine k_aload_n (pc := 0) F 0 0 dX10_moves_0 rfl rfl ?_
  refine k_iload_n (pc := 1) F 1 1 dX10_moves_1 rfl rfl ?_
  refine k_callVI (pc := 2) B (k := 0) (As := [.int aq0]) (rest := []) (ct_X10_findingOfTurn E aq0  σ) rfl rfl mv_X10_findingOfTurn w_4_43 rfl hR_X10_moves_X10_findingOfTurn rfl (Nat.le_of_ble_eq_true rfl) dX10_moves_2 (fun rq2 σ1 hoq => ?_)
  refine k_istore_n F (lv' := [(2, .int rq2), (0, .ref (ad E 0)), (1, .int aq0)]) 2 dX10_moves_5 rfl (by decide) rfl ?_
  refine k_iload_n (pc := 6) F 2 0 dX10_moves_6 rfl rfl ?_
  refine k_if_ge (pc := 7) F 30 dX10_moves_7 (by decide) (fun _ => ?_) (fun _ => ?_)
  · refine k_aload_n (pc := 30) F 0 1 dX10_moves_30 rfl rfl ?_
    refine gf_0_0 (pc := 31) F w_2_66 dX10_moves_31 ?_
    refine k_iload_n (pc := 34) F 2 0 dX10_moves_34 rfl rfl ?_
    refine k_callVI (pc := 35) B (k := 1) (As := [.int rq2]) (rest := []) (ct_X0_tell E rq2  σ1) rfl rfl mv_X0_tell w_2_98 rfl hR_X10_moves_X0_tell rfl (Nat.le_of_ble_eq_true rfl) dX10_moves_35 (fun rq4 σ3 hoq => ?_)
    exact k_iret (pc := 38) B dX10_moves_38
  · refine k_aload_n (pc := 10) F 0 1 dX10_moves_10 rfl rfl ?_
    refine gf_0_3 (pc := 11) F w_2_69 dX10_moves_11 ?_
    refine gf_6_1 (pc := 14) F w_1_234 dX10_moves_14 ?_
    refine k_aload_n (pc := 17) F 0 1 dX10_moves_17 rfl rfl ?_
    refine gf_0_7 (pc := 18) F w_2_73 dX10_moves_18 ?_
    refine gf_37_1 (pc := 21) F w_2_30 dX10_moves_21 ?_
    refine k_callVI (pc := 24) B (k := 13) (As := [.long (σ1.2 37 1)]) (rest := []) (ct_X1_possible E (σ1.2 37 1)  σ1) rfl rfl mv_X1_possible w_4_89 rfl hR_X10_moves_X1_possible rfl (Nat.le_of_ble_eq_true rfl) dX10_moves_24 (fun rq6 σ5 hoq => ?_)
    refine k_goto (pc := 27) F 38 dX10_moves_27 (by decide) ?_
    exact k_iret (pc := 38) B dX10_moves_38
set_option maxHeartbeats 4000000 in
set_option maxRecDepth 100000 in
theorem ct_X10_moves (E : En) (aq0 : Int32)  (σ : Mm) : CtI E yX10_moves cX10_moves 3 (some .int) H_X10_moves [.ref (ad E 0), .int aq0] σ (f_X10_moves aq0 σ) := ct_I (by decide) (Nat.le_of_ble_eq_true rfl) rfl (fun G B => t_X10_moves B aq0  σ)
abbrev H_X10_after : Nat := 5
theorem hR_X10_after_X1_aboutHand : H_X1_aboutHand + 1 ≤ H_X10_after ∧ 8 + (9 + 11) + 40 * H_X1_aboutHand ≤ 40 * H_X10_after := by decide
theorem hR_X10_after_X1_valueIn : H_X1_valueIn + 1 ≤ H_X10_after ∧ 8 + (3 + 11) + 40 * H_X1_valueIn ≤ 40 * H_X10_after := by decide
theorem hR_X10_after_X10_findingOfTurn : H_X10_findingOfTurn + 1 ≤ H_X10_after ∧ 8 + (2 + 11) + 40 * H_X10_findingOfTurn ≤ 40 * H_X10_after := by decide
theorem hR_X10_after_X0_tell : H_X0_tell + 1 ≤ H_X10_after ∧ 8 + (2 + 11) + 40 * H_X0_tell ≤ 40 * H_X10_after := by decide
set_option maxHeartbeats 4000000 in
set_option maxRecDepth 100000 in
theorem t_X10_after_74 {E : En} {G : Cx} (B : Bx E G cX10_after 7 RX10 H_X10_after (some .int)) (xq1 : Int32) (xq2 : Int32) (xq3 : Int32) (xq4 : Int32)   (σ : Mm) : KR E G 7 (ZI E G) (f_X10_after_74 xq1 xq2 xq3 xq4 σ) 74 [(0, .ref (ad E 0)), (1, .int xq1), (2, .int xq2), (3, .int xq3), (4, .int xq4)] [] σ := by
  have F := B.1
  unfold f_X10_after_74
  refine k_aload_n (pc := 74) F 0 0 dX10_after_74 rfl rfl ?_
  refine k_iload_n (pc := 75) F 1 1 dX10_after_75 rfl rfl ?_
  refine k_callVI (pc := 76) B (k := 0) (As := [.int xq1]) (rest := []) (ct_X10_findingOfTurn E xq1  σ) rfl rfl mv_X10_findingOfTurn w_4_43 rfl hR_X10_after_X10_findingOfTurn rfl (Nat.le_of_ble_eq_true rfl) dX10_after_76 (fun rq3 σ2 hoq => ?_)
  refine k_istore F (lv' := [(6, .int rq3), (0, .ref (ad E 0)), (1, .int xq1), (2, .int xq2), (3, .int xq3), (4, .int xq4)]) 6 dX10_after_79 (by decide) rfl ?_
  refine k_iload (pc := 81) F 6 0 dX10_after_81 rfl ?_
  refine k_if_lt (pc := 83) F 96 dX10_after_83 (by decide) (fun _ => ?_) (fun _ => ?_)
  · refine k_iload (pc := 96) F 4 5 dX10_after_96 rfl ?_
    refine k_if_eq (pc := 98) F 113 dX10_after_98 (by decide) (fun _ => ?_) (fun _ => ?_)
    · refine k_aload_n (pc := 113) F 0 1 dX10_after_113 rfl rfl ?_
      refine gf_0_3 (pc := 114) F w_2_69 dX10_after_114 ?_
      refine gf_6_1 (pc := 117) F w_1_234 dX10_after_117 ?_
      refine k_aload_n (pc := 120) F 0 1 dX10_after_120 rfl rfl ?_
      refine gf_0_7 (pc := 121) F w_2_73 dX10_after_121 ?_
      refine gf_37_1 (pc := 124) F w_2_30 dX10_after_124 ?_
      refine k_iload_n (pc := 127) F 3 4 dX10_after_127 rfl rfl ?_
      refine k_iload_n (pc := 128) F 2 3 dX10_after_128 rfl rfl ?_
      refine k_bipush (pc := 129) F (v := (10 : Int32)) dX10_after_129 cb_10 ?_
      refine k_irem (pc := 131) F dX10_after_131 (by decide) ?_
      refine k_callVI (pc := 132) B (k := 13) (As := [.long (σ2.2 37 1), .int xq3, .int (irm xq2 (10 : Int32))]) (rest := []) (ct_X1_aboutHand E (σ2.2 37 1) xq3 (irm xq2 (10 : Int32))  σ2) rfl rfl mv_X1_aboutHand w_4_98 rfl hR_X10_after_X1_aboutHand rfl (Nat.le_of_ble_eq_true rfl) dX10_after_132 (fun rq5 σ4 hoq => ?_)
      exact k_iret (pc := 135) B dX10_after_135
    · refine k_aload_n (pc := 101) F 0 1 dX10_after_101 rfl rfl ?_
      refine gf_0_7 (pc := 102) F w_2_73 dX10_after_102 ?_
      refine gf_37_1 (pc := 105) F w_2_30 dX10_after_105 ?_
      refine k_iload_n (pc := 108) F 2 3 dX10_after_108 rfl rfl ?_
      refine k_callSI (pc := 109) B (As := [.long (σ2.2 37 1), .int xq2]) (rest := []) (ct_X1_valueIn E (σ2.2 37 1) xq2  σ2) ms_X1_valueIn w_4_97 rfl hR_X10_after_X1_valueIn rfl (Nat.le_of_ble_eq_true rfl) dX10_after_109 (fun rq7 σ6 hoq => ?_)
      exact k_iret (pc := 112) B dX10_after_112
  · refine k_aload_n (pc := 86) F 0 1 dX10_after_86 rfl rfl ?_
    refine gf_0_0 (pc := 87) F w_2_66 dX10_after_87 ?_
    refine k_iload (pc := 90) F 6 0 dX10_after_90 rfl ?_
    refine k_callVI (pc := 92) B (k := 1) (As := [.int rq3]) (rest := []) (ct_X0_tell E rq3  σ2) rfl rfl mv_X0_tell w_2_98 rfl hR_X10_after_X0_tell rfl (Nat.le_of_ble_eq_true rfl) dX10_after_92 (fun rq9 σ8 hoq => ?_)
    exact k_iret (pc := 95) B dX10_after_95
set_option maxHeartbeats 4000000 in
set_option maxRecDepth 100000 in
theorem t_X10_after_53 {E : En} {G : Cx} (B : Bx E G cX10_after 7 RX10 H_X10_after (some .int)) (xq1 : Int32) (xq2 : Int32) (xq3 : Int32) (xq4 : Int32) (xqs0 : Int32)   (σ : Mm) : KR E G 7 (ZI E G) (f_X10_after_53 xq1 xq2 xq3 xq4 xqs0 σ) 53 [(0, .ref (ad E 0)), (1, .int xq1), (2, .int xq2), (3, .int xq3), (4, .int xq4)] [.int xqs0] σ := by
  have F := B.1
  unfold f_X10_after_53
  refine k_istore F (lv' := [(5, .int xqs0), (0, .ref (ad E 0)), (1, .int xq1), (2, .int xq2), (3, .int xq3), (4, .int xq4)]) 5 dX10_after_53 (by decide) rfl ?_
  refine k_iload (pc := 55) F 4 5 dX10_after_55 rfl ?_
  refine k_if_ne (pc := 57) F 74 dX10_after_57 (by decide) (fun _ => ?_) (fun _ => ?_)
  · refine k_iload (pc := 60) F 5 0 dX10_after_60 rfl ?_
    refine k_if_ne (pc := 62) F 74 dX10_after_62 (by decide) (fun _ => ?_) (fun _ => ?_)
    · refine k_aload_n (pc := 65) F 0 1 dX10_after_65 rfl rfl ?_
      refine gf_0_0 (pc := 66) F w_2_66 dX10_after_66 ?_
      refine k_iconst (pc := 69) F (v := (0 : Int32)) dX10_after_69 ci_0 ?_
      refine k_callVI (pc := 70) B (k := 1) (As := [.int (0 : Int32)]) (rest := []) (ct_X0_tell E (0 : Int32)  σ) rfl rfl mv_X0_tell w_2_98 rfl hR_X10_after_X0_tell rfl (Nat.le_of_ble_eq_true rfl) dX10_after_70 (fun rq11 σ10 hoq => ?_)
      exact k_iret (pc := 73) B dX10_after_73
    · exact k_sub [1, 2, 3, 4, 5] rfl (t_X10_after_74 B xq1 xq2 xq3 xq4   σ)
  · exact k_sub [1, 2, 3, 4, 5] rfl (t_X10_after_74 B xq1 xq2 xq3 xq4   σ)
set_option maxHeartbeats 4000000 in
set_option maxRecDepth 100000 in
theorem t_X10_after_52 {E : En} {G : Cx} (B : Bx E G cX10_after 7 RX10 H_X10_after (some .int)) (xq1 : Int32) (xq2 : Int32) (xq3 : Int32) (xq4 : Int32)   (σ : Mm) : KR E G 7 (ZI E G) (f_X10_after_52 xq1 xq2 xq3 xq4 σ) 52 [(0, .ref (ad E 0)), (1, .int xq1), (2, .int xq2), (3, .int xq3), (4, .int xq4)] [] σ := by
  have F := B.1
  unfold f_X10_after_52
  refine k_iconst (pc := 52) F (v := (0 : Int32)) dX10_after_52 ci_0 ?_
  exact k_sub [0, 1, 2, 3, 4] rfl (t_X10_after_53 B xq1 xq2 xq3 xq4 (0 : Int32)   σ)
set_option maxHeartbeats 4000000 in
set_option maxRecDepth 100000 in
theorem t_X10_after_21 {E : En} {G : Cx} (B : Bx E G cX10_after 7 RX10 H_X10_after (some .int)) (xq1 : Int32) (xq2 : Int32) (xq3 : Int32) (xqs0 : Int32)   (σ : Mm) : KR E G 7 (ZI E G) (f_X10_after_21 xq1 xq2 xq3 xqs0 σ) 21 [(0, .ref (ad E 0)), (1, .int xq1), (2, .int xq2), (3, .int xq3)] [.int xqs0] σ := by
  have F := B.1
  unfold f_X10_after_21
  refine k_istore F (lv' := [(4, .int xqs0), (0, .ref (ad E 0)), (1, .int xq1), (2, .int xq2), (3, .int xq3)]) 4 dX10_after_21 (by decide) rfl ?_
  refine k_iload_n (pc := 23) F 2 3 dX10_after_23 rfl rfl ?_
  refine k_bipush (pc := 24) F (v := (10 : Int32)) dX10_after_24 cb_10 ?_
  refine k_icmp_lt (pc := 26) F 52 dX10_after_26 (by decide) (fun _ => ?_) (fun _ => ?_)
  · exact k_sub [1, 2, 3, 4, 0] rfl (t_X10_after_52 B xq1 xq2 xq3 xqs0   σ)
  · refine k_iload_n (pc := 29) F 3 4 dX10_after_29 rfl rfl ?_
    refine k_aload_n (pc := 30) F 0 1 dX10_after_30 rfl rfl ?_
    refine gf_0_4 (pc := 31) F w_2_70 dX10_after_31 ?_
    refine gf_7_3 (pc := 34) F w_1_108 dX10_after_34 ?_
    refine k_icmp_ge (pc := 37) F 52 dX10_after_37 (by decide) (fun _ => ?_) (fun _ => ?_)
    · exact k_sub [1, 2, 3, 4, 0] rfl (t_X10_after_52 B xq1 xq2 xq3 xqs0   σ)
    · refine k_iload_n (pc := 40) F 2 3 dX10_after_40 rfl rfl ?_
      refine k_bipush (pc := 41) F (v := (10 : Int32)) dX10_after_41 cb_10 ?_
      refine k_irem (pc := 43) F dX10_after_43 (by decide) ?_
      refine k_iconst (pc := 44) F (v := (4 : Int32)) dX10_after_44 ci_4 ?_
      refine k_icmp_gt (pc := 45) F 52 dX10_after_45 (by decide) (fun _ => ?_) (fun _ => ?_)
      · exact k_sub [1, 2, 3, 4, 0] rfl (t_X10_after_52 B xq1 xq2 xq3 xqs0   σ)
      · refine k_iconst (pc := 48) F (v := (1 : Int32)) dX10_after_48 ci_1 ?_
        refine k_goto (pc := 49) F 53 dX10_after_49 (by decide) ?_
        exact k_sub [1, 2, 3, 4, 0] rfl (t_X10_after_53 B xq1 xq2 xq3 xqs0 (1 : Int32)   σ)
set_option maxHeartbeats 4000000 in
set_option maxRecDepth 100000 in
theorem t_X10_after_20 {E : En} {G : Cx} (B : Bx E G cX10_after 7 RX10 H_X10_after (some .int)) (xq1 : Int32) (xq2 : Int32) (xq3 : Int32)   (σ : Mm) : KR E G 7 (ZI E G) (f_X10_after_20 xq1 xq2 xq3 σ) 20 [(0, .ref (ad E 0)), (1, .int xq1), (2, .int xq2), (3, .int xq3)] [] σ := by
  have F := B.1
  unfold f_X10_after_20
  refine k_iconst (pc := 20) F (v := (0 : Int32)) dX10_after_20 ci_0 ?_
  exact k_sub [0, 1, 2, 3] rfl (t_X10_after_21 B xq1 xq2 xq3 (0 : Int32)   σ)
set_option maxHeartbeats 4000000 in
set_option maxRecDepth 100000 in
theorem t_X10_after {E : En} {G : Cx} (B : Bx E G cX10_after 7 RX10 H_X10_after (some .int)) (aq0 : Int32) (aq1 : Int32)  (σ : Mm) : KR E G 7 (ZI E G) (f_X10_after aq0 aq1 σ) 0 [(0, .ref (ad E 0)), (1, .int aq0), (2, .int aq1)] [] σ := by
  have F := B.1
  unfold f_X10_after
  refine k_iload_n (pc := 0) F 2 2 dX10_after_0 rfl rfl ?_
  refine k_bipush (pc := 1) F (v := (10 : Int32)) dX10_after_1 cb_10 ?_
  refine k_idiv (pc := 3) F dX10_after_3 (by decide) ?_
  refine k_iconst (pc := 4) F (v := (1 : Int32)) dX10_after_4 ci_1 ?_
  refine k_isub (pc := 5) F dX10_after_5 ?_
  refine k_nmI (fun vq1 => ?_)
  refine k_istore_n F (lv' := [(3, .int vq1), (0, .ref (ad E 0)), (1, .int aq0), (2, .int aq1)]) 3 dX10_after_6 rfl (by decide) rfl ?_
  refine k_iload_n (pc := 7) F 2 3 dX10_after_7 rfl rfl ?_
  refine k_if_lt (pc := 8) F 20 dX10_after_8 (by decide) (fun _ => ?_) (fun _ => ?_)
  · exact k_sub [1, 2, 3, 0] rfl (t_X10_after_20 B aq0 aq1 vq1   σ)
  · refine k_iload_n (pc := 11) F 2 3 dX10_after_11 rfl rfl ?_
    refine k_iconst (pc := 12) F (v := (3 : Int32)) dX10_after_12 ci_3 ?_
    refine k_icmp_ge (pc := 13) F 20 dX10_after_13 (by decide) (fun _ => ?_) (fun _ => ?_)
    · exact k_sub [1, 2, 3, 0] rfl (t_X10_after_20 B aq0 aq1 vq1   σ)
    · refine k_iconst (pc := 16) F (v := (1 : Int32)) dX10_after_16 ci_1 ?_
      refine k_goto (pc := 17) F 21 dX10_after_17 (by decide) ?_
      exact k_sub [1, 2, 3, 0] rfl (t_X10_after_21 B aq0 aq1 vq1 (1 : Int32)   σ)
set_option maxHeartbeats 4000000 in
set_option maxRecDepth 100000 in
theorem ct_X10_after (E : En) (aq0 : Int32) (aq1 : Int32)  (σ : Mm) : CtI E yX10_after cX10_after 7 (some .int) H_X10_after [.ref (ad E 0), .int aq0, .int aq1] σ (f_X10_after aq0 aq1 σ) := ct_I (by decide) (Nat.le_of_ble_eq_true rfl) rfl (fun G B => t_X10_after B aq0 aq1  σ)
abbrev H_X10_sheet : Nat := 2
theorem hR_X10_sheet_X10_isSheet : H_X10_isSheet + 1 ≤ H_X10_sheet ∧ 8 + (1 + 11) + 40 * H_X10_isSheet ≤ 40 * H_X10_sheet := by decide
theorem hR_X10_sheet_X6_begin : H_X6_begin + 1 ≤ H_X10_sheet ∧ 8 + (3 + 11) + 40 * H_X6_begin ≤ 40 * H_X10_sheet := by decide
theorem hR_X10_sheet_X0_tell : H_X0_tell + 1 ≤ H_X10_sheet ∧ 8 + (2 + 11) + 40 * H_X0_tell ≤ 40 * H_X10_sheet := by decide
set_option maxHeartbeats 4000000 in
set_option maxRecDepth 100000 in
theorem t_X10_sheet_38 {E : En} {G : Cx} (B : Bx E G cX10_sheet 4 RX10 H_X10_sheet (some .int)) (xq1 : Int32) (xq2 : Int32) (xq3 : Int32)   (σ : Mm) : KR E G 4 (ZI E G) (f_X10_sheet_38 xq1 xq2 xq3 σ) 38 [(0, .ref (ad E 0)), (1, .int xq1), (2, .int xq2), (3, .int xq3)] [] σ := by
  have F := B.1
  unfold f_X10_sheet_38
  refine k_iload_n (pc := 38) F 3 3 dX10_sheet_38 rfl rfl ?_
  refine k_if_ge (pc := 39) F 52 dX10_sheet_39 (by decide) (fun _ => ?_) (fun _ => ?_)
  · refine k_iload_n (pc := 52) F 3 3 dX10_sheet_52 rfl rfl ?_
    refine k_bipush (pc := 53) F (v := (40 : Int32)) dX10_sheet_53 cb_40 ?_
    refine k_icmp_le (pc := 55) F 67 dX10_sheet_55 (by decide) (fun _ => ?_) (fun _ => ?_)
    · refine k_aload_n (pc := 67) F 0 0 dX10_sheet_67 rfl rfl ?_
      refine gf_0_8 (pc := 68) F w_2_74 dX10_sheet_68 ?_
      refine k_iload_n (pc := 71) F 1 1 dX10_sheet_71 rfl rfl ?_
      refine k_aald4 (pc := 72) F dX10_sheet_72 (fun hsq5 => ?_)
      refine k_iload_n (pc := 73) F 2 2 dX10_sheet_73 rfl rfl ?_
      refine k_iload_n (pc := 74) F 2 2 dX10_sheet_74 rfl rfl ?_
      refine k_if_ne (pc := 75) F 82 dX10_sheet_75 (by decide) (fun _ => ?_) (fun _ => ?_)
      · refine k_iconst (pc := 78) F (v := (0 : Int32)) dX10_sheet_78 ci_0 ?_
        refine k_goto (pc := 79) F 83 dX10_sheet_79 (by decide) ?_
        refine k_callVV (pc := 83) B (k := (shI xq1)) (As := [.int xq2, .int (0 : Int32)]) (rest := []) (ct_X6_begin E (shI xq1) xq2 (0 : Int32) hsq5 σ) (isSh_l hsq5) rfl mv_X6_begin w_4_106 rfl hR_X10_sheet_X6_begin rfl (Nat.le_of_ble_eq_true rfl) dX10_sheet_83 (fun rq10 σ9 hoq => ?_)
        refine k_aload_n (pc := 86) F 0 0 dX10_sheet_86 rfl rfl ?_
        refine gf_0_8 (pc := 87) F w_2_74 dX10_sheet_87 ?_
        refine k_iload_n (pc := 90) F 1 1 dX10_sheet_90 rfl rfl ?_
        refine k_aald4 (pc := 91) F dX10_sheet_91 (fun hsq11 => ?_)
        refine gf_isSh_1 (pc := 92) F hsq11 w_2_55 dX10_sheet_92 ?_
        exact k_iret (pc := 95) B dX10_sheet_95
      · refine k_iload_n (pc := 82) F 3 3 dX10_sheet_82 rfl rfl ?_
        refine k_callVV (pc := 83) B (k := (shI xq1)) (As := [.int xq2, .int xq3]) (rest := []) (ct_X6_begin E (shI xq1) xq2 xq3 hsq5 σ) (isSh_l hsq5) rfl mv_X6_begin w_4_106 rfl hR_X10_sheet_X6_begin rfl (Nat.le_of_ble_eq_true rfl) dX10_sheet_83 (fun rq7 σ6 hoq => ?_)
        refine k_aload_n (pc := 86) F 0 0 dX10_sheet_86 rfl rfl ?_
        refine gf_0_8 (pc := 87) F w_2_74 dX10_sheet_87 ?_
        refine k_iload_n (pc := 90) F 1 1 dX10_sheet_90 rfl rfl ?_
        refine k_aald4 (pc := 91) F dX10_sheet_91 (fun hsq8 => ?_)
        refine gf_isSh_1 (pc := 92) F hsq8 w_2_55 dX10_sheet_92 ?_
        exact k_iret (pc := 95) B dX10_sheet_95
    · refine k_aload_n (pc := 58) F 0 0 dX10_sheet_58 rfl rfl ?_
      refine gf_0_0 (pc := 59) F w_2_66 dX10_sheet_59 ?_
      refine k_iconst (pc := 62) F (v := (0 : Int32)) dX10_sheet_62 ci_0 ?_
      refine k_callVI (pc := 63) B (k := 1) (As := [.int (0 : Int32)]) (rest := []) (ct_X0_tell E (0 : Int32)  σ) rfl rfl mv_X0_tell w_2_98 rfl hR_X10_sheet_X0_tell rfl (Nat.le_of_ble_eq_true rfl) dX10_sheet_63 (fun rq13 σ12 hoq => ?_)
      exact k_iret (pc := 66) B dX10_sheet_66
  · refine k_aload_n (pc := 42) F 0 0 dX10_sheet_42 rfl rfl ?_
    refine gf_0_0 (pc := 43) F w_2_66 dX10_sheet_43 ?_
    refine k_bipush (pc := 46) F (v := (6 : Int32)) dX10_sheet_46 cb_6 ?_
    refine k_callVI (pc := 48) B (k := 1) (As := [.int (6 : Int32)]) (rest := []) (ct_X0_tell E (6 : Int32)  σ) rfl rfl mv_X0_tell w_2_98 rfl hR_X10_sheet_X0_tell rfl (Nat.le_of_ble_eq_true rfl) dX10_sheet_48 (fun rq15 σ14 hoq => ?_)
    exact k_iret (pc := 51) B dX10_sheet_51
set_option maxHeartbeats 4000000 in
set_option maxRecDepth 100000 in
theorem t_X10_sheet {E : En} {G : Cx} (B : Bx E G cX10_sheet 4 RX10 H_X10_sheet (some .int)) (aq0 : Int32) (aq1 : Int32) (aq2 : Int32)  (σ : Mm) : KR E G 4 (ZI E G) (f_X10_sheet aq0 aq1 aq2 σ) 0 [(0, .ref (ad E 0)), (1, .int aq0), (2, .int aq1), (3, .int aq2)] [] σ := by
  have F := B.1
  unfold f_X10_sheet
  refine k_iload_n (pc := 0) F 1 1 dX10_sheet_0 rfl rfl ?_
  refine k_callSI (pc := 1) B (As := [.int aq0]) (rest := []) (ct_X10_isSheet E aq0  σ) ms_X10_isSheet w_4_47 rfl hR_X10_sheet_X10_isSheet rfl (Nat.le_of_ble_eq_true rfl) dX10_sheet_1 (fun rq2 σ1 hoq => ?_)
  refine k_if_eq (pc := 4) F 29 dX10_sheet_4 (by decide) (fun _ => ?_) (fun _ => ?_)
  · refine k_aload_n (pc := 29) F 0 0 dX10_sheet_29 rfl rfl ?_
    refine gf_0_0 (pc := 30) F w_2_66 dX10_sheet_30 ?_
    refine k_iconst (pc := 33) F (v := (0 : Int32)) dX10_sheet_33 ci_0 ?_
    refine k_callVI (pc := 34) B (k := 1) (As := [.int (0 : Int32)]) (rest := []) (ct_X0_tell E (0 : Int32)  σ1) rfl rfl mv_X0_tell w_2_98 rfl hR_X10_sheet_X0_tell rfl (Nat.le_of_ble_eq_true rfl) dX10_sheet_34 (fun rq4 σ3 hoq => ?_)
    exact k_iret (pc := 37) B dX10_sheet_37
  · refine k_iload_n (pc := 7) F 2 2 dX10_sheet_7 rfl rfl ?_
    refine k_if_eq (pc := 8) F 38 dX10_sheet_8 (by decide) (fun _ => ?_) (fun _ => ?_)
    · exact k_sub [0, 1, 2, 3] rfl (t_X10_sheet_38 B aq0 aq1 aq2   σ1)
    · refine k_iload_n (pc := 11) F 2 2 dX10_sheet_11 rfl rfl ?_
      refine k_bipush (pc := 12) F (v := (8 : Int32)) dX10_sheet_12 cb_8 ?_
      refine k_icmp_eq (pc := 14) F 38 dX10_sheet_14 (by decide) (fun _ => ?_) (fun _ => ?_)
      · exact k_sub [0, 1, 2, 3] rfl (t_X10_sheet_38 B aq0 aq1 aq2   σ1)
      · refine k_iload_n (pc := 17) F 2 2 dX10_sheet_17 rfl rfl ?_
        refine k_bipush (pc := 18) F (v := (16 : Int32)) dX10_sheet_18 cb_16 ?_
        refine k_icmp_eq (pc := 20) F 38 dX10_sheet_20 (by decide) (fun _ => ?_) (fun _ => ?_)
        · exact k_sub [0, 1, 2, 3] rfl (t_X10_sheet_38 B aq0 aq1 aq2   σ1)
        · refine k_iload_n (pc := 23) F 2 2 dX10_sheet_23 rfl rfl ?_
          refine k_bipush (pc := 24) F (v := (64 : Int32)) dX10_sheet_24 cb_64 ?_
          refine k_icmp_eq (pc := 26) F 38 dX10_sheet_26 (by decide) (fun _ => ?_) (fun _ => ?_)
          · exact k_sub [0, 1, 2, 3] rfl (t_X10_sheet_38 B aq0 aq1 aq2   σ1)
          · refine k_aload_n (pc := 29) F 0 0 dX10_sheet_29 rfl rfl ?_
            refine gf_0_0 (pc := 30) F w_2_66 dX10_sheet_30 ?_
            refine k_iconst (pc := 33) F (v := (0 : Int32)) dX10_sheet_33 ci_0 ?_
            refine k_callVI (pc := 34) B (k := 1) (As := [.int (0 : Int32)]) (rest := []) (ct_X0_tell E (0 : Int32)  σ1) rfl rfl mv_X0_tell w_2_98 rfl hR_X10_sheet_X0_tell rfl (Nat.le_of_ble_eq_true rfl) dX10_sheet_34 (fun rq17 σ16 hoq => ?_)
            exact k_iret (pc := 37) B dX10_sheet_37
set_option maxHeartbeats 4000000 in
set_option maxRecDepth 100000 in
theorem ct_X10_sheet (E : En) (aq0 : Int32) (aq1 : Int32) (aq2 : Int32)  (σ : Mm) : CtI E yX10_sheet cX10_sheet 4 (some .int) H_X10_sheet [.ref (ad E 0), .int aq0, .int aq1, .int aq2] σ (f_X10_sheet aq0 aq1 aq2 σ) := ct_I (by decide) (Nat.le_of_ble_eq_true rfl) rfl (fun G B => t_X10_sheet B aq0 aq1 aq2  σ)
abbrev H_X10_write : Nat := 1
theorem hR_X10_write_X10_isSheet : H_X10_isSheet + 1 ≤ H_X10_write ∧ 8 + (1 + 11) + 40 * H_X10_isSheet ≤ 40 * H_X10_write := by decide
theorem hR_X10_write_X6_put : H_X6_put + 1 ≤ H_X10_write ∧ 8 + (4 + 11) + 40 * H_X6_put ≤ 40 * H_X10_write := by decide
theorem hR_X10_write_X0_tell : H_X0_tell + 1 ≤ H_X10_write ∧ 8 + (2 + 11) + 40 * H_X0_tell ≤ 40 * H_X10_write := by decide
set_option maxHeartbeats 4000000 in
set_option maxRecDepth 100000 in
theorem t_X10_write {E : En} {G : Cx} (B : Bx E G cX10_write 7 RX10 H_X10_write (some .long)) (aq0 : Int32) (aq1 : Int32) (aq2 : Int64)  (σ : Mm) : KR E G 7 (ZL E G) (f_X10_write aq0 aq1 aq2 σ) 0 [(0, .ref (ad E 0)), (1, .int aq0), (2, .int aq1), (3, .long aq2)] [] σ := by
  have F := B.1
  unfold f_X10_write
  refine k_iload_n (pc := 0) F 1 1 dX10_write_0 rfl rfl ?_
  refine k_callSI (pc := 1) B (As := [.int aq0]) (rest := []) (ct_X10_isSheet E aq0  σ) ms_X10_isSheet w_4_47 rfl hR_X10_write_X10_isSheet rfl (Nat.le_of_ble_eq_true rfl) dX10_write_1 (fun rq2 σ1 hoq => ?_)
  refine k_if_ne (pc := 4) F 17 dX10_write_4 (by decide) (fun _ => ?_) (fun _ => ?_)
  · refine k_aload_n (pc := 7) F 0 0 dX10_write_7 rfl rfl ?_
    refine gf_0_0 (pc := 8) F w_2_66 dX10_write_8 ?_
    refine k_iconst (pc := 11) F (v := (0 : Int32)) dX10_write_11 ci_0 ?_
    refine k_callVI (pc := 12) B (k := 1) (As := [.int (0 : Int32)]) (rest := []) (ct_X0_tell E (0 : Int32)  σ1) rfl rfl mv_X0_tell w_2_98 rfl hR_X10_write_X0_tell rfl (Nat.le_of_ble_eq_true rfl) dX10_write_12 (fun rq17 σ16 hoq => ?_)
    refine k_i2l (pc := 15) F dX10_write_15 ?_
    exact k_lret (pc := 16) B dX10_write_16
  · refine k_aload_n (pc := 17) F 0 0 dX10_write_17 rfl rfl ?_
    refine gf_0_8 (pc := 18) F w_2_74 dX10_write_18 ?_
    refine k_iload_n (pc := 21) F 1 1 dX10_write_21 rfl rfl ?_
    refine k_aald4 (pc := 22) F dX10_write_22 (fun hsq3 => ?_)
    refine gf_isSh_0 (pc := 23) F hsq3 w_2_52 dX10_write_23 ?_
    refine k_if_ne (pc := 26) F 39 dX10_write_26 (by decide) (fun _ => ?_) (fun _ => ?_)
    · refine k_aload_n (pc := 29) F 0 0 dX10_write_29 rfl rfl ?_
      refine gf_0_0 (pc := 30) F w_2_66 dX10_write_30 ?_
      refine k_iconst (pc := 33) F (v := (5 : Int32)) dX10_write_33 ci_5 ?_
      refine k_callVI (pc := 34) B (k := 1) (As := [.int (5 : Int32)]) (rest := []) (ct_X0_tell E (5 : Int32)  σ1) rfl rfl mv_X0_tell w_2_98 rfl hR_X10_write_X0_tell rfl (Nat.le_of_ble_eq_true rfl) dX10_write_34 (fun rq15 σ14 hoq => ?_)
      refine k_i2l (pc := 37) F dX10_write_37 ?_
      exact k_lret (pc := 38) B dX10_write_38
    · refine k_iload_n (pc := 39) F 2 2 dX10_write_39 rfl rfl ?_
      refine k_if_lt (pc := 40) F 56 dX10_write_40 (by decide) (fun _ => ?_) (fun _ => ?_)
      · refine k_aload_n (pc := 56) F 0 0 dX10_write_56 rfl rfl ?_
        refine gf_0_0 (pc := 57) F w_2_66 dX10_write_57 ?_
        refine k_iconst (pc := 60) F (v := (0 : Int32)) dX10_write_60 ci_0 ?_
        refine k_callVI (pc := 61) B (k := 1) (As := [.int (0 : Int32)]) (rest := []) (ct_X0_tell E (0 : Int32)  σ1) rfl rfl mv_X0_tell w_2_98 rfl hR_X10_write_X0_tell rfl (Nat.le_of_ble_eq_true rfl) dX10_write_61 (fun rq5 σ4 hoq => ?_)
        refine k_i2l (pc := 64) F dX10_write_64 ?_
        exact k_lret (pc := 65) B dX10_write_65
      · refine k_iload_n (pc := 43) F 2 2 dX10_write_43 rfl rfl ?_
        refine k_aload_n (pc := 44) F 0 0 dX10_write_44 rfl rfl ?_
        refine gf_0_8 (pc := 45) F w_2_74 dX10_write_45 ?_
        refine k_iload_n (pc := 48) F 1 1 dX10_write_48 rfl rfl ?_
        refine k_aald4 (pc := 49) F dX10_write_49 (fun hsq6 => ?_)
        refine gf_isSh_1 (pc := 50) F hsq6 w_2_55 dX10_write_50 ?_
        refine k_icmp_lt (pc := 53) F 66 dX10_write_53 (by decide) (fun _ => ?_) (fun _ => ?_)
        · refine k_aload_n (pc := 66) F 0 0 dX10_write_66 rfl rfl ?_
          refine gf_0_8 (pc := 67) F w_2_74 dX10_write_67 ?_
          refine k_iload_n (pc := 70) F 1 1 dX10_write_70 rfl rfl ?_
          refine k_aald4 (pc := 71) F dX10_write_71 (fun hsq7 => ?_)
          refine gf_isSh_2 (pc := 72) F hsq7 w_2_58 dX10_write_72 ?_
          refine k_iload_n (pc := 75) F 2 2 dX10_write_75 rfl rfl ?_
          refine k_lald (pc := 76) F (isSh_a1 hsq7) dX10_write_76 ?_
          refine k_nmL (fun vq8 => ?_)
          refine k_lstore F (lv' := [(5, .long vq8), (0, .ref (ad E 0)), (1, .int aq0), (2, .int aq1), (3, .long aq2)]) 5 dX10_write_77 (by decide) rfl ?_
          refine k_aload_n (pc := 79) F 0 1 dX10_write_79 rfl rfl ?_
          refine gf_0_8 (pc := 80) F w_2_74 dX10_write_80 ?_
          refine k_iload_n (pc := 83) F 1 2 dX10_write_83 rfl rfl ?_
          refine k_aald4 (pc := 84) F dX10_write_84 (fun hsq9 => ?_)
          refine k_iload_n (pc := 85) F 2 3 dX10_write_85 rfl rfl ?_
          refine k_lload_n (pc := 86) F 3 4 dX10_write_86 rfl rfl ?_
          refine k_callVV (pc := 87) B (k := (shI aq0)) (As := [.int aq1, .long aq2]) (rest := []) (ct_X6_put E (shI aq0) aq1 aq2 hsq9 σ1) (isSh_l hsq9) rfl mv_X6_put w_4_117 rfl hR_X10_write_X6_put rfl (Nat.le_of_ble_eq_true rfl) dX10_write_87 (fun rq11 σ10 hoq => ?_)
          refine k_lload (pc := 90) F 5 0 dX10_write_90 rfl ?_
          exact k_lret (pc := 92) B dX10_write_92
        · refine k_aload_n (pc := 56) F 0 0 dX10_write_56 rfl rfl ?_
          refine gf_0_0 (pc := 57) F w_2_66 dX10_write_57 ?_
          refine k_iconst (pc := 60) F (v := (0 : Int32)) dX10_write_60 ci_0 ?_
          refine k_callVI (pc := 61) B (k := 1) (As := [.int (0 : Int32)]) (rest := []) (ct_X0_tell E (0 : Int32)  σ1) rfl rfl mv_X0_tell w_2_98 rfl hR_X10_write_X0_tell rfl (Nat.le_of_ble_eq_true rfl) dX10_write_61 (fun rq13 σ12 hoq => ?_)
          refine k_i2l (pc := 64) F dX10_write_64 ?_
          exact k_lret (pc := 65) B dX10_write_65
set_option maxHeartbeats 4000000 in
set_option maxRecDepth 100000 in
theorem ct_X10_write (E : En) (aq0 : Int32) (aq1 : Int32) (aq2 : Int64)  (σ : Mm) : CtL E yX10_write cX10_write 7 (some .long) H_X10_write [.ref (ad E 0), .int aq0, .int aq1, .long aq2] σ (f_X10_write aq0 aq1 aq2 σ) := ct_L (by decide) (Nat.le_of_ble_eq_true rfl) rfl (fun G B => t_X10_write B aq0 aq1 aq2  σ)
abbrev H_X10_copy : Nat := 1
theorem hR_X10_copy_X10_isSheet : H_X10_isSheet + 1 ≤ H_X10_copy ∧ 8 + (1 + 11) + 40 * H_X10_isSheet ≤ 40 * H_X10_copy := by decide
theorem hR_X10_copy_X6_hasRange : H_X6_hasRange + 1 ≤ H_X10_copy ∧ 8 + (3 + 11) + 40 * H_X6_hasRange ≤ 40 * H_X10_copy := by decide
theorem hR_X10_copy_X0_tell : H_X0_tell + 1 ≤ H_X10_copy ∧ 8 + (2 + 11) + 40 * H_X0_tell ≤ 40 * H_X10_copy := by decide
set_option maxHeartbeats 4000000 in
set_option maxRecDepth 100000 in
theorem t_X10_copy {E : En} {G : Cx} (B : Bx E G cX10_copy 8 RX10 H_X10_copy (some .int)) (aq0 : Int32) (aq1 : Int32) (aq2 : Int32) (aq3 : Int32) (aq4 : Int32)  (σ : Mm) : KR E G 8 (ZI E G) (f_X10_copy aq0 aq1 aq2 aq3 aq4 σ) 0 [(0, .ref (ad E 0)), (1, .int aq0), (2, .int aq1), (3, .int aq2), (4, .int aq3), (5, .int aq4)] [] σ := by
  have F := B.1
  unfold f_X10_copy
  refine k_iload_n (pc := 0) F 1 1 dX10_copy_0 rfl rfl ?_
  refine k_callSI (pc := 1) B (As := [.int aq0]) (rest := []) (ct_X10_isSheet E aq0  σ) ms_X10_isSheet w_4_47 rfl hR_X10_copy_X10_isSheet rfl (Nat.le_of_ble_eq_true rfl) dX10_copy_1 (fun rq2 σ1 hoq => ?_)
  refine k_if_eq (pc := 4) F 14 dX10_copy_4 (by decide) (fun _ => ?_) (fun _ => ?_)
  · refine k_aload_n (pc := 14) F 0 0 dX10_copy_14 rfl rfl ?_
    refine gf_0_0 (pc := 15) F w_2_66 dX10_copy_15 ?_
    refine k_iconst (pc := 18) F (v := (0 : Int32)) dX10_copy_18 ci_0 ?_
    refine k_callVI (pc := 19) B (k := 1) (As := [.int (0 : Int32)]) (rest := []) (ct_X0_tell E (0 : Int32)  σ1) rfl rfl mv_X0_tell w_2_98 rfl hR_X10_copy_X0_tell rfl (Nat.le_of_ble_eq_true rfl) dX10_copy_19 (fun rq4 σ3 hoq => ?_)
    exact k_iret (pc := 22) B dX10_copy_22
  · refine k_iload_n (pc := 7) F 3 3 dX10_copy_7 rfl rfl ?_
    refine k_callSI (pc := 8) B (As := [.int aq2]) (rest := []) (ct_X10_isSheet E aq2  σ1) ms_X10_isSheet w_4_47 rfl hR_X10_copy_X10_isSheet rfl (Nat.le_of_ble_eq_true rfl) dX10_copy_8 (fun rq6 σ5 hoq => ?_)
    refine k_if_ne (pc := 11) F 23 dX10_copy_11 (by decide) (fun _ => ?_) (fun _ => ?_)
    · refine k_aload_n (pc := 14) F 0 0 dX10_copy_14 rfl rfl ?_
      refine gf_0_0 (pc := 15) F w_2_66 dX10_copy_15 ?_
      refine k_iconst (pc := 18) F (v := (0 : Int32)) dX10_copy_18 ci_0 ?_
      refine k_callVI (pc := 19) B (k := 1) (As := [.int (0 : Int32)]) (rest := []) (ct_X0_tell E (0 : Int32)  σ5) rfl rfl mv_X0_tell w_2_98 rfl hR_X10_copy_X0_tell rfl (Nat.le_of_ble_eq_true rfl) dX10_copy_19 (fun rq25 σ24 hoq => ?_)
      exact k_iret (pc := 22) B dX10_copy_22
    · refine k_aload_n (pc := 23) F 0 0 dX10_copy_23 rfl rfl ?_
      refine gf_0_8 (pc := 24) F w_2_74 dX10_copy_24 ?_
      refine k_iload_n (pc := 27) F 1 1 dX10_copy_27 rfl rfl ?_
      refine k_aald4 (pc := 28) F dX10_copy_28 (fun hsq7 => ?_)
      refine k_astore F (lv' := [(6, .ref (ad E (shI aq0))), (0, .ref (ad E 0)), (1, .int aq0), (2, .int aq1), (3, .int aq2), (4, .int aq3), (5, .int aq4)]) 6 dX10_copy_29 (by decide) rfl ?_
      refine k_aload_n (pc := 31) F 0 1 dX10_copy_31 rfl rfl ?_
      refine gf_0_8 (pc := 32) F w_2_74 dX10_copy_32 ?_
      refine k_iload_n (pc := 35) F 3 4 dX10_copy_35 rfl rfl ?_
      refine k_aald4 (pc := 36) F dX10_copy_36 (fun hsq8 => ?_)
      refine k_astore F (lv' := [(7, .ref (ad E (shI aq2))), (6, .ref (ad E (shI aq0))), (0, .ref (ad E 0)), (1, .int aq0), (2, .int aq1), (3, .int aq2), (4, .int aq3), (5, .int aq4)]) 7 dX10_copy_37 (by decide) rfl ?_
      refine k_aload (pc := 39) F 6 1 dX10_copy_39 rfl ?_
      refine gf_isSh_0 (pc := 41) F hsq7 w_2_52 dX10_copy_41 ?_
      refine k_if_eq (pc := 44) F 55 dX10_copy_44 (by decide) (fun _ => ?_) (fun _ => ?_)
      · refine k_aload_n (pc := 55) F 0 2 dX10_copy_55 rfl rfl ?_
        refine gf_0_0 (pc := 56) F w_2_66 dX10_copy_56 ?_
        refine k_iconst (pc := 59) F (v := (5 : Int32)) dX10_copy_59 ci_5 ?_
        refine k_callVI (pc := 60) B (k := 1) (As := [.int (5 : Int32)]) (rest := []) (ct_X0_tell E (5 : Int32)  σ5) rfl rfl mv_X0_tell w_2_98 rfl hR_X10_copy_X0_tell rfl (Nat.le_of_ble_eq_true rfl) dX10_copy_60 (fun rq10 σ9 hoq => ?_)
        exact k_iret (pc := 63) B dX10_copy_63
      · refine k_aload (pc := 47) F 7 0 dX10_copy_47 rfl ?_
        refine gf_isSh_0 (pc := 49) F hsq8 w_2_52 dX10_copy_49 ?_
        refine k_if_ne (pc := 52) F 64 dX10_copy_52 (by decide) (fun _ => ?_) (fun _ => ?_)
        · refine k_aload_n (pc := 55) F 0 2 dX10_copy_55 rfl rfl ?_
          refine gf_0_0 (pc := 56) F w_2_66 dX10_copy_56 ?_
          refine k_iconst (pc := 59) F (v := (5 : Int32)) dX10_copy_59 ci_5 ?_
          refine k_callVI (pc := 60) B (k := 1) (As := [.int (5 : Int32)]) (rest := []) (ct_X0_tell E (5 : Int32)  σ5) rfl rfl mv_X0_tell w_2_98 rfl hR_X10_copy_X0_tell rfl (Nat.le_of_ble_eq_true rfl) dX10_copy_60 (fun rq23 σ22 hoq => ?_)
          exact k_iret (pc := 63) B dX10_copy_63
        · refine k_aload (pc := 64) F 6 1 dX10_copy_64 rfl ?_
          refine gf_isSh_0 (pc := 66) F hsq7 w_2_52 dX10_copy_66 ?_
          refine k_aload (pc := 69) F 7 0 dX10_copy_69 rfl ?_
          refine gf_isSh_0 (pc := 71) F hsq8 w_2_52 dX10_copy_71 ?_
          refine k_icmp_eq (pc := 74) F 86 dX10_copy_74 (by decide) (fun _ => ?_) (fun _ => ?_)
          · refine k_aload (pc := 86) F 6 1 dX10_copy_86 rfl ?_
            refine k_iload_n (pc := 88) F 2 4 dX10_copy_88 rfl rfl ?_
            refine k_iload (pc := 89) F 5 7 dX10_copy_89 rfl ?_
            refine k_callVI (pc := 91) B (k := (shI aq0)) (As := [.int aq1, .int aq4]) (rest := []) (ct_X6_hasRange E (shI aq0) aq1 aq4 hsq7 σ5) (isSh_l hsq7) rfl mv_X6_hasRange w_4_125 rfl hR_X10_copy_X6_hasRange rfl (Nat.le_of_ble_eq_true rfl) dX10_copy_91 (fun rq12 σ11 hoq => ?_)
            refine k_if_eq (pc := 94) F 109 dX10_copy_94 (by decide) (fun _ => ?_) (fun _ => ?_)
            · refine k_aload_n (pc := 109) F 0 2 dX10_copy_109 rfl rfl ?_
              refine gf_0_0 (pc := 110) F w_2_66 dX10_copy_110 ?_
              refine k_iconst (pc := 113) F (v := (0 : Int32)) dX10_copy_113 ci_0 ?_
              refine k_callVI (pc := 114) B (k := 1) (As := [.int (0 : Int32)]) (rest := []) (ct_X0_tell E (0 : Int32)  σ11) rfl rfl mv_X0_tell w_2_98 rfl hR_X10_copy_X0_tell rfl (Nat.le_of_ble_eq_true rfl) dX10_copy_114 (fun rq14 σ13 hoq => ?_)
              exact k_iret (pc := 117) B dX10_copy_117
            · refine k_aload (pc := 97) F 7 0 dX10_copy_97 rfl ?_
              refine k_iload (pc := 99) F 4 6 dX10_copy_99 rfl ?_
              refine k_iload (pc := 101) F 5 7 dX10_copy_101 rfl ?_
              refine k_callVI (pc := 103) B (k := (shI aq2)) (As := [.int aq3, .int aq4]) (rest := []) (ct_X6_hasRange E (shI aq2) aq3 aq4 hsq8 σ11) (isSh_l hsq8) rfl mv_X6_hasRange w_4_125 rfl hR_X10_copy_X6_hasRange rfl (Nat.le_of_ble_eq_true rfl) dX10_copy_103 (fun rq16 σ15 hoq => ?_)
              refine k_if_ne (pc := 106) F 118 dX10_copy_106 (by decide) (fun _ => ?_) (fun _ => ?_)
              · refine k_aload_n (pc := 109) F 0 2 dX10_copy_109 rfl rfl ?_
                refine gf_0_0 (pc := 110) F w_2_66 dX10_copy_110 ?_
                refine k_iconst (pc := 113) F (v := (0 : Int32)) dX10_copy_113 ci_0 ?_
                refine k_callVI (pc := 114) B (k := 1) (As := [.int (0 : Int32)]) (rest := []) (ct_X0_tell E (0 : Int32)  σ15) rfl rfl mv_X0_tell w_2_98 rfl hR_X10_copy_X0_tell rfl (Nat.le_of_ble_eq_true rfl) dX10_copy_114 (fun rq19 σ18 hoq => ?_)
                exact k_iret (pc := 117) B dX10_copy_117
              · refine k_aload (pc := 118) F 6 1 dX10_copy_118 rfl ?_
                refine gf_isSh_2 (pc := 120) F hsq7 w_2_58 dX10_copy_120 ?_
                refine k_iload_n (pc := 123) F 2 4 dX10_copy_123 rfl rfl ?_
                refine k_aload (pc := 124) F 7 0 dX10_copy_124 rfl ?_
                refine gf_isSh_2 (pc := 126) F hsq8 w_2_58 dX10_copy_126 ?_
                refine k_iload (pc := 129) F 4 6 dX10_copy_129 rfl ?_
                refine k_iload (pc := 131) F 5 7 dX10_copy_131 rfl ?_
                refine k_cpL (pc := 133) B (isSh_a1 hsq7) (isSh_a1 hsq8) w_4_129 (by decide) (Nat.le_of_ble_eq_true rfl) dX10_copy_133 (fun σ17 => ?_)
                refine k_iload (pc := 136) F 5 7 dX10_copy_136 rfl ?_
                exact k_iret (pc := 138) B dX10_copy_138
          · refine k_aload_n (pc := 77) F 0 2 dX10_copy_77 rfl rfl ?_
            refine gf_0_0 (pc := 78) F w_2_66 dX10_copy_78 ?_
            refine k_iconst (pc := 81) F (v := (2 : Int32)) dX10_copy_81 ci_2 ?_
            refine k_callVI (pc := 82) B (k := 1) (As := [.int (2 : Int32)]) (rest := []) (ct_X0_tell E (2 : Int32)  σ5) rfl rfl mv_X0_tell w_2_98 rfl hR_X10_copy_X0_tell rfl (Nat.le_of_ble_eq_true rfl) dX10_copy_82 (fun rq21 σ20 hoq => ?_)
            exact k_iret (pc := 85) B dX10_copy_85
set_option maxHeartbeats 4000000 in
set_option maxRecDepth 100000 in
theorem ct_X10_copy (E : En) (aq0 : Int32) (aq1 : Int32) (aq2 : Int32) (aq3 : Int32) (aq4 : Int32)  (σ : Mm) : CtI E yX10_copy cX10_copy 8 (some .int) H_X10_copy [.ref (ad E 0), .int aq0, .int aq1, .int aq2, .int aq3, .int aq4] σ (f_X10_copy aq0 aq1 aq2 aq3 aq4 σ) := ct_I (by decide) (Nat.le_of_ble_eq_true rfl) rfl (fun G B => t_X10_copy B aq0 aq1 aq2 aq3 aq4  σ)
