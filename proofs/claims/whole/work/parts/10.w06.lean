abbrev H_X10_lead : Nat := 15
theorem hR_X10_lead_X6_begin : H_X6_begin + 1 ≤ H_X10_lead ∧ 8 + (3 + 11) + 40 * H_X6_begin ≤ 40 * H_X10_lead := by decide
theorem hR_X10_lead_X0_tell : H_X0_tell + 1 ≤ H_X10_lead ∧ 8 + (2 + 11) + 40 * H_X0_tell ≤ 40 * H_X10_lead := by decide
theorem hR_X10_lead_X7_walkToWorst : H_X7_walkToWorst + 1 ≤ H_X10_lead ∧ 8 + (2 + 11) + 40 * H_X7_walkToWorst ≤ 40 * H_X10_lead := by decide
theorem hR_X10_lead_X7_isTooLarge : H_X7_isTooLarge + 1 ≤ H_X10_lead ∧ 8 + (1 + 11) + 40 * H_X7_isTooLarge ≤ 40 * H_X10_lead := by decide
theorem hR_X10_lead_X10_isSheet : H_X10_isSheet + 1 ≤ H_X10_lead ∧ 8 + (1 + 11) + 40 * H_X10_isSheet ≤ 40 * H_X10_lead := by decide
theorem hR_X10_lead_X9_moveOnPath : H_X9_moveOnPath + 1 ≤ H_X10_lead ∧ 8 + (2 + 11) + 40 * H_X9_moveOnPath ≤ 40 * H_X10_lead := by decide
theorem hR_X10_lead_X6_put : H_X6_put + 1 ≤ H_X10_lead ∧ 8 + (4 + 11) + 40 * H_X6_put ≤ 40 * H_X10_lead := by decide
set_option maxHeartbeats 4000000 in
set_option maxRecDepth 100000 in
theorem t_X10_lead_L86b {E : En} {G : Cx} (B : Bx E G cX10_lead 4 RX10 H_X10_lead (some .int)) (xq1 : Int32) (xq2 : Int32)   (L86 : Int32 → Mm → Option (Int32 × Mm)) (hL86 : ∀ (xq3 : Int32)  (σ : Mm), KR E G 4 (ZI E G) (L86 xq3 σ) 86 [(0, .ref (ad E 0)), (1, .int xq1), (2, .int xq2), (3, .int xq3)] [] σ) (xq3 : Int32)  (σ : Mm) : KR E G 4 (ZI E G) (f_X10_lead_L86 xq1 xq2 L86 xq3 σ) 86 [(0, .ref (ad E 0)), (1, .int xq1), (2, .int xq2), (3, .int xq3)] [] σ := by
  have F := B.1
  unfold f_X10_lead_L86
  refine k_iload_n (pc := 86) F 3 3 dX10_lead_86 rfl rfl ?_
  refine k_iload_n (pc := 87) F 2 2 dX10_lead_87 rfl rfl ?_
  refine k_icmp_ge (pc := 88) F 119 dX10_lead_88 (by decide) (fun _ => ?_) (fun _ => ?_)
  · refine k_iload_n (pc := 119) F 2 2 dX10_lead_119 rfl rfl ?_
    exact k_iret (pc := 120) B dX10_lead_120
  · refine k_aload_n (pc := 91) F 0 0 dX10_lead_91 rfl rfl ?_
    refine gf_0_8 (pc := 92) F w_2_74 dX10_lead_92 ?_
    refine k_iload_n (pc := 95) F 1 1 dX10_lead_95 rfl rfl ?_
    refine k_aald4 (pc := 96) F dX10_lead_96 (fun hsq10 => ?_)
    refine k_iload_n (pc := 97) F 3 3 dX10_lead_97 rfl rfl ?_
    refine k_aload_n (pc := 98) F 0 0 dX10_lead_98 rfl rfl ?_
    refine gf_0_3 (pc := 99) F w_2_69 dX10_lead_99 ?_
    refine gf_6_2 (pc := 102) F w_1_236 dX10_lead_102 ?_
    refine k_iload_n (pc := 105) F 3 3 dX10_lead_105 rfl rfl ?_
    refine k_callVI (pc := 106) B (k := 18) (As := [.int xq3]) (rest := [.int xq3, .ref (ad E (shI xq1))]) (ct_X9_moveOnPath E xq3  σ) rfl rfl mv_X9_moveOnPath w_3_207 rfl hR_X10_lead_X9_moveOnPath rfl (Nat.le_of_ble_eq_true rfl) dX10_lead_106 (fun rq12 σ11 hoq => ?_)
    refine k_i2l (pc := 109) F dX10_lead_109 ?_
    refine k_callVV (pc := 110) B (k := (shI xq1)) (As := [.int xq3, .long ((rq12).toInt64)]) (rest := []) (ct_X6_put E (shI xq1) xq3 ((rq12).toInt64) hsq10 σ11) (isSh_l hsq10) rfl mv_X6_put w_4_117 rfl hR_X10_lead_X6_put rfl (Nat.le_of_ble_eq_true rfl) dX10_lead_110 (fun rq14 σ13 hoq => ?_)
    refine k_iinc (pc := 113) F (c := (1 : Int32)) (lw := fun wq => [(3, .int wq), (0, .ref (ad E 0)), (1, .int xq1), (2, .int xq2)]) 3 3 dX10_lead_113 rfl ci_1 (by decide) (fun _ => rfl) (fun vq15 => ?_)
    refine k_goto (pc := 116) F 86 dX10_lead_116 (by decide) ?_
    exact k_sub [1, 2, 3, 0] rfl (hL86 vq15 σ13)
set_option maxHeartbeats 4000000 in
set_option maxRecDepth 100000 in
theorem t_X10_lead_L86 {E : En} {G : Cx} (B : Bx E G cX10_lead 4 RX10 H_X10_lead (some .int)) (xq1 : Int32) (xq2 : Int32)   : ∀ (n : Nat) (xq3 : Int32)  (σ : Mm), KR E G 4 (ZI E G) (fx (fun _ _ => none) n (f_X10_lead_L86 xq1 xq2) xq3 σ) 86 [(0, .ref (ad E 0)), (1, .int xq1), (2, .int xq2), (3, .int xq3)] [] σ :=
  fun n => fx_ind (P := fun f => ∀ (xq3 : Int32)  (σ : Mm), KR E G 4 (ZI E G) (f xq3 σ) 86 [(0, .ref (ad E 0)), (1, .int xq1), (2, .int xq2), (3, .int xq3)] [] σ) (fun _ _ => k_none) (fun L86 hL86 xq3 σ => t_X10_lead_L86b B xq1 xq2   L86 hL86 xq3 σ) n
set_option maxHeartbeats 4000000 in
set_option maxRecDepth 100000 in
theorem t_X10_lead {E : En} {G : Cx} (B : Bx E G cX10_lead 4 RX10 H_X10_lead (some .int)) (aq0 : Int32)  (σ : Mm) : KR E G 4 (ZI E G) (f_X10_lead aq0 σ) 0 [(0, .ref (ad E 0)), (1, .int aq0)] [] σ := by
  have F := B.1
  unfold f_X10_lead
  refine k_iload_n (pc := 0) F 1 1 dX10_lead_0 rfl rfl ?_
  refine k_callSI (pc := 1) B (As := [.int aq0]) (rest := []) (ct_X10_isSheet E aq0  σ) ms_X10_isSheet w_4_47 rfl hR_X10_lead_X10_isSheet rfl (Nat.le_of_ble_eq_true rfl) dX10_lead_1 (fun rq2 σ1 hoq => ?_)
  refine k_if_ne (pc := 4) F 16 dX10_lead_4 (by decide) (fun _ => ?_) (fun _ => ?_)
  · refine k_aload_n (pc := 7) F 0 0 dX10_lead_7 rfl rfl ?_
    refine gf_0_0 (pc := 8) F w_2_66 dX10_lead_8 ?_
    refine k_iconst (pc := 11) F (v := (0 : Int32)) dX10_lead_11 ci_0 ?_
    refine k_callVI (pc := 12) B (k := 1) (As := [.int (0 : Int32)]) (rest := []) (ct_X0_tell E (0 : Int32)  σ1) rfl rfl mv_X0_tell w_2_98 rfl hR_X10_lead_X0_tell rfl (Nat.le_of_ble_eq_true rfl) dX10_lead_12 (fun rq23 σ22 hoq => ?_)
    exact k_iret (pc := 15) B dX10_lead_15
  · refine k_aload_n (pc := 16) F 0 0 dX10_lead_16 rfl rfl ?_
    refine gf_0_3 (pc := 17) F w_2_69 dX10_lead_17 ?_
    refine k_callVI (pc := 20) B (k := 6) (As := []) (rest := []) (ct_X7_isTooLarge E   σ1) rfl rfl mv_X7_isTooLarge w_3_42 rfl hR_X10_lead_X7_isTooLarge rfl (Nat.le_of_ble_eq_true rfl) dX10_lead_20 (fun rq4 σ3 hoq => ?_)
    refine k_if_eq (pc := 23) F 36 dX10_lead_23 (by decide) (fun _ => ?_) (fun _ => ?_)
    · refine k_aload_n (pc := 36) F 0 0 dX10_lead_36 rfl rfl ?_
      refine gf_0_3 (pc := 37) F w_2_69 dX10_lead_37 ?_
      refine k_callVI (pc := 40) B (k := 6) (As := []) (rest := []) (ct_X7_walkToWorst E   σ3) rfl rfl mv_X7_walkToWorst w_3_197 rfl hR_X10_lead_X7_walkToWorst rfl (Nat.le_of_ble_eq_true rfl) dX10_lead_40 (fun rq6 σ5 hoq => ?_)
      refine k_istore_n F (lv' := [(2, .int rq6), (0, .ref (ad E 0)), (1, .int aq0)]) 2 dX10_lead_43 rfl (by decide) rfl ?_
      refine k_iload_n (pc := 44) F 2 0 dX10_lead_44 rfl rfl ?_
      refine k_if_ge (pc := 45) F 57 dX10_lead_45 (by decide) (fun _ => ?_) (fun _ => ?_)
      · refine k_iload_n (pc := 57) F 2 0 dX10_lead_57 rfl rfl ?_
        refine k_bipush (pc := 58) F (v := (40 : Int32)) dX10_lead_58 cb_40 ?_
        refine k_icmp_le (pc := 60) F 72 dX10_lead_60 (by decide) (fun _ => ?_) (fun _ => ?_)
        · refine k_aload_n (pc := 72) F 0 1 dX10_lead_72 rfl rfl ?_
          refine gf_0_8 (pc := 73) F w_2_74 dX10_lead_73 ?_
          refine k_iload_n (pc := 76) F 1 2 dX10_lead_76 rfl rfl ?_
          refine k_aald4 (pc := 77) F dX10_lead_77 (fun hsq7 => ?_)
          refine k_bipush (pc := 78) F (v := (8 : Int32)) dX10_lead_78 cb_8 ?_
          refine k_iload_n (pc := 80) F 2 0 dX10_lead_80 rfl rfl ?_
          refine k_callVV (pc := 81) B (k := (shI aq0)) (As := [.int (8 : Int32), .int rq6]) (rest := []) (ct_X6_begin E (shI aq0) (8 : Int32) rq6 hsq7 σ5) (isSh_l hsq7) rfl mv_X6_begin w_4_106 rfl hR_X10_lead_X6_begin rfl (Nat.le_of_ble_eq_true rfl) dX10_lead_81 (fun rq9 σ8 hoq => ?_)
          refine k_iconst (pc := 84) F (v := (0 : Int32)) dX10_lead_84 ci_0 ?_
          refine k_istore_n F (lv' := [(3, .int (0 : Int32)), (2, .int rq6), (0, .ref (ad E 0)), (1, .int aq0)]) 3 dX10_lead_85 rfl (by decide) rfl ?_
          exact k_sub [2, 3, 1, 0] rfl (t_X10_lead_L86 B aq0 rq6   FU (0 : Int32)  σ8)
        · refine k_aload_n (pc := 63) F 0 1 dX10_lead_63 rfl rfl ?_
          refine gf_0_0 (pc := 64) F w_2_66 dX10_lead_64 ?_
          refine k_iconst (pc := 67) F (v := (1 : Int32)) dX10_lead_67 ci_1 ?_
          refine k_callVI (pc := 68) B (k := 1) (As := [.int (1 : Int32)]) (rest := []) (ct_X0_tell E (1 : Int32)  σ5) rfl rfl mv_X0_tell w_2_98 rfl hR_X10_lead_X0_tell rfl (Nat.le_of_ble_eq_true rfl) dX10_lead_68 (fun rq17 σ16 hoq => ?_)
          exact k_iret (pc := 71) B dX10_lead_71
      · refine k_aload_n (pc := 48) F 0 1 dX10_lead_48 rfl rfl ?_
        refine gf_0_0 (pc := 49) F w_2_66 dX10_lead_49 ?_
        refine k_iconst (pc := 52) F (v := (3 : Int32)) dX10_lead_52 ci_3 ?_
        refine k_callVI (pc := 53) B (k := 1) (As := [.int (3 : Int32)]) (rest := []) (ct_X0_tell E (3 : Int32)  σ5) rfl rfl mv_X0_tell w_2_98 rfl hR_X10_lead_X0_tell rfl (Nat.le_of_ble_eq_true rfl) dX10_lead_53 (fun rq19 σ18 hoq => ?_)
        exact k_iret (pc := 56) B dX10_lead_56
    · refine k_aload_n (pc := 26) F 0 0 dX10_lead_26 rfl rfl ?_
      refine gf_0_0 (pc := 27) F w_2_66 dX10_lead_27 ?_
      refine k_bipush (pc := 30) F (v := (6 : Int32)) dX10_lead_30 cb_6 ?_
      refine k_callVI (pc := 32) B (k := 1) (As := [.int (6 : Int32)]) (rest := []) (ct_X0_tell E (6 : Int32)  σ3) rfl rfl mv_X0_tell w_2_98 rfl hR_X10_lead_X0_tell rfl (Nat.le_of_ble_eq_true rfl) dX10_lead_32 (fun rq21 σ20 hoq => ?_)
      exact k_iret (pc := 35) B dX10_lead_35
set_option maxHeartbeats 4000000 in
set_option maxRecDepth 100000 in
theorem ct_X10_lead (E : En) (aq0 : Int32)  (σ : Mm) : CtI E yX10_lead cX10_lead 4 (some .int) H_X10_lead [.ref (ad E 0), .int aq0] σ (f_X10_lead aq0 σ) := ct_I (by decide) (Nat.le_of_ble_eq_true rfl) rfl (fun G B => t_X10_lead B aq0  σ)
abbrev H_X10_image : Nat := 2
theorem hR_X10_image_X5_takeFrom : H_X5_takeFrom + 1 ≤ H_X10_image ∧ 8 + (2 + 11) + 40 * H_X5_takeFrom ≤ 40 * H_X10_image := by decide
set_option maxHeartbeats 4000000 in
set_option maxRecDepth 100000 in
theorem t_X10_image {E : En} {G : Cx} (B : Bx E G cX10_image 1 RX10 H_X10_image (some .int))   (σ : Mm) : KR E G 1 (ZI E G) (f_X10_image  σ) 0 [(0, .ref (ad E 0))] [] σ := by
  have F := B.1
  unfold f_X10_image
  refine k_aload_n (pc := 0) F 0 0 dX10_image_0 rfl rfl ?_
  refine gf_0_5 (pc := 1) F w_2_71 dX10_image_1 ?_
  refine k_aload_n (pc := 4) F 0 0 dX10_image_4 rfl rfl ?_
  refine gf_0_4 (pc := 5) F w_2_70 dX10_image_5 ?_
  refine k_callVV (pc := 8) B (k := 31) (As := [.ref (ad E 7)]) (rest := []) (ct_X5_takeFrom E 31 7 isSe_31 isSe_7 σ) rfl rfl mv_X5_takeFrom w_4_138 rfl hR_X10_image_X5_takeFrom rfl (Nat.le_of_ble_eq_true rfl) dX10_image_8 (fun rq2 σ1 hoq => ?_)
  refine k_aload_n (pc := 11) F 0 0 dX10_image_11 rfl rfl ?_
  refine k_iconst (pc := 12) F (v := (1 : Int32)) dX10_image_12 ci_1 ?_
  refine pf_0_6 (pc := 13) F w_2_72 dX10_image_13 (fun σ3 => ?_)
  refine k_iconst (pc := 16) F (v := (1 : Int32)) dX10_image_16 ci_1 ?_
  exact k_iret (pc := 17) B dX10_image_17
set_option maxHeartbeats 4000000 in
set_option maxRecDepth 100000 in
theorem ct_X10_image (E : En)   (σ : Mm) : CtI E yX10_image cX10_image 1 (some .int) H_X10_image [.ref (ad E 0)] σ (f_X10_image  σ) := ct_I (by decide) (Nat.le_of_ble_eq_true rfl) rfl (fun G B => t_X10_image B   σ)
abbrev H_X10_undo : Nat := 2
theorem hR_X10_undo_X7_forget : H_X7_forget + 1 ≤ H_X10_undo ∧ 8 + (1 + 11) + 40 * H_X7_forget ≤ 40 * H_X10_undo := by decide
theorem hR_X10_undo_X5_takeFrom : H_X5_takeFrom + 1 ≤ H_X10_undo ∧ 8 + (2 + 11) + 40 * H_X5_takeFrom ≤ 40 * H_X10_undo := by decide
theorem hR_X10_undo_X0_tell : H_X0_tell + 1 ≤ H_X10_undo ∧ 8 + (2 + 11) + 40 * H_X0_tell ≤ 40 * H_X10_undo := by decide
set_option maxHeartbeats 4000000 in
set_option maxRecDepth 100000 in
theorem t_X10_undo {E : En} {G : Cx} (B : Bx E G cX10_undo 1 RX10 H_X10_undo (some .int))   (σ : Mm) : KR E G 1 (ZI E G) (f_X10_undo  σ) 0 [(0, .ref (ad E 0))] [] σ := by
  have F := B.1
  unfold f_X10_undo
  refine k_aload_n (pc := 0) F 0 0 dX10_undo_0 rfl rfl ?_
  refine gf_0_6 (pc := 1) F w_2_72 dX10_undo_1 ?_
  refine k_if_ne (pc := 4) F 16 dX10_undo_4 (by decide) (fun _ => ?_) (fun _ => ?_)
  · refine k_aload_n (pc := 7) F 0 0 dX10_undo_7 rfl rfl ?_
    refine gf_0_0 (pc := 8) F w_2_66 dX10_undo_8 ?_
    refine k_iconst (pc := 11) F (v := (3 : Int32)) dX10_undo_11 ci_3 ?_
    refine k_callVI (pc := 12) B (k := 1) (As := [.int (3 : Int32)]) (rest := []) (ct_X0_tell E (3 : Int32)  σ) rfl rfl mv_X0_tell w_2_98 rfl hR_X10_undo_X0_tell rfl (Nat.le_of_ble_eq_true rfl) dX10_undo_12 (fun rq6 σ5 hoq => ?_)
    exact k_iret (pc := 15) B dX10_undo_15
  · refine k_aload_n (pc := 16) F 0 0 dX10_undo_16 rfl rfl ?_
    refine gf_0_4 (pc := 17) F w_2_70 dX10_undo_17 ?_
    refine k_aload_n (pc := 20) F 0 0 dX10_undo_20 rfl rfl ?_
    refine gf_0_5 (pc := 21) F w_2_71 dX10_undo_21 ?_
    refine k_callVV (pc := 24) B (k := 7) (As := [.ref (ad E 31)]) (rest := []) (ct_X5_takeFrom E 7 31 isSe_7 isSe_31 σ) rfl rfl mv_X5_takeFrom w_4_138 rfl hR_X10_undo_X5_takeFrom rfl (Nat.le_of_ble_eq_true rfl) dX10_undo_24 (fun rq2 σ1 hoq => ?_)
    refine k_aload_n (pc := 27) F 0 0 dX10_undo_27 rfl rfl ?_
    refine gf_0_3 (pc := 28) F w_2_69 dX10_undo_28 ?_
    refine k_callVV (pc := 31) B (k := 6) (As := []) (rest := []) (ct_X7_forget E   σ1) rfl rfl mv_X7_forget w_2_212 rfl hR_X10_undo_X7_forget rfl (Nat.le_of_ble_eq_true rfl) dX10_undo_31 (fun rq4 σ3 hoq => ?_)
    refine k_aload_n (pc := 34) F 0 0 dX10_undo_34 rfl rfl ?_
    refine gf_0_4 (pc := 35) F w_2_70 dX10_undo_35 ?_
    refine gf_7_0 (pc := 38) F w_1_98 dX10_undo_38 ?_
    exact k_iret (pc := 41) B dX10_undo_41
set_option maxHeartbeats 4000000 in
set_option maxRecDepth 100000 in
theorem ct_X10_undo (E : En)   (σ : Mm) : CtI E yX10_undo cX10_undo 1 (some .int) H_X10_undo [.ref (ad E 0)] σ (f_X10_undo  σ) := ct_I (by decide) (Nat.le_of_ble_eq_true rfl) rfl (fun G B => t_X10_undo B   σ)
abbrev H_X10_tear : Nat := 0
set_option maxHeartbeats 4000000 in
set_option maxRecDepth 100000 in
theorem t_X10_tear {E : En} {G : Cx} (B : Bx E G cX10_tear 2 RX10 H_X10_tear (some .int))   (σ : Mm) : KR E G 2 (ZI E G) (f_X10_tear  σ) 0 [(0, .ref (ad E 0))] [] σ := by
  have F := B.1
  unfold f_X10_tear
  refine k_aload_n (pc := 0) F 0 0 dX10_tear_0 rfl rfl ?_
  refine gf_0_6 (pc := 1) F w_2_72 dX10_tear_1 ?_
  refine k_if_eq (pc := 4) F 11 dX10_tear_4 (by decide) (fun _ => ?_) (fun _ => ?_)
  · refine k_iconst (pc := 11) F (v := (0 : Int32)) dX10_tear_11 ci_0 ?_
    refine k_istore_n F (lv' := [(1, .int (0 : Int32)), (0, .ref (ad E 0))]) 1 dX10_tear_12 rfl (by decide) rfl ?_
    refine k_aload_n (pc := 13) F 0 1 dX10_tear_13 rfl rfl ?_
    refine k_iconst (pc := 14) F (v := (0 : Int32)) dX10_tear_14 ci_0 ?_
    refine pf_0_6 (pc := 15) F w_2_72 dX10_tear_15 (fun σ1 => ?_)
    refine k_iload_n (pc := 18) F 1 0 dX10_tear_18 rfl rfl ?_
    exact k_iret (pc := 19) B dX10_tear_19
  · refine k_iconst (pc := 7) F (v := (1 : Int32)) dX10_tear_7 ci_1 ?_
    refine k_goto (pc := 8) F 12 dX10_tear_8 (by decide) ?_
    refine k_istore_n F (lv' := [(1, .int (1 : Int32)), (0, .ref (ad E 0))]) 1 dX10_tear_12 rfl (by decide) rfl ?_
    refine k_aload_n (pc := 13) F 0 1 dX10_tear_13 rfl rfl ?_
    refine k_iconst (pc := 14) F (v := (0 : Int32)) dX10_tear_14 ci_0 ?_
    refine pf_0_6 (pc := 15) F w_2_72 dX10_tear_15 (fun σ2 => ?_)
    refine k_iload_n (pc := 18) F 1 0 dX10_tear_18 rfl rfl ?_
    exact k_iret (pc := 19) B dX10_tear_19
set_option maxHeartbeats 4000000 in
set_option maxRecDepth 100000 in
theorem ct_X10_tear (E : En)   (σ : Mm) : CtI E yX10_tear cX10_tear 2 (some .int) H_X10_tear [.ref (ad E 0)] σ (f_X10_tear  σ) := ct_I (by decide) (Nat.le_of_ble_eq_true rfl) rfl (fun G B => t_X10_tear B   σ)
abbrev H_X10_look : Nat := 1
theorem hR_X10_look_X0_tell : H_X0_tell + 1 ≤ H_X10_look ∧ 8 + (2 + 11) + 40 * H_X0_tell ≤ 40 * H_X10_look := by decide
set_option maxHeartbeats 4000000 in
set_option maxRecDepth 100000 in
theorem t_X10_look {E : En} {G : Cx} (B : Bx E G cX10_look 2 RX10 H_X10_look (some .int)) (aq0 : Int32)  (σ : Mm) : KR E G 2 (ZI E G) (f_X10_look aq0 σ) 0 [(0, .ref (ad E 0)), (1, .int aq0)] [] σ := by
  have F := B.1
  unfold f_X10_look
  refine k_iload_n (pc := 0) F 1 1 dX10_look_0 rfl rfl ?_
  refine k_case (fun hwq1 => ?_) (fun hwq1 => ?_)
  · refine k_tin (pc := 1) F 44 dX10_look_1 (by rw [hwq1]; decide) (by rw [hwq1]; decide) (by rw [hwq1]; rfl) (by decide) ?_
    refine k_aload_n (pc := 44) F 0 0 dX10_look_44 rfl rfl ?_
    refine gf_0_4 (pc := 45) F w_2_70 dX10_look_45 ?_
    refine gf_7_0 (pc := 48) F w_1_98 dX10_look_48 ?_
    exact k_iret (pc := 51) B dX10_look_51
  refine k_case (fun hwq2 => ?_) (fun hwq2 => ?_)
  · refine k_tin (pc := 1) F 52 dX10_look_1 (by rw [hwq2]; decide) (by rw [hwq2]; decide) (by rw [hwq2]; rfl) (by decide) ?_
    refine k_aload_n (pc := 52) F 0 0 dX10_look_52 rfl rfl ?_
    refine gf_0_4 (pc := 53) F w_2_70 dX10_look_53 ?_
    refine gf_7_3 (pc := 56) F w_1_108 dX10_look_56 ?_
    exact k_iret (pc := 59) B dX10_look_59
  refine k_case (fun hwq3 => ?_) (fun hwq3 => ?_)
  · refine k_tin (pc := 1) F 60 dX10_look_1 (by rw [hwq3]; decide) (by rw [hwq3]; decide) (by rw [hwq3]; rfl) (by decide) ?_
    refine k_aload_n (pc := 60) F 0 0 dX10_look_60 rfl rfl ?_
    refine gf_0_4 (pc := 61) F w_2_70 dX10_look_61 ?_
    refine gf_7_7 (pc := 64) F w_1_120 dX10_look_64 ?_
    exact k_iret (pc := 67) B dX10_look_67
  refine k_case (fun hwq4 => ?_) (fun hwq4 => ?_)
  · refine k_tin (pc := 1) F 68 dX10_look_1 (by rw [hwq4]; decide) (by rw [hwq4]; decide) (by rw [hwq4]; rfl) (by decide) ?_
    refine k_aload_n (pc := 68) F 0 0 dX10_look_68 rfl rfl ?_
    refine gf_0_4 (pc := 69) F w_2_70 dX10_look_69 ?_
    refine gf_7_6 (pc := 72) F w_1_117 dX10_look_72 ?_
    refine k_iload_n (pc := 75) F 1 1 dX10_look_75 rfl rfl ?_
    refine k_iconst (pc := 76) F (v := (3 : Int32)) dX10_look_76 ci_3 ?_
    refine k_isub (pc := 77) F dX10_look_77 ?_
    refine k_iald (pc := 78) F rfl dX10_look_78 ?_
    exact k_iret (pc := 79) B dX10_look_79
  refine k_case (fun hwq5 => ?_) (fun hwq5 => ?_)
  · refine k_tin (pc := 1) F 68 dX10_look_1 (by rw [hwq5]; decide) (by rw [hwq5]; decide) (by rw [hwq5]; rfl) (by decide) ?_
    refine k_aload_n (pc := 68) F 0 0 dX10_look_68 rfl rfl ?_
    refine gf_0_4 (pc := 69) F w_2_70 dX10_look_69 ?_
    refine gf_7_6 (pc := 72) F w_1_117 dX10_look_72 ?_
    refine k_iload_n (pc := 75) F 1 1 dX10_look_75 rfl rfl ?_
    refine k_iconst (pc := 76) F (v := (3 : Int32)) dX10_look_76 ci_3 ?_
    refine k_isub (pc := 77) F dX10_look_77 ?_
    refine k_iald (pc := 78) F rfl dX10_look_78 ?_
    exact k_iret (pc := 79) B dX10_look_79
  refine k_case (fun hwq6 => ?_) (fun hwq6 => ?_)
  · refine k_tin (pc := 1) F 68 dX10_look_1 (by rw [hwq6]; decide) (by rw [hwq6]; decide) (by rw [hwq6]; rfl) (by decide) ?_
    refine k_aload_n (pc := 68) F 0 0 dX10_look_68 rfl rfl ?_
    refine gf_0_4 (pc := 69) F w_2_70 dX10_look_69 ?_
    refine gf_7_6 (pc := 72) F w_1_117 dX10_look_72 ?_
    refine k_iload_n (pc := 75) F 1 1 dX10_look_75 rfl rfl ?_
    refine k_iconst (pc := 76) F (v := (3 : Int32)) dX10_look_76 ci_3 ?_
    refine k_isub (pc := 77) F dX10_look_77 ?_
    refine k_iald (pc := 78) F rfl dX10_look_78 ?_
    exact k_iret (pc := 79) B dX10_look_79
  refine k_case (fun hwq7 => ?_) (fun hwq7 => ?_)
  · refine k_tin (pc := 1) F 80 dX10_look_1 (by rw [hwq7]; decide) (by rw [hwq7]; decide) (by rw [hwq7]; rfl) (by decide) ?_
    refine k_aload_n (pc := 80) F 0 0 dX10_look_80 rfl rfl ?_
    refine gf_0_2 (pc := 81) F w_2_68 dX10_look_81 ?_
    refine gf_4_1 (pc := 84) F w_1_60 dX10_look_84 ?_
    exact k_iret (pc := 87) B dX10_look_87
  · refine k_tout (pc := 1) F 88 dX10_look_1 (by have hwq1 := ne_i (z := 0) (by decide) hwq1; have hwq2 := ne_i (z := 1) (by decide) hwq2; have hwq3 := ne_i (z := 2) (by decide) hwq3; have hwq4 := ne_i (z := 3) (by decide) hwq4; have hwq5 := ne_i (z := 4) (by decide) hwq5; have hwq6 := ne_i (z := 5) (by decide) hwq6; have hwq7 := ne_i (z := 6) (by decide) hwq7; omega) (by decide) ?_
    refine k_aload_n (pc := 88) F 0 0 dX10_look_88 rfl rfl ?_
    refine gf_0_0 (pc := 89) F w_2_66 dX10_look_89 ?_
    refine k_iconst (pc := 92) F (v := (0 : Int32)) dX10_look_92 ci_0 ?_
    refine k_callVI (pc := 93) B (k := 1) (As := [.int (0 : Int32)]) (rest := []) (ct_X0_tell E (0 : Int32)  σ) rfl rfl mv_X0_tell w_2_98 rfl hR_X10_look_X0_tell rfl (Nat.le_of_ble_eq_true rfl) dX10_look_93 (fun rq9 σ8 hoq => ?_)
    exact k_iret (pc := 96) B dX10_look_96
set_option maxHeartbeats 4000000 in
set_option maxRecDepth 100000 in
theorem ct_X10_look (E : En) (aq0 : Int32)  (σ : Mm) : CtI E yX10_look cX10_look 2 (some .int) H_X10_look [.ref (ad E 0), .int aq0] σ (f_X10_look aq0 σ) := ct_I (by decide) (Nat.le_of_ble_eq_true rfl) rfl (fun G B => t_X10_look B aq0  σ)
abbrev H_X10_status : Nat := 1
theorem hR_X10_status_X0_tell : H_X0_tell + 1 ≤ H_X10_status ∧ 8 + (2 + 11) + 40 * H_X0_tell ≤ 40 * H_X10_status := by decide
set_option maxHeartbeats 4000000 in
set_option maxRecDepth 100000 in
theorem t_X10_status {E : En} {G : Cx} (B : Bx E G cX10_status 2 RX10 H_X10_status (some .int)) (aq0 : Int32)  (σ : Mm) : KR E G 2 (ZI E G) (f_X10_status aq0 σ) 0 [(0, .ref (ad E 0)), (1, .int aq0)] [] σ := by
  have F := B.1
  unfold f_X10_status
  refine k_iload_n (pc := 0) F 1 1 dX10_status_0 rfl rfl ?_
  refine k_iconst (pc := 1) F (v := (-1 : Int32)) dX10_status_1 ci_m1 ?_
  refine k_icmp_lt (pc := 2) F 11 dX10_status_2 (by decide) (fun _ => ?_) (fun _ => ?_)
  · refine k_aload_n (pc := 11) F 0 0 dX10_status_11 rfl rfl ?_
    refine gf_0_0 (pc := 12) F w_2_66 dX10_status_12 ?_
    refine k_iconst (pc := 15) F (v := (0 : Int32)) dX10_status_15 ci_0 ?_
    refine k_callVI (pc := 16) B (k := 1) (As := [.int (0 : Int32)]) (rest := []) (ct_X0_tell E (0 : Int32)  σ) rfl rfl mv_X0_tell w_2_98 rfl hR_X10_status_X0_tell rfl (Nat.le_of_ble_eq_true rfl) dX10_status_16 (fun rq2 σ1 hoq => ?_)
    exact k_iret (pc := 19) B dX10_status_19
  · refine k_iload_n (pc := 5) F 1 1 dX10_status_5 rfl rfl ?_
    refine k_bipush (pc := 6) F (v := (6 : Int32)) dX10_status_6 cb_6 ?_
    refine k_icmp_le (pc := 8) F 20 dX10_status_8 (by decide) (fun _ => ?_) (fun _ => ?_)
    · refine k_iload_n (pc := 20) F 1 1 dX10_status_20 rfl rfl ?_
      refine k_iconst (pc := 21) F (v := (-1 : Int32)) dX10_status_21 ci_m1 ?_
      refine k_icmp_ne (pc := 22) F 35 dX10_status_22 (by decide) (fun _ => ?_) (fun _ => ?_)
      · refine k_aload_n (pc := 25) F 0 0 dX10_status_25 rfl rfl ?_
        refine gf_0_0 (pc := 26) F w_2_66 dX10_status_26 ?_
        refine gf_1_1 (pc := 29) F w_1_38 dX10_status_29 ?_
        refine k_goto (pc := 32) F 44 dX10_status_32 (by decide) ?_
        exact k_iret (pc := 44) B dX10_status_44
      · refine k_aload_n (pc := 35) F 0 0 dX10_status_35 rfl rfl ?_
        refine gf_0_0 (pc := 36) F w_2_66 dX10_status_36 ?_
        refine gf_1_0 (pc := 39) F w_1_36 dX10_status_39 ?_
        refine k_iload_n (pc := 42) F 1 1 dX10_status_42 rfl rfl ?_
        refine k_iald (pc := 43) F rfl dX10_status_43 ?_
        exact k_iret (pc := 44) B dX10_status_44
    · refine k_aload_n (pc := 11) F 0 0 dX10_status_11 rfl rfl ?_
      refine gf_0_0 (pc := 12) F w_2_66 dX10_status_12 ?_
      refine k_iconst (pc := 15) F (v := (0 : Int32)) dX10_status_15 ci_0 ?_
      refine k_callVI (pc := 16) B (k := 1) (As := [.int (0 : Int32)]) (rest := []) (ct_X0_tell E (0 : Int32)  σ) rfl rfl mv_X0_tell w_2_98 rfl hR_X10_status_X0_tell rfl (Nat.le_of_ble_eq_true rfl) dX10_status_16 (fun rq4 σ3 hoq => ?_)
      exact k_iret (pc := 19) B dX10_status_19
set_option maxHeartbeats 4000000 in
set_option maxRecDepth 100000 in
theorem ct_X10_status (E : En) (aq0 : Int32)  (σ : Mm) : CtI E yX10_status cX10_status 2 (some .int) H_X10_status [.ref (ad E 0), .int aq0] σ (f_X10_status aq0 σ) := ct_I (by decide) (Nat.le_of_ble_eq_true rfl) rfl (fun G B => t_X10_status B aq0  σ)
abbrev H_X11_finds : Nat := 0
set_option maxHeartbeats 4000000 in
set_option maxRecDepth 100000 in
theorem t_X11_finds {E : En} {G : Cx} (B : Bx E G cX11_finds 2 RX11 H_X11_finds (some .int)) (aq0 : Int32)  (σ : Mm) : KR E G 2 (ZI E G) (f_X11_finds aq0 σ) 0 [(0, .ref (ad E 48)), (1, .int aq0)] [] σ := by
  have F := B.1
  unfold f_X11_finds
  refine k_aload_n (pc := 0) F 0 0 dX11_finds_0 rfl rfl ?_
  refine gf_48_14 (pc := 1) F w_4_184 dX11_finds_1 ?_
  refine k_ldc (pc := 4) F (v := (-1000000001 : Int32)) w_5_143 dX11_finds_4 ?_
  refine k_iload_n (pc := 6) F 1 1 dX11_finds_6 rfl rfl ?_
  refine k_isub (pc := 7) F dX11_finds_7 ?_
  refine k_nmI (fun vq1 => ?_)
  refine k_dup2 (pc := 8) F dX11_finds_8 rfl rfl ?_
  refine k_iald (pc := 9) F rfl dX11_finds_9 ?_
  refine k_iconst (pc := 10) F (v := (1 : Int32)) dX11_finds_10 ci_1 ?_
  refine k_iadd (pc := 11) F dX11_finds_11 ?_
  refine k_iast (pc := 12) F rfl dX11_finds_12 (fun σ2 => ?_)
  refine k_iload_n (pc := 13) F 1 1 dX11_finds_13 rfl rfl ?_
  exact k_iret (pc := 14) B dX11_finds_14
set_option maxHeartbeats 4000000 in
set_option maxRecDepth 100000 in
theorem ct_X11_finds (E : En) (aq0 : Int32)  (σ : Mm) : CtI E yX11_finds cX11_finds 2 (some .int) H_X11_finds [.ref (ad E 48), .int aq0] σ (f_X11_finds aq0 σ) := ct_I (by decide) (Nat.le_of_ble_eq_true rfl) rfl (fun G B => t_X11_finds B aq0  σ)
abbrev H_X11_in : Nat := 0
set_option maxHeartbeats 4000000 in
set_option maxRecDepth 100000 in
theorem t_X11_in_14 {E : En} {G : Cx} (B : Bx E G cX11_in 3 RX11 H_X11_in (some .boolean))    (σ : Mm) : KR E G 3 (ZI E G) (f_X11_in_14  σ) 14 [] [] σ := by
  have F := B.1
  unfold f_X11_in_14
  refine k_iconst (pc := 14) F (v := (0 : Int32)) dX11_in_14 ci_0 ?_
  exact k_zret (pc := 15) B dX11_in_15
set_option maxHeartbeats 4000000 in
set_option maxRecDepth 100000 in
theorem t_X11_in {E : En} {G : Cx} (B : Bx E G cX11_in 3 RX11 H_X11_in (some .boolean)) (aq0 : Int32) (aq1 : Int32) (aq2 : Int32)  (σ : Mm) : KR E G 3 (ZI E G) (f_X11_in aq0 aq1 aq2 σ) 0 [(0, .int aq0), (1, .int aq1), (2, .int aq2)] [] σ := by
  have F := B.1
  unfold f_X11_in
  refine k_iload_n (pc := 0) F 0 0 dX11_in_0 rfl rfl ?_
  refine k_iload_n (pc := 1) F 1 1 dX11_in_1 rfl rfl ?_
  refine k_icmp_lt (pc := 2) F 14 dX11_in_2 (by decide) (fun _ => ?_) (fun _ => ?_)
  · exact k_sub [] rfl (t_X11_in_14 B    σ)
  · refine k_iload_n (pc := 5) F 0 0 dX11_in_5 rfl rfl ?_
    refine k_iload_n (pc := 6) F 2 2 dX11_in_6 rfl rfl ?_
    refine k_icmp_gt (pc := 7) F 14 dX11_in_7 (by decide) (fun _ => ?_) (fun _ => ?_)
    · exact k_sub [] rfl (t_X11_in_14 B    σ)
    · refine k_iconst (pc := 10) F (v := (1 : Int32)) dX11_in_10 ci_1 ?_
      refine k_goto (pc := 11) F 15 dX11_in_11 (by decide) ?_
      exact k_zret (pc := 15) B dX11_in_15
set_option maxHeartbeats 4000000 in
set_option maxRecDepth 100000 in
theorem ct_X11_in (E : En) (aq0 : Int32) (aq1 : Int32) (aq2 : Int32)  (σ : Mm) : CtI E yX11_in cX11_in 3 (some .boolean) H_X11_in [.int aq0, .int aq1, .int aq2] σ (f_X11_in aq0 aq1 aq2 σ) := ct_I (by decide) (Nat.le_of_ble_eq_true rfl) rfl (fun G B => t_X11_in B aq0 aq1 aq2  σ)
abbrev H_X11_isCall : Nat := 1
theorem hR_X11_isCall_X11_in : H_X11_in + 1 ≤ H_X11_isCall ∧ 8 + (3 + 11) + 40 * H_X11_in ≤ 40 * H_X11_isCall := by decide
set_option maxHeartbeats 4000000 in
set_option maxRecDepth 100000 in
theorem t_X11_isCall {E : En} {G : Cx} (B : Bx E G cX11_isCall 2 RX11 H_X11_isCall (some .boolean)) (aq0 : Int32)  (σ : Mm) : KR E G 2 (ZI E G) (f_X11_isCall aq0 σ) 0 [(0, .ref (ad E 48)), (1, .int aq0)] [] σ := by
  have F := B.1
  unfold f_X11_isCall
  refine k_iload_n (pc := 0) F 1 1 dX11_isCall_0 rfl rfl ?_
  refine k_iconst (pc := 1) F (v := (0 : Int32)) dX11_isCall_1 ci_0 ?_
  refine k_aload_n (pc := 2) F 0 0 dX11_isCall_2 rfl rfl ?_
  refine gf_48_0 (pc := 3) F w_4_170 dX11_isCall_3 ?_
  refine k_iconst (pc := 6) F (v := (1 : Int32)) dX11_isCall_6 ci_1 ?_
  refine k_isub (pc := 7) F dX11_isCall_7 ?_
  refine k_callSI (pc := 8) B (As := [.int aq0, .int (0 : Int32), .int ((σ.1 48 0) - (1 : Int32))]) (rest := []) (ct_X11_in E aq0 (0 : Int32) ((σ.1 48 0) - (1 : Int32))  σ) ms_X11_in w_5_140 rfl hR_X11_isCall_X11_in rfl (Nat.le_of_ble_eq_true rfl) dX11_isCall_8 (fun rq2 σ1 hoq => ?_)
  exact k_zret (pc := 11) B dX11_isCall_11
set_option maxHeartbeats 4000000 in
set_option maxRecDepth 100000 in
theorem ct_X11_isCall (E : En) (aq0 : Int32)  (σ : Mm) : CtI E yX11_isCall cX11_isCall 2 (some .boolean) H_X11_isCall [.ref (ad E 48), .int aq0] σ (f_X11_isCall aq0 σ) := ct_I (by decide) (Nat.le_of_ble_eq_true rfl) rfl (fun G B => t_X11_isCall B aq0  σ)
abbrev H_X11_isStep : Nat := 2
theorem hR_X11_isStep_X11_in : H_X11_in + 1 ≤ H_X11_isStep ∧ 8 + (3 + 11) + 40 * H_X11_in ≤ 40 * H_X11_isStep := by decide
theorem hR_X11_isStep_X11_isCall : H_X11_isCall + 1 ≤ H_X11_isStep ∧ 8 + (2 + 11) + 40 * H_X11_isCall ≤ 40 * H_X11_isStep := by decide
set_option maxHeartbeats 4000000 in
set_option maxRecDepth 100000 in
theorem t_X11_isStep_28 {E : En} {G : Cx} (B : Bx E G cX11_isStep 3 RX11 H_X11_isStep (some .boolean))    (σ : Mm) : KR E G 3 (ZI E G) (f_X11_isStep_28  σ) 28 [] [] σ := by
  have F := B.1
  unfold f_X11_isStep_28
  refine k_iconst (pc := 28) F (v := (0 : Int32)) dX11_isStep_28 ci_0 ?_
  exact k_zret (pc := 29) B dX11_isStep_29
set_option maxHeartbeats 4000000 in
set_option maxRecDepth 100000 in
theorem t_X11_isStep {E : En} {G : Cx} (B : Bx E G cX11_isStep 3 RX11 H_X11_isStep (some .boolean)) (aq0 : Int32) (aq1 : Int32)  (σ : Mm) : KR E G 3 (ZI E G) (f_X11_isStep aq0 aq1 σ) 0 [(0, .ref (ad E 48)), (1, .int aq0), (2, .int aq1)] [] σ := by
  have F := B.1
  unfold f_X11_isStep
  refine k_aload_n (pc := 0) F 0 0 dX11_isStep_0 rfl rfl ?_
  refine k_iload_n (pc := 1) F 1 1 dX11_isStep_1 rfl rfl ?_
  refine k_callVI (pc := 2) B (k := 48) (As := [.int aq0]) (rest := []) (ct_X11_isCall E aq0  σ) rfl rfl mv_X11_isCall w_5_189 rfl hR_X11_isStep_X11_isCall rfl (Nat.le_of_ble_eq_true rfl) dX11_isStep_2 (fun rq2 σ1 hoq => ?_)
  refine k_if_eq (pc := 5) F 28 dX11_isStep_5 (by decide) (fun _ => ?_) (fun _ => ?_)
  · exact k_sub [] rfl (t_X11_isStep_28 B    σ1)
  · refine k_iload_n (pc := 8) F 2 2 dX11_isStep_8 rfl rfl ?_
    refine k_iconst (pc := 9) F (v := (0 : Int32)) dX11_isStep_9 ci_0 ?_
    refine k_aload_n (pc := 10) F 0 0 dX11_isStep_10 rfl rfl ?_
    refine gf_48_1 (pc := 11) F w_4_171 dX11_isStep_11 ?_
    refine k_iload_n (pc := 14) F 1 1 dX11_isStep_14 rfl rfl ?_
    refine k_iald (pc := 15) F rfl dX11_isStep_15 ?_
    refine k_iconst (pc := 16) F (v := (1 : Int32)) dX11_isStep_16 ci_1 ?_
    refine k_isub (pc := 17) F dX11_isStep_17 ?_
    refine k_callSI (pc := 18) B (As := [.int aq1, .int (0 : Int32), .int ((σ1.1 49 (ix aq0)) - (1 : Int32))]) (rest := []) (ct_X11_in E aq1 (0 : Int32) ((σ1.1 49 (ix aq0)) - (1 : Int32))  σ1) ms_X11_in w_5_140 rfl hR_X11_isStep_X11_in rfl (Nat.le_of_ble_eq_true rfl) dX11_isStep_18 (fun rq4 σ3 hoq => ?_)
    refine k_if_eq (pc := 21) F 28 dX11_isStep_21 (by decide) (fun _ => ?_) (fun _ => ?_)
    · exact k_sub [] rfl (t_X11_isStep_28 B    σ3)
    · refine k_iconst (pc := 24) F (v := (1 : Int32)) dX11_isStep_24 ci_1 ?_
      refine k_goto (pc := 25) F 29 dX11_isStep_25 (by decide) ?_
      exact k_zret (pc := 29) B dX11_isStep_29
set_option maxHeartbeats 4000000 in
set_option maxRecDepth 100000 in
theorem ct_X11_isStep (E : En) (aq0 : Int32) (aq1 : Int32)  (σ : Mm) : CtI E yX11_isStep cX11_isStep 3 (some .boolean) H_X11_isStep [.ref (ad E 48), .int aq0, .int aq1] σ (f_X11_isStep aq0 aq1 σ) := ct_I (by decide) (Nat.le_of_ble_eq_true rfl) rfl (fun G B => t_X11_isStep B aq0 aq1  σ)
abbrev H_X11_feed : Nat := 1
theorem hR_X11_feed_X11_finds : H_X11_finds + 1 ≤ H_X11_feed ∧ 8 + (2 + 11) + 40 * H_X11_finds ≤ 40 * H_X11_feed := by decide
theorem hR_X11_feed_X11_in : H_X11_in + 1 ≤ H_X11_feed ∧ 8 + (3 + 11) + 40 * H_X11_in ≤ 40 * H_X11_feed := by decide
set_option maxHeartbeats 4000000 in
set_option maxRecDepth 100000 in
theorem t_X11_feed_L38b {E : En} {G : Cx} (B : Bx E G cX11_feed 4 RX11 H_X11_feed (some .int)) (xq1 : Int32)   (L38 : Int32 → Mm → Option (Int32 × Mm)) (hL38 : ∀ (xq3 : Int32)  (σ : Mm), KR E G 4 (ZI E G) (L38 xq3 σ) 38 [(0, .ref (ad E 48)), (1, .int xq1), (3, .int xq3)] [] σ) (xq3 : Int32)  (σ : Mm) : KR E G 4 (ZI E G) (f_X11_feed_L38 xq1 L38 xq3 σ) 38 [(0, .ref (ad E 48)), (1, .int xq1), (3, .int xq3)] [] σ := by
  have F := B.1
  unfold f_X11_feed_L38
  refine k_iload_n (pc := 38) F 3 2 dX11_feed_38 rfl rfl ?_
  refine k_if_lt (pc := 39) F 77 dX11_feed_39 (by decide) (fun _ => ?_) (fun _ => ?_)
  · refine k_aload_n (pc := 77) F 0 0 dX11_feed_77 rfl rfl ?_
    refine gf_48_13 (pc := 78) F w_4_183 dX11_feed_78 ?_
    exact k_iret (pc := 81) B dX11_feed_81
  · refine k_aload_n (pc := 42) F 0 0 dX11_feed_42 rfl rfl ?_
    refine gf_48_12 (pc := 43) F w_4_182 dX11_feed_43 ?_
    refine k_aload_n (pc := 46) F 0 0 dX11_feed_46 rfl rfl ?_
    refine gf_48_13 (pc := 47) F w_4_183 dX11_feed_47 ?_
    refine k_iload_n (pc := 50) F 1 1 dX11_feed_50 rfl rfl ?_
    refine k_bipush (pc := 51) F (v := (8 : Int32)) dX11_feed_51 cb_8 ?_
    refine k_iload_n (pc := 53) F 3 2 dX11_feed_53 rfl rfl ?_
    refine k_imul (pc := 54) F dX11_feed_54 ?_
    refine k_ishr (pc := 55) F dX11_feed_55 ?_
    refine k_sipush (pc := 56) F (v := (255 : Int32)) dX11_feed_56 cs_255 ?_
    refine k_iand (pc := 59) F dX11_feed_59 ?_
    refine k_iast (pc := 60) F rfl dX11_feed_60 (fun σ4 => ?_)
    refine k_aload_n (pc := 61) F 0 0 dX11_feed_61 rfl rfl ?_
    refine k_dup (pc := 62) F dX11_feed_62 rfl ?_
    refine gf_48_13 (pc := 63) F w_4_183 dX11_feed_63 ?_
    refine k_iconst (pc := 66) F (v := (1 : Int32)) dX11_feed_66 ci_1 ?_
    refine k_iadd (pc := 67) F dX11_feed_67 ?_
    refine pf_48_13 (pc := 68) F w_4_183 dX11_feed_68 (fun σ5 => ?_)
    refine k_iinc (pc := 71) F (c := (-1 : Int32)) (lw := fun wq => [(3, .int wq), (0, .ref (ad E 48)), (1, .int xq1)]) 3 2 dX11_feed_71 rfl ci_m1 (by decide) (fun _ => rfl) (fun vq6 => ?_)
    refine k_goto (pc := 74) F 38 dX11_feed_74 (by decide) ?_
    exact k_sub [1, 2, 0] rfl (hL38 vq6 σ5)
set_option maxHeartbeats 4000000 in
set_option maxRecDepth 100000 in
theorem t_X11_feed_L38 {E : En} {G : Cx} (B : Bx E G cX11_feed 4 RX11 H_X11_feed (some .int)) (xq1 : Int32)   : ∀ (n : Nat) (xq3 : Int32)  (σ : Mm), KR E G 4 (ZI E G) (fx (fun _ _ => none) n (f_X11_feed_L38 xq1) xq3 σ) 38 [(0, .ref (ad E 48)), (1, .int xq1), (3, .int xq3)] [] σ :=
  fun n => fx_ind (P := fun f => ∀ (xq3 : Int32)  (σ : Mm), KR E G 4 (ZI E G) (f xq3 σ) 38 [(0, .ref (ad E 48)), (1, .int xq1), (3, .int xq3)] [] σ) (fun _ _ => k_none) (fun L38 hL38 xq3 σ => t_X11_feed_L38b B xq1   L38 hL38 xq3 σ) n
set_option maxHeartbeats 4000000 in
set_option maxRecDepth 100000 in
theorem t_X11_feed {E : En} {G : Cx} (B : Bx E G cX11_feed 4 RX11 H_X11_feed (some .int)) (aq0 : Int32) (aq1 : Int32)  (σ : Mm) : KR E G 4 (ZI E G) (f_X11_feed aq0 aq1 σ) 0 [(0, .ref (ad E 48)), (1, .int aq0), (2, .int aq1)] [] σ := by
  have F := B.1
  unfold f_X11_feed
  refine k_iload_n (pc := 0) F 2 2 dX11_feed_0 rfl rfl ?_
  refine k_iconst (pc := 1) F (v := (1 : Int32)) dX11_feed_1 ci_1 ?_
  refine k_iconst (pc := 2) F (v := (4 : Int32)) dX11_feed_2 ci_4 ?_
  refine k_callSI (pc := 3) B (As := [.int aq1, .int (1 : Int32), .int (4 : Int32)]) (rest := []) (ct_X11_in E aq1 (1 : Int32) (4 : Int32)  σ) ms_X11_in w_5_140 rfl hR_X11_feed_X11_in rfl (Nat.le_of_ble_eq_true rfl) dX11_feed_3 (fun rq2 σ1 hoq => ?_)
  refine k_if_ne (pc := 6) F 16 dX11_feed_6 (by decide) (fun _ => ?_) (fun _ => ?_)
  · refine k_aload_n (pc := 9) F 0 0 dX11_feed_9 rfl rfl ?_
    refine k_ldc (pc := 10) F (v := (-1000000001 : Int32)) w_5_143 dX11_feed_10 ?_
    refine k_callVI (pc := 12) B (k := 48) (As := [.int (-1000000001 : Int32)]) (rest := []) (ct_X11_finds E (-1000000001 : Int32)  σ1) rfl rfl mv_X11_finds w_5_144 rfl hR_X11_feed_X11_finds rfl (Nat.le_of_ble_eq_true rfl) dX11_feed_12 (fun rq10 σ9 hoq => ?_)
    exact k_iret (pc := 15) B dX11_feed_15
  · refine k_aload_n (pc := 16) F 0 0 dX11_feed_16 rfl rfl ?_
    refine gf_48_13 (pc := 17) F w_4_183 dX11_feed_17 ?_
    refine k_iload_n (pc := 20) F 2 2 dX11_feed_20 rfl rfl ?_
    refine k_iadd (pc := 21) F dX11_feed_21 ?_
    refine k_bipush (pc := 22) F (v := (120 : Int32)) dX11_feed_22 cb_120 ?_
    refine k_icmp_le (pc := 24) F 34 dX11_feed_24 (by decide) (fun _ => ?_) (fun _ => ?_)
    · refine k_iload_n (pc := 34) F 2 2 dX11_feed_34 rfl rfl ?_
      refine k_iconst (pc := 35) F (v := (1 : Int32)) dX11_feed_35 ci_1 ?_
      refine k_isub (pc := 36) F dX11_feed_36 ?_
      refine k_nmI (fun vq3 => ?_)
      refine k_istore_n F (lv' := [(3, .int vq3), (0, .ref (ad E 48)), (1, .int aq0), (2, .int aq1)]) 3 dX11_feed_37 rfl (by decide) rfl ?_
      exact k_sub [1, 2, 0] rfl (t_X11_feed_L38 B aq0   FU vq3  σ1)
    · refine k_aload_n (pc := 27) F 0 0 dX11_feed_27 rfl rfl ?_
      refine k_ldc (pc := 28) F (v := (-1000000002 : Int32)) w_5_148 dX11_feed_28 ?_
      refine k_callVI (pc := 30) B (k := 48) (As := [.int (-1000000002 : Int32)]) (rest := []) (ct_X11_finds E (-1000000002 : Int32)  σ1) rfl rfl mv_X11_finds w_5_144 rfl hR_X11_feed_X11_finds rfl (Nat.le_of_ble_eq_true rfl) dX11_feed_30 (fun rq8 σ7 hoq => ?_)
      exact k_iret (pc := 33) B dX11_feed_33
set_option maxHeartbeats 4000000 in
set_option maxRecDepth 100000 in
theorem ct_X11_feed (E : En) (aq0 : Int32) (aq1 : Int32)  (σ : Mm) : CtI E yX11_feed cX11_feed 4 (some .int) H_X11_feed [.ref (ad E 48), .int aq0, .int aq1] σ (f_X11_feed aq0 aq1 σ) := ct_I (by decide) (Nat.le_of_ble_eq_true rfl) rfl (fun G B => t_X11_feed B aq0 aq1  σ)
abbrev H_X11_wipe : Nat := 0
set_option maxHeartbeats 4000000 in
set_option maxRecDepth 100000 in
theorem t_X11_wipe {E : En} {G : Cx} (B : Bx E G cX11_wipe 2 RX11 H_X11_wipe (some .int))   (σ : Mm) : KR E G 2 (ZI E G) (f_X11_wipe  σ) 0 [(0, .ref (ad E 48))] [] σ := by
  have F := B.1
  unfold f_X11_wipe
  refine k_aload_n (pc := 0) F 0 0 dX11_wipe_0 rfl rfl ?_
  refine gf_48_13 (pc := 1) F w_4_183 dX11_wipe_1 ?_
  refine k_nmI (fun vq1 => ?_)
  refine k_istore_n F (lv' := [(1, .int vq1), (0, .ref (ad E 48))]) 1 dX11_wipe_4 rfl (by decide) rfl ?_
  refine k_aload_n (pc := 5) F 0 1 dX11_wipe_5 rfl rfl ?_
  refine k_iconst (pc := 6) F (v := (0 : Int32)) dX11_wipe_6 ci_0 ?_
  refine pf_48_13 (pc := 7) F w_4_183 dX11_wipe_7 (fun σ2 => ?_)
  refine k_iload_n (pc := 10) F 1 0 dX11_wipe_10 rfl rfl ?_
  exact k_iret (pc := 11) B dX11_wipe_11
set_option maxHeartbeats 4000000 in
set_option maxRecDepth 100000 in
theorem ct_X11_wipe (E : En)   (σ : Mm) : CtI E yX11_wipe cX11_wipe 2 (some .int) H_X11_wipe [.ref (ad E 48)] σ (f_X11_wipe  σ) := ct_I (by decide) (Nat.le_of_ble_eq_true rfl) rfl (fun G B => t_X11_wipe B   σ)
abbrev H_X11_packed : Nat := 0
set_option maxHeartbeats 4000000 in
set_option maxRecDepth 100000 in
theorem t_X11_packed_81 {E : En} {G : Cx} (B : Bx E G cX11_packed 7 RX11 H_X11_packed (some .long)) (xq4 : Int32) (xqs0 : Int64)   (σ : Mm) : KR E G 7 (ZL E G) (f_X11_packed_81 xq4 xqs0 σ) 81 [(4, .int xq4)] [.long xqs0] σ := by
  have F := B.1
  unfold f_X11_packed_81
  refine k_lstore F (lv' := [(5, .long xqs0), (4, .int xq4)]) 5 dX11_packed_81 (by decide) rfl ?_
  refine k_iload (pc := 83) F 4 1 dX11_packed_83 rfl ?_
  refine k_if_ne (pc := 85) F 93 dX11_packed_85 (by decide) (fun _ => ?_) (fun _ => ?_)
  · refine k_lload (pc := 88) F 5 0 dX11_packed_88 rfl ?_
    refine k_goto (pc := 90) F 103 dX11_packed_90 (by decide) ?_
    exact k_lret (pc := 103) B dX11_packed_103
  · refine k_ldc2 (pc := 93) F (v := (256 : Int64)) w_4_168 dX11_packed_93 ?_
    refine k_lload (pc := 96) F 5 0 dX11_packed_96 rfl ?_
    refine k_lmul (pc := 98) F dX11_packed_98 ?_
    refine k_iload (pc := 99) F 4 1 dX11_packed_99 rfl ?_
    refine k_i2l (pc := 101) F dX11_packed_101 ?_
    refine k_ladd (pc := 102) F dX11_packed_102 ?_
    exact k_lret (pc := 103) B dX11_packed_103
set_option maxHeartbeats 4000000 in
set_option maxRecDepth 100000 in
theorem t_X11_packed_61 {E : En} {G : Cx} (B : Bx E G cX11_packed 7 RX11 H_X11_packed (some .long)) (xq3 : Int32) (xq4 : Int32) (xqs0 : Int64)   (σ : Mm) : KR E G 7 (ZL E G) (f_X11_packed_61 xq3 xq4 xqs0 σ) 61 [(3, .int xq3), (4, .int xq4)] [.long xqs0] σ := by
  have F := B.1
  unfold f_X11_packed_61
  refine k_lstore F (lv' := [(5, .long xqs0), (3, .int xq3), (4, .int xq4)]) 5 dX11_packed_61 (by decide) rfl ?_
  refine k_iload_n (pc := 63) F 3 1 dX11_packed_63 rfl rfl ?_
  refine k_if_ne (pc := 64) F 72 dX11_packed_64 (by decide) (fun _ => ?_) (fun _ => ?_)
  · refine k_lload (pc := 67) F 5 0 dX11_packed_67 rfl ?_
    refine k_goto (pc := 69) F 81 dX11_packed_69 (by decide) ?_
    exact k_sub [2] rfl (t_X11_packed_81 B xq4 xqs0   σ)
  · refine k_ldc2 (pc := 72) F (v := (256 : Int64)) w_4_168 dX11_packed_72 ?_
    refine k_lload (pc := 75) F 5 0 dX11_packed_75 rfl ?_
    refine k_lmul (pc := 77) F dX11_packed_77 ?_
    refine k_iload_n (pc := 78) F 3 1 dX11_packed_78 rfl rfl ?_
    refine k_i2l (pc := 79) F dX11_packed_79 ?_
    refine k_ladd (pc := 80) F dX11_packed_80 ?_
    exact k_sub [2] rfl (t_X11_packed_81 B xq4 (((256 : Int64) * xqs0) + ((xq3).toInt64))   σ)
set_option maxHeartbeats 4000000 in
set_option maxRecDepth 100000 in
theorem t_X11_packed_41 {E : En} {G : Cx} (B : Bx E G cX11_packed 7 RX11 H_X11_packed (some .long)) (xq2 : Int32) (xq3 : Int32) (xq4 : Int32) (xqs0 : Int64)   (σ : Mm) : KR E G 7 (ZL E G) (f_X11_packed_41 xq2 xq3 xq4 xqs0 σ) 41 [(2, .int xq2), (3, .int xq3), (4, .int xq4)] [.long xqs0] σ := by
  have F := B.1
  unfold f_X11_packed_41
  refine k_lstore F (lv' := [(5, .long xqs0), (2, .int xq2), (3, .int xq3), (4, .int xq4)]) 5 dX11_packed_41 (by decide) rfl ?_
  refine k_iload_n (pc := 43) F 2 1 dX11_packed_43 rfl rfl ?_
  refine k_if_ne (pc := 44) F 52 dX11_packed_44 (by decide) (fun _ => ?_) (fun _ => ?_)
  · refine k_lload (pc := 47) F 5 0 dX11_packed_47 rfl ?_
    refine k_goto (pc := 49) F 61 dX11_packed_49 (by decide) ?_
    exact k_sub [2, 3] rfl (t_X11_packed_61 B xq3 xq4 xqs0   σ)
  · refine k_ldc2 (pc := 52) F (v := (256 : Int64)) w_4_168 dX11_packed_52 ?_
    refine k_lload (pc := 55) F 5 0 dX11_packed_55 rfl ?_
    refine k_lmul (pc := 57) F dX11_packed_57 ?_
    refine k_iload_n (pc := 58) F 2 1 dX11_packed_58 rfl rfl ?_
    refine k_i2l (pc := 59) F dX11_packed_59 ?_
    refine k_ladd (pc := 60) F dX11_packed_60 ?_
    exact k_sub [2, 3] rfl (t_X11_packed_61 B xq3 xq4 (((256 : Int64) * xqs0) + ((xq2).toInt64))   σ)
set_option maxHeartbeats 4000000 in
set_option maxRecDepth 100000 in
theorem t_X11_packed_21 {E : En} {G : Cx} (B : Bx E G cX11_packed 7 RX11 H_X11_packed (some .long)) (xq1 : Int32) (xq2 : Int32) (xq3 : Int32) (xq4 : Int32) (xqs0 : Int64)   (σ : Mm) : KR E G 7 (ZL E G) (f_X11_packed_21 xq1 xq2 xq3 xq4 xqs0 σ) 21 [(1, .int xq1), (2, .int xq2), (3, .int xq3), (4, .int xq4)] [.long xqs0] σ := by
  have F := B.1
  unfold f_X11_packed_21
  refine k_lstore F (lv' := [(5, .long xqs0), (1, .int xq1), (2, .int xq2), (3, .int xq3), (4, .int xq4)]) 5 dX11_packed_21 (by decide) rfl ?_
  refine k_iload_n (pc := 23) F 1 1 dX11_packed_23 rfl rfl ?_
  refine k_if_ne (pc := 24) F 32 dX11_packed_24 (by decide) (fun _ => ?_) (fun _ => ?_)
  · refine k_lload (pc := 27) F 5 0 dX11_packed_27 rfl ?_
    refine k_goto (pc := 29) F 41 dX11_packed_29 (by decide) ?_
    exact k_sub [2, 3, 4] rfl (t_X11_packed_41 B xq2 xq3 xq4 xqs0   σ)
  · refine k_ldc2 (pc := 32) F (v := (256 : Int64)) w_4_168 dX11_packed_32 ?_
    refine k_lload (pc := 35) F 5 0 dX11_packed_35 rfl ?_
    refine k_lmul (pc := 37) F dX11_packed_37 ?_
    refine k_iload_n (pc := 38) F 1 1 dX11_packed_38 rfl rfl ?_
    refine k_i2l (pc := 39) F dX11_packed_39 ?_
    refine k_ladd (pc := 40) F dX11_packed_40 ?_
    exact k_sub [2, 3, 4] rfl (t_X11_packed_41 B xq2 xq3 xq4 (((256 : Int64) * xqs0) + ((xq1).toInt64))   σ)
set_option maxHeartbeats 4000000 in
set_option maxRecDepth 100000 in
theorem t_X11_packed {E : En} {G : Cx} (B : Bx E G cX11_packed 7 RX11 H_X11_packed (some .long)) (aq0 : Int32) (aq1 : Int32) (aq2 : Int32) (aq3 : Int32) (aq4 : Int32)  (σ : Mm) : KR E G 7 (ZL E G) (f_X11_packed aq0 aq1 aq2 aq3 aq4 σ) 0 [(0, .int aq0), (1, .int aq1), (2, .int aq2), (3, .int aq3), (4, .int aq4)] [] σ := by
  have F := B.1
  unfold f_X11_packed
  refine k_lconst (pc := 0) F (v := (0 : Int64)) dX11_packed_0 cl_0 ?_
  refine k_lstore F (lv' := [(5, .long (0 : Int64)), (0, .int aq0), (1, .int aq1), (2, .int aq2), (3, .int aq3), (4, .int aq4)]) 5 dX11_packed_1 (by decide) rfl ?_
  refine k_iload_n (pc := 3) F 0 1 dX11_packed_3 rfl rfl ?_
  refine k_if_ne (pc := 4) F 12 dX11_packed_4 (by decide) (fun _ => ?_) (fun _ => ?_)
  · refine k_lload (pc := 7) F 5 0 dX11_packed_7 rfl ?_
    refine k_goto (pc := 9) F 21 dX11_packed_9 (by decide) ?_
    exact k_sub [2, 3, 4, 5] rfl (t_X11_packed_21 B aq1 aq2 aq3 aq4 (0 : Int64)   σ)
  · refine k_ldc2 (pc := 12) F (v := (256 : Int64)) w_4_168 dX11_packed_12 ?_
    refine k_lload (pc := 15) F 5 0 dX11_packed_15 rfl ?_
    refine k_lmul (pc := 17) F dX11_packed_17 ?_
    refine k_iload_n (pc := 18) F 0 1 dX11_packed_18 rfl rfl ?_
    refine k_i2l (pc := 19) F dX11_packed_19 ?_
    refine k_ladd (pc := 20) F dX11_packed_20 ?_
    exact k_sub [2, 3, 4, 5] rfl (t_X11_packed_21 B aq1 aq2 aq3 aq4 (((256 : Int64) * (0 : Int64)) + ((aq0).toInt64))   σ)
set_option maxHeartbeats 4000000 in
set_option maxRecDepth 100000 in
theorem ct_X11_packed (E : En) (aq0 : Int32) (aq1 : Int32) (aq2 : Int32) (aq3 : Int32) (aq4 : Int32)  (σ : Mm) : CtL E yX11_packed cX11_packed 7 (some .long) H_X11_packed [.int aq0, .int aq1, .int aq2, .int aq3, .int aq4] σ (f_X11_packed aq0 aq1 aq2 aq3 aq4 σ) := ct_L (by decide) (Nat.le_of_ble_eq_true rfl) rfl (fun G B => t_X11_packed B aq0 aq1 aq2 aq3 aq4  σ)
abbrev H_X11_byteAt : Nat := 0
set_option maxHeartbeats 4000000 in
set_option maxRecDepth 100000 in
theorem t_X11_byteAt {E : En} {G : Cx} (B : Bx E G cX11_byteAt 2 RX11 H_X11_byteAt (some .int)) (aq0 : Int32)  (σ : Mm) : KR E G 2 (ZI E G) (f_X11_byteAt aq0 σ) 0 [(0, .ref (ad E 48)), (1, .int aq0)] [] σ := by
  have F := B.1
  unfold f_X11_byteAt
  refine k_iload_n (pc := 0) F 1 1 dX11_byteAt_0 rfl rfl ?_
  refine k_aload_n (pc := 1) F 0 0 dX11_byteAt_1 rfl rfl ?_
  refine gf_48_13 (pc := 2) F w_4_183 dX11_byteAt_2 ?_
  refine k_icmp_ge (pc := 5) F 17 dX11_byteAt_5 (by decide) (fun _ => ?_) (fun _ => ?_)
  · refine k_iconst (pc := 17) F (v := (-1 : Int32)) dX11_byteAt_17 ci_m1 ?_
    exact k_iret (pc := 18) B dX11_byteAt_18
  · refine k_aload_n (pc := 8) F 0 0 dX11_byteAt_8 rfl rfl ?_
    refine gf_48_12 (pc := 9) F w_4_182 dX11_byteAt_9 ?_
    refine k_iload_n (pc := 12) F 1 1 dX11_byteAt_12 rfl rfl ?_
    refine k_iald (pc := 13) F rfl dX11_byteAt_13 ?_
    refine k_goto (pc := 14) F 18 dX11_byteAt_14 (by decide) ?_
    exact k_iret (pc := 18) B dX11_byteAt_18
set_option maxHeartbeats 4000000 in
set_option maxRecDepth 100000 in
theorem ct_X11_byteAt (E : En) (aq0 : Int32)  (σ : Mm) : CtI E yX11_byteAt cX11_byteAt 2 (some .int) H_X11_byteAt [.ref (ad E 48), .int aq0] σ (f_X11_byteAt aq0 σ) := ct_I (by decide) (Nat.le_of_ble_eq_true rfl) rfl (fun G B => t_X11_byteAt B aq0  σ)
abbrev H_X11_isLetter : Nat := 1
theorem hR_X11_isLetter_X11_byteAt : H_X11_byteAt + 1 ≤ H_X11_isLetter ∧ 8 + (2 + 11) + 40 * H_X11_byteAt ≤ 40 * H_X11_isLetter := by decide
theorem hR_X11_isLetter_X11_in : H_X11_in + 1 ≤ H_X11_isLetter ∧ 8 + (3 + 11) + 40 * H_X11_in ≤ 40 * H_X11_isLetter := by decide
set_option maxHeartbeats 4000000 in
set_option maxRecDepth 100000 in
theorem t_X11_isLetter {E : En} {G : Cx} (B : Bx E G cX11_isLetter 2 RX11 H_X11_isLetter (some .boolean)) (aq0 : Int32)  (σ : Mm) : KR E G 2 (ZI E G) (f_X11_isLetter aq0 σ) 0 [(0, .ref (ad E 48)), (1, .int aq0)] [] σ := by
  have F := B.1
  unfold f_X11_isLetter
  refine k_aload_n (pc := 0) F 0 0 dX11_isLetter_0 rfl rfl ?_
  refine k_iload_n (pc := 1) F 1 1 dX11_isLetter_1 rfl rfl ?_
  refine k_callVI (pc := 2) B (k := 48) (As := [.int aq0]) (rest := []) (ct_X11_byteAt E aq0  σ) rfl rfl mv_X11_byteAt w_5_161 rfl hR_X11_isLetter_X11_byteAt rfl (Nat.le_of_ble_eq_true rfl) dX11_isLetter_2 (fun rq2 σ1 hoq => ?_)
  refine k_bipush (pc := 5) F (v := (97 : Int32)) dX11_isLetter_5 cb_97 ?_
  refine k_bipush (pc := 7) F (v := (122 : Int32)) dX11_isLetter_7 cb_122 ?_
  refine k_callSI (pc := 9) B (As := [.int rq2, .int (97 : Int32), .int (122 : Int32)]) (rest := []) (ct_X11_in E rq2 (97 : Int32) (122 : Int32)  σ1) ms_X11_in w_5_140 rfl hR_X11_isLetter_X11_in rfl (Nat.le_of_ble_eq_true rfl) dX11_isLetter_9 (fun rq4 σ3 hoq => ?_)
  exact k_zret (pc := 12) B dX11_isLetter_12
set_option maxHeartbeats 4000000 in
set_option maxRecDepth 100000 in
theorem ct_X11_isLetter (E : En) (aq0 : Int32)  (σ : Mm) : CtI E yX11_isLetter cX11_isLetter 2 (some .boolean) H_X11_isLetter [.ref (ad E 48), .int aq0] σ (f_X11_isLetter aq0 σ) := ct_I (by decide) (Nat.le_of_ble_eq_true rfl) rfl (fun G B => t_X11_isLetter B aq0  σ)
abbrev H_X11_isDigit : Nat := 1
theorem hR_X11_isDigit_X11_byteAt : H_X11_byteAt + 1 ≤ H_X11_isDigit ∧ 8 + (2 + 11) + 40 * H_X11_byteAt ≤ 40 * H_X11_isDigit := by decide
theorem hR_X11_isDigit_X11_in : H_X11_in + 1 ≤ H_X11_isDigit ∧ 8 + (3 + 11) + 40 * H_X11_in ≤ 40 * H_X11_isDigit := by decide
set_option maxHeartbeats 4000000 in
set_option maxRecDepth 100000 in
theorem t_X11_isDigit {E : En} {G : Cx} (B : Bx E G cX11_isDigit 2 RX11 H_X11_isDigit (some .boolean)) (aq0 : Int32)  (σ : Mm) : KR E G 2 (ZI E G) (f_X11_isDigit aq0 σ) 0 [(0, .ref (ad E 48)), (1, .int aq0)] [] σ := by
  have F := B.1
  unfold f_X11_isDigit
  refine k_aload_n (pc := 0) F 0 0 dX11_isDigit_0 rfl rfl ?_
  refine k_iload_n (pc := 1) F 1 1 dX11_isDigit_1 rfl rfl ?_
  refine k_callVI (pc := 2) B (k := 48) (As := [.int aq0]) (rest := []) (ct_X11_byteAt E aq0  σ) rfl rfl mv_X11_byteAt w_5_161 rfl hR_X11_isDigit_X11_byteAt rfl (Nat.le_of_ble_eq_true rfl) dX11_isDigit_2 (fun rq2 σ1 hoq => ?_)
  refine k_bipush (pc := 5) F (v := (48 : Int32)) dX11_isDigit_5 cb_48 ?_
  refine k_bipush (pc := 7) F (v := (57 : Int32)) dX11_isDigit_7 cb_57 ?_
  refine k_callSI (pc := 9) B (As := [.int rq2, .int (48 : Int32), .int (57 : Int32)]) (rest := []) (ct_X11_in E rq2 (48 : Int32) (57 : Int32)  σ1) ms_X11_in w_5_140 rfl hR_X11_isDigit_X11_in rfl (Nat.le_of_ble_eq_true rfl) dX11_isDigit_9 (fun rq4 σ3 hoq => ?_)
  exact k_zret (pc := 12) B dX11_isDigit_12
set_option maxHeartbeats 4000000 in
set_option maxRecDepth 100000 in
theorem ct_X11_isDigit (E : En) (aq0 : Int32)  (σ : Mm) : CtI E yX11_isDigit cX11_isDigit 2 (some .boolean) H_X11_isDigit [.ref (ad E 48), .int aq0] σ (f_X11_isDigit aq0 σ) := ct_I (by decide) (Nat.le_of_ble_eq_true rfl) rfl (fun G B => t_X11_isDigit B aq0  σ)
abbrev H_X11_next : Nat := 2
theorem hR_X11_next_X11_byteAt : H_X11_byteAt + 1 ≤ H_X11_next ∧ 8 + (2 + 11) + 40 * H_X11_byteAt ≤ 40 * H_X11_next := by decide
theorem hR_X11_next_X11_isLetter : H_X11_isLetter + 1 ≤ H_X11_next ∧ 8 + (2 + 11) + 40 * H_X11_isLetter ≤ 40 * H_X11_next := by decide
theorem hR_X11_next_X11_isDigit : H_X11_isDigit + 1 ≤ H_X11_next ∧ 8 + (2 + 11) + 40 * H_X11_isDigit ≤ 40 * H_X11_next := by decide
set_option maxHeartbeats 4000000 in
set_option maxRecDepth 100000 in
theorem t_X11_next_L0b {E : En} {G : Cx} (B : Bx E G cX11_next 5 RX11 H_X11_next none)   (K26 : Mm → Option (Unit × Mm)) (hK26 : ∀   (σ : Mm), KR E G 5 (ZV E G) (K26  σ) 26 [(0, .ref (ad E 48))] [] σ)  (L0 : Mm → Option (Unit × Mm)) (hL0 : ∀   (σ : Mm), KR E G 5 (ZV E G) (L0  σ) 0 [(0, .ref (ad E 48))] [] σ)   (σ : Mm) : KR E G 5 (ZV E G) (f_X11_next_L0 K26  L0  σ) 0 [(0, .ref (ad E 48))] [] σ := by
  have F := B.1
  unfold f_X11_next_L0
  refine k_aload_n (pc := 0) F 0 0 dX11_next_0 rfl rfl ?_
  refine k_aload_n (pc := 1) F 0 0 dX11_next_1 rfl rfl ?_
  refine gf_48_24 (pc := 2) F w_4_194 dX11_next_2 ?_
  refine k_callVI (pc := 5) B (k := 48) (As := [.int (σ.1 48 24)]) (rest := []) (ct_X11_byteAt E (σ.1 48 24)  σ) rfl rfl mv_X11_byteAt w_5_161 rfl hR_X11_next_X11_byteAt rfl (Nat.le_of_ble_eq_true rfl) dX11_next_5 (fun rq2 σ1 hoq => ?_)
  refine k_bipush (pc := 8) F (v := (32 : Int32)) dX11_next_8 cb_32 ?_
  refine k_icmp_ne (pc := 10) F 26 dX11_next_10 (by decide) (fun _ => ?_) (fun _ => ?_)
  · refine k_aload_n (pc := 13) F 0 0 dX11_next_13 rfl rfl ?_
    refine k_dup (pc := 14) F dX11_next_14 rfl ?_
    refine gf_48_24 (pc := 15) F w_4_194 dX11_next_15 ?_
    refine k_iconst (pc := 18) F (v := (1 : Int32)) dX11_next_18 ci_1 ?_
    refine k_iadd (pc := 19) F dX11_next_19 ?_
    refine pf_48_24 (pc := 20) F w_4_194 dX11_next_20 (fun σ3 => ?_)
    refine k_goto (pc := 23) F 0 dX11_next_23 (by decide) ?_
    exact k_sub [0] rfl (hL0 σ3)
  · exact k_sub [0] rfl (hK26 σ1)
set_option maxHeartbeats 4000000 in
set_option maxRecDepth 100000 in
theorem t_X11_next_L0 {E : En} {G : Cx} (B : Bx E G cX11_next 5 RX11 H_X11_next none)   (K26 : Mm → Option (Unit × Mm)) (hK26 : ∀   (σ : Mm), KR E G 5 (ZV E G) (K26  σ) 26 [(0, .ref (ad E 48))] [] σ)  : ∀ (n : Nat)   (σ : Mm), KR E G 5 (ZV E G) (fx (fun _ => none) n (f_X11_next_L0 K26 )  σ) 0 [(0, .ref (ad E 48))] [] σ :=
  fun n => fx_ind (P := fun f => ∀   (σ : Mm), KR E G 5 (ZV E G) (f  σ) 0 [(0, .ref (ad E 48))] [] σ) (fun _ => k_none) (fun L0 hL0  σ => t_X11_next_L0b B   K26 hK26  L0 hL0  σ) n
set_option maxHeartbeats 4000000 in
set_option maxRecDepth 100000 in
theorem t_X11_next_288 {E : En} {G : Cx} (B : Bx E G cX11_next 5 RX11 H_X11_next none) (xqs1 : Int32)   (σ : Mm) : KR E G 5 (ZV E G) (f_X11_next_288 xqs1 σ) 288 [(0, .ref (ad E 48))] [.int xqs1, .ref (ad E 48)] σ := by
  have F := B.1
  unfold f_X11_next_288
  refine pf_48_26 (pc := 288) F w_4_196 dX11_next_288 (fun σ12 => ?_)
  refine k_aload_n (pc := 291) F 0 0 dX11_next_291 rfl rfl ?_
  refine k_dup (pc := 292) F dX11_next_292 rfl ?_
  refine gf_48_24 (pc := 293) F w_4_194 dX11_next_293 ?_
  refine k_iconst (pc := 296) F (v := (1 : Int32)) dX11_next_296 ci_1 ?_
  refine k_iadd (pc := 297) F dX11_next_297 ?_
  refine pf_48_24 (pc := 298) F w_4_194 dX11_next_298 (fun σ13 => ?_)
  exact k_vret (pc := 301) B dX11_next_301
set_option maxHeartbeats 4000000 in
set_option maxRecDepth 100000 in
theorem t_X11_next_245 {E : En} {G : Cx} (B : Bx E G cX11_next 5 RX11 H_X11_next none) (xqs1 : Int32)  (L197 : Mm → Option (Unit × Mm)) (hL197 : ∀   (σ : Mm), KR E G 5 (ZV E G) (L197  σ) 197 [(0, .ref (ad E 48))] [] σ)  (σ : Mm) : KR E G 5 (ZV E G) (f_X11_next_245 L197 xqs1 σ) 245 [(0, .ref (ad E 48))] [.int xqs1, .ref (ad E 48)] σ := by
  have F := B.1
  unfold f_X11_next_245
  refine pf_48_27 (pc := 245) F w_4_197 dX11_next_245 (fun σ17 => ?_)
  refine k_aload_n (pc := 248) F 0 0 dX11_next_248 rfl rfl ?_
  refine k_dup (pc := 249) F dX11_next_249 rfl ?_
  refine gf_48_24 (pc := 250) F w_4_194 dX11_next_250 ?_
  refine k_iconst (pc := 253) F (v := (1 : Int32)) dX11_next_253 ci_1 ?_
  refine k_iadd (pc := 254) F dX11_next_254 ?_
  refine pf_48_24 (pc := 255) F w_4_194 dX11_next_255 (fun σ18 => ?_)
  refine k_goto (pc := 258) F 197 dX11_next_258 (by decide) ?_
  exact k_sub [0] rfl (hL197 σ18)
set_option maxHeartbeats 4000000 in
set_option maxRecDepth 100000 in
theorem t_X11_next_L197b {E : En} {G : Cx} (B : Bx E G cX11_next 5 RX11 H_X11_next none)    (L197 : Mm → Option (Unit × Mm)) (hL197 : ∀   (σ : Mm), KR E G 5 (ZV E G) (L197  σ) 197 [(0, .ref (ad E 48))] [] σ)   (σ : Mm) : KR E G 5 (ZV E G) (f_X11_next_L197  L197  σ) 197 [(0, .ref (ad E 48))] [] σ := by
  have F := B.1
  unfold f_X11_next_L197
  refine k_aload_n (pc := 197) F 0 0 dX11_next_197 rfl rfl ?_
  refine k_aload_n (pc := 198) F 0 0 dX11_next_198 rfl rfl ?_
  refine gf_48_24 (pc := 199) F w_4_194 dX11_next_199 ?_
  refine k_callVI (pc := 202) B (k := 48) (As := [.int (σ.1 48 24)]) (rest := []) (ct_X11_isDigit E (σ.1 48 24)  σ) rfl rfl mv_X11_isDigit w_5_169 rfl hR_X11_next_X11_isDigit rfl (Nat.le_of_ble_eq_true rfl) dX11_next_202 (fun rq15 σ14 hoq => ?_)
  refine k_if_eq (pc := 205) F 261 dX11_next_205 (by decide) (fun _ => ?_) (fun _ => ?_)
  · refine k_aload_n (pc := 261) F 0 0 dX11_next_261 rfl rfl ?_
    refine k_iconst (pc := 262) F (v := (2 : Int32)) dX11_next_262 ci_2 ?_
    refine pf_48_26 (pc := 263) F w_4_196 dX11_next_263 (fun σ16 => ?_)
    refine k_goto (pc := 266) F 301 dX11_next_266 (by decide) ?_
    exact k_vret (pc := 301) B dX11_next_301
  · refine k_aload_n (pc := 208) F 0 0 dX11_next_208 rfl rfl ?_
    refine k_aload_n (pc := 209) F 0 0 dX11_next_209 rfl rfl ?_
    refine gf_48_27 (pc := 210) F w_4_197 dX11_next_210 ?_
    refine k_sipush (pc := 213) F (v := (1000 : Int32)) dX11_next_213 cs_1000 ?_
    refine k_icmp_ge (pc := 216) F 241 dX11_next_216 (by decide) (fun _ => ?_) (fun _ => ?_)
    · refine k_aload_n (pc := 241) F 0 0 dX11_next_241 rfl rfl ?_
      refine gf_48_27 (pc := 242) F w_4_197 dX11_next_242 ?_
      exact k_sub [0] rfl (t_X11_next_245 B (σ14.1 48 27)  L197 hL197  σ14)
    · refine k_bipush (pc := 219) F (v := (10 : Int32)) dX11_next_219 cb_10 ?_
      refine k_aload_n (pc := 221) F 0 0 dX11_next_221 rfl rfl ?_
      refine gf_48_27 (pc := 222) F w_4_197 dX11_next_222 ?_
      refine k_imul (pc := 225) F dX11_next_225 ?_
      refine k_aload_n (pc := 226) F 0 0 dX11_next_226 rfl rfl ?_
      refine k_aload_n (pc := 227) F 0 0 dX11_next_227 rfl rfl ?_
      refine gf_48_24 (pc := 228) F w_4_194 dX11_next_228 ?_
      refine k_callVI (pc := 231) B (k := 48) (As := [.int (σ14.1 48 24)]) (rest := [.int ((10 : Int32) * (σ14.1 48 27)), .ref (ad E 48)]) (ct_X11_byteAt E (σ14.1 48 24)  σ14) rfl rfl mv_X11_byteAt w_5_161 rfl hR_X11_next_X11_byteAt rfl (Nat.le_of_ble_eq_true rfl) dX11_next_231 (fun rq20 σ19 hoq => ?_)
      refine k_iadd (pc := 234) F dX11_next_234 ?_
      refine k_bipush (pc := 235) F (v := (48 : Int32)) dX11_next_235 cb_48 ?_
      refine k_isub (pc := 237) F dX11_next_237 ?_
      refine k_goto (pc := 238) F 245 dX11_next_238 (by decide) ?_
      exact k_sub [0] rfl (t_X11_next_245 B ((((10 : Int32) * (σ14.1 48 27)) + rq20) - (48 : Int32))  L197 hL197  σ19)
set_option maxHeartbeats 4000000 in
set_option maxRecDepth 100000 in
theorem t_X11_next_L197 {E : En} {G : Cx} (B : Bx E G cX11_next 5 RX11 H_X11_next none)    : ∀ (n : Nat)   (σ : Mm), KR E G 5 (ZV E G) (fx (fun _ => none) n (f_X11_next_L197 )  σ) 197 [(0, .ref (ad E 48))] [] σ :=
  fun n => fx_ind (P := fun f => ∀   (σ : Mm), KR E G 5 (ZV E G) (f  σ) 197 [(0, .ref (ad E 48))] [] σ) (fun _ => k_none) (fun L197 hL197  σ => t_X11_next_L197b B    L197 hL197  σ) n
set_option maxHeartbeats 4000000 in
set_option maxRecDepth 100000 in
theorem t_X11_next_109 {E : En} {G : Cx} (B : Bx E G cX11_next 5 RX11 H_X11_next none) (xq3 : Int32) (xqs0 : Int64)  (L73 : Int64 → Int32 → Mm → Option (Unit × Mm)) (hL73 : ∀ (xq1 : Int64) (xq3 : Int32)  (σ : Mm), KR E G 5 (ZV E G) (L73 xq1 xq3 σ) 73 [(0, .ref (ad E 48)), (1, .long xq1), (3, .int xq3)] [] σ)  (σ : Mm) : KR E G 5 (ZV E G) (f_X11_next_109 L73 xq3 xqs0 σ) 109 [(0, .ref (ad E 48)), (3, .int xq3)] [.long xqs0] σ := by
  have F := B.1
  unfold f_X11_next_109
  refine k_lstore_n F (lv' := [(1, .long xqs0), (0, .ref (ad E 48)), (3, .int xq3)]) 1 dX11_next_109 rfl (by decide) rfl ?_
  refine k_iinc (pc := 110) F (c := (1 : Int32)) (lw := fun wq => [(3, .int wq), (1, .long xqs0), (0, .ref (ad E 48))]) 3 2 dX11_next_110 rfl ci_1 (by decide) (fun _ => rfl) (fun vq23 => ?_)
  refine k_aload_n (pc := 113) F 0 2 dX11_next_113 rfl rfl ?_
  refine k_dup (pc := 114) F dX11_next_114 rfl ?_
  refine gf_48_24 (pc := 115) F w_4_194 dX11_next_115 ?_
  refine k_iconst (pc := 118) F (v := (1 : Int32)) dX11_next_118 ci_1 ?_
  refine k_iadd (pc := 119) F dX11_next_119 ?_
  refine pf_48_24 (pc := 120) F w_4_194 dX11_next_120 (fun σ24 => ?_)
  refine k_goto (pc := 123) F 73 dX11_next_123 (by decide) ?_
  exact k_sub [2, 1, 0] rfl (hL73 xqs0 vq23 σ24)
set_option maxHeartbeats 4000000 in
set_option maxRecDepth 100000 in
theorem t_X11_next_L73b {E : En} {G : Cx} (B : Bx E G cX11_next 5 RX11 H_X11_next none)   (K126 : Int64 → Int32 → Mm → Option (Unit × Mm)) (hK126 : ∀ (xq1 : Int64) (xq3 : Int32)  (σ : Mm), KR E G 5 (ZV E G) (K126 xq1 xq3 σ) 126 [(0, .ref (ad E 48)), (1, .long xq1), (3, .int xq3)] [] σ)  (L73 : Int64 → Int32 → Mm → Option (Unit × Mm)) (hL73 : ∀ (xq1 : Int64) (xq3 : Int32)  (σ : Mm), KR E G 5 (ZV E G) (L73 xq1 xq3 σ) 73 [(0, .ref (ad E 48)), (1, .long xq1), (3, .int xq3)] [] σ) (xq1 : Int64) (xq3 : Int32)  (σ : Mm) : KR E G 5 (ZV E G) (f_X11_next_L73 K126  L73 xq1 xq3 σ) 73 [(0, .ref (ad E 48)), (1, .long xq1), (3, .int xq3)] [] σ := by
  have F := B.1
  unfold f_X11_next_L73
  refine k_aload_n (pc := 73) F 0 0 dX11_next_73 rfl rfl ?_
  refine k_aload_n (pc := 74) F 0 0 dX11_next_74 rfl rfl ?_
  refine gf_48_24 (pc := 75) F w_4_194 dX11_next_75 ?_
  refine k_callVI (pc := 78) B (k := 48) (As := [.int (σ.1 48 24)]) (rest := []) (ct_X11_isLetter E (σ.1 48 24)  σ) rfl rfl mv_X11_isLetter w_5_165 rfl hR_X11_next_X11_isLetter rfl (Nat.le_of_ble_eq_true rfl) dX11_next_78 (fun rq22 σ21 hoq => ?_)
  refine k_if_eq (pc := 81) F 126 dX11_next_81 (by decide) (fun _ => ?_) (fun _ => ?_)
  · exact k_sub [0, 1, 2] rfl (hK126 xq1 xq3 σ21)
  · refine k_iload_n (pc := 84) F 3 2 dX11_next_84 rfl rfl ?_
    refine k_bipush (pc := 85) F (v := (6 : Int32)) dX11_next_85 cb_6 ?_
    refine k_icmp_ge (pc := 87) F 108 dX11_next_87 (by decide) (fun _ => ?_) (fun _ => ?_)
    · refine k_lload_n (pc := 108) F 1 1 dX11_next_108 rfl rfl ?_
      exact k_sub [0, 2] rfl (t_X11_next_109 B xq3 xq1  L73 hL73  σ21)
    · refine k_ldc2 (pc := 90) F (v := (256 : Int64)) w_4_168 dX11_next_90 ?_
      refine k_lload_n (pc := 93) F 1 1 dX11_next_93 rfl rfl ?_
      refine k_lmul (pc := 94) F dX11_next_94 ?_
      refine k_aload_n (pc := 95) F 0 0 dX11_next_95 rfl rfl ?_
      refine k_aload_n (pc := 96) F 0 0 dX11_next_96 rfl rfl ?_
      refine gf_48_24 (pc := 97) F w_4_194 dX11_next_97 ?_
      refine k_callVI (pc := 100) B (k := 48) (As := [.int (σ21.1 48 24)]) (rest := [.long ((256 : Int64) * xq1)]) (ct_X11_byteAt E (σ21.1 48 24)  σ21) rfl rfl mv_X11_byteAt w_5_161 rfl hR_X11_next_X11_byteAt rfl (Nat.le_of_ble_eq_true rfl) dX11_next_100 (fun rq26 σ25 hoq => ?_)
      refine k_i2l (pc := 103) F dX11_next_103 ?_
      refine k_ladd (pc := 104) F dX11_next_104 ?_
      refine k_goto (pc := 105) F 109 dX11_next_105 (by decide) ?_
      exact k_sub [0, 2] rfl (t_X11_next_109 B xq3 (((256 : Int64) * xq1) + ((rq26).toInt64))  L73 hL73  σ25)
set_option maxHeartbeats 4000000 in
set_option maxRecDepth 100000 in
theorem t_X11_next_L73 {E : En} {G : Cx} (B : Bx E G cX11_next 5 RX11 H_X11_next none)   (K126 : Int64 → Int32 → Mm → Option (Unit × Mm)) (hK126 : ∀ (xq1 : Int64) (xq3 : Int32)  (σ : Mm), KR E G 5 (ZV E G) (K126 xq1 xq3 σ) 126 [(0, .ref (ad E 48)), (1, .long xq1), (3, .int xq3)] [] σ)  : ∀ (n : Nat) (xq1 : Int64) (xq3 : Int32)  (σ : Mm), KR E G 5 (ZV E G) (fx (fun _ _ _ => none) n (f_X11_next_L73 K126 ) xq1 xq3 σ) 73 [(0, .ref (ad E 48)), (1, .long xq1), (3, .int xq3)] [] σ :=
  fun n => fx_ind (P := fun f => ∀ (xq1 : Int64) (xq3 : Int32)  (σ : Mm), KR E G 5 (ZV E G) (f xq1 xq3 σ) 73 [(0, .ref (ad E 48)), (1, .long xq1), (3, .int xq3)] [] σ) (fun _ _ _ => k_none) (fun L73 hL73 xq1 xq3 σ => t_X11_next_L73b B   K126 hK126  L73 hL73 xq1 xq3 σ) n
set_option maxHeartbeats 4000000 in
set_option maxRecDepth 100000 in
theorem t_X11_next_174 {E : En} {G : Cx} (B : Bx E G cX11_next 5 RX11 H_X11_next none) (xq1 : Int64) (xq3 : Int32) (xq4 : Int32) (xqs1 : Int32)  (L139 : Int32 → Mm → Option (Unit × Mm)) (hL139 : ∀ (xq4 : Int32)  (σ : Mm), KR E G 5 (ZV E G) (L139 xq4 σ) 139 [(0, .ref (ad E 48)), (1, .long xq1), (3, .int xq3), (4, .int xq4)] [] σ)  (σ : Mm) : KR E G 5 (ZV E G) (f_X11_next_174 L139 xq1 xq3 xq4 xqs1 σ) 174 [(0, .ref (ad E 48)), (1, .long xq1), (3, .int xq3), (4, .int xq4)] [.int xqs1, .ref (ad E 48)] σ := by
  have F := B.1
  unfold f_X11_next_174
  refine pf_48_27 (pc := 174) F w_4_197 dX11_next_174 (fun σ29 => ?_)
  refine k_iinc (pc := 177) F (c := (1 : Int32)) (lw := fun wq => [(4, .int wq), (0, .ref (ad E 48)), (1, .long xq1), (3, .int xq3)]) 4 3 dX11_next_177 rfl ci_1 (by decide) (fun _ => rfl) (fun vq30 => ?_)
  refine k_goto (pc := 180) F 139 dX11_next_180 (by decide) ?_
  exact k_sub [1, 2, 3, 0] rfl (hL139 vq30 σ29)
set_option maxHeartbeats 4000000 in
set_option maxRecDepth 100000 in
theorem t_X11_next_170 {E : En} {G : Cx} (B : Bx E G cX11_next 5 RX11 H_X11_next none) (xq1 : Int64) (xq3 : Int32) (xq4 : Int32)  (L139 : Int32 → Mm → Option (Unit × Mm)) (hL139 : ∀ (xq4 : Int32)  (σ : Mm), KR E G 5 (ZV E G) (L139 xq4 σ) 139 [(0, .ref (ad E 48)), (1, .long xq1), (3, .int xq3), (4, .int xq4)] [] σ)  (σ : Mm) : KR E G 5 (ZV E G) (f_X11_next_170 L139 xq1 xq3 xq4 σ) 170 [(0, .ref (ad E 48)), (1, .long xq1), (3, .int xq3), (4, .int xq4)] [.ref (ad E 48)] σ := by
  have F := B.1
  unfold f_X11_next_170
  refine k_aload_n (pc := 170) F 0 0 dX11_next_170 rfl rfl ?_
  refine gf_48_27 (pc := 171) F w_4_197 dX11_next_171 ?_
  exact k_sub [0, 1, 2, 3] rfl (t_X11_next_174 B xq1 xq3 xq4 (σ.1 48 27)  L139 hL139  σ)
set_option maxHeartbeats 4000000 in
set_option maxRecDepth 100000 in
theorem t_X11_next_L139b {E : En} {G : Cx} (B : Bx E G cX11_next 5 RX11 H_X11_next none) (xq1 : Int64) (xq3 : Int32)   (L139 : Int32 → Mm → Option (Unit × Mm)) (hL139 : ∀ (xq4 : Int32)  (σ : Mm), KR E G 5 (ZV E G) (L139 xq4 σ) 139 [(0, .ref (ad E 48)), (1, .long xq1), (3, .int xq3), (4, .int xq4)] [] σ) (xq4 : Int32)  (σ : Mm) : KR E G 5 (ZV E G) (f_X11_next_L139 xq1 xq3 L139 xq4 σ) 139 [(0, .ref (ad E 48)), (1, .long xq1), (3, .int xq3), (4, .int xq4)] [] σ := by
  have F := B.1
  unfold f_X11_next_L139
  refine k_iload (pc := 139) F 4 3 dX11_next_139 rfl ?_
  refine k_bipush (pc := 141) F (v := (9 : Int32)) dX11_next_141 cb_9 ?_
  refine k_icmp_ge (pc := 143) F 183 dX11_next_143 (by decide) (fun _ => ?_) (fun _ => ?_)
  · refine k_goto (pc := 183) F 301 dX11_next_183 (by decide) ?_
    exact k_vret (pc := 301) B dX11_next_301
  · refine k_aload_n (pc := 146) F 0 0 dX11_next_146 rfl rfl ?_
    refine k_iload_n (pc := 147) F 3 2 dX11_next_147 rfl rfl ?_
    refine k_bipush (pc := 148) F (v := (6 : Int32)) dX11_next_148 cb_6 ?_
    refine k_icmp_ge (pc := 150) F 170 dX11_next_150 (by decide) (fun _ => ?_) (fun _ => ?_)
    · exact k_sub [0, 1, 2, 3] rfl (t_X11_next_170 B xq1 xq3 xq4  L139 hL139  σ)
    · refine k_aload_n (pc := 153) F 0 0 dX11_next_153 rfl rfl ?_
      refine gf_48_29 (pc := 154) F w_4_199 dX11_next_154 ?_
      refine k_iload (pc := 157) F 4 3 dX11_next_157 rfl ?_
      refine k_lald (pc := 159) F rfl dX11_next_159 ?_
      refine k_lload_n (pc := 160) F 1 1 dX11_next_160 rfl rfl ?_
      refine k_lcmp (pc := 161) F dX11_next_161 ?_
      refine k_if_ne (pc := 162) F 170 dX11_next_162 (by decide) (fun _ => ?_) (fun _ => ?_)
      · refine k_iload (pc := 165) F 4 3 dX11_next_165 rfl ?_
        refine k_goto (pc := 167) F 174 dX11_next_167 (by decide) ?_
        exact k_sub [0, 1, 2, 3] rfl (t_X11_next_174 B xq1 xq3 xq4 xq4  L139 hL139  σ)
      · exact k_sub [0, 1, 2, 3] rfl (t_X11_next_170 B xq1 xq3 xq4  L139 hL139  σ)
set_option maxHeartbeats 4000000 in
set_option maxRecDepth 100000 in
theorem t_X11_next_L139 {E : En} {G : Cx} (B : Bx E G cX11_next 5 RX11 H_X11_next none) (xq1 : Int64) (xq3 : Int32)   : ∀ (n : Nat) (xq4 : Int32)  (σ : Mm), KR E G 5 (ZV E G) (fx (fun _ _ => none) n (f_X11_next_L139 xq1 xq3) xq4 σ) 139 [(0, .ref (ad E 48)), (1, .long xq1), (3, .int xq3), (4, .int xq4)] [] σ :=
  fun n => fx_ind (P := fun f => ∀ (xq4 : Int32)  (σ : Mm), KR E G 5 (ZV E G) (f xq4 σ) 139 [(0, .ref (ad E 48)), (1, .long xq1), (3, .int xq3), (4, .int xq4)] [] σ) (fun _ _ => k_none) (fun L139 hL139 xq4 σ => t_X11_next_L139b B xq1 xq3   L139 hL139 xq4 σ) n
set_option maxHeartbeats 4000000 in
set_option maxRecDepth 100000 in
theorem t_X11_next_126 {E : En} {G : Cx} (B : Bx E G cX11_next 5 RX11 H_X11_next none) (xq1 : Int64) (xq3 : Int32)   (σ : Mm) : KR E G 5 (ZV E G) (f_X11_next_126 xq1 xq3 σ) 126 [(0, .ref (ad E 48)), (1, .long xq1), (3, .int xq3)] [] σ := by
  have F := B.1
  unfold f_X11_next_126
  refine k_aload_n (pc := 126) F 0 0 dX11_next_126 rfl rfl ?_
  refine k_iconst (pc := 127) F (v := (1 : Int32)) dX11_next_127 ci_1 ?_
  refine pf_48_26 (pc := 128) F w_4_196 dX11_next_128 (fun σ27 => ?_)
  refine k_aload_n (pc := 131) F 0 0 dX11_next_131 rfl rfl ?_
  refine k_iconst (pc := 132) F (v := (-1 : Int32)) dX11_next_132 ci_m1 ?_
  refine pf_48_27 (pc := 133) F w_4_197 dX11_next_133 (fun σ28 => ?_)
  refine k_iconst (pc := 136) F (v := (0 : Int32)) dX11_next_136 ci_0 ?_
  refine k_istore F (lv' := [(4, .int (0 : Int32)), (0, .ref (ad E 48)), (1, .long xq1), (3, .int xq3)]) 4 dX11_next_137 (by decide) rfl ?_
  exact k_sub [1, 2, 3, 0] rfl (t_X11_next_L139 B xq1 xq3   FU (0 : Int32)  σ28)
set_option maxHeartbeats 4000000 in
set_option maxRecDepth 100000 in
theorem t_X11_next_26 {E : En} {G : Cx} (B : Bx E G cX11_next 5 RX11 H_X11_next none)    (σ : Mm) : KR E G 5 (ZV E G) (f_X11_next_26  σ) 26 [(0, .ref (ad E 48))] [] σ := by
  have F := B.1
  unfold f_X11_next_26
  refine k_aload_n (pc := 26) F 0 0 dX11_next_26 rfl rfl ?_
  refine k_aload_n (pc := 27) F 0 0 dX11_next_27 rfl rfl ?_
  refine gf_48_24 (pc := 28) F w_4_194 dX11_next_28 ?_
  refine pf_48_25 (pc := 31) F w_4_195 dX11_next_31 (fun σ4 => ?_)
  refine k_aload_n (pc := 34) F 0 0 dX11_next_34 rfl rfl ?_
  refine k_iconst (pc := 35) F (v := (0 : Int32)) dX11_next_35 ci_0 ?_
  refine pf_48_27 (pc := 36) F w_4_197 dX11_next_36 (fun σ5 => ?_)
  refine k_aload_n (pc := 39) F 0 0 dX11_next_39 rfl rfl ?_
  refine gf_48_24 (pc := 40) F w_4_194 dX11_next_40 ?_
  refine k_aload_n (pc := 43) F 0 0 dX11_next_43 rfl rfl ?_
  refine gf_48_13 (pc := 44) F w_4_183 dX11_next_44 ?_
  refine k_icmp_ne (pc := 47) F 58 dX11_next_47 (by decide) (fun _ => ?_) (fun _ => ?_)
  · refine k_aload_n (pc := 50) F 0 0 dX11_next_50 rfl rfl ?_
    refine k_iconst (pc := 51) F (v := (0 : Int32)) dX11_next_51 ci_0 ?_
    refine pf_48_26 (pc := 52) F w_4_196 dX11_next_52 (fun σ31 => ?_)
    refine k_goto (pc := 55) F 301 dX11_next_55 (by decide) ?_
    exact k_vret (pc := 301) B dX11_next_301
  · refine k_aload_n (pc := 58) F 0 0 dX11_next_58 rfl rfl ?_
    refine k_aload_n (pc := 59) F 0 0 dX11_next_59 rfl rfl ?_
    refine gf_48_24 (pc := 60) F w_4_194 dX11_next_60 ?_
    refine k_callVI (pc := 63) B (k := 48) (As := [.int (σ5.1 48 24)]) (rest := []) (ct_X11_isLetter E (σ5.1 48 24)  σ5) rfl rfl mv_X11_isLetter w_5_165 rfl hR_X11_next_X11_isLetter rfl (Nat.le_of_ble_eq_true rfl) dX11_next_63 (fun rq7 σ6 hoq => ?_)
    refine k_if_eq (pc := 66) F 186 dX11_next_66 (by decide) (fun _ => ?_) (fun _ => ?_)
    · refine k_aload_n (pc := 186) F 0 0 dX11_next_186 rfl rfl ?_
      refine k_aload_n (pc := 187) F 0 0 dX11_next_187 rfl rfl ?_
      refine gf_48_24 (pc := 188) F w_4_194 dX11_next_188 ?_
      refine k_callVI (pc := 191) B (k := 48) (As := [.int (σ6.1 48 24)]) (rest := []) (ct_X11_isDigit E (σ6.1 48 24)  σ6) rfl rfl mv_X11_isDigit w_5_169 rfl hR_X11_next_X11_isDigit rfl (Nat.le_of_ble_eq_true rfl) dX11_next_191 (fun rq9 σ8 hoq => ?_)
      refine k_if_eq (pc := 194) F 269 dX11_next_194 (by decide) (fun _ => ?_) (fun _ => ?_)
      · refine k_aload_n (pc := 269) F 0 0 dX11_next_269 rfl rfl ?_
        refine k_aload_n (pc := 270) F 0 0 dX11_next_270 rfl rfl ?_
        refine k_aload_n (pc := 271) F 0 0 dX11_next_271 rfl rfl ?_
        refine gf_48_24 (pc := 272) F w_4_194 dX11_next_272 ?_
        refine k_callVI (pc := 275) B (k := 48) (As := [.int (σ8.1 48 24)]) (rest := [.ref (ad E 48)]) (ct_X11_byteAt E (σ8.1 48 24)  σ8) rfl rfl mv_X11_byteAt w_5_161 rfl hR_X11_next_X11_byteAt rfl (Nat.le_of_ble_eq_true rfl) dX11_next_275 (fun rq11 σ10 hoq => ?_)
        refine k_bipush (pc := 278) F (v := (59 : Int32)) dX11_next_278 cb_59 ?_
        refine k_icmp_ne (pc := 280) F 287 dX11_next_280 (by decide) (fun _ => ?_) (fun _ => ?_)
        · refine k_iconst (pc := 283) F (v := (3 : Int32)) dX11_next_283 ci_3 ?_
          refine k_goto (pc := 284) F 288 dX11_next_284 (by decide) ?_
          exact k_sub [0] rfl (t_X11_next_288 B (3 : Int32)   σ10)
        · refine k_iconst (pc := 287) F (v := (4 : Int32)) dX11_next_287 ci_4 ?_
          exact k_sub [0] rfl (t_X11_next_288 B (4 : Int32)   σ10)
      · exact k_sub [0] rfl (t_X11_next_L197 B    FU   σ8)
    · refine k_lconst (pc := 69) F (v := (0 : Int64)) dX11_next_69 cl_0 ?_
      refine k_lstore_n F (lv' := [(1, .long (0 : Int64)), (0, .ref (ad E 48))]) 1 dX11_next_70 rfl (by decide) rfl ?_
      refine k_iconst (pc := 71) F (v := (0 : Int32)) dX11_next_71 ci_0 ?_
      refine k_istore_n F (lv' := [(3, .int (0 : Int32)), (1, .long (0 : Int64)), (0, .ref (ad E 48))]) 3 dX11_next_72 rfl (by decide) rfl ?_
      exact k_sub [2, 1, 0] rfl (t_X11_next_L73 B   _ (fun xq1 xq3  σ => by
            exact k_sub [0, 1, 2] rfl (t_X11_next_126 B xq1 xq3   σ)) FU (0 : Int64) (0 : Int32)  σ6)
set_option maxHeartbeats 4000000 in
set_option maxRecDepth 100000 in
theorem t_X11_next {E : En} {G : Cx} (B : Bx E G cX11_next 5 RX11 H_X11_next none)   (σ : Mm) : KR E G 5 (ZV E G) (f_X11_next  σ) 0 [(0, .ref (ad E 48))] [] σ := by
  have F := B.1
  unfold f_X11_next
  exact k_sub [0] rfl (t_X11_next_L0 B   _ (fun   σ => by
        exact k_sub [0] rfl (t_X11_next_26 B    σ)) FU   σ)
set_option maxHeartbeats 4000000 in
set_option maxRecDepth 100000 in
theorem ct_X11_next (E : En)   (σ : Mm) : CtV E yX11_next cX11_next 5 none H_X11_next [.ref (ad E 48)] σ (f_X11_next  σ) := ct_V (by decide) (Nat.le_of_ble_eq_true rfl) rfl (fun G B => t_X11_next B   σ)
abbrev H_X11_wrong : Nat := 0
set_option maxHeartbeats 4000000 in
set_option maxRecDepth 100000 in
theorem t_X11_wrong {E : En} {G : Cx} (B : Bx E G cX11_wrong 1 RX11 H_X11_wrong none)   (σ : Mm) : KR E G 1 (ZV E G) (f_X11_wrong  σ) 0 [(0, .ref (ad E 48))] [] σ := by
  have F := B.1
  unfold f_X11_wrong
  refine k_aload_n (pc := 0) F 0 0 dX11_wrong_0 rfl rfl ?_
  refine k_aload_n (pc := 1) F 0 0 dX11_wrong_1 rfl rfl ?_
  refine gf_48_28 (pc := 2) F w_4_198 dX11_wrong_2 ?_
  refine k_if_ge (pc := 5) F 15 dX11_wrong_5 (by decide) (fun _ => ?_) (fun _ => ?_)
  · refine k_aload_n (pc := 15) F 0 0 dX11_wrong_15 rfl rfl ?_
    refine gf_48_28 (pc := 16) F w_4_198 dX11_wrong_16 ?_
    refine pf_48_28 (pc := 19) F w_4_198 dX11_wrong_19 (fun σ1 => ?_)
    exact k_vret (pc := 22) B dX11_wrong_22
  · refine k_aload_n (pc := 8) F 0 0 dX11_wrong_8 rfl rfl ?_
    refine gf_48_25 (pc := 9) F w_4_195 dX11_wrong_9 ?_
    refine k_goto (pc := 12) F 19 dX11_wrong_12 (by decide) ?_
    refine pf_48_28 (pc := 19) F w_4_198 dX11_wrong_19 (fun σ2 => ?_)
    exact k_vret (pc := 22) B dX11_wrong_22
set_option maxHeartbeats 4000000 in
set_option maxRecDepth 100000 in
theorem ct_X11_wrong (E : En)   (σ : Mm) : CtV E yX11_wrong cX11_wrong 1 none H_X11_wrong [.ref (ad E 48)] σ (f_X11_wrong  σ) := ct_V (by decide) (Nat.le_of_ble_eq_true rfl) rfl (fun G B => t_X11_wrong B   σ)
abbrev H_X11_number : Nat := 3
theorem hR_X11_number_X11_next : H_X11_next + 1 ≤ H_X11_number ∧ 8 + (5 + 11) + 40 * H_X11_next ≤ 40 * H_X11_number := by decide
theorem hR_X11_number_X11_wrong : H_X11_wrong + 1 ≤ H_X11_number ∧ 8 + (1 + 11) + 40 * H_X11_wrong ≤ 40 * H_X11_number := by decide
set_option maxHeartbeats 4000000 in
set_option maxRecDepth 100000 in
theorem t_X11_number {E : En} {G : Cx} (B : Bx E G cX11_number 3 RX11 H_X11_number (some .int)) (aq0 : Int32)  (σ : Mm) : KR E G 3 (ZI E G) (f_X11_number aq0 σ) 0 [(0, .ref (ad E 48)), (1, .int aq0)] [] σ := by
  have F := B.1
  unfold f_X11_number
  refine k_aload_n (pc := 0) F 0 0 dX11_number_0 rfl rfl ?_
  refine gf_48_28 (pc := 1) F w_4_198 dX11_number_1 ?_
  refine k_if_lt (pc := 4) F 9 dX11_number_4 (by decide) (fun _ => ?_) (fun _ => ?_)
  · refine k_aload_n (pc := 9) F 0 0 dX11_number_9 rfl rfl ?_
    refine gf_48_26 (pc := 10) F w_4_196 dX11_number_10 ?_
    refine k_iconst (pc := 13) F (v := (2 : Int32)) dX11_number_13 ci_2 ?_
    refine k_icmp_ne (pc := 14) F 25 dX11_number_14 (by decide) (fun _ => ?_) (fun _ => ?_)
    · refine k_aload_n (pc := 17) F 0 0 dX11_number_17 rfl rfl ?_
      refine gf_48_27 (pc := 18) F w_4_197 dX11_number_18 ?_
      refine k_iload_n (pc := 21) F 1 1 dX11_number_21 rfl rfl ?_
      refine k_icmp_le (pc := 22) F 31 dX11_number_22 (by decide) (fun _ => ?_) (fun _ => ?_)
      · refine k_aload_n (pc := 31) F 0 0 dX11_number_31 rfl rfl ?_
        refine gf_48_27 (pc := 32) F w_4_197 dX11_number_32 ?_
        refine k_nmI (fun vq3 => ?_)
        refine k_istore_n F (lv' := [(2, .int vq3), (0, .ref (ad E 48)), (1, .int aq0)]) 2 dX11_number_35 rfl (by decide) rfl ?_
        refine k_aload_n (pc := 36) F 0 1 dX11_number_36 rfl rfl ?_
        refine k_callVV (pc := 37) B (k := 48) (As := []) (rest := []) (ct_X11_next E   σ) rfl rfl mv_X11_next w_5_157 rfl hR_X11_number_X11_next rfl (Nat.le_of_ble_eq_true rfl) dX11_number_37 (fun rq5 σ4 hoq => ?_)
        refine k_iload_n (pc := 40) F 2 0 dX11_number_40 rfl rfl ?_
        exact k_iret (pc := 41) B dX11_number_41
      · refine k_aload_n (pc := 25) F 0 0 dX11_number_25 rfl rfl ?_
        refine k_callVV (pc := 26) B (k := 48) (As := []) (rest := []) (ct_X11_wrong E   σ) rfl rfl mv_X11_wrong w_5_177 rfl hR_X11_number_X11_wrong rfl (Nat.le_of_ble_eq_true rfl) dX11_number_26 (fun rq7 σ6 hoq => ?_)
        refine k_iconst (pc := 29) F (v := (0 : Int32)) dX11_number_29 ci_0 ?_
        exact k_iret (pc := 30) B dX11_number_30
    · refine k_aload_n (pc := 25) F 0 0 dX11_number_25 rfl rfl ?_
      refine k_callVV (pc := 26) B (k := 48) (As := []) (rest := []) (ct_X11_wrong E   σ) rfl rfl mv_X11_wrong w_5_177 rfl hR_X11_number_X11_wrong rfl (Nat.le_of_ble_eq_true rfl) dX11_number_26 (fun rq2 σ1 hoq => ?_)
      refine k_iconst (pc := 29) F (v := (0 : Int32)) dX11_number_29 ci_0 ?_
      exact k_iret (pc := 30) B dX11_number_30
  · refine k_iconst (pc := 7) F (v := (0 : Int32)) dX11_number_7 ci_0 ?_
    exact k_iret (pc := 8) B dX11_number_8
set_option maxHeartbeats 4000000 in
set_option maxRecDepth 100000 in
theorem ct_X11_number (E : En) (aq0 : Int32)  (σ : Mm) : CtI E yX11_number cX11_number 3 (some .int) H_X11_number [.ref (ad E 48), .int aq0] σ (f_X11_number aq0 σ) := ct_I (by decide) (Nat.le_of_ble_eq_true rfl) rfl (fun G B => t_X11_number B aq0  σ)
abbrev H_X11_readStep : Nat := 4
theorem hR_X11_readStep_X11_next : H_X11_next + 1 ≤ H_X11_readStep ∧ 8 + (5 + 11) + 40 * H_X11_next ≤ 40 * H_X11_readStep := by decide
theorem hR_X11_readStep_X11_wrong : H_X11_wrong + 1 ≤ H_X11_readStep ∧ 8 + (1 + 11) + 40 * H_X11_wrong ≤ 40 * H_X11_readStep := by decide
theorem hR_X11_readStep_X11_number : H_X11_number + 1 ≤ H_X11_readStep ∧ 8 + (3 + 11) + 40 * H_X11_number ≤ 40 * H_X11_readStep := by decide
set_option maxHeartbeats 4000000 in
set_option maxRecDepth 100000 in
theorem t_X11_readStep_207 {E : En} {G : Cx} (B : Bx E G cX11_readStep 4 RX11 H_X11_readStep none) (xq1 : Int32) (xq2 : Int32) (xq3 : Int32) (xqs1 : Int32) (xqs2 : Int32)   (σ : Mm) : KR E G 4 (ZV E G) (f_X11_readStep_207 xq1 xq2 xq3 xqs1 xqs2 σ) 207 [(0, .ref (ad E 48)), (1, .int xq1), (2, .int xq2), (3, .int xq3)] [.int xqs2, .int xqs1, .ref (ad E 53)] σ := by
  have F := B.1
  unfold f_X11_readStep_207
  refine k_iast (pc := 207) F rfl dX11_readStep_207 (fun σ14 => ?_)
  refine k_aload_n (pc := 208) F 0 0 dX11_readStep_208 rfl rfl ?_
  refine gf_48_6 (pc := 209) F w_4_176 dX11_readStep_209 ?_
  refine k_iload_n (pc := 212) F 2 2 dX11_readStep_212 rfl rfl ?_
  refine k_iload_n (pc := 213) F 3 3 dX11_readStep_213 rfl rfl ?_
  refine k_bipush (pc := 214) F (v := (8 : Int32)) dX11_readStep_214 cb_8 ?_
  refine k_icmp_ne (pc := 216) F 227 dX11_readStep_216 (by decide) (fun _ => ?_) (fun _ => ?_)
  · refine k_aload_n (pc := 219) F 0 0 dX11_readStep_219 rfl rfl ?_
    refine k_iload_n (pc := 220) F 1 1 dX11_readStep_220 rfl rfl ?_
    refine k_callVI (pc := 221) B (k := 48) (As := [.int xq1]) (rest := [.int xq2, .ref (ad E 54)]) (ct_X11_number E xq1  σ14) rfl rfl mv_X11_number w_5_181 rfl hR_X11_readStep_X11_number rfl (Nat.le_of_ble_eq_true rfl) dX11_readStep_221 (fun rq17 σ16 hoq => ?_)
    refine k_goto (pc := 224) F 228 dX11_readStep_224 (by decide) ?_
    refine k_iast (pc := 228) F rfl dX11_readStep_228 (fun σ18 => ?_)
    exact k_vret (pc := 229) B dX11_readStep_229
  · refine k_iconst (pc := 227) F (v := (0 : Int32)) dX11_readStep_227 ci_0 ?_
    refine k_iast (pc := 228) F rfl dX11_readStep_228 (fun σ15 => ?_)
    exact k_vret (pc := 229) B dX11_readStep_229
set_option maxHeartbeats 4000000 in
set_option maxRecDepth 100000 in
theorem t_X11_readStep_187 {E : En} {G : Cx} (B : Bx E G cX11_readStep 4 RX11 H_X11_readStep none) (xq1 : Int32) (xq2 : Int32) (xq3 : Int32) (xqs1 : Int32) (xqs2 : Int32)   (σ : Mm) : KR E G 4 (ZV E G) (f_X11_readStep_187 xq1 xq2 xq3 xqs1 xqs2 σ) 187 [(0, .ref (ad E 48)), (1, .int xq1), (2, .int xq2), (3, .int xq3)] [.int xqs2, .int xqs1, .ref (ad E 52)] σ := by
  have F := B.1
  unfold f_X11_readStep_187
  refine k_iast (pc := 187) F rfl dX11_readStep_187 (fun σ13 => ?_)
  refine k_aload_n (pc := 188) F 0 0 dX11_readStep_188 rfl rfl ?_
  refine gf_48_5 (pc := 189) F w_4_175 dX11_readStep_189 ?_
  refine k_iload_n (pc := 192) F 2 2 dX11_readStep_192 rfl rfl ?_
  refine k_iload_n (pc := 193) F 3 3 dX11_readStep_193 rfl rfl ?_
  refine k_iconst (pc := 194) F (v := (3 : Int32)) dX11_readStep_194 ci_3 ?_
  refine k_icmp_ne (pc := 195) F 206 dX11_readStep_195 (by decide) (fun _ => ?_) (fun _ => ?_)
  · refine k_aload_n (pc := 198) F 0 0 dX11_readStep_198 rfl rfl ?_
    refine k_iconst (pc := 199) F (v := (3 : Int32)) dX11_readStep_199 ci_3 ?_
    refine k_callVI (pc := 200) B (k := 48) (As := [.int (3 : Int32)]) (rest := [.int xq2, .ref (ad E 53)]) (ct_X11_number E (3 : Int32)  σ13) rfl rfl mv_X11_number w_5_181 rfl hR_X11_readStep_X11_number rfl (Nat.le_of_ble_eq_true rfl) dX11_readStep_200 (fun rq20 σ19 hoq => ?_)
    refine k_goto (pc := 203) F 207 dX11_readStep_203 (by decide) ?_
    exact k_sub [0, 1, 2, 3] rfl (t_X11_readStep_207 B xq1 xq2 xq3 xq2 rq20   σ19)
  · refine k_iconst (pc := 206) F (v := (0 : Int32)) dX11_readStep_206 ci_0 ?_
    exact k_sub [0, 1, 2, 3] rfl (t_X11_readStep_207 B xq1 xq2 xq3 xq2 (0 : Int32)   σ13)
set_option maxHeartbeats 4000000 in
set_option maxRecDepth 100000 in
theorem t_X11_readStep_178 {E : En} {G : Cx} (B : Bx E G cX11_readStep 4 RX11 H_X11_readStep none) (xq1 : Int32) (xq2 : Int32) (xq3 : Int32) (xqs1 : Int32)   (σ : Mm) : KR E G 4 (ZV E G) (f_X11_readStep_178 xq1 xq2 xq3 xqs1 σ) 178 [(0, .ref (ad E 48)), (1, .int xq1), (2, .int xq2), (3, .int xq3)] [.int xqs1, .ref (ad E 52)] σ := by
  have F := B.1
  unfold f_X11_readStep_178
  refine k_aload_n (pc := 178) F 0 0 dX11_readStep_178 rfl rfl ?_
  refine k_iconst (pc := 179) F (v := (3 : Int32)) dX11_readStep_179 ci_3 ?_
  refine k_callVI (pc := 180) B (k := 48) (As := [.int (3 : Int32)]) (rest := [.int xqs1, .ref (ad E 52)]) (ct_X11_number E (3 : Int32)  σ) rfl rfl mv_X11_number w_5_181 rfl hR_X11_readStep_X11_number rfl (Nat.le_of_ble_eq_true rfl) dX11_readStep_180 (fun rq12 σ11 hoq => ?_)
  refine k_goto (pc := 183) F 187 dX11_readStep_183 (by decide) ?_
  exact k_sub [0, 1, 2, 3] rfl (t_X11_readStep_187 B xq1 xq2 xq3 xqs1 rq12   σ11)
set_option maxHeartbeats 4000000 in
set_option maxRecDepth 100000 in
theorem t_X11_readStep_142 {E : En} {G : Cx} (B : Bx E G cX11_readStep 4 RX11 H_X11_readStep none) (xq1 : Int32) (xq2 : Int32) (xq3 : Int32) (xqs1 : Int32) (xqs2 : Int32)   (σ : Mm) : KR E G 4 (ZV E G) (f_X11_readStep_142 xq1 xq2 xq3 xqs1 xqs2 σ) 142 [(0, .ref (ad E 48)), (1, .int xq1), (2, .int xq2), (3, .int xq3)] [.int xqs2, .int xqs1, .ref (ad E 51)] σ := by
  have F := B.1
  unfold f_X11_readStep_142
  refine k_iast (pc := 142) F rfl dX11_readStep_142 (fun σ10 => ?_)
  refine k_aload_n (pc := 143) F 0 0 dX11_readStep_143 rfl rfl ?_
  refine gf_48_4 (pc := 144) F w_4_174 dX11_readStep_144 ?_
  refine k_iload_n (pc := 147) F 2 2 dX11_readStep_147 rfl rfl ?_
  refine k_iload_n (pc := 148) F 3 3 dX11_readStep_148 rfl rfl ?_
  refine k_iconst (pc := 149) F (v := (1 : Int32)) dX11_readStep_149 ci_1 ?_
  refine k_icmp_ne (pc := 150) F 157 dX11_readStep_150 (by decide) (fun _ => ?_) (fun _ => ?_)
  · refine k_iconst (pc := 153) F (v := (-1 : Int32)) dX11_readStep_153 ci_m1 ?_
    refine k_goto (pc := 154) F 187 dX11_readStep_154 (by decide) ?_
    exact k_sub [0, 1, 2, 3] rfl (t_X11_readStep_187 B xq1 xq2 xq3 xq2 (-1 : Int32)   σ10)
  · refine k_iload_n (pc := 157) F 3 3 dX11_readStep_157 rfl rfl ?_
    refine k_iconst (pc := 158) F (v := (2 : Int32)) dX11_readStep_158 ci_2 ?_
    refine k_icmp_eq (pc := 159) F 178 dX11_readStep_159 (by decide) (fun _ => ?_) (fun _ => ?_)
    · exact k_sub [0, 1, 2, 3] rfl (t_X11_readStep_178 B xq1 xq2 xq3 xq2   σ10)
    · refine k_iload_n (pc := 162) F 3 3 dX11_readStep_162 rfl rfl ?_
      refine k_iconst (pc := 163) F (v := (3 : Int32)) dX11_readStep_163 ci_3 ?_
      refine k_icmp_eq (pc := 164) F 178 dX11_readStep_164 (by decide) (fun _ => ?_) (fun _ => ?_)
      · exact k_sub [0, 1, 2, 3] rfl (t_X11_readStep_178 B xq1 xq2 xq3 xq2   σ10)
      · refine k_iload_n (pc := 167) F 3 3 dX11_readStep_167 rfl rfl ?_
        refine k_iconst (pc := 168) F (v := (4 : Int32)) dX11_readStep_168 ci_4 ?_
        refine k_icmp_eq (pc := 169) F 178 dX11_readStep_169 (by decide) (fun _ => ?_) (fun _ => ?_)
        · exact k_sub [0, 1, 2, 3] rfl (t_X11_readStep_178 B xq1 xq2 xq3 xq2   σ10)
        · refine k_iload_n (pc := 172) F 3 3 dX11_readStep_172 rfl rfl ?_
          refine k_bipush (pc := 173) F (v := (6 : Int32)) dX11_readStep_173 cb_6 ?_
          refine k_icmp_ne (pc := 175) F 186 dX11_readStep_175 (by decide) (fun _ => ?_) (fun _ => ?_)
          · exact k_sub [0, 1, 2, 3] rfl (t_X11_readStep_178 B xq1 xq2 xq3 xq2   σ10)
          · refine k_iconst (pc := 186) F (v := (0 : Int32)) dX11_readStep_186 ci_0 ?_
            exact k_sub [0, 1, 2, 3] rfl (t_X11_readStep_187 B xq1 xq2 xq3 xq2 (0 : Int32)   σ10)
set_option maxHeartbeats 4000000 in
set_option maxRecDepth 100000 in
theorem t_X11_readStep_122 {E : En} {G : Cx} (B : Bx E G cX11_readStep 4 RX11 H_X11_readStep none) (xq1 : Int32) (xq2 : Int32) (xq3 : Int32) (xqs1 : Int32) (xqs2 : Int32)   (σ : Mm) : KR E G 4 (ZV E G) (f_X11_readStep_122 xq1 xq2 xq3 xqs1 xqs2 σ) 122 [(0, .ref (ad E 48)), (1, .int xq1), (2, .int xq2), (3, .int xq3)] [.int xqs2, .int xqs1, .ref (ad E 50)] σ := by
  have F := B.1
  unfold f_X11_readStep_122
  refine k_iast (pc := 122) F rfl dX11_readStep_122 (fun σ9 => ?_)
  refine k_aload_n (pc := 123) F 0 0 dX11_readStep_123 rfl rfl ?_
  refine gf_48_3 (pc := 124) F w_4_173 dX11_readStep_124 ?_
  refine k_iload_n (pc := 127) F 2 2 dX11_readStep_127 rfl rfl ?_
  refine k_iload_n (pc := 128) F 3 3 dX11_readStep_128 rfl rfl ?_
  refine k_iconst (pc := 129) F (v := (4 : Int32)) dX11_readStep_129 ci_4 ?_
  refine k_icmp_gt (pc := 130) F 141 dX11_readStep_130 (by decide) (fun _ => ?_) (fun _ => ?_)
  · refine k_iconst (pc := 141) F (v := (0 : Int32)) dX11_readStep_141 ci_0 ?_
    exact k_sub [0, 1, 2, 3] rfl (t_X11_readStep_142 B xq1 xq2 xq3 xq2 (0 : Int32)   σ9)
  · refine k_aload_n (pc := 133) F 0 0 dX11_readStep_133 rfl rfl ?_
    refine k_iconst (pc := 134) F (v := (2 : Int32)) dX11_readStep_134 ci_2 ?_
    refine k_callVI (pc := 135) B (k := 48) (As := [.int (2 : Int32)]) (rest := [.int xq2, .ref (ad E 51)]) (ct_X11_number E (2 : Int32)  σ9) rfl rfl mv_X11_number w_5_181 rfl hR_X11_readStep_X11_number rfl (Nat.le_of_ble_eq_true rfl) dX11_readStep_135 (fun rq22 σ21 hoq => ?_)
    refine k_goto (pc := 138) F 142 dX11_readStep_138 (by decide) ?_
    exact k_sub [0, 1, 2, 3] rfl (t_X11_readStep_142 B xq1 xq2 xq3 xq2 rq22   σ21)
set_option maxHeartbeats 4000000 in
set_option maxRecDepth 100000 in
theorem t_X11_readStep_68 {E : En} {G : Cx} (B : Bx E G cX11_readStep 4 RX11 H_X11_readStep none) (xq1 : Int32) (xq2 : Int32) (xq3 : Int32) (xqs1 : Int32)   (σ : Mm) : KR E G 4 (ZV E G) (f_X11_readStep_68 xq1 xq2 xq3 xqs1 σ) 68 [(0, .ref (ad E 48)), (1, .int xq1), (2, .int xq2), (3, .int xq3)] [.int xqs1, .ref (ad E 50)] σ := by
  have F := B.1
  unfold f_X11_readStep_68
  refine k_iconst (pc := 68) F (v := (2 : Int32)) dX11_readStep_68 ci_2 ?_
  refine k_goto (pc := 69) F 122 dX11_readStep_69 (by decide) ?_
  exact k_sub [0, 1, 2, 3] rfl (t_X11_readStep_122 B xq1 xq2 xq3 xqs1 (2 : Int32)   σ)
set_option maxHeartbeats 4000000 in
set_option maxRecDepth 100000 in
theorem t_X11_readStep {E : En} {G : Cx} (B : Bx E G cX11_readStep 4 RX11 H_X11_readStep none) (aq0 : Int32)  (σ : Mm) : KR E G 4 (ZV E G) (f_X11_readStep aq0 σ) 0 [(0, .ref (ad E 48)), (1, .int aq0)] [] σ := by
  have F := B.1
  unfold f_X11_readStep
  refine k_aload_n (pc := 0) F 0 0 dX11_readStep_0 rfl rfl ?_
  refine gf_48_26 (pc := 1) F w_4_196 dX11_readStep_1 ?_
  refine k_iconst (pc := 4) F (v := (1 : Int32)) dX11_readStep_4 ci_1 ?_
  refine k_icmp_ne (pc := 5) F 21 dX11_readStep_5 (by decide) (fun _ => ?_) (fun _ => ?_)
  · refine k_aload_n (pc := 8) F 0 0 dX11_readStep_8 rfl rfl ?_
    refine gf_48_27 (pc := 9) F w_4_197 dX11_readStep_9 ?_
    refine k_if_lt (pc := 12) F 21 dX11_readStep_12 (by decide) (fun _ => ?_) (fun _ => ?_)
    · refine k_aload_n (pc := 21) F 0 0 dX11_readStep_21 rfl rfl ?_
      refine k_callVV (pc := 22) B (k := 48) (As := []) (rest := []) (ct_X11_wrong E   σ) rfl rfl mv_X11_wrong w_5_177 rfl hR_X11_readStep_X11_wrong rfl (Nat.le_of_ble_eq_true rfl) dX11_readStep_22 (fun rq4 σ3 hoq => ?_)
      exact k_vret (pc := 25) B dX11_readStep_25
    · refine k_iload_n (pc := 15) F 1 1 dX11_readStep_15 rfl rfl ?_
      refine k_bipush (pc := 16) F (v := (7 : Int32)) dX11_readStep_16 cb_7 ?_
      refine k_icmp_ne (pc := 18) F 26 dX11_readStep_18 (by decide) (fun _ => ?_) (fun _ => ?_)
      · refine k_aload_n (pc := 21) F 0 0 dX11_readStep_21 rfl rfl ?_
        refine k_callVV (pc := 22) B (k := 48) (As := []) (rest := []) (ct_X11_wrong E   σ) rfl rfl mv_X11_wrong w_5_177 rfl hR_X11_readStep_X11_wrong rfl (Nat.le_of_ble_eq_true rfl) dX11_readStep_22 (fun rq24 σ23 hoq => ?_)
        exact k_vret (pc := 25) B dX11_readStep_25
      · refine k_bipush (pc := 26) F (v := (7 : Int32)) dX11_readStep_26 cb_7 ?_
        refine k_aload_n (pc := 28) F 0 0 dX11_readStep_28 rfl rfl ?_
        refine gf_48_0 (pc := 29) F w_4_170 dX11_readStep_29 ?_
        refine k_imul (pc := 32) F dX11_readStep_32 ?_
        refine k_iload_n (pc := 33) F 1 1 dX11_readStep_33 rfl rfl ?_
        refine k_iadd (pc := 34) F dX11_readStep_34 ?_
        refine k_nmI (fun vq5 => ?_)
        refine k_istore_n F (lv' := [(2, .int vq5), (0, .ref (ad E 48)), (1, .int aq0)]) 2 dX11_readStep_35 rfl (by decide) rfl ?_
        refine k_aload_n (pc := 36) F 0 1 dX11_readStep_36 rfl rfl ?_
        refine gf_48_27 (pc := 37) F w_4_197 dX11_readStep_37 ?_
        refine k_nmI (fun vq6 => ?_)
        refine k_istore_n F (lv' := [(3, .int vq6), (2, .int vq5), (0, .ref (ad E 48)), (1, .int aq0)]) 3 dX11_readStep_40 rfl (by decide) rfl ?_
        refine k_aload_n (pc := 41) F 0 2 dX11_readStep_41 rfl rfl ?_
        refine k_callVV (pc := 42) B (k := 48) (As := []) (rest := []) (ct_X11_next E   σ) rfl rfl mv_X11_next w_5_157 rfl hR_X11_readStep_X11_next rfl (Nat.le_of_ble_eq_true rfl) dX11_readStep_42 (fun rq8 σ7 hoq => ?_)
        refine k_aload_n (pc := 45) F 0 2 dX11_readStep_45 rfl rfl ?_
        refine gf_48_2 (pc := 46) F w_4_172 dX11_readStep_46 ?_
        refine k_iload_n (pc := 49) F 2 1 dX11_readStep_49 rfl rfl ?_
        refine k_iload_n (pc := 50) F 3 0 dX11_readStep_50 rfl rfl ?_
        refine k_if_ne (pc := 51) F 58 dX11_readStep_51 (by decide) (fun _ => ?_) (fun _ => ?_)
        · refine k_iconst (pc := 54) F (v := (1 : Int32)) dX11_readStep_54 ci_1 ?_
          refine k_goto (pc := 55) F 122 dX11_readStep_55 (by decide) ?_
          exact k_sub [2, 3, 1, 0] rfl (t_X11_readStep_122 B aq0 vq5 vq6 vq5 (1 : Int32)   σ7)
        · refine k_iload_n (pc := 58) F 3 0 dX11_readStep_58 rfl rfl ?_
          refine k_iconst (pc := 59) F (v := (1 : Int32)) dX11_readStep_59 ci_1 ?_
          refine k_icmp_eq (pc := 60) F 68 dX11_readStep_60 (by decide) (fun _ => ?_) (fun _ => ?_)
          · exact k_sub [2, 3, 1, 0] rfl (t_X11_readStep_68 B aq0 vq5 vq6 vq5   σ7)
          · refine k_iload_n (pc := 63) F 3 0 dX11_readStep_63 rfl rfl ?_
            refine k_iconst (pc := 64) F (v := (2 : Int32)) dX11_readStep_64 ci_2 ?_
            refine k_icmp_ne (pc := 65) F 72 dX11_readStep_65 (by decide) (fun _ => ?_) (fun _ => ?_)
            · exact k_sub [2, 3, 1, 0] rfl (t_X11_readStep_68 B aq0 vq5 vq6 vq5   σ7)
            · refine k_iload_n (pc := 72) F 3 0 dX11_readStep_72 rfl rfl ?_
              refine k_iconst (pc := 73) F (v := (3 : Int32)) dX11_readStep_73 ci_3 ?_
              refine k_icmp_ne (pc := 74) F 81 dX11_readStep_74 (by decide) (fun _ => ?_) (fun _ => ?_)
              · refine k_iconst (pc := 77) F (v := (3 : Int32)) dX11_readStep_77 ci_3 ?_
                refine k_goto (pc := 78) F 122 dX11_readStep_78 (by decide) ?_
                exact k_sub [2, 3, 1, 0] rfl (t_X11_readStep_122 B aq0 vq5 vq6 vq5 (3 : Int32)   σ7)
              · refine k_iload_n (pc := 81) F 3 0 dX11_readStep_81 rfl rfl ?_
                refine k_iconst (pc := 82) F (v := (4 : Int32)) dX11_readStep_82 ci_4 ?_
                refine k_icmp_ne (pc := 83) F 90 dX11_readStep_83 (by decide) (fun _ => ?_) (fun _ => ?_)
                · refine k_iconst (pc := 86) F (v := (4 : Int32)) dX11_readStep_86 ci_4 ?_
                  refine k_goto (pc := 87) F 122 dX11_readStep_87 (by decide) ?_
                  exact k_sub [2, 3, 1, 0] rfl (t_X11_readStep_122 B aq0 vq5 vq6 vq5 (4 : Int32)   σ7)
                · refine k_iload_n (pc := 90) F 3 0 dX11_readStep_90 rfl rfl ?_
                  refine k_iconst (pc := 91) F (v := (5 : Int32)) dX11_readStep_91 ci_5 ?_
                  refine k_icmp_ne (pc := 92) F 99 dX11_readStep_92 (by decide) (fun _ => ?_) (fun _ => ?_)
                  · refine k_iconst (pc := 95) F (v := (5 : Int32)) dX11_readStep_95 ci_5 ?_
                    refine k_goto (pc := 96) F 122 dX11_readStep_96 (by decide) ?_
                    exact k_sub [2, 3, 1, 0] rfl (t_X11_readStep_122 B aq0 vq5 vq6 vq5 (5 : Int32)   σ7)
                  · refine k_iload_n (pc := 99) F 3 0 dX11_readStep_99 rfl rfl ?_
                    refine k_bipush (pc := 100) F (v := (6 : Int32)) dX11_readStep_100 cb_6 ?_
                    refine k_icmp_ne (pc := 102) F 110 dX11_readStep_102 (by decide) (fun _ => ?_) (fun _ => ?_)
                    · refine k_bipush (pc := 105) F (v := (7 : Int32)) dX11_readStep_105 cb_7 ?_
                      refine k_goto (pc := 107) F 122 dX11_readStep_107 (by decide) ?_
                      exact k_sub [2, 3, 1, 0] rfl (t_X11_readStep_122 B aq0 vq5 vq6 vq5 (7 : Int32)   σ7)
                    · refine k_iload_n (pc := 110) F 3 0 dX11_readStep_110 rfl rfl ?_
                      refine k_bipush (pc := 111) F (v := (7 : Int32)) dX11_readStep_111 cb_7 ?_
                      refine k_icmp_ne (pc := 113) F 120 dX11_readStep_113 (by decide) (fun _ => ?_) (fun _ => ?_)
                      · refine k_iconst (pc := 116) F (v := (0 : Int32)) dX11_readStep_116 ci_0 ?_
                        refine k_goto (pc := 117) F 122 dX11_readStep_117 (by decide) ?_
                        exact k_sub [2, 3, 1, 0] rfl (t_X11_readStep_122 B aq0 vq5 vq6 vq5 (0 : Int32)   σ7)
                      · refine k_bipush (pc := 120) F (v := (6 : Int32)) dX11_readStep_120 cb_6 ?_
                        exact k_sub [2, 3, 1, 0] rfl (t_X11_readStep_122 B aq0 vq5 vq6 vq5 (6 : Int32)   σ7)
  · refine k_aload_n (pc := 21) F 0 0 dX11_readStep_21 rfl rfl ?_
    refine k_callVV (pc := 22) B (k := 48) (As := []) (rest := []) (ct_X11_wrong E   σ) rfl rfl mv_X11_wrong w_5_177 rfl hR_X11_readStep_X11_wrong rfl (Nat.le_of_ble_eq_true rfl) dX11_readStep_22 (fun rq2 σ1 hoq => ?_)
    exact k_vret (pc := 25) B dX11_readStep_25
set_option maxHeartbeats 4000000 in
set_option maxRecDepth 100000 in
theorem ct_X11_readStep (E : En) (aq0 : Int32)  (σ : Mm) : CtV E yX11_readStep cX11_readStep 4 none H_X11_readStep [.ref (ad E 48), .int aq0] σ (f_X11_readStep aq0 σ) := ct_V (by decide) (Nat.le_of_ble_eq_true rfl) rfl (fun G B => t_X11_readStep B aq0  σ)
