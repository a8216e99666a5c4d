abbrev H_X1_hasCallLeft : Nat := 1
theorem hR_X1_hasCallLeft_X1_handIn : H_X1_handIn + 1 ≤ H_X1_hasCallLeft ∧ 8 + (3 + 11) + 40 * H_X1_handIn ≤ 40 * H_X1_hasCallLeft := by decide
set_option maxHeartbeats 4000000 in
set_option maxRecDepth 100000 in
theorem t_X1_hasCallLeft {E : En} {G : Cx} (B : Bx E G cX1_hasCallLeft 4 RX1 H_X1_hasCallLeft (some .boolean)) (aq0 : Int64) (aq1 : Int32)  (σ : Mm) : KR E G 4 (ZI E G) (f_X1_hasCallLeft aq0 aq1 σ) 0 [(0, .ref (ad E 13)), (1, .long aq0), (3, .int aq1)] [] σ := by
  have F := B.1
  unfold f_X1_hasCallLeft
  refine k_lload_n (pc := 0) F 1 1 dX1_hasCallLeft_0 rfl rfl ?_
  refine k_iload_n (pc := 1) F 3 2 dX1_hasCallLeft_1 rfl rfl ?_
  refine k_callSI (pc := 2) B (As := [.long aq0, .int aq1]) (rest := []) (ct_X1_handIn E aq0 aq1  σ) ms_X1_handIn w_3_80 rfl hR_X1_hasCallLeft_X1_handIn rfl (Nat.le_of_ble_eq_true rfl) dX1_hasCallLeft_2 (fun rq2 σ1 hoq => ?_)
  refine k_bipush (pc := 5) F (v := (31 : Int32)) dX1_hasCallLeft_5 cb_31 ?_
  refine k_iand (pc := 7) F dX1_hasCallLeft_7 ?_
  refine k_aload_n (pc := 8) F 0 0 dX1_hasCallLeft_8 rfl rfl ?_
  refine gf_13_6 (pc := 9) F w_1_156 dX1_hasCallLeft_9 ?_
  refine k_iload_n (pc := 12) F 3 2 dX1_hasCallLeft_12 rfl rfl ?_
  refine k_iald (pc := 13) F rfl dX1_hasCallLeft_13 ?_
  refine k_icmp_ge (pc := 14) F 21 dX1_hasCallLeft_14 (by decide) (fun _ => ?_) (fun _ => ?_)
  · refine k_iconst (pc := 21) F (v := (0 : Int32)) dX1_hasCallLeft_21 ci_0 ?_
    exact k_zret (pc := 22) B dX1_hasCallLeft_22
  · refine k_iconst (pc := 17) F (v := (1 : Int32)) dX1_hasCallLeft_17 ci_1 ?_
    refine k_goto (pc := 18) F 22 dX1_hasCallLeft_18 (by decide) ?_
    exact k_zret (pc := 22) B dX1_hasCallLeft_22
set_option maxHeartbeats 4000000 in
set_option maxRecDepth 100000 in
theorem ct_X1_hasCallLeft (E : En) (aq0 : Int64) (aq1 : Int32)  (σ : Mm) : CtI E yX1_hasCallLeft cX1_hasCallLeft 4 (some .boolean) H_X1_hasCallLeft [.ref (ad E 13), .long aq0, .int aq1] σ (f_X1_hasCallLeft aq0 aq1 σ) := ct_I (by decide) (Nat.le_of_ble_eq_true rfl) rfl (fun G B => t_X1_hasCallLeft B aq0 aq1  σ)
abbrev H_X1_isEnd : Nat := 2
theorem hR_X1_isEnd_X1_hasCallLeft : H_X1_hasCallLeft + 1 ≤ H_X1_isEnd ∧ 8 + (4 + 11) + 40 * H_X1_hasCallLeft ≤ 40 * H_X1_isEnd := by decide
theorem hR_X1_isEnd_X1_handIn : H_X1_handIn + 1 ≤ H_X1_isEnd ∧ 8 + (3 + 11) + 40 * H_X1_handIn ≤ 40 * H_X1_isEnd := by decide
set_option maxHeartbeats 4000000 in
set_option maxRecDepth 100000 in
theorem t_X1_isEnd_L2b {E : En} {G : Cx} (B : Bx E G cX1_isEnd 4 RX1 H_X1_isEnd (some .boolean)) (xq1 : Int64)   (L2 : Int32 → Mm → Option (Int32 × Mm)) (hL2 : ∀ (xq3 : Int32)  (σ : Mm), KR E G 4 (ZI E G) (L2 xq3 σ) 2 [(0, .ref (ad E 13)), (1, .long xq1), (3, .int xq3)] [] σ) (xq3 : Int32)  (σ : Mm) : KR E G 4 (ZI E G) (f_X1_isEnd_L2 xq1 L2 xq3 σ) 2 [(0, .ref (ad E 13)), (1, .long xq1), (3, .int xq3)] [] σ := by
  have F := B.1
  unfold f_X1_isEnd_L2
  refine k_iload_n (pc := 2) F 3 2 dX1_isEnd_2 rfl rfl ?_
  refine k_aload_n (pc := 3) F 0 0 dX1_isEnd_3 rfl rfl ?_
  refine gf_13_0 (pc := 4) F w_1_144 dX1_isEnd_4 ?_
  refine k_icmp_ge (pc := 7) F 39 dX1_isEnd_7 (by decide) (fun _ => ?_) (fun _ => ?_)
  · refine k_iconst (pc := 39) F (v := (1 : Int32)) dX1_isEnd_39 ci_1 ?_
    exact k_zret (pc := 40) B dX1_isEnd_40
  · refine k_aload_n (pc := 10) F 0 0 dX1_isEnd_10 rfl rfl ?_
    refine k_lload_n (pc := 11) F 1 1 dX1_isEnd_11 rfl rfl ?_
    refine k_iload_n (pc := 12) F 3 2 dX1_isEnd_12 rfl rfl ?_
    refine k_callVI (pc := 13) B (k := 13) (As := [.long xq1, .int xq3]) (rest := []) (ct_X1_hasCallLeft E xq1 xq3  σ) rfl rfl mv_X1_hasCallLeft w_3_122 rfl hR_X1_isEnd_X1_hasCallLeft rfl (Nat.le_of_ble_eq_true rfl) dX1_isEnd_13 (fun rq2 σ1 hoq => ?_)
    refine k_if_ne (pc := 16) F 31 dX1_isEnd_16 (by decide) (fun _ => ?_) (fun _ => ?_)
    · refine k_lload_n (pc := 19) F 1 1 dX1_isEnd_19 rfl rfl ?_
      refine k_iload_n (pc := 20) F 3 2 dX1_isEnd_20 rfl rfl ?_
      refine k_callSI (pc := 21) B (As := [.long xq1, .int xq3]) (rest := []) (ct_X1_handIn E xq1 xq3  σ1) ms_X1_handIn w_3_80 rfl hR_X1_isEnd_X1_handIn rfl (Nat.le_of_ble_eq_true rfl) dX1_isEnd_21 (fun rq4 σ3 hoq => ?_)
      refine k_sipush (pc := 24) F (v := (-512 : Int32)) dX1_isEnd_24 cs_m512 ?_
      refine k_iand (pc := 27) F dX1_isEnd_27 ?_
      refine k_if_eq (pc := 28) F 33 dX1_isEnd_28 (by decide) (fun _ => ?_) (fun _ => ?_)
      · refine k_iinc (pc := 33) F (c := (1 : Int32)) (lw := fun wq => [(3, .int wq), (0, .ref (ad E 13)), (1, .long xq1)]) 3 2 dX1_isEnd_33 rfl ci_1 (by decide) (fun _ => rfl) (fun vq5 => ?_)
        refine k_goto (pc := 36) F 2 dX1_isEnd_36 (by decide) ?_
        exact k_sub [1, 2, 0] rfl (hL2 vq5 σ3)
      · refine k_iconst (pc := 31) F (v := (0 : Int32)) dX1_isEnd_31 ci_0 ?_
        exact k_zret (pc := 32) B dX1_isEnd_32
    · refine k_iconst (pc := 31) F (v := (0 : Int32)) dX1_isEnd_31 ci_0 ?_
      exact k_zret (pc := 32) B dX1_isEnd_32
set_option maxHeartbeats 4000000 in
set_option maxRecDepth 100000 in
theorem t_X1_isEnd_L2 {E : En} {G : Cx} (B : Bx E G cX1_isEnd 4 RX1 H_X1_isEnd (some .boolean)) (xq1 : Int64)   : ∀ (n : Nat) (xq3 : Int32)  (σ : Mm), KR E G 4 (ZI E G) (fx (fun _ _ => none) n (f_X1_isEnd_L2 xq1) xq3 σ) 2 [(0, .ref (ad E 13)), (1, .long xq1), (3, .int xq3)] [] σ :=
  fun n => fx_ind (P := fun f => ∀ (xq3 : Int32)  (σ : Mm), KR E G 4 (ZI E G) (f xq3 σ) 2 [(0, .ref (ad E 13)), (1, .long xq1), (3, .int xq3)] [] σ) (fun _ _ => k_none) (fun L2 hL2 xq3 σ => t_X1_isEnd_L2b B xq1   L2 hL2 xq3 σ) n
set_option maxHeartbeats 4000000 in
set_option maxRecDepth 100000 in
theorem t_X1_isEnd {E : En} {G : Cx} (B : Bx E G cX1_isEnd 4 RX1 H_X1_isEnd (some .boolean)) (aq0 : Int64)  (σ : Mm) : KR E G 4 (ZI E G) (f_X1_isEnd aq0 σ) 0 [(0, .ref (ad E 13)), (1, .long aq0)] [] σ := by
  have F := B.1
  unfold f_X1_isEnd
  refine k_iconst (pc := 0) F (v := (0 : Int32)) dX1_isEnd_0 ci_0 ?_
  refine k_istore_n F (lv' := [(3, .int (0 : Int32)), (0, .ref (ad E 13)), (1, .long aq0)]) 3 dX1_isEnd_1 rfl (by decide) rfl ?_
  exact k_sub [1, 2, 0] rfl (t_X1_isEnd_L2 B aq0   FU (0 : Int32)  σ)
set_option maxHeartbeats 4000000 in
set_option maxRecDepth 100000 in
theorem ct_X1_isEnd (E : En) (aq0 : Int64)  (σ : Mm) : CtI E yX1_isEnd cX1_isEnd 4 (some .boolean) H_X1_isEnd [.ref (ad E 13), .long aq0] σ (f_X1_isEnd aq0 σ) := ct_I (by decide) (Nat.le_of_ble_eq_true rfl) rfl (fun G B => t_X1_isEnd B aq0  σ)
abbrev H_X1_resultOf : Nat := 1
theorem hR_X1_resultOf_X1_valueIn : H_X1_valueIn + 1 ≤ H_X1_resultOf ∧ 8 + (3 + 11) + 40 * H_X1_valueIn ≤ 40 * H_X1_resultOf := by decide
theorem hR_X1_resultOf_X1_handIn : H_X1_handIn + 1 ≤ H_X1_resultOf ∧ 8 + (3 + 11) + 40 * H_X1_handIn ≤ 40 * H_X1_resultOf := by decide
set_option maxHeartbeats 4000000 in
set_option maxRecDepth 100000 in
theorem t_X1_resultOf_L5b {E : En} {G : Cx} (B : Bx E G cX1_resultOf 6 RX1 H_X1_resultOf (some .int)) (xq1 : Int64)  (K28 : Int32 → Mm → Option (Int32 × Mm)) (hK28 : ∀ (xq3 : Int32)  (σ : Mm), KR E G 6 (ZI E G) (K28 xq3 σ) 28 [(0, .ref (ad E 13)), (1, .long xq1), (3, .int xq3)] [] σ)  (L5 : Int32 → Int32 → Mm → Option (Int32 × Mm)) (hL5 : ∀ (xq3 : Int32) (xq4 : Int32)  (σ : Mm), KR E G 6 (ZI E G) (L5 xq3 xq4 σ) 5 [(0, .ref (ad E 13)), (1, .long xq1), (3, .int xq3), (4, .int xq4)] [] σ) (xq3 : Int32) (xq4 : Int32)  (σ : Mm) : KR E G 6 (ZI E G) (f_X1_resultOf_L5 K28 xq1 L5 xq3 xq4 σ) 5 [(0, .ref (ad E 13)), (1, .long xq1), (3, .int xq3), (4, .int xq4)] [] σ := by
  have F := B.1
  unfold f_X1_resultOf_L5
  refine k_iload (pc := 5) F 4 3 dX1_resultOf_5 rfl ?_
  refine k_iconst (pc := 7) F (v := (3 : Int32)) dX1_resultOf_7 ci_3 ?_
  refine k_icmp_ge (pc := 8) F 28 dX1_resultOf_8 (by decide) (fun _ => ?_) (fun _ => ?_)
  · exact k_sub [0, 1, 2] rfl (hK28 xq3 σ)
  · refine k_iload_n (pc := 11) F 3 2 dX1_resultOf_11 rfl rfl ?_
    refine k_iconst (pc := 12) F (v := (4 : Int32)) dX1_resultOf_12 ci_4 ?_
    refine k_imul (pc := 13) F dX1_resultOf_13 ?_
    refine k_lload_n (pc := 14) F 1 1 dX1_resultOf_14 rfl rfl ?_
    refine k_iload (pc := 15) F 4 3 dX1_resultOf_15 rfl ?_
    refine k_callSI (pc := 17) B (As := [.long xq1, .int xq4]) (rest := [.int (xq3 * (4 : Int32))]) (ct_X1_valueIn E xq1 xq4  σ) ms_X1_valueIn w_3_96 rfl hR_X1_resultOf_X1_valueIn rfl (Nat.le_of_ble_eq_true rfl) dX1_resultOf_17 (fun rq2 σ1 hoq => ?_)
    refine k_iadd (pc := 20) F dX1_resultOf_20 ?_
    refine k_nmI (fun vq3 => ?_)
    refine k_istore_n F (lv' := [(3, .int vq3), (0, .ref (ad E 13)), (1, .long xq1), (4, .int xq4)]) 3 dX1_resultOf_21 rfl (by decide) rfl ?_
    refine k_iinc (pc := 22) F (c := (1 : Int32)) (lw := fun wq => [(4, .int wq), (3, .int vq3), (0, .ref (ad E 13)), (1, .long xq1)]) 4 3 dX1_resultOf_22 rfl ci_1 (by decide) (fun _ => rfl) (fun vq4 => ?_)
    refine k_goto (pc := 25) F 5 dX1_resultOf_25 (by decide) ?_
    exact k_sub [2, 3, 1, 0] rfl (hL5 vq3 vq4 σ1)
set_option maxHeartbeats 4000000 in
set_option maxRecDepth 100000 in
theorem t_X1_resultOf_L5 {E : En} {G : Cx} (B : Bx E G cX1_resultOf 6 RX1 H_X1_resultOf (some .int)) (xq1 : Int64)  (K28 : Int32 → Mm → Option (Int32 × Mm)) (hK28 : ∀ (xq3 : Int32)  (σ : Mm), KR E G 6 (ZI E G) (K28 xq3 σ) 28 [(0, .ref (ad E 13)), (1, .long xq1), (3, .int xq3)] [] σ)  : ∀ (n : Nat) (xq3 : Int32) (xq4 : Int32)  (σ : Mm), KR E G 6 (ZI E G) (fx (fun _ _ _ => none) n (f_X1_resultOf_L5 K28 xq1) xq3 xq4 σ) 5 [(0, .ref (ad E 13)), (1, .long xq1), (3, .int xq3), (4, .int xq4)] [] σ :=
  fun n => fx_ind (P := fun f => ∀ (xq3 : Int32) (xq4 : Int32)  (σ : Mm), KR E G 6 (ZI E G) (f xq3 xq4 σ) 5 [(0, .ref (ad E 13)), (1, .long xq1), (3, .int xq3), (4, .int xq4)] [] σ) (fun _ _ _ => k_none) (fun L5 hL5 xq3 xq4 σ => t_X1_resultOf_L5b B xq1  K28 hK28  L5 hL5 xq3 xq4 σ) n
set_option maxHeartbeats 4000000 in
set_option maxRecDepth 100000 in
theorem t_X1_resultOf_L31b {E : En} {G : Cx} (B : Bx E G cX1_resultOf 6 RX1 H_X1_resultOf (some .int)) (xq1 : Int64)   (L31 : Int32 → Int32 → Mm → Option (Int32 × Mm)) (hL31 : ∀ (xq3 : Int32) (xq4 : Int32)  (σ : Mm), KR E G 6 (ZI E G) (L31 xq3 xq4 σ) 31 [(0, .ref (ad E 13)), (1, .long xq1), (3, .int xq3), (4, .int xq4)] [] σ) (xq3 : Int32) (xq4 : Int32)  (σ : Mm) : KR E G 6 (ZI E G) (f_X1_resultOf_L31 xq1 L31 xq3 xq4 σ) 31 [(0, .ref (ad E 13)), (1, .long xq1), (3, .int xq3), (4, .int xq4)] [] σ := by
  have F := B.1
  unfold f_X1_resultOf_L31
  refine k_iload (pc := 31) F 4 3 dX1_resultOf_31 rfl ?_
  refine k_aload_n (pc := 33) F 0 0 dX1_resultOf_33 rfl rfl ?_
  refine gf_13_0 (pc := 34) F w_1_144 dX1_resultOf_34 ?_
  refine k_icmp_ge (pc := 37) F 76 dX1_resultOf_37 (by decide) (fun _ => ?_) (fun _ => ?_)
  · refine k_iload_n (pc := 76) F 3 2 dX1_resultOf_76 rfl rfl ?_
    exact k_iret (pc := 77) B dX1_resultOf_77
  · refine k_lload_n (pc := 40) F 1 1 dX1_resultOf_40 rfl rfl ?_
    refine k_iload (pc := 41) F 4 3 dX1_resultOf_41 rfl ?_
    refine k_callSI (pc := 43) B (As := [.long xq1, .int xq4]) (rest := []) (ct_X1_handIn E xq1 xq4  σ) ms_X1_handIn w_3_80 rfl hR_X1_resultOf_X1_handIn rfl (Nat.le_of_ble_eq_true rfl) dX1_resultOf_43 (fun rq6 σ5 hoq => ?_)
    refine k_istore F (lv' := [(5, .int rq6), (0, .ref (ad E 13)), (1, .long xq1), (3, .int xq3), (4, .int xq4)]) 5 dX1_resultOf_46 (by decide) rfl ?_
    refine k_iload_n (pc := 48) F 3 3 dX1_resultOf_48 rfl rfl ?_
    refine k_bipush (pc := 49) F (v := (16 : Int32)) dX1_resultOf_49 cb_16 ?_
    refine k_imul (pc := 51) F dX1_resultOf_51 ?_
    refine k_iload (pc := 52) F 5 0 dX1_resultOf_52 rfl ?_
    refine k_iconst (pc := 54) F (v := (5 : Int32)) dX1_resultOf_54 ci_5 ?_
    refine k_ishr (pc := 55) F dX1_resultOf_55 ?_
    refine k_iconst (pc := 56) F (v := (3 : Int32)) dX1_resultOf_56 ci_3 ?_
    refine k_iand (pc := 57) F dX1_resultOf_57 ?_
    refine k_iconst (pc := 58) F (v := (4 : Int32)) dX1_resultOf_58 ci_4 ?_
    refine k_imul (pc := 59) F dX1_resultOf_59 ?_
    refine k_iadd (pc := 60) F dX1_resultOf_60 ?_
    refine k_iload (pc := 61) F 5 0 dX1_resultOf_61 rfl ?_
    refine k_bipush (pc := 63) F (v := (7 : Int32)) dX1_resultOf_63 cb_7 ?_
    refine k_ishr (pc := 65) F dX1_resultOf_65 ?_
    refine k_iconst (pc := 66) F (v := (3 : Int32)) dX1_resultOf_66 ci_3 ?_
    refine k_iand (pc := 67) F dX1_resultOf_67 ?_
    refine k_iadd (pc := 68) F dX1_resultOf_68 ?_
    refine k_nmI (fun vq7 => ?_)
    refine k_istore_n F (lv' := [(3, .int vq7), (5, .int rq6), (0, .ref (ad E 13)), (1, .long xq1), (4, .int xq4)]) 3 dX1_resultOf_69 rfl (by decide) rfl ?_
    refine k_iinc (pc := 70) F (c := (1 : Int32)) (lw := fun wq => [(4, .int wq), (3, .int vq7), (5, .int rq6), (0, .ref (ad E 13)), (1, .long xq1)]) 4 4 dX1_resultOf_70 rfl ci_1 (by decide) (fun _ => rfl) (fun vq8 => ?_)
    refine k_goto (pc := 73) F 31 dX1_resultOf_73 (by decide) ?_
    exact k_sub [3, 4, 1, 0] rfl (hL31 vq7 vq8 σ5)
set_option maxHeartbeats 4000000 in
set_option maxRecDepth 100000 in
theorem t_X1_resultOf_L31 {E : En} {G : Cx} (B : Bx E G cX1_resultOf 6 RX1 H_X1_resultOf (some .int)) (xq1 : Int64)   : ∀ (n : Nat) (xq3 : Int32) (xq4 : Int32)  (σ : Mm), KR E G 6 (ZI E G) (fx (fun _ _ _ => none) n (f_X1_resultOf_L31 xq1) xq3 xq4 σ) 31 [(0, .ref (ad E 13)), (1, .long xq1), (3, .int xq3), (4, .int xq4)] [] σ :=
  fun n => fx_ind (P := fun f => ∀ (xq3 : Int32) (xq4 : Int32)  (σ : Mm), KR E G 6 (ZI E G) (f xq3 xq4 σ) 31 [(0, .ref (ad E 13)), (1, .long xq1), (3, .int xq3), (4, .int xq4)] [] σ) (fun _ _ _ => k_none) (fun L31 hL31 xq3 xq4 σ => t_X1_resultOf_L31b B xq1   L31 hL31 xq3 xq4 σ) n
set_option maxHeartbeats 4000000 in
set_option maxRecDepth 100000 in
theorem t_X1_resultOf_28 {E : En} {G : Cx} (B : Bx E G cX1_resultOf 6 RX1 H_X1_resultOf (some .int)) (xq1 : Int64) (xq3 : Int32)   (σ : Mm) : KR E G 6 (ZI E G) (f_X1_resultOf_28 xq1 xq3 σ) 28 [(0, .ref (ad E 13)), (1, .long xq1), (3, .int xq3)] [] σ := by
  have F := B.1
  unfold f_X1_resultOf_28
  refine k_iconst (pc := 28) F (v := (0 : Int32)) dX1_resultOf_28 ci_0 ?_
  refine k_istore F (lv' := [(4, .int (0 : Int32)), (0, .ref (ad E 13)), (1, .long xq1), (3, .int xq3)]) 4 dX1_resultOf_29 (by decide) rfl ?_
  exact k_sub [1, 2, 3, 0] rfl (t_X1_resultOf_L31 B xq1   FU xq3 (0 : Int32)  σ)
set_option maxHeartbeats 4000000 in
set_option maxRecDepth 100000 in
theorem t_X1_resultOf {E : En} {G : Cx} (B : Bx E G cX1_resultOf 6 RX1 H_X1_resultOf (some .int)) (aq0 : Int64)  (σ : Mm) : KR E G 6 (ZI E G) (f_X1_resultOf aq0 σ) 0 [(0, .ref (ad E 13)), (1, .long aq0)] [] σ := by
  have F := B.1
  unfold f_X1_resultOf
  refine k_iconst (pc := 0) F (v := (0 : Int32)) dX1_resultOf_0 ci_0 ?_
  refine k_istore_n F (lv' := [(3, .int (0 : Int32)), (0, .ref (ad E 13)), (1, .long aq0)]) 3 dX1_resultOf_1 rfl (by decide) rfl ?_
  refine k_iconst (pc := 2) F (v := (0 : Int32)) dX1_resultOf_2 ci_0 ?_
  refine k_istore F (lv' := [(4, .int (0 : Int32)), (3, .int (0 : Int32)), (0, .ref (ad E 13)), (1, .long aq0)]) 4 dX1_resultOf_3 (by decide) rfl ?_
  exact k_sub [2, 3, 1, 0] rfl (t_X1_resultOf_L5 B aq0  _ (fun xq3  σ => by
        exact k_sub [0, 1, 2] rfl (t_X1_resultOf_28 B aq0 xq3   σ)) FU (0 : Int32) (0 : Int32)  σ)
set_option maxHeartbeats 4000000 in
set_option maxRecDepth 100000 in
theorem ct_X1_resultOf (E : En) (aq0 : Int64)  (σ : Mm) : CtI E yX1_resultOf cX1_resultOf 6 (some .int) H_X1_resultOf [.ref (ad E 13), .long aq0] σ (f_X1_resultOf aq0 σ) := ct_I (by decide) (Nat.le_of_ble_eq_true rfl) rfl (fun G B => t_X1_resultOf B aq0  σ)
abbrev H_X1_possible : Nat := 3
theorem hR_X1_possible_X1_moved : H_X1_moved + 1 ≤ H_X1_possible ∧ 8 + (13 + 11) + 40 * H_X1_moved ≤ 40 * H_X1_possible := by decide
set_option maxHeartbeats 4000000 in
set_option maxRecDepth 100000 in
theorem t_X1_possible_37 {E : En} {G : Cx} (B : Bx E G cX1_possible 5 RX1 H_X1_possible (some .int)) (xq1 : Int64) (xq3 : Int32) (xq4 : Int32)  (L5 : Int32 → Int32 → Mm → Option (Int32 × Mm)) (hL5 : ∀ (xq3 : Int32) (xq4 : Int32)  (σ : Mm), KR E G 5 (ZI E G) (L5 xq3 xq4 σ) 5 [(0, .ref (ad E 13)), (1, .long xq1), (3, .int xq3), (4, .int xq4)] [] σ)  (σ : Mm) : KR E G 5 (ZI E G) (f_X1_possible_37 L5 xq1 xq3 xq4 σ) 37 [(0, .ref (ad E 13)), (1, .long xq1), (3, .int xq3), (4, .int xq4)] [] σ := by
  have F := B.1
  unfold f_X1_possible_37
  refine k_iinc (pc := 37) F (c := (1 : Int32)) (lw := fun wq => [(4, .int wq), (0, .ref (ad E 13)), (1, .long xq1), (3, .int xq3)]) 4 3 dX1_possible_37 rfl ci_1 (by decide) (fun _ => rfl) (fun vq3 => ?_)
  refine k_goto (pc := 40) F 5 dX1_possible_40 (by decide) ?_
  exact k_sub [1, 2, 3, 0] rfl (hL5 xq3 vq3 σ)
set_option maxHeartbeats 4000000 in
set_option maxRecDepth 100000 in
theorem t_X1_possible_L5b {E : En} {G : Cx} (B : Bx E G cX1_possible 5 RX1 H_X1_possible (some .int)) (xq1 : Int64)   (L5 : Int32 → Int32 → Mm → Option (Int32 × Mm)) (hL5 : ∀ (xq3 : Int32) (xq4 : Int32)  (σ : Mm), KR E G 5 (ZI E G) (L5 xq3 xq4 σ) 5 [(0, .ref (ad E 13)), (1, .long xq1), (3, .int xq3), (4, .int xq4)] [] σ) (xq3 : Int32) (xq4 : Int32)  (σ : Mm) : KR E G 5 (ZI E G) (f_X1_possible_L5 xq1 L5 xq3 xq4 σ) 5 [(0, .ref (ad E 13)), (1, .long xq1), (3, .int xq3), (4, .int xq4)] [] σ := by
  have F := B.1
  unfold f_X1_possible_L5
  refine k_iload (pc := 5) F 4 3 dX1_possible_5 rfl ?_
  refine k_bipush (pc := 7) F (v := (6 : Int32)) dX1_possible_7 cb_6 ?_
  refine k_icmp_ge (pc := 9) F 43 dX1_possible_9 (by decide) (fun _ => ?_) (fun _ => ?_)
  · refine k_iload_n (pc := 43) F 3 2 dX1_possible_43 rfl rfl ?_
    exact k_iret (pc := 44) B dX1_possible_44
  · refine k_aload_n (pc := 12) F 0 0 dX1_possible_12 rfl rfl ?_
    refine k_lload_n (pc := 13) F 1 1 dX1_possible_13 rfl rfl ?_
    refine k_iload (pc := 14) F 4 3 dX1_possible_14 rfl ?_
    refine k_aload_n (pc := 16) F 0 0 dX1_possible_16 rfl rfl ?_
    refine gf_13_1 (pc := 17) F w_1_146 dX1_possible_17 ?_
    refine k_callVL (pc := 20) B (k := 13) (As := [.long xq1, .int xq4, .int (σ.1 13 1)]) (rest := []) (ct_X1_moved E xq1 xq4 (σ.1 13 1)  σ) rfl rfl mv_X1_moved w_3_165 rfl hR_X1_possible_X1_moved rfl (Nat.le_of_ble_eq_true rfl) dX1_possible_20 (fun rq2 σ1 hoq => ?_)
    refine k_ldc2 (pc := 23) F (v := (-1 : Int64)) w_3_84 dX1_possible_23 ?_
    refine k_lcmp (pc := 26) F dX1_possible_26 ?_
    refine k_if_eq (pc := 27) F 37 dX1_possible_27 (by decide) (fun _ => ?_) (fun _ => ?_)
    · exact k_sub [0, 1, 2, 3] rfl (t_X1_possible_37 B xq1 xq3 xq4  L5 hL5  σ1)
    · refine k_iload_n (pc := 30) F 3 2 dX1_possible_30 rfl rfl ?_
      refine k_iconst (pc := 31) F (v := (1 : Int32)) dX1_possible_31 ci_1 ?_
      refine k_iload (pc := 32) F 4 3 dX1_possible_32 rfl ?_
      refine k_ishl (pc := 34) F dX1_possible_34 ?_
      refine k_ior (pc := 35) F dX1_possible_35 ?_
      refine k_nmI (fun vq4 => ?_)
      refine k_istore_n F (lv' := [(3, .int vq4), (0, .ref (ad E 13)), (1, .long xq1), (4, .int xq4)]) 3 dX1_possible_36 rfl (by decide) rfl ?_
      exact k_sub [1, 2, 0, 3] rfl (t_X1_possible_37 B xq1 vq4 xq4  L5 hL5  σ1)
set_option maxHeartbeats 4000000 in
set_option maxRecDepth 100000 in
theorem t_X1_possible_L5 {E : En} {G : Cx} (B : Bx E G cX1_possible 5 RX1 H_X1_possible (some .int)) (xq1 : Int64)   : ∀ (n : Nat) (xq3 : Int32) (xq4 : Int32)  (σ : Mm), KR E G 5 (ZI E G) (fx (fun _ _ _ => none) n (f_X1_possible_L5 xq1) xq3 xq4 σ) 5 [(0, .ref (ad E 13)), (1, .long xq1), (3, .int xq3), (4, .int xq4)] [] σ :=
  fun n => fx_ind (P := fun f => ∀ (xq3 : Int32) (xq4 : Int32)  (σ : Mm), KR E G 5 (ZI E G) (f xq3 xq4 σ) 5 [(0, .ref (ad E 13)), (1, .long xq1), (3, .int xq3), (4, .int xq4)] [] σ) (fun _ _ _ => k_none) (fun L5 hL5 xq3 xq4 σ => t_X1_possible_L5b B xq1   L5 hL5 xq3 xq4 σ) n
set_option maxHeartbeats 4000000 in
set_option maxRecDepth 100000 in
theorem t_X1_possible {E : En} {G : Cx} (B : Bx E G cX1_possible 5 RX1 H_X1_possible (some .int)) (aq0 : Int64)  (σ : Mm) : KR E G 5 (ZI E G) (f_X1_possible aq0 σ) 0 [(0, .ref (ad E 13)), (1, .long aq0)] [] σ := by
  have F := B.1
  unfold f_X1_possible
  refine k_iconst (pc := 0) F (v := (0 : Int32)) dX1_possible_0 ci_0 ?_
  refine k_istore_n F (lv' := [(3, .int (0 : Int32)), (0, .ref (ad E 13)), (1, .long aq0)]) 3 dX1_possible_1 rfl (by decide) rfl ?_
  refine k_iconst (pc := 2) F (v := (0 : Int32)) dX1_possible_2 ci_0 ?_
  refine k_istore F (lv' := [(4, .int (0 : Int32)), (3, .int (0 : Int32)), (0, .ref (ad E 13)), (1, .long aq0)]) 4 dX1_possible_3 (by decide) rfl ?_
  exact k_sub [2, 3, 1, 0] rfl (t_X1_possible_L5 B aq0   FU (0 : Int32) (0 : Int32)  σ)
set_option maxHeartbeats 4000000 in
set_option maxRecDepth 100000 in
theorem ct_X1_possible (E : En) (aq0 : Int64)  (σ : Mm) : CtI E yX1_possible cX1_possible 5 (some .int) H_X1_possible [.ref (ad E 13), .long aq0] σ (f_X1_possible aq0 σ) := ct_I (by decide) (Nat.le_of_ble_eq_true rfl) rfl (fun G B => t_X1_possible B aq0  σ)
abbrev H_X1_touched : Nat := 1
theorem hR_X1_touched_X1_waitingFor : H_X1_waitingFor + 1 ≤ H_X1_touched ∧ 8 + (5 + 11) + 40 * H_X1_waitingFor ≤ 40 * H_X1_touched := by decide
theorem hR_X1_touched_X1_handIn : H_X1_handIn + 1 ≤ H_X1_touched ∧ 8 + (3 + 11) + 40 * H_X1_handIn ≤ 40 * H_X1_touched := by decide
set_option maxHeartbeats 4000000 in
set_option maxRecDepth 100000 in
theorem t_X1_touched {E : En} {G : Cx} (B : Bx E G cX1_touched 6 RX1 H_X1_touched (some .int)) (aq0 : Int64) (aq1 : Int32)  (σ : Mm) : KR E G 6 (ZI E G) (f_X1_touched aq0 aq1 σ) 0 [(0, .ref (ad E 13)), (1, .long aq0), (3, .int aq1)] [] σ := by
  have F := B.1
  unfold f_X1_touched
  refine k_iload_n (pc := 0) F 3 2 dX1_touched_0 rfl rfl ?_
  refine k_iconst (pc := 1) F (v := (3 : Int32)) dX1_touched_1 ci_3 ?_
  refine k_icmp_lt (pc := 2) F 18 dX1_touched_2 (by decide) (fun _ => ?_) (fun _ => ?_)
  · refine k_lload_n (pc := 18) F 1 1 dX1_touched_18 rfl rfl ?_
    refine k_iload_n (pc := 19) F 3 2 dX1_touched_19 rfl rfl ?_
    refine k_callSI (pc := 20) B (As := [.long aq0, .int aq1]) (rest := []) (ct_X1_handIn E aq0 aq1  σ) ms_X1_handIn w_3_80 rfl hR_X1_touched_X1_handIn rfl (Nat.le_of_ble_eq_true rfl) dX1_touched_20 (fun rq2 σ1 hoq => ?_)
    refine k_istore F (lv' := [(4, .int rq2), (0, .ref (ad E 13)), (1, .long aq0), (3, .int aq1)]) 4 dX1_touched_23 (by decide) rfl ?_
    refine k_iload_n (pc := 25) F 3 3 dX1_touched_25 rfl rfl ?_
    refine k_bipush (pc := 26) F (v := (26 : Int32)) dX1_touched_26 cb_26 ?_
    refine k_imul (pc := 28) F dX1_touched_28 ?_
    refine k_iload (pc := 29) F 4 0 dX1_touched_29 rfl ?_
    refine k_bipush (pc := 31) F (v := (31 : Int32)) dX1_touched_31 cb_31 ?_
    refine k_iand (pc := 33) F dX1_touched_33 ?_
    refine k_iadd (pc := 34) F dX1_touched_34 ?_
    refine k_iconst (pc := 35) F (v := (5 : Int32)) dX1_touched_35 ci_5 ?_
    refine k_imul (pc := 36) F dX1_touched_36 ?_
    refine k_nmI (fun vq3 => ?_)
    refine k_istore F (lv' := [(5, .int vq3), (4, .int rq2), (0, .ref (ad E 13)), (1, .long aq0), (3, .int aq1)]) 5 dX1_touched_37 (by decide) rfl ?_
    refine k_aload_n (pc := 39) F 0 2 dX1_touched_39 rfl rfl ?_
    refine gf_13_3 (pc := 40) F w_1_153 dX1_touched_40 ?_
    refine k_iload (pc := 43) F 5 0 dX1_touched_43 rfl ?_
    refine k_iald (pc := 45) F rfl dX1_touched_45 ?_
    refine k_nmI (fun vq4 => ?_)
    refine k_case (fun hwq5 => ?_) (fun hwq5 => ?_)
    · refine k_tin (pc := 46) F 76 dX1_touched_46 (by rw [hwq5]; decide) (by rw [hwq5]; decide) (by rw [hwq5]; rfl) (by decide) ?_
      refine k_iload (pc := 76) F 4 1 dX1_touched_76 rfl ?_
      refine k_aload_n (pc := 78) F 0 2 dX1_touched_78 rfl rfl ?_
      refine gf_13_3 (pc := 79) F w_1_153 dX1_touched_79 ?_
      refine k_iload (pc := 82) F 5 0 dX1_touched_82 rfl ?_
      refine k_iconst (pc := 84) F (v := (1 : Int32)) dX1_touched_84 ci_1 ?_
      refine k_iadd (pc := 85) F dX1_touched_85 ?_
      refine k_iald (pc := 86) F rfl dX1_touched_86 ?_
      refine k_callSI (pc := 87) B (As := [.int rq2, .int (σ1.1 14 (ix (vq3 + (1 : Int32))))]) (rest := []) (ct_X1_waitingFor E rq2 (σ1.1 14 (ix (vq3 + (1 : Int32))))  σ1) ms_X1_waitingFor w_3_93 rfl hR_X1_touched_X1_waitingFor rfl (Nat.le_of_ble_eq_true rfl) dX1_touched_87 (fun rq7 σ6 hoq => ?_)
      refine k_if_lt (pc := 90) F 97 dX1_touched_90 (by decide) (fun _ => ?_) (fun _ => ?_)
      · refine k_aload_n (pc := 97) F 0 2 dX1_touched_97 rfl rfl ?_
        refine gf_13_3 (pc := 98) F w_1_153 dX1_touched_98 ?_
        refine k_iload (pc := 101) F 5 0 dX1_touched_101 rfl ?_
        refine k_iconst (pc := 103) F (v := (1 : Int32)) dX1_touched_103 ci_1 ?_
        refine k_iadd (pc := 104) F dX1_touched_104 ?_
        refine k_iald (pc := 105) F rfl dX1_touched_105 ?_
        exact k_iret (pc := 106) B dX1_touched_106
      · refine k_iconst (pc := 93) F (v := (-1 : Int32)) dX1_touched_93 ci_m1 ?_
        refine k_goto (pc := 94) F 106 dX1_touched_94 (by decide) ?_
        exact k_iret (pc := 106) B dX1_touched_106
    refine k_case (fun hwq8 => ?_) (fun hwq8 => ?_)
    · refine k_tin (pc := 46) F 107 dX1_touched_46 (by rw [hwq8]; decide) (by rw [hwq8]; decide) (by rw [hwq8]; rfl) (by decide) ?_
      refine k_aload_n (pc := 107) F 0 2 dX1_touched_107 rfl rfl ?_
      refine gf_13_1 (pc := 108) F w_1_146 dX1_touched_108 ?_
      refine k_if_eq (pc := 111) F 118 dX1_touched_111 (by decide) (fun _ => ?_) (fun _ => ?_)
      · refine k_aload_n (pc := 118) F 0 2 dX1_touched_118 rfl rfl ?_
        refine gf_13_3 (pc := 119) F w_1_153 dX1_touched_119 ?_
        refine k_iload (pc := 122) F 5 0 dX1_touched_122 rfl ?_
        refine k_iconst (pc := 124) F (v := (1 : Int32)) dX1_touched_124 ci_1 ?_
        refine k_iadd (pc := 125) F dX1_touched_125 ?_
        refine k_iald (pc := 126) F rfl dX1_touched_126 ?_
        exact k_iret (pc := 127) B dX1_touched_127
      · refine k_iconst (pc := 114) F (v := (-1 : Int32)) dX1_touched_114 ci_m1 ?_
        refine k_goto (pc := 115) F 127 dX1_touched_115 (by decide) ?_
        exact k_iret (pc := 127) B dX1_touched_127
    refine k_case (fun hwq9 => ?_) (fun hwq9 => ?_)
    · refine k_tin (pc := 46) F 128 dX1_touched_46 (by rw [hwq9]; decide) (by rw [hwq9]; decide) (by rw [hwq9]; rfl) (by decide) ?_
      refine k_aload_n (pc := 128) F 0 2 dX1_touched_128 rfl rfl ?_
      refine gf_13_3 (pc := 129) F w_1_153 dX1_touched_129 ?_
      refine k_iload (pc := 132) F 5 0 dX1_touched_132 rfl ?_
      refine k_iconst (pc := 134) F (v := (1 : Int32)) dX1_touched_134 ci_1 ?_
      refine k_iadd (pc := 135) F dX1_touched_135 ?_
      refine k_iald (pc := 136) F rfl dX1_touched_136 ?_
      exact k_iret (pc := 137) B dX1_touched_137
    refine k_case (fun hwq10 => ?_) (fun hwq10 => ?_)
    · refine k_tin (pc := 46) F 128 dX1_touched_46 (by rw [hwq10]; decide) (by rw [hwq10]; decide) (by rw [hwq10]; rfl) (by decide) ?_
      refine k_aload_n (pc := 128) F 0 2 dX1_touched_128 rfl rfl ?_
      refine gf_13_3 (pc := 129) F w_1_153 dX1_touched_129 ?_
      refine k_iload (pc := 132) F 5 0 dX1_touched_132 rfl ?_
      refine k_iconst (pc := 134) F (v := (1 : Int32)) dX1_touched_134 ci_1 ?_
      refine k_iadd (pc := 135) F dX1_touched_135 ?_
      refine k_iald (pc := 136) F rfl dX1_touched_136 ?_
      exact k_iret (pc := 137) B dX1_touched_137
    · refine k_tout (pc := 46) F 138 dX1_touched_46 (by have hwq5 := ne_i (z := 1) (by decide) hwq5; have hwq8 := ne_i (z := 2) (by decide) hwq8; have hwq9 := ne_i (z := 3) (by decide) hwq9; have hwq10 := ne_i (z := 4) (by decide) hwq10; omega) (by decide) ?_
      refine k_iconst (pc := 138) F (v := (-1 : Int32)) dX1_touched_138 ci_m1 ?_
      exact k_iret (pc := 139) B dX1_touched_139
  · refine k_lload_n (pc := 5) F 1 1 dX1_touched_5 rfl rfl ?_
    refine k_iload_n (pc := 6) F 3 2 dX1_touched_6 rfl rfl ?_
    refine k_iconst (pc := 7) F (v := (3 : Int32)) dX1_touched_7 ci_3 ?_
    refine k_isub (pc := 8) F dX1_touched_8 ?_
    refine k_callSI (pc := 9) B (As := [.long aq0, .int (aq1 - (3 : Int32))]) (rest := []) (ct_X1_handIn E aq0 (aq1 - (3 : Int32))  σ) ms_X1_handIn w_3_80 rfl hR_X1_touched_X1_handIn rfl (Nat.le_of_ble_eq_true rfl) dX1_touched_9 (fun rq12 σ11 hoq => ?_)
    refine k_bipush (pc := 12) F (v := (13 : Int32)) dX1_touched_12 cb_13 ?_
    refine k_ishr (pc := 14) F dX1_touched_14 ?_
    refine k_iconst (pc := 15) F (v := (3 : Int32)) dX1_touched_15 ci_3 ?_
    refine k_iand (pc := 16) F dX1_touched_16 ?_
    exact k_iret (pc := 17) B dX1_touched_17
set_option maxHeartbeats 4000000 in
set_option maxRecDepth 100000 in
theorem ct_X1_touched (E : En) (aq0 : Int64) (aq1 : Int32)  (σ : Mm) : CtI E yX1_touched cX1_touched 6 (some .int) H_X1_touched [.ref (ad E 13), .long aq0, .int aq1] σ (f_X1_touched aq0 aq1 σ) := ct_I (by decide) (Nat.le_of_ble_eq_true rfl) rfl (fun G B => t_X1_touched B aq0 aq1  σ)
abbrev H_X1_aboutHand : Nat := 1
theorem hR_X1_aboutHand_X1_handIn : H_X1_handIn + 1 ≤ H_X1_aboutHand ∧ 8 + (3 + 11) + 40 * H_X1_handIn ≤ 40 * H_X1_aboutHand := by decide
set_option maxHeartbeats 4000000 in
set_option maxRecDepth 100000 in
theorem t_X1_aboutHand_48 {E : En} {G : Cx} (B : Bx E G cX1_aboutHand 9 RX1 H_X1_aboutHand (some .int)) (xq3 : Int32) (xq4 : Int32) (xq5 : Int32) (xq6 : Int32) (xq7 : Int32) (xqs0 : Int32)   (σ : Mm) : KR E G 9 (ZI E G) (f_X1_aboutHand_48 xq3 xq4 xq5 xq6 xq7 xqs0 σ) 48 [(0, .ref (ad E 13)), (3, .int xq3), (4, .int xq4), (5, .int xq5), (6, .int xq6), (7, .int xq7)] [.int xqs0] σ := by
  have F := B.1
  unfold f_X1_aboutHand_48
  refine k_istore F (lv' := [(8, .int xqs0), (0, .ref (ad E 13)), (3, .int xq3), (4, .int xq4), (5, .int xq5), (6, .int xq6), (7, .int xq7)]) 8 dX1_aboutHand_48 (by decide) rfl ?_
  refine k_iload (pc := 50) F 4 3 dX1_aboutHand_50 rfl ?_
  refine k_case (fun hwq4 => ?_) (fun hwq4 => ?_)
  · refine k_tin (pc := 52) F 84 dX1_aboutHand_52 (by rw [hwq4]; decide) (by rw [hwq4]; decide) (by rw [hwq4]; rfl) (by decide) ?_
    refine k_iload (pc := 84) F 5 4 dX1_aboutHand_84 rfl ?_
    refine k_iconst (pc := 86) F (v := (5 : Int32)) dX1_aboutHand_86 ci_5 ?_
    refine k_ishr (pc := 87) F dX1_aboutHand_87 ?_
    refine k_iconst (pc := 88) F (v := (3 : Int32)) dX1_aboutHand_88 ci_3 ?_
    refine k_iand (pc := 89) F dX1_aboutHand_89 ?_
    exact k_iret (pc := 90) B dX1_aboutHand_90
  refine k_case (fun hwq5 => ?_) (fun hwq5 => ?_)
  · refine k_tin (pc := 52) F 91 dX1_aboutHand_52 (by rw [hwq5]; decide) (by rw [hwq5]; decide) (by rw [hwq5]; rfl) (by decide) ?_
    refine k_iload (pc := 91) F 5 4 dX1_aboutHand_91 rfl ?_
    refine k_bipush (pc := 93) F (v := (7 : Int32)) dX1_aboutHand_93 cb_7 ?_
    refine k_ishr (pc := 95) F dX1_aboutHand_95 ?_
    refine k_iconst (pc := 96) F (v := (3 : Int32)) dX1_aboutHand_96 ci_3 ?_
    refine k_iand (pc := 97) F dX1_aboutHand_97 ?_
    exact k_iret (pc := 98) B dX1_aboutHand_98
  refine k_case (fun hwq6 => ?_) (fun hwq6 => ?_)
  · refine k_tin (pc := 52) F 99 dX1_aboutHand_52 (by rw [hwq6]; decide) (by rw [hwq6]; decide) (by rw [hwq6]; rfl) (by decide) ?_
    refine k_iload (pc := 99) F 5 4 dX1_aboutHand_99 rfl ?_
    refine k_bipush (pc := 101) F (v := (9 : Int32)) dX1_aboutHand_101 cb_9 ?_
    refine k_ishr (pc := 103) F dX1_aboutHand_103 ?_
    refine k_iconst (pc := 104) F (v := (3 : Int32)) dX1_aboutHand_104 ci_3 ?_
    refine k_iand (pc := 105) F dX1_aboutHand_105 ?_
    exact k_iret (pc := 106) B dX1_aboutHand_106
  refine k_case (fun hwq7 => ?_) (fun hwq7 => ?_)
  · refine k_tin (pc := 52) F 107 dX1_aboutHand_52 (by rw [hwq7]; decide) (by rw [hwq7]; decide) (by rw [hwq7]; rfl) (by decide) ?_
    refine k_iload (pc := 107) F 7 6 dX1_aboutHand_107 rfl ?_
    refine k_if_eq (pc := 109) F 116 dX1_aboutHand_109 (by decide) (fun _ => ?_) (fun _ => ?_)
    · refine k_iload (pc := 116) F 8 0 dX1_aboutHand_116 rfl ?_
      refine k_if_eq (pc := 118) F 133 dX1_aboutHand_118 (by decide) (fun _ => ?_) (fun _ => ?_)
      · refine k_iload (pc := 133) F 6 5 dX1_aboutHand_133 rfl ?_
        exact k_iret (pc := 135) B dX1_aboutHand_135
      · refine k_iload (pc := 121) F 6 5 dX1_aboutHand_121 rfl ?_
        refine k_aload_n (pc := 123) F 0 1 dX1_aboutHand_123 rfl rfl ?_
        refine gf_13_5 (pc := 124) F w_1_155 dX1_aboutHand_124 ?_
        refine k_iload_n (pc := 127) F 3 2 dX1_aboutHand_127 rfl rfl ?_
        refine k_iald (pc := 128) F rfl dX1_aboutHand_128 ?_
        refine k_isub (pc := 129) F dX1_aboutHand_129 ?_
        refine k_goto (pc := 130) F 135 dX1_aboutHand_130 (by decide) ?_
        exact k_iret (pc := 135) B dX1_aboutHand_135
    · refine k_iconst (pc := 112) F (v := (0 : Int32)) dX1_aboutHand_112 ci_0 ?_
      refine k_goto (pc := 113) F 135 dX1_aboutHand_113 (by decide) ?_
      exact k_iret (pc := 135) B dX1_aboutHand_135
  · refine k_tout (pc := 52) F 136 dX1_aboutHand_52 (by have hwq4 := ne_i (z := 0) (by decide) hwq4; have hwq5 := ne_i (z := 1) (by decide) hwq5; have hwq6 := ne_i (z := 2) (by decide) hwq6; have hwq7 := ne_i (z := 3) (by decide) hwq7; omega) (by decide) ?_
    refine k_iload (pc := 136) F 7 6 dX1_aboutHand_136 rfl ?_
    refine k_if_ne (pc := 138) F 154 dX1_aboutHand_138 (by decide) (fun _ => ?_) (fun _ => ?_)
    · refine k_iload (pc := 141) F 8 0 dX1_aboutHand_141 rfl ?_
      refine k_if_eq (pc := 143) F 150 dX1_aboutHand_143 (by decide) (fun _ => ?_) (fun _ => ?_)
      · refine k_iconst (pc := 150) F (v := (0 : Int32)) dX1_aboutHand_150 ci_0 ?_
        refine k_goto (pc := 151) F 174 dX1_aboutHand_151 (by decide) ?_
        exact k_iret (pc := 174) B dX1_aboutHand_174
      · refine k_iconst (pc := 146) F (v := (1 : Int32)) dX1_aboutHand_146 ci_1 ?_
        refine k_goto (pc := 147) F 174 dX1_aboutHand_147 (by decide) ?_
        exact k_iret (pc := 174) B dX1_aboutHand_174
    · refine k_aload_n (pc := 154) F 0 1 dX1_aboutHand_154 rfl rfl ?_
      refine gf_13_6 (pc := 155) F w_1_156 dX1_aboutHand_155 ?_
      refine k_iload_n (pc := 158) F 3 2 dX1_aboutHand_158 rfl rfl ?_
      refine k_iald (pc := 159) F rfl dX1_aboutHand_159 ?_
      refine k_aload_n (pc := 160) F 0 1 dX1_aboutHand_160 rfl rfl ?_
      refine gf_13_5 (pc := 161) F w_1_155 dX1_aboutHand_161 ?_
      refine k_iload_n (pc := 164) F 3 2 dX1_aboutHand_164 rfl rfl ?_
      refine k_iald (pc := 165) F rfl dX1_aboutHand_165 ?_
      refine k_icmp_le (pc := 166) F 173 dX1_aboutHand_166 (by decide) (fun _ => ?_) (fun _ => ?_)
      · refine k_iconst (pc := 173) F (v := (1 : Int32)) dX1_aboutHand_173 ci_1 ?_
        exact k_iret (pc := 174) B dX1_aboutHand_174
      · refine k_iconst (pc := 169) F (v := (2 : Int32)) dX1_aboutHand_169 ci_2 ?_
        refine k_goto (pc := 170) F 174 dX1_aboutHand_170 (by decide) ?_
        exact k_iret (pc := 174) B dX1_aboutHand_174
set_option maxHeartbeats 4000000 in
set_option maxRecDepth 100000 in
theorem t_X1_aboutHand_30 {E : En} {G : Cx} (B : Bx E G cX1_aboutHand 9 RX1 H_X1_aboutHand (some .int)) (xq3 : Int32) (xq4 : Int32) (xq5 : Int32) (xq6 : Int32) (xqs0 : Int32)   (σ : Mm) : KR E G 9 (ZI E G) (f_X1_aboutHand_30 xq3 xq4 xq5 xq6 xqs0 σ) 30 [(0, .ref (ad E 13)), (3, .int xq3), (4, .int xq4), (5, .int xq5), (6, .int xq6)] [.int xqs0] σ := by
  have F := B.1
  unfold f_X1_aboutHand_30
  refine k_istore F (lv' := [(7, .int xqs0), (0, .ref (ad E 13)), (3, .int xq3), (4, .int xq4), (5, .int xq5), (6, .int xq6)]) 7 dX1_aboutHand_30 (by decide) rfl ?_
  refine k_iload (pc := 32) F 6 5 dX1_aboutHand_32 rfl ?_
  refine k_aload_n (pc := 34) F 0 1 dX1_aboutHand_34 rfl rfl ?_
  refine gf_13_5 (pc := 35) F w_1_155 dX1_aboutHand_35 ?_
  refine k_iload_n (pc := 38) F 3 2 dX1_aboutHand_38 rfl rfl ?_
  refine k_iald (pc := 39) F rfl dX1_aboutHand_39 ?_
  refine k_icmp_lt (pc := 40) F 47 dX1_aboutHand_40 (by decide) (fun _ => ?_) (fun _ => ?_)
  · refine k_iconst (pc := 47) F (v := (0 : Int32)) dX1_aboutHand_47 ci_0 ?_
    exact k_sub [1, 2, 3, 4, 5, 0] rfl (t_X1_aboutHand_48 B xq3 xq4 xq5 xq6 xqs0 (0 : Int32)   σ)
  · refine k_iconst (pc := 43) F (v := (1 : Int32)) dX1_aboutHand_43 ci_1 ?_
    refine k_goto (pc := 44) F 48 dX1_aboutHand_44 (by decide) ?_
    exact k_sub [1, 2, 3, 4, 5, 0] rfl (t_X1_aboutHand_48 B xq3 xq4 xq5 xq6 xqs0 (1 : Int32)   σ)
set_option maxHeartbeats 4000000 in
set_option maxRecDepth 100000 in
theorem t_X1_aboutHand {E : En} {G : Cx} (B : Bx E G cX1_aboutHand 9 RX1 H_X1_aboutHand (some .int)) (aq0 : Int64) (aq1 : Int32) (aq2 : Int32)  (σ : Mm) : KR E G 9 (ZI E G) (f_X1_aboutHand aq0 aq1 aq2 σ) 0 [(0, .ref (ad E 13)), (1, .long aq0), (3, .int aq1), (4, .int aq2)] [] σ := by
  have F := B.1
  unfold f_X1_aboutHand
  refine k_lload_n (pc := 0) F 1 1 dX1_aboutHand_0 rfl rfl ?_
  refine k_iload_n (pc := 1) F 3 2 dX1_aboutHand_1 rfl rfl ?_
  refine k_callSI (pc := 2) B (As := [.long aq0, .int aq1]) (rest := []) (ct_X1_handIn E aq0 aq1  σ) ms_X1_handIn w_3_80 rfl hR_X1_aboutHand_X1_handIn rfl (Nat.le_of_ble_eq_true rfl) dX1_aboutHand_2 (fun rq2 σ1 hoq => ?_)
  refine k_istore F (lv' := [(5, .int rq2), (0, .ref (ad E 13)), (1, .long aq0), (3, .int aq1), (4, .int aq2)]) 5 dX1_aboutHand_5 (by decide) rfl ?_
  refine k_iload (pc := 7) F 5 0 dX1_aboutHand_7 rfl ?_
  refine k_bipush (pc := 9) F (v := (31 : Int32)) dX1_aboutHand_9 cb_31 ?_
  refine k_iand (pc := 11) F dX1_aboutHand_11 ?_
  refine k_nmI (fun vq3 => ?_)
  refine k_istore F (lv' := [(6, .int vq3), (5, .int rq2), (0, .ref (ad E 13)), (1, .long aq0), (3, .int aq1), (4, .int aq2)]) 6 dX1_aboutHand_12 (by decide) rfl ?_
  refine k_iload (pc := 14) F 6 0 dX1_aboutHand_14 rfl ?_
  refine k_aload_n (pc := 16) F 0 2 dX1_aboutHand_16 rfl rfl ?_
  refine gf_13_6 (pc := 17) F w_1_156 dX1_aboutHand_17 ?_
  refine k_iload_n (pc := 20) F 3 4 dX1_aboutHand_20 rfl rfl ?_
  refine k_iald (pc := 21) F rfl dX1_aboutHand_21 ?_
  refine k_icmp_lt (pc := 22) F 29 dX1_aboutHand_22 (by decide) (fun _ => ?_) (fun _ => ?_)
  · refine k_iconst (pc := 29) F (v := (0 : Int32)) dX1_aboutHand_29 ci_0 ?_
    exact k_sub [2, 4, 5, 1, 0] rfl (t_X1_aboutHand_30 B aq1 aq2 rq2 vq3 (0 : Int32)   σ1)
  · refine k_iconst (pc := 25) F (v := (1 : Int32)) dX1_aboutHand_25 ci_1 ?_
    refine k_goto (pc := 26) F 30 dX1_aboutHand_26 (by decide) ?_
    exact k_sub [2, 4, 5, 1, 0] rfl (t_X1_aboutHand_30 B aq1 aq2 rq2 vq3 (1 : Int32)   σ1)
set_option maxHeartbeats 4000000 in
set_option maxRecDepth 100000 in
theorem ct_X1_aboutHand (E : En) (aq0 : Int64) (aq1 : Int32) (aq2 : Int32)  (σ : Mm) : CtI E yX1_aboutHand cX1_aboutHand 9 (some .int) H_X1_aboutHand [.ref (ad E 13), .long aq0, .int aq1, .int aq2] σ (f_X1_aboutHand aq0 aq1 aq2 σ) := ct_I (by decide) (Nat.le_of_ble_eq_true rfl) rfl (fun G B => t_X1_aboutHand B aq0 aq1 aq2  σ)
abbrev H_J7_fill_53178 : Nat := 0
set_option maxHeartbeats 4000000 in
set_option maxRecDepth 100000 in
theorem t_J7_fill_53178_L5b {E : En} {G : Cx} (B : Bx E G cJ7_fill_53178 4 RJ7 H_J7_fill_53178 none) (xq1 : Int32) (xq3 : Int32)   (L5 : Int32 → Mm → Option (Unit × Mm)) (hL5 : ∀ (xq2 : Int32)  (σ : Mm), KR E G 4 (ZV E G) (L5 xq2 σ) 5 [(0, .ref (ad E 38)), (1, .int xq1), (2, .int xq2), (3, .int xq3)] [] σ) (xq2 : Int32)  (σ : Mm) : KR E G 4 (ZV E G) (f_J7_fill_53178_L5 xq1 xq3 L5 xq2 σ) 5 [(0, .ref (ad E 38)), (1, .int xq1), (2, .int xq2), (3, .int xq3)] [] σ := by
  have F := B.1
  unfold f_J7_fill_53178_L5
  refine k_iload_n (pc := 5) F 2 2 dJ7_fill_53178_5 rfl rfl ?_
  refine k_iload_n (pc := 6) F 3 3 dJ7_fill_53178_6 rfl rfl ?_
  refine k_icmp_ge (pc := 7) F 20 dJ7_fill_53178_7 (by decide) (fun _ => ?_) (fun _ => ?_)
  · exact k_vret (pc := 20) B dJ7_fill_53178_20
  · refine k_aload_n (pc := 10) F 0 0 dJ7_fill_53178_10 rfl rfl ?_
    refine k_iload_n (pc := 11) F 2 2 dJ7_fill_53178_11 rfl rfl ?_
    refine k_iload_n (pc := 12) F 1 1 dJ7_fill_53178_12 rfl rfl ?_
    refine k_iast (pc := 13) F rfl dJ7_fill_53178_13 (fun σ1 => ?_)
    refine k_iinc (pc := 14) F (c := (1 : Int32)) (lw := fun wq => [(2, .int wq), (0, .ref (ad E 38)), (1, .int xq1), (3, .int xq3)]) 2 2 dJ7_fill_53178_14 rfl ci_1 (by decide) (fun _ => rfl) (fun vq2 => ?_)
    refine k_goto (pc := 17) F 5 dJ7_fill_53178_17 (by decide) ?_
    exact k_sub [1, 2, 0, 3] rfl (hL5 vq2 σ1)
set_option maxHeartbeats 4000000 in
set_option maxRecDepth 100000 in
theorem t_J7_fill_53178_L5 {E : En} {G : Cx} (B : Bx E G cJ7_fill_53178 4 RJ7 H_J7_fill_53178 none) (xq1 : Int32) (xq3 : Int32)   : ∀ (n : Nat) (xq2 : Int32)  (σ : Mm), KR E G 4 (ZV E G) (fx (fun _ _ => none) n (f_J7_fill_53178_L5 xq1 xq3) xq2 σ) 5 [(0, .ref (ad E 38)), (1, .int xq1), (2, .int xq2), (3, .int xq3)] [] σ :=
  fun n => fx_ind (P := fun f => ∀ (xq2 : Int32)  (σ : Mm), KR E G 4 (ZV E G) (f xq2 σ) 5 [(0, .ref (ad E 38)), (1, .int xq1), (2, .int xq2), (3, .int xq3)] [] σ) (fun _ _ => k_none) (fun L5 hL5 xq2 σ => t_J7_fill_53178_L5b B xq1 xq3   L5 hL5 xq2 σ) n
set_option maxHeartbeats 4000000 in
set_option maxRecDepth 100000 in
theorem t_J7_fill_53178 {E : En} {G : Cx} (B : Bx E G cJ7_fill_53178 4 RJ7 H_J7_fill_53178 none) (aq1 : Int32)  (σ : Mm) : KR E G 4 (ZV E G) (f_J7_fill_53178 aq1 σ) 0 [(0, .ref (ad E 38)), (1, .int aq1)] [] σ := by
  have F := B.1
  unfold f_J7_fill_53178
  refine k_iconst (pc := 0) F (v := (0 : Int32)) dJ7_fill_53178_0 ci_0 ?_
  refine k_istore_n F (lv' := [(2, .int (0 : Int32)), (0, .ref (ad E 38)), (1, .int aq1)]) 2 dJ7_fill_53178_1 rfl (by decide) rfl ?_
  refine k_aload_n (pc := 2) F 0 1 dJ7_fill_53178_2 rfl rfl ?_
  refine k_alen0 (pc := 3) F (v := (3 : Int32)) rfl cn_3 dJ7_fill_53178_3 ?_
  refine k_istore_n F (lv' := [(3, .int (3 : Int32)), (2, .int (0 : Int32)), (0, .ref (ad E 38)), (1, .int aq1)]) 3 dJ7_fill_53178_4 rfl (by decide) rfl ?_
  exact k_sub [2, 3, 1, 0] rfl (t_J7_fill_53178_L5 B aq1 (3 : Int32)   FU (0 : Int32)  σ)
set_option maxHeartbeats 4000000 in
set_option maxRecDepth 100000 in
theorem ct_J7_fill_53178 (E : En) (aq1 : Int32)  (σ : Mm) : CtV E yJ7_fill_53178 cJ7_fill_53178 4 none H_J7_fill_53178 [.ref (ad E 38), .int aq1] σ (f_J7_fill_53178 aq1 σ) := ct_V (by decide +kernel) (Nat.le_of_ble_eq_true rfl) rfl (fun G B => t_J7_fill_53178 B aq1  σ)
abbrev H_X2_moveFor : Nat := 0
set_option maxHeartbeats 4000000 in
set_option maxRecDepth 100000 in
theorem t_X2_moveFor_43 {E : En} {G : Cx} (B : Bx E G cX2_moveFor 2 RX2 H_X2_moveFor (some .int))    (σ : Mm) : KR E G 2 (ZI E G) (f_X2_moveFor_43  σ) 43 [] [] σ := by
  have F := B.1
  unfold f_X2_moveFor_43
  refine k_iconst (pc := 43) F (v := (-1 : Int32)) dX2_moveFor_43 ci_m1 ?_
  exact k_iret (pc := 44) B dX2_moveFor_44
set_option maxHeartbeats 4000000 in
set_option maxRecDepth 100000 in
theorem t_X2_moveFor_17 {E : En} {G : Cx} (B : Bx E G cX2_moveFor 2 RX2 H_X2_moveFor (some .int)) (xq0 : Int64)   (σ : Mm) : KR E G 2 (ZI E G) (f_X2_moveFor_17 xq0 σ) 17 [(0, .long xq0)] [] σ := by
  have F := B.1
  unfold f_X2_moveFor_17
  refine k_lload_n (pc := 17) F 0 0 dX2_moveFor_17 rfl rfl ?_
  refine k_ldc2 (pc := 18) F (v := (10 : Int64)) w_4_62 dX2_moveFor_18 ?_
  refine k_lcmp (pc := 21) F dX2_moveFor_21 ?_
  refine k_if_lt (pc := 22) F 43 dX2_moveFor_22 (by decide) (fun _ => ?_) (fun _ => ?_)
  · exact k_sub [] rfl (t_X2_moveFor_43 B    σ)
  · refine k_lload_n (pc := 25) F 0 0 dX2_moveFor_25 rfl rfl ?_
    refine k_ldc2 (pc := 26) F (v := (13 : Int64)) w_4_63 dX2_moveFor_26 ?_
    refine k_lcmp (pc := 29) F dX2_moveFor_29 ?_
    refine k_if_ge (pc := 30) F 43 dX2_moveFor_30 (by decide) (fun _ => ?_) (fun _ => ?_)
    · exact k_sub [] rfl (t_X2_moveFor_43 B    σ)
    · refine k_lload_n (pc := 33) F 0 0 dX2_moveFor_33 rfl rfl ?_
      refine k_l2i (pc := 34) F dX2_moveFor_34 ?_
      refine k_bipush (pc := 35) F (v := (10 : Int32)) dX2_moveFor_35 cb_10 ?_
      refine k_isub (pc := 37) F dX2_moveFor_37 ?_
      refine k_iconst (pc := 38) F (v := (3 : Int32)) dX2_moveFor_38 ci_3 ?_
      refine k_iadd (pc := 39) F dX2_moveFor_39 ?_
      refine k_goto (pc := 40) F 44 dX2_moveFor_40 (by decide) ?_
      exact k_iret (pc := 44) B dX2_moveFor_44
set_option maxHeartbeats 4000000 in
set_option maxRecDepth 100000 in
theorem t_X2_moveFor {E : En} {G : Cx} (B : Bx E G cX2_moveFor 2 RX2 H_X2_moveFor (some .int)) (aq0 : Int64)  (σ : Mm) : KR E G 2 (ZI E G) (f_X2_moveFor aq0 σ) 0 [(0, .long aq0)] [] σ := by
  have F := B.1
  unfold f_X2_moveFor
  refine k_lload_n (pc := 0) F 0 0 dX2_moveFor_0 rfl rfl ?_
  refine k_lconst (pc := 1) F (v := (0 : Int64)) dX2_moveFor_1 cl_0 ?_
  refine k_lcmp (pc := 2) F dX2_moveFor_2 ?_
  refine k_if_lt (pc := 3) F 17 dX2_moveFor_3 (by decide) (fun _ => ?_) (fun _ => ?_)
  · exact k_sub [0] rfl (t_X2_moveFor_17 B aq0   σ)
  · refine k_lload_n (pc := 6) F 0 0 dX2_moveFor_6 rfl rfl ?_
    refine k_ldc2 (pc := 7) F (v := (3 : Int64)) w_4_61 dX2_moveFor_7 ?_
    refine k_lcmp (pc := 10) F dX2_moveFor_10 ?_
    refine k_if_ge (pc := 11) F 17 dX2_moveFor_11 (by decide) (fun _ => ?_) (fun _ => ?_)
    · exact k_sub [0] rfl (t_X2_moveFor_17 B aq0   σ)
    · refine k_lload_n (pc := 14) F 0 0 dX2_moveFor_14 rfl rfl ?_
      refine k_l2i (pc := 15) F dX2_moveFor_15 ?_
      exact k_iret (pc := 16) B dX2_moveFor_16
set_option maxHeartbeats 4000000 in
set_option maxRecDepth 100000 in
theorem ct_X2_moveFor (E : En) (aq0 : Int64)  (σ : Mm) : CtI E yX2_moveFor cX2_moveFor 2 (some .int) H_X2_moveFor [.long aq0] σ (f_X2_moveFor aq0 σ) := ct_I (by decide) (Nat.le_of_ble_eq_true rfl) rfl (fun G B => t_X2_moveFor B aq0  σ)
abbrev H_X2_priceOf : Nat := 0
set_option maxHeartbeats 4000000 in
set_option maxRecDepth 100000 in
theorem t_X2_priceOf_39 {E : En} {G : Cx} (B : Bx E G cX2_priceOf 5 RX2 H_X2_priceOf (some .int)) (xq2 : Int32) (xq3 : Int32) (xqs0 : Int32)   (σ : Mm) : KR E G 5 (ZI E G) (f_X2_priceOf_39 xq2 xq3 xqs0 σ) 39 [(0, .ref (ad E 37)), (2, .int xq2), (3, .int xq3)] [.int xqs0] σ := by
  have F := B.1
  unfold f_X2_priceOf_39
  refine k_istore F (lv' := [(4, .int xqs0), (0, .ref (ad E 37)), (2, .int xq2), (3, .int xq3)]) 4 dX2_priceOf_39 (by decide) rfl ?_
  refine k_aload_n (pc := 41) F 0 1 dX2_priceOf_41 rfl rfl ?_
  refine gf_37_0 (pc := 42) F w_2_28 dX2_priceOf_42 ?_
  refine k_iload_n (pc := 45) F 2 2 dX2_priceOf_45 rfl rfl ?_
  refine k_iload_n (pc := 46) F 3 3 dX2_priceOf_46 rfl rfl ?_
  refine k_iast (pc := 47) F rfl dX2_priceOf_47 (fun σ2 => ?_)
  refine k_iload (pc := 48) F 4 0 dX2_priceOf_48 rfl ?_
  refine k_if_eq (pc := 50) F 57 dX2_priceOf_50 (by decide) (fun _ => ?_) (fun _ => ?_)
  · refine k_iconst (pc := 57) F (v := (1 : Int32)) dX2_priceOf_57 ci_1 ?_
    exact k_iret (pc := 58) B dX2_priceOf_58
  · refine k_iconst (pc := 53) F (v := (5 : Int32)) dX2_priceOf_53 ci_5 ?_
    refine k_goto (pc := 54) F 58 dX2_priceOf_54 (by decide) ?_
    exact k_iret (pc := 58) B dX2_priceOf_58
set_option maxHeartbeats 4000000 in
set_option maxRecDepth 100000 in
theorem t_X2_priceOf_38 {E : En} {G : Cx} (B : Bx E G cX2_priceOf 5 RX2 H_X2_priceOf (some .int)) (xq2 : Int32) (xq3 : Int32)   (σ : Mm) : KR E G 5 (ZI E G) (f_X2_priceOf_38 xq2 xq3 σ) 38 [(0, .ref (ad E 37)), (2, .int xq2), (3, .int xq3)] [] σ := by
  have F := B.1
  unfold f_X2_priceOf_38
  refine k_iconst (pc := 38) F (v := (0 : Int32)) dX2_priceOf_38 ci_0 ?_
  exact k_sub [0, 1, 2] rfl (t_X2_priceOf_39 B xq2 xq3 (0 : Int32)   σ)
set_option maxHeartbeats 4000000 in
set_option maxRecDepth 100000 in
theorem t_X2_priceOf {E : En} {G : Cx} (B : Bx E G cX2_priceOf 5 RX2 H_X2_priceOf (some .int)) (aq0 : Int32) (aq1 : Int32)  (σ : Mm) : KR E G 5 (ZI E G) (f_X2_priceOf aq0 aq1 σ) 0 [(0, .ref (ad E 37)), (1, .int aq0), (2, .int aq1)] [] σ := by
  have F := B.1
  unfold f_X2_priceOf
  refine k_iload_n (pc := 0) F 2 2 dX2_priceOf_0 rfl rfl ?_
  refine k_if_lt (pc := 1) F 9 dX2_priceOf_1 (by decide) (fun _ => ?_) (fun _ => ?_)
  · refine k_iconst (pc := 9) F (v := (1 : Int32)) dX2_priceOf_9 ci_1 ?_
    exact k_iret (pc := 10) B dX2_priceOf_10
  · refine k_iload_n (pc := 4) F 2 2 dX2_priceOf_4 rfl rfl ?_
    refine k_iconst (pc := 5) F (v := (3 : Int32)) dX2_priceOf_5 ci_3 ?_
    refine k_icmp_lt (pc := 6) F 11 dX2_priceOf_6 (by decide) (fun _ => ?_) (fun _ => ?_)
    · refine k_iload_n (pc := 11) F 1 1 dX2_priceOf_11 rfl rfl ?_
      refine k_iconst (pc := 12) F (v := (3 : Int32)) dX2_priceOf_12 ci_3 ?_
      refine k_irem (pc := 13) F dX2_priceOf_13 (by decide) ?_
      refine k_nmI (fun vq1 => ?_)
      refine k_istore_n F (lv' := [(3, .int vq1), (0, .ref (ad E 37)), (1, .int aq0), (2, .int aq1)]) 3 dX2_priceOf_14 rfl (by decide) rfl ?_
      refine k_aload_n (pc := 15) F 0 1 dX2_priceOf_15 rfl rfl ?_
      refine gf_37_0 (pc := 16) F w_2_28 dX2_priceOf_16 ?_
      refine k_iload_n (pc := 19) F 2 3 dX2_priceOf_19 rfl rfl ?_
      refine k_iald (pc := 20) F rfl dX2_priceOf_20 ?_
      refine k_if_lt (pc := 21) F 38 dX2_priceOf_21 (by decide) (fun _ => ?_) (fun _ => ?_)
      · exact k_sub [1, 3, 0] rfl (t_X2_priceOf_38 B aq1 vq1   σ)
      · refine k_aload_n (pc := 24) F 0 1 dX2_priceOf_24 rfl rfl ?_
        refine gf_37_0 (pc := 25) F w_2_28 dX2_priceOf_25 ?_
        refine k_iload_n (pc := 28) F 2 3 dX2_priceOf_28 rfl rfl ?_
        refine k_iald (pc := 29) F rfl dX2_priceOf_29 ?_
        refine k_iload_n (pc := 30) F 3 0 dX2_priceOf_30 rfl rfl ?_
        refine k_icmp_eq (pc := 31) F 38 dX2_priceOf_31 (by decide) (fun _ => ?_) (fun _ => ?_)
        · exact k_sub [1, 3, 0] rfl (t_X2_priceOf_38 B aq1 vq1   σ)
        · refine k_iconst (pc := 34) F (v := (1 : Int32)) dX2_priceOf_34 ci_1 ?_
          refine k_goto (pc := 35) F 39 dX2_priceOf_35 (by decide) ?_
          exact k_sub [1, 3, 0] rfl (t_X2_priceOf_39 B aq1 vq1 (1 : Int32)   σ)
    · refine k_iconst (pc := 9) F (v := (1 : Int32)) dX2_priceOf_9 ci_1 ?_
      exact k_iret (pc := 10) B dX2_priceOf_10
set_option maxHeartbeats 4000000 in
set_option maxRecDepth 100000 in
theorem ct_X2_priceOf (E : En) (aq0 : Int32) (aq1 : Int32)  (σ : Mm) : CtI E yX2_priceOf cX2_priceOf 5 (some .int) H_X2_priceOf [.ref (ad E 37), .int aq0, .int aq1] σ (f_X2_priceOf aq0 aq1 σ) := ct_I (by decide) (Nat.le_of_ble_eq_true rfl) rfl (fun G B => t_X2_priceOf B aq0 aq1  σ)
abbrev H_X2_through : Nat := 3
theorem hR_X2_through_X2_priceOf : H_X2_priceOf + 1 ≤ H_X2_through ∧ 8 + (5 + 11) + 40 * H_X2_priceOf ≤ 40 * H_X2_through := by decide
theorem hR_X2_through_X2_moveFor : H_X2_moveFor + 1 ≤ H_X2_through ∧ 8 + (2 + 11) + 40 * H_X2_moveFor ≤ 40 * H_X2_through := by decide
theorem hR_X2_through_X1_moved : H_X1_moved + 1 ≤ H_X2_through ∧ 8 + (13 + 11) + 40 * H_X1_moved ≤ 40 * H_X2_through := by decide
theorem hR_X2_through_X1_touched : H_X1_touched + 1 ≤ H_X2_through ∧ 8 + (6 + 11) + 40 * H_X1_touched ≤ 40 * H_X2_through := by decide
theorem hR_X2_through_J7_fill_53178 : H_J7_fill_53178 + 1 ≤ H_X2_through ∧ 8 + (4 + 11) + 40 * H_J7_fill_53178 ≤ 40 * H_X2_through := by decide
set_option maxHeartbeats 4000000 in
set_option maxRecDepth 100000 in
theorem t_X2_through_72 {E : En} {G : Cx} (B : Bx E G cX2_through 7 RX2 H_X2_through none) (kq1 : Nat) (xq3 : Int32) (xq4 : Int32) (xqs0 : Int64) (hkq1 : isSh kq1) (L28 : Int32 → Mm → Option (Unit × Mm)) (hL28 : ∀ (xq3 : Int32)  (σ : Mm), KR E G 7 (ZV E G) (L28 xq3 σ) 28 [(0, .ref (ad E 37)), (1, .ref (ad E kq1)), (2, .ref (ad E 13)), (3, .int xq3)] [] σ)  (σ : Mm) : KR E G 7 (ZV E G) (f_X2_through_72 L28 kq1 xq3 xq4 xqs0 σ) 72 [(0, .ref (ad E 37)), (1, .ref (ad E kq1)), (2, .ref (ad E 13)), (3, .int xq3), (4, .int xq4)] [.long xqs0] σ := by
  have F := B.1
  unfold f_X2_through_72
  refine k_lstore F (lv' := [(5, .long xqs0), (0, .ref (ad E 37)), (1, .ref (ad E kq1)), (2, .ref (ad E 13)), (3, .int xq3), (4, .int xq4)]) 5 dX2_through_72 (by decide) rfl ?_
  refine k_lload (pc := 74) F 5 0 dX2_through_74 rfl ?_
  refine k_ldc2 (pc := 76) F (v := (-1 : Int64)) w_4_64 dX2_through_76 ?_
  refine k_lcmp (pc := 79) F dX2_through_79 ?_
  refine k_if_ne (pc := 80) F 86 dX2_through_80 (by decide) (fun _ => ?_) (fun _ => ?_)
  · refine k_goto (pc := 83) F 133 dX2_through_83 (by decide) ?_
    exact k_vret (pc := 133) B dX2_through_133
  · refine k_aload_n (pc := 86) F 0 1 dX2_through_86 rfl rfl ?_
    refine k_dup (pc := 87) F dX2_through_87 rfl ?_
    refine gf_37_3 (pc := 88) F w_2_33 dX2_through_88 ?_
    refine k_aload_n (pc := 91) F 0 1 dX2_through_91 rfl rfl ?_
    refine k_iload (pc := 92) F 4 5 dX2_through_92 rfl ?_
    refine k_aload_n (pc := 94) F 2 3 dX2_through_94 rfl rfl ?_
    refine k_aload_n (pc := 95) F 0 1 dX2_through_95 rfl rfl ?_
    refine gf_37_1 (pc := 96) F w_2_29 dX2_through_96 ?_
    refine k_iload (pc := 99) F 4 5 dX2_through_99 rfl ?_
    refine k_callVI (pc := 101) B (k := 13) (As := [.long (σ.2 37 1), .int xq4]) (rest := [.int xq4, .ref (ad E 37), .int (σ.1 37 3), .ref (ad E 37)]) (ct_X1_touched E (σ.2 37 1) xq4  σ) rfl rfl mv_X1_touched w_4_66 rfl hR_X2_through_X1_touched rfl (Nat.le_of_ble_eq_true rfl) dX2_through_101 (fun rq11 σ10 hoq => ?_)
    refine k_callVI (pc := 104) B (k := 37) (As := [.int xq4, .int rq11]) (rest := [.int (σ.1 37 3), .ref (ad E 37)]) (ct_X2_priceOf E xq4 rq11  σ10) rfl rfl mv_X2_priceOf w_4_70 rfl hR_X2_through_X2_priceOf rfl (Nat.le_of_ble_eq_true rfl) dX2_through_104 (fun rq13 σ12 hoq => ?_)
    refine k_iadd (pc := 107) F dX2_through_107 ?_
    refine pf_37_3 (pc := 108) F w_2_33 dX2_through_108 (fun σ14 => ?_)
    refine k_aload_n (pc := 111) F 0 1 dX2_through_111 rfl rfl ?_
    refine k_lload (pc := 112) F 5 0 dX2_through_112 rfl ?_
    refine pf_37_1 (pc := 114) F w_2_29 dX2_through_114 (fun σ15 => ?_)
    refine k_aload_n (pc := 117) F 0 1 dX2_through_117 rfl rfl ?_
    refine k_dup (pc := 118) F dX2_through_118 rfl ?_
    refine gf_37_2 (pc := 119) F w_2_31 dX2_through_119 ?_
    refine k_iconst (pc := 122) F (v := (1 : Int32)) dX2_through_122 ci_1 ?_
    refine k_iadd (pc := 123) F dX2_through_123 ?_
    refine pf_37_2 (pc := 124) F w_2_31 dX2_through_124 (fun σ16 => ?_)
    refine k_iinc (pc := 127) F (c := (1 : Int32)) (lw := fun wq => [(3, .int wq), (5, .long xqs0), (0, .ref (ad E 37)), (1, .ref (ad E kq1)), (2, .ref (ad E 13)), (4, .int xq4)]) 3 4 dX2_through_127 rfl ci_1 (by decide) (fun _ => rfl) (fun vq17 => ?_)
    refine k_goto (pc := 130) F 28 dX2_through_130 (by decide) ?_
    exact k_sub [2, 3, 4, 0] rfl (hL28 vq17 σ16)
set_option maxHeartbeats 4000000 in
set_option maxRecDepth 100000 in
theorem t_X2_through_L28b {E : En} {G : Cx} (B : Bx E G cX2_through 7 RX2 H_X2_through none) (kq1 : Nat) (hkq1 : isSh kq1)  (L28 : Int32 → Mm → Option (Unit × Mm)) (hL28 : ∀ (xq3 : Int32)  (σ : Mm), KR E G 7 (ZV E G) (L28 xq3 σ) 28 [(0, .ref (ad E 37)), (1, .ref (ad E kq1)), (2, .ref (ad E 13)), (3, .int xq3)] [] σ) (xq3 : Int32)  (σ : Mm) : KR E G 7 (ZV E G) (f_X2_through_L28 kq1 L28 xq3 σ) 28 [(0, .ref (ad E 37)), (1, .ref (ad E kq1)), (2, .ref (ad E 13)), (3, .int xq3)] [] σ := by
  have F := B.1
  unfold f_X2_through_L28
  refine k_iload_n (pc := 28) F 3 3 dX2_through_28 rfl rfl ?_
  refine k_aload_n (pc := 29) F 1 1 dX2_through_29 rfl rfl ?_
  refine gf_isSh_1 (pc := 30) F hkq1 w_2_54 dX2_through_30 ?_
  refine k_icmp_ge (pc := 33) F 133 dX2_through_33 (by decide) (fun _ => ?_) (fun _ => ?_)
  · exact k_vret (pc := 133) B dX2_through_133
  · refine k_aload_n (pc := 36) F 1 1 dX2_through_36 rfl rfl ?_
    refine gf_isSh_2 (pc := 37) F hkq1 w_2_57 dX2_through_37 ?_
    refine k_iload_n (pc := 40) F 3 3 dX2_through_40 rfl rfl ?_
    refine k_lald (pc := 41) F (isSh_a1 hkq1) dX2_through_41 ?_
    refine k_callSI (pc := 42) B (As := [.long (σ.2 (kq1 + 1) (ix xq3))]) (rest := []) (ct_X2_moveFor E (σ.2 (kq1 + 1) (ix xq3))  σ) ms_X2_moveFor w_4_58 rfl hR_X2_through_X2_moveFor rfl (Nat.le_of_ble_eq_true rfl) dX2_through_42 (fun rq7 σ6 hoq => ?_)
    refine k_istore F (lv' := [(4, .int rq7), (0, .ref (ad E 37)), (1, .ref (ad E kq1)), (2, .ref (ad E 13)), (3, .int xq3)]) 4 dX2_through_45 (by decide) rfl ?_
    refine k_iload (pc := 47) F 4 0 dX2_through_47 rfl ?_
    refine k_if_ge (pc := 49) F 58 dX2_through_49 (by decide) (fun _ => ?_) (fun _ => ?_)
    · refine k_aload_n (pc := 58) F 2 3 dX2_through_58 rfl rfl ?_
      refine k_aload_n (pc := 59) F 0 1 dX2_through_59 rfl rfl ?_
      refine gf_37_1 (pc := 60) F w_2_29 dX2_through_60 ?_
      refine k_iload (pc := 63) F 4 0 dX2_through_63 rfl ?_
      refine k_aload_n (pc := 65) F 2 3 dX2_through_65 rfl rfl ?_
      refine gf_13_1 (pc := 66) F w_1_147 dX2_through_66 ?_
      refine k_callVL (pc := 69) B (k := 13) (As := [.long (σ6.2 37 1), .int rq7, .int (σ6.1 13 1)]) (rest := []) (ct_X1_moved E (σ6.2 37 1) rq7 (σ6.1 13 1)  σ6) rfl rfl mv_X1_moved w_4_65 rfl hR_X2_through_X1_moved rfl (Nat.le_of_ble_eq_true rfl) dX2_through_69 (fun rq9 σ8 hoq => ?_)
      exact k_sub [1, 2, 3, 4, 0] rfl (t_X2_through_72 B kq1 xq3 rq7 rq9 hkq1 L28 hL28  σ8)
    · refine k_ldc2 (pc := 52) F (v := (-1 : Int64)) w_4_64 dX2_through_52 ?_
      refine k_goto (pc := 55) F 72 dX2_through_55 (by decide) ?_
      exact k_sub [1, 2, 3, 4, 0] rfl (t_X2_through_72 B kq1 xq3 rq7 (-1 : Int64) hkq1 L28 hL28  σ6)
set_option maxHeartbeats 4000000 in
set_option maxRecDepth 100000 in
theorem t_X2_through_L28 {E : En} {G : Cx} (B : Bx E G cX2_through 7 RX2 H_X2_through none) (kq1 : Nat) (hkq1 : isSh kq1)  : ∀ (n : Nat) (xq3 : Int32)  (σ : Mm), KR E G 7 (ZV E G) (fx (fun _ _ => none) n (f_X2_through_L28 kq1) xq3 σ) 28 [(0, .ref (ad E 37)), (1, .ref (ad E kq1)), (2, .ref (ad E 13)), (3, .int xq3)] [] σ :=
  fun n => fx_ind (P := fun f => ∀ (xq3 : Int32)  (σ : Mm), KR E G 7 (ZV E G) (f xq3 σ) 28 [(0, .ref (ad E 37)), (1, .ref (ad E kq1)), (2, .ref (ad E 13)), (3, .int xq3)] [] σ) (fun _ _ => k_none) (fun L28 hL28 xq3 σ => t_X2_through_L28b B kq1 hkq1  L28 hL28 xq3 σ) n
set_option maxHeartbeats 4000000 in
set_option maxRecDepth 100000 in
theorem t_X2_through {E : En} {G : Cx} (B : Bx E G cX2_through 7 RX2 H_X2_through none) (kq0 : Nat) (hkq0 : isSh kq0) (σ : Mm) : KR E G 7 (ZV E G) (f_X2_through kq0 σ) 0 [(0, .ref (ad E 37)), (1, .ref (ad E kq0)), (2, .ref (ad E 13))] [] σ := by
  have F := B.1
  unfold f_X2_through
  refine k_aload_n (pc := 0) F 0 0 dX2_through_0 rfl rfl ?_
  refine gf_37_0 (pc := 1) F w_2_28 dX2_through_1 ?_
  refine k_iconst (pc := 4) F (v := (-1 : Int32)) dX2_through_4 ci_m1 ?_
  refine k_callSV (pc := 5) B (As := [.ref (ad E 38), .int (-1 : Int32)]) (rest := []) (ct_J7_fill_53178 E (-1 : Int32)  σ) ms_J7_fill_53178 w_4_55 rfl hR_X2_through_J7_fill_53178 rfl (Nat.le_of_ble_eq_true rfl) dX2_through_5 (fun rq2 σ1 hoq => ?_)
  refine k_aload_n (pc := 8) F 0 0 dX2_through_8 rfl rfl ?_
  refine k_aload_n (pc := 9) F 2 2 dX2_through_9 rfl rfl ?_
  refine gf_13_2 (pc := 10) F w_1_149 dX2_through_10 ?_
  refine pf_37_1 (pc := 13) F w_2_29 dX2_through_13 (fun σ3 => ?_)
  refine k_aload_n (pc := 16) F 0 0 dX2_through_16 rfl rfl ?_
  refine k_iconst (pc := 17) F (v := (0 : Int32)) dX2_through_17 ci_0 ?_
  refine pf_37_2 (pc := 18) F w_2_31 dX2_through_18 (fun σ4 => ?_)
  refine k_aload_n (pc := 21) F 0 0 dX2_through_21 rfl rfl ?_
  refine k_iconst (pc := 22) F (v := (0 : Int32)) dX2_through_22 ci_0 ?_
  refine pf_37_3 (pc := 23) F w_2_33 dX2_through_23 (fun σ5 => ?_)
  refine k_iconst (pc := 26) F (v := (0 : Int32)) dX2_through_26 ci_0 ?_
  refine k_istore_n F (lv' := [(3, .int (0 : Int32)), (0, .ref (ad E 37)), (1, .ref (ad E kq0)), (2, .ref (ad E 13))]) 3 dX2_through_27 rfl (by decide) rfl ?_
  exact k_sub [1, 2, 3, 0] rfl (t_X2_through_L28 B kq0 hkq0  FU (0 : Int32)  σ5)
set_option maxHeartbeats 4000000 in
set_option maxRecDepth 100000 in
theorem ct_X2_through (E : En) (kq0 : Nat) (hkq0 : isSh kq0) (σ : Mm) : CtV E yX2_through cX2_through 7 none H_X2_through [.ref (ad E 37), .ref (ad E kq0), .ref (ad E 13)] σ (f_X2_through kq0 σ) := ct_V (by decide) (Nat.le_of_ble_eq_true rfl) rfl (fun G B => t_X2_through B kq0 hkq0 σ)
abbrev H_J9_min_7cf53 : Nat := 0
set_option maxHeartbeats 4000000 in
set_option maxRecDepth 100000 in
theorem t_J9_min_7cf53 {E : En} {G : Cx} (B : Bx E G cJ9_min_7cf53 2 RJ9 H_J9_min_7cf53 (some .int)) (aq0 : Int32) (aq1 : Int32)  (σ : Mm) : KR E G 2 (ZI E G) (f_J9_min_7cf53 aq0 aq1 σ) 0 [(0, .int aq0), (1, .int aq1)] [] σ := by
  have F := B.1
  unfold f_J9_min_7cf53
  refine k_iload_n (pc := 0) F 0 0 dJ9_min_7cf53_0 rfl rfl ?_
  refine k_iload_n (pc := 1) F 1 1 dJ9_min_7cf53_1 rfl rfl ?_
  refine k_icmp_gt (pc := 2) F 9 dJ9_min_7cf53_2 (by decide) (fun _ => ?_) (fun _ => ?_)
  · refine k_iload_n (pc := 9) F 1 1 dJ9_min_7cf53_9 rfl rfl ?_
    exact k_iret (pc := 10) B dJ9_min_7cf53_10
  · refine k_iload_n (pc := 5) F 0 0 dJ9_min_7cf53_5 rfl rfl ?_
    refine k_goto (pc := 6) F 10 dJ9_min_7cf53_6 (by decide) ?_
    exact k_iret (pc := 10) B dJ9_min_7cf53_10
set_option maxHeartbeats 4000000 in
set_option maxRecDepth 100000 in
theorem ct_J9_min_7cf53 (E : En) (aq0 : Int32) (aq1 : Int32)  (σ : Mm) : CtI E yJ9_min_7cf53 cJ9_min_7cf53 2 (some .int) H_J9_min_7cf53 [.int aq0, .int aq1] σ (f_J9_min_7cf53 aq0 aq1 σ) := ct_I (by decide +kernel) (Nat.le_of_ble_eq_true rfl) rfl (fun G B => t_J9_min_7cf53 B aq0 aq1  σ)
abbrev H_X3_isIn : Nat := 0
set_option maxHeartbeats 4000000 in
set_option maxRecDepth 100000 in
theorem t_X3_isIn_14 {E : En} {G : Cx} (B : Bx E G cX3_isIn 3 RX3 H_X3_isIn (some .boolean))    (σ : Mm) : KR E G 3 (ZI E G) (f_X3_isIn_14  σ) 14 [] [] σ := by
  have F := B.1
  unfold f_X3_isIn_14
  refine k_iconst (pc := 14) F (v := (0 : Int32)) dX3_isIn_14 ci_0 ?_
  exact k_zret (pc := 15) B dX3_isIn_15
set_option maxHeartbeats 4000000 in
set_option maxRecDepth 100000 in
theorem t_X3_isIn {E : En} {G : Cx} (B : Bx E G cX3_isIn 3 RX3 H_X3_isIn (some .boolean)) (aq0 : Int32) (aq1 : Int32) (aq2 : Int32)  (σ : Mm) : KR E G 3 (ZI E G) (f_X3_isIn aq0 aq1 aq2 σ) 0 [(0, .int aq0), (1, .int aq1), (2, .int aq2)] [] σ := by
  have F := B.1
  unfold f_X3_isIn
  refine k_iload_n (pc := 0) F 0 0 dX3_isIn_0 rfl rfl ?_
  refine k_iload_n (pc := 1) F 1 1 dX3_isIn_1 rfl rfl ?_
  refine k_icmp_lt (pc := 2) F 14 dX3_isIn_2 (by decide) (fun _ => ?_) (fun _ => ?_)
  · exact k_sub [] rfl (t_X3_isIn_14 B    σ)
  · refine k_iload_n (pc := 5) F 0 0 dX3_isIn_5 rfl rfl ?_
    refine k_iload_n (pc := 6) F 2 2 dX3_isIn_6 rfl rfl ?_
    refine k_icmp_gt (pc := 7) F 14 dX3_isIn_7 (by decide) (fun _ => ?_) (fun _ => ?_)
    · exact k_sub [] rfl (t_X3_isIn_14 B    σ)
    · refine k_iconst (pc := 10) F (v := (1 : Int32)) dX3_isIn_10 ci_1 ?_
      refine k_goto (pc := 11) F 15 dX3_isIn_11 (by decide) ?_
      exact k_zret (pc := 15) B dX3_isIn_15
set_option maxHeartbeats 4000000 in
set_option maxRecDepth 100000 in
theorem ct_X3_isIn (E : En) (aq0 : Int32) (aq1 : Int32) (aq2 : Int32)  (σ : Mm) : CtI E yX3_isIn cX3_isIn 3 (some .boolean) H_X3_isIn [.int aq0, .int aq1, .int aq2] σ (f_X3_isIn aq0 aq1 aq2 σ) := ct_I (by decide) (Nat.le_of_ble_eq_true rfl) rfl (fun G B => t_X3_isIn B aq0 aq1 aq2  σ)
abbrev H_X3_nextToken : Nat := 1
theorem hR_X3_nextToken_X3_isIn : H_X3_isIn + 1 ≤ H_X3_nextToken ∧ 8 + (3 + 11) + 40 * H_X3_isIn ≤ 40 * H_X3_nextToken := by decide
theorem hR_X3_nextToken_J9_min_7cf53 : H_J9_min_7cf53 + 1 ≤ H_X3_nextToken ∧ 8 + (2 + 11) + 40 * H_J9_min_7cf53 ≤ 40 * H_X3_nextToken := by decide
set_option maxHeartbeats 4000000 in
set_option maxRecDepth 100000 in
theorem t_X3_nextToken_L0b {E : En} {G : Cx} (B : Bx E G cX3_nextToken 1 RX3 H_X3_nextToken none)   (K44 : Mm → Option (Unit × Mm)) (hK44 : ∀   (σ : Mm), KR E G 1 (ZV E G) (K44  σ) 44 [(0, .ref (ad E 3))] [] σ)  (L0 : Mm → Option (Unit × Mm)) (hL0 : ∀   (σ : Mm), KR E G 1 (ZV E G) (L0  σ) 0 [(0, .ref (ad E 3))] [] σ)   (σ : Mm) : KR E G 1 (ZV E G) (f_X3_nextToken_L0 K44  L0  σ) 0 [(0, .ref (ad E 3))] [] σ := by
  have F := B.1
  unfold f_X3_nextToken_L0
  refine k_aload_n (pc := 0) F 0 0 dX3_nextToken_0 rfl rfl ?_
  refine gf_3_1 (pc := 1) F w_1_69 dX3_nextToken_1 ?_
  refine k_aload_n (pc := 4) F 0 0 dX3_nextToken_4 rfl rfl ?_
  refine gf_3_0 (pc := 5) F w_1_67 dX3_nextToken_5 ?_
  refine gf_4_1 (pc := 8) F w_1_61 dX3_nextToken_8 ?_
  refine k_icmp_ge (pc := 11) F 44 dX3_nextToken_11 (by decide) (fun _ => ?_) (fun _ => ?_)
  · exact k_sub [0] rfl (hK44 σ)
  · refine k_aload_n (pc := 14) F 0 0 dX3_nextToken_14 rfl rfl ?_
    refine gf_3_0 (pc := 15) F w_1_67 dX3_nextToken_15 ?_
    refine gf_4_0 (pc := 18) F w_1_58 dX3_nextToken_18 ?_
    refine k_aload_n (pc := 21) F 0 0 dX3_nextToken_21 rfl rfl ?_
    refine gf_3_1 (pc := 22) F w_1_69 dX3_nextToken_22 ?_
    refine k_iald (pc := 25) F rfl dX3_nextToken_25 ?_
    refine k_bipush (pc := 26) F (v := (32 : Int32)) dX3_nextToken_26 cb_32 ?_
    refine k_icmp_ne (pc := 28) F 44 dX3_nextToken_28 (by decide) (fun _ => ?_) (fun _ => ?_)
    · refine k_aload_n (pc := 31) F 0 0 dX3_nextToken_31 rfl rfl ?_
      refine k_dup (pc := 32) F dX3_nextToken_32 rfl ?_
      refine gf_3_1 (pc := 33) F w_1_69 dX3_nextToken_33 ?_
      refine k_iconst (pc := 36) F (v := (1 : Int32)) dX3_nextToken_36 ci_1 ?_
      refine k_iadd (pc := 37) F dX3_nextToken_37 ?_
      refine pf_3_1 (pc := 38) F w_1_69 dX3_nextToken_38 (fun σ1 => ?_)
      refine k_goto (pc := 41) F 0 dX3_nextToken_41 (by decide) ?_
      exact k_sub [0] rfl (hL0 σ1)
    · exact k_sub [0] rfl (hK44 σ)
set_option maxHeartbeats 4000000 in
set_option maxRecDepth 100000 in
theorem t_X3_nextToken_L0 {E : En} {G : Cx} (B : Bx E G cX3_nextToken 1 RX3 H_X3_nextToken none)   (K44 : Mm → Option (Unit × Mm)) (hK44 : ∀   (σ : Mm), KR E G 1 (ZV E G) (K44  σ) 44 [(0, .ref (ad E 3))] [] σ)  : ∀ (n : Nat)   (σ : Mm), KR E G 1 (ZV E G) (fx (fun _ => none) n (f_X3_nextToken_L0 K44 )  σ) 0 [(0, .ref (ad E 3))] [] σ :=
  fun n => fx_ind (P := fun f => ∀   (σ : Mm), KR E G 1 (ZV E G) (f  σ) 0 [(0, .ref (ad E 3))] [] σ) (fun _ => k_none) (fun L0 hL0  σ => t_X3_nextToken_L0b B   K44 hK44  L0 hL0  σ) n
set_option maxHeartbeats 4000000 in
set_option maxRecDepth 100000 in
theorem t_X3_nextToken_287 {E : En} {G : Cx} (B : Bx E G cX3_nextToken 1 RX3 H_X3_nextToken none) (xqs1 : Int32)   (σ : Mm) : KR E G 1 (ZV E G) (f_X3_nextToken_287 xqs1 σ) 287 [(0, .ref (ad E 3))] [.int xqs1, .ref (ad E 3)] σ := by
  have F := B.1
  unfold f_X3_nextToken_287
  refine pf_3_3 (pc := 287) F w_1_71 dX3_nextToken_287 (fun σ7 => ?_)
  refine k_aload_n (pc := 290) F 0 0 dX3_nextToken_290 rfl rfl ?_
  refine k_dup (pc := 291) F dX3_nextToken_291 rfl ?_
  refine gf_3_1 (pc := 292) F w_1_69 dX3_nextToken_292 ?_
  refine k_iconst (pc := 295) F (v := (1 : Int32)) dX3_nextToken_295 ci_1 ?_
  refine k_iadd (pc := 296) F dX3_nextToken_296 ?_
  refine pf_3_1 (pc := 297) F w_1_69 dX3_nextToken_297 (fun σ8 => ?_)
  exact k_vret (pc := 300) B dX3_nextToken_300
set_option maxHeartbeats 4000000 in
set_option maxRecDepth 100000 in
theorem t_X3_nextToken_L182b {E : En} {G : Cx} (B : Bx E G cX3_nextToken 1 RX3 H_X3_nextToken none)    (L182 : Mm → Option (Unit × Mm)) (hL182 : ∀   (σ : Mm), KR E G 1 (ZV E G) (L182  σ) 182 [(0, .ref (ad E 3))] [] σ)   (σ : Mm) : KR E G 1 (ZV E G) (f_X3_nextToken_L182  L182  σ) 182 [(0, .ref (ad E 3))] [] σ := by
  have F := B.1
  unfold f_X3_nextToken_L182
  refine k_aload_n (pc := 182) F 0 0 dX3_nextToken_182 rfl rfl ?_
  refine gf_3_1 (pc := 183) F w_1_69 dX3_nextToken_183 ?_
  refine k_aload_n (pc := 186) F 0 0 dX3_nextToken_186 rfl rfl ?_
  refine gf_3_0 (pc := 187) F w_1_67 dX3_nextToken_187 ?_
  refine gf_4_1 (pc := 190) F w_1_61 dX3_nextToken_190 ?_
  refine k_icmp_ge (pc := 193) F 300 dX3_nextToken_193 (by decide) (fun _ => ?_) (fun _ => ?_)
  · exact k_vret (pc := 300) B dX3_nextToken_300
  · refine k_aload_n (pc := 196) F 0 0 dX3_nextToken_196 rfl rfl ?_
    refine gf_3_0 (pc := 197) F w_1_67 dX3_nextToken_197 ?_
    refine gf_4_0 (pc := 200) F w_1_58 dX3_nextToken_200 ?_
    refine k_aload_n (pc := 203) F 0 0 dX3_nextToken_203 rfl rfl ?_
    refine gf_3_1 (pc := 204) F w_1_69 dX3_nextToken_204 ?_
    refine k_iald (pc := 207) F rfl dX3_nextToken_207 ?_
    refine k_bipush (pc := 208) F (v := (48 : Int32)) dX3_nextToken_208 cb_48 ?_
    refine k_bipush (pc := 210) F (v := (57 : Int32)) dX3_nextToken_210 cb_57 ?_
    refine k_callSI (pc := 212) B (As := [.int (σ.1 5 (ix (σ.1 3 1))), .int (48 : Int32), .int (57 : Int32)]) (rest := []) (ct_X3_isIn E (σ.1 5 (ix (σ.1 3 1))) (48 : Int32) (57 : Int32)  σ) ms_X3_isIn w_2_127 rfl hR_X3_nextToken_X3_isIn rfl (Nat.le_of_ble_eq_true rfl) dX3_nextToken_212 (fun rq12 σ11 hoq => ?_)
    refine k_if_eq (pc := 215) F 300 dX3_nextToken_215 (by decide) (fun _ => ?_) (fun _ => ?_)
    · exact k_vret (pc := 300) B dX3_nextToken_300
    · refine k_aload_n (pc := 218) F 0 0 dX3_nextToken_218 rfl rfl ?_
      refine k_sipush (pc := 219) F (v := (1000 : Int32)) dX3_nextToken_219 cs_1000 ?_
      refine k_aload_n (pc := 222) F 0 0 dX3_nextToken_222 rfl rfl ?_
      refine gf_3_4 (pc := 223) F w_1_72 dX3_nextToken_223 ?_
      refine k_bipush (pc := 226) F (v := (10 : Int32)) dX3_nextToken_226 cb_10 ?_
      refine k_imul (pc := 228) F dX3_nextToken_228 ?_
      refine k_aload_n (pc := 229) F 0 0 dX3_nextToken_229 rfl rfl ?_
      refine gf_3_0 (pc := 230) F w_1_67 dX3_nextToken_230 ?_
      refine gf_4_0 (pc := 233) F w_1_58 dX3_nextToken_233 ?_
      refine k_aload_n (pc := 236) F 0 0 dX3_nextToken_236 rfl rfl ?_
      refine gf_3_1 (pc := 237) F w_1_69 dX3_nextToken_237 ?_
      refine k_iald (pc := 240) F rfl dX3_nextToken_240 ?_
      refine k_iadd (pc := 241) F dX3_nextToken_241 ?_
      refine k_bipush (pc := 242) F (v := (48 : Int32)) dX3_nextToken_242 cb_48 ?_
      refine k_isub (pc := 244) F dX3_nextToken_244 ?_
      refine k_callSI (pc := 245) B (As := [.int (1000 : Int32), .int ((((σ11.1 3 4) * (10 : Int32)) + (σ11.1 5 (ix (σ11.1 3 1)))) - (48 : Int32))]) (rest := [.ref (ad E 3)]) (ct_J9_min_7cf53 E (1000 : Int32) ((((σ11.1 3 4) * (10 : Int32)) + (σ11.1 5 (ix (σ11.1 3 1)))) - (48 : Int32))  σ11) ms_J9_min_7cf53 w_2_130 rfl hR_X3_nextToken_J9_min_7cf53 rfl (Nat.le_of_ble_eq_true rfl) dX3_nextToken_245 (fun rq14 σ13 hoq => ?_)
      refine pf_3_4 (pc := 248) F w_1_72 dX3_nextToken_248 (fun σ15 => ?_)
      refine k_aload_n (pc := 251) F 0 0 dX3_nextToken_251 rfl rfl ?_
      refine k_dup (pc := 252) F dX3_nextToken_252 rfl ?_
      refine gf_3_1 (pc := 253) F w_1_69 dX3_nextToken_253 ?_
      refine k_iconst (pc := 256) F (v := (1 : Int32)) dX3_nextToken_256 ci_1 ?_
      refine k_iadd (pc := 257) F dX3_nextToken_257 ?_
      refine pf_3_1 (pc := 258) F w_1_69 dX3_nextToken_258 (fun σ16 => ?_)
      refine k_goto (pc := 261) F 182 dX3_nextToken_261 (by decide) ?_
      exact k_sub [0] rfl (hL182 σ16)
set_option maxHeartbeats 4000000 in
set_option maxRecDepth 100000 in
theorem t_X3_nextToken_L182 {E : En} {G : Cx} (B : Bx E G cX3_nextToken 1 RX3 H_X3_nextToken none)    : ∀ (n : Nat)   (σ : Mm), KR E G 1 (ZV E G) (fx (fun _ => none) n (f_X3_nextToken_L182 )  σ) 182 [(0, .ref (ad E 3))] [] σ :=
  fun n => fx_ind (P := fun f => ∀   (σ : Mm), KR E G 1 (ZV E G) (f  σ) 182 [(0, .ref (ad E 3))] [] σ) (fun _ => k_none) (fun L182 hL182  σ => t_X3_nextToken_L182b B    L182 hL182  σ) n
set_option maxHeartbeats 4000000 in
set_option maxRecDepth 100000 in
theorem t_X3_nextToken_L101b {E : En} {G : Cx} (B : Bx E G cX3_nextToken 1 RX3 H_X3_nextToken none)    (L101 : Mm → Option (Unit × Mm)) (hL101 : ∀   (σ : Mm), KR E G 1 (ZV E G) (L101  σ) 101 [(0, .ref (ad E 3))] [] σ)   (σ : Mm) : KR E G 1 (ZV E G) (f_X3_nextToken_L101  L101  σ) 101 [(0, .ref (ad E 3))] [] σ := by
  have F := B.1
  unfold f_X3_nextToken_L101
  refine k_aload_n (pc := 101) F 0 0 dX3_nextToken_101 rfl rfl ?_
  refine gf_3_1 (pc := 102) F w_1_69 dX3_nextToken_102 ?_
  refine k_aload_n (pc := 105) F 0 0 dX3_nextToken_105 rfl rfl ?_
  refine gf_3_0 (pc := 106) F w_1_67 dX3_nextToken_106 ?_
  refine gf_4_1 (pc := 109) F w_1_61 dX3_nextToken_109 ?_
  refine k_icmp_ge (pc := 112) F 300 dX3_nextToken_112 (by decide) (fun _ => ?_) (fun _ => ?_)
  · exact k_vret (pc := 300) B dX3_nextToken_300
  · refine k_aload_n (pc := 115) F 0 0 dX3_nextToken_115 rfl rfl ?_
    refine gf_3_0 (pc := 116) F w_1_67 dX3_nextToken_116 ?_
    refine gf_4_0 (pc := 119) F w_1_58 dX3_nextToken_119 ?_
    refine k_aload_n (pc := 122) F 0 0 dX3_nextToken_122 rfl rfl ?_
    refine gf_3_1 (pc := 123) F w_1_69 dX3_nextToken_123 ?_
    refine k_iald (pc := 126) F rfl dX3_nextToken_126 ?_
    refine k_bipush (pc := 127) F (v := (97 : Int32)) dX3_nextToken_127 cb_97 ?_
    refine k_bipush (pc := 129) F (v := (122 : Int32)) dX3_nextToken_129 cb_122 ?_
    refine k_callSI (pc := 131) B (As := [.int (σ.1 5 (ix (σ.1 3 1))), .int (97 : Int32), .int (122 : Int32)]) (rest := []) (ct_X3_isIn E (σ.1 5 (ix (σ.1 3 1))) (97 : Int32) (122 : Int32)  σ) ms_X3_isIn w_2_127 rfl hR_X3_nextToken_X3_isIn rfl (Nat.le_of_ble_eq_true rfl) dX3_nextToken_131 (fun rq19 σ18 hoq => ?_)
    refine k_if_eq (pc := 134) F 300 dX3_nextToken_134 (by decide) (fun _ => ?_) (fun _ => ?_)
    · exact k_vret (pc := 300) B dX3_nextToken_300
    · refine k_aload_n (pc := 137) F 0 0 dX3_nextToken_137 rfl rfl ?_
      refine k_dup (pc := 138) F dX3_nextToken_138 rfl ?_
      refine gf_3_1 (pc := 139) F w_1_69 dX3_nextToken_139 ?_
      refine k_iconst (pc := 142) F (v := (1 : Int32)) dX3_nextToken_142 ci_1 ?_
      refine k_iadd (pc := 143) F dX3_nextToken_143 ?_
      refine pf_3_1 (pc := 144) F w_1_69 dX3_nextToken_144 (fun σ20 => ?_)
      refine k_goto (pc := 147) F 101 dX3_nextToken_147 (by decide) ?_
      exact k_sub [0] rfl (hL101 σ20)
set_option maxHeartbeats 4000000 in
set_option maxRecDepth 100000 in
theorem t_X3_nextToken_L101 {E : En} {G : Cx} (B : Bx E G cX3_nextToken 1 RX3 H_X3_nextToken none)    : ∀ (n : Nat)   (σ : Mm), KR E G 1 (ZV E G) (fx (fun _ => none) n (f_X3_nextToken_L101 )  σ) 101 [(0, .ref (ad E 3))] [] σ :=
  fun n => fx_ind (P := fun f => ∀   (σ : Mm), KR E G 1 (ZV E G) (f  σ) 101 [(0, .ref (ad E 3))] [] σ) (fun _ => k_none) (fun L101 hL101  σ => t_X3_nextToken_L101b B    L101 hL101  σ) n
set_option maxHeartbeats 4000000 in
set_option maxRecDepth 100000 in
theorem t_X3_nextToken_44 {E : En} {G : Cx} (B : Bx E G cX3_nextToken 1 RX3 H_X3_nextToken none)    (σ : Mm) : KR E G 1 (ZV E G) (f_X3_nextToken_44  σ) 44 [(0, .ref (ad E 3))] [] σ := by
  have F := B.1
  unfold f_X3_nextToken_44
  refine k_aload_n (pc := 44) F 0 0 dX3_nextToken_44 rfl rfl ?_
  refine k_aload_n (pc := 45) F 0 0 dX3_nextToken_45 rfl rfl ?_
  refine gf_3_1 (pc := 46) F w_1_69 dX3_nextToken_46 ?_
  refine pf_3_2 (pc := 49) F w_1_70 dX3_nextToken_49 (fun σ2 => ?_)
  refine k_aload_n (pc := 52) F 0 0 dX3_nextToken_52 rfl rfl ?_
  refine gf_3_1 (pc := 53) F w_1_69 dX3_nextToken_53 ?_
  refine k_aload_n (pc := 56) F 0 0 dX3_nextToken_56 rfl rfl ?_
  refine gf_3_0 (pc := 57) F w_1_67 dX3_nextToken_57 ?_
  refine gf_4_1 (pc := 60) F w_1_61 dX3_nextToken_60 ?_
  refine k_icmp_lt (pc := 63) F 74 dX3_nextToken_63 (by decide) (fun _ => ?_) (fun _ => ?_)
  · refine k_aload_n (pc := 74) F 0 0 dX3_nextToken_74 rfl rfl ?_
    refine gf_3_0 (pc := 75) F w_1_67 dX3_nextToken_75 ?_
    refine gf_4_0 (pc := 78) F w_1_58 dX3_nextToken_78 ?_
    refine k_aload_n (pc := 81) F 0 0 dX3_nextToken_81 rfl rfl ?_
    refine gf_3_1 (pc := 82) F w_1_69 dX3_nextToken_82 ?_
    refine k_iald (pc := 85) F rfl dX3_nextToken_85 ?_
    refine k_bipush (pc := 86) F (v := (97 : Int32)) dX3_nextToken_86 cb_97 ?_
    refine k_bipush (pc := 88) F (v := (122 : Int32)) dX3_nextToken_88 cb_122 ?_
    refine k_callSI (pc := 90) B (As := [.int (σ2.1 5 (ix (σ2.1 3 1))), .int (97 : Int32), .int (122 : Int32)]) (rest := []) (ct_X3_isIn E (σ2.1 5 (ix (σ2.1 3 1))) (97 : Int32) (122 : Int32)  σ2) ms_X3_isIn w_2_127 rfl hR_X3_nextToken_X3_isIn rfl (Nat.le_of_ble_eq_true rfl) dX3_nextToken_90 (fun rq4 σ3 hoq => ?_)
    refine k_if_eq (pc := 93) F 150 dX3_nextToken_93 (by decide) (fun _ => ?_) (fun _ => ?_)
    · refine k_aload_n (pc := 150) F 0 0 dX3_nextToken_150 rfl rfl ?_
      refine gf_3_0 (pc := 151) F w_1_67 dX3_nextToken_151 ?_
      refine gf_4_0 (pc := 154) F w_1_58 dX3_nextToken_154 ?_
      refine k_aload_n (pc := 157) F 0 0 dX3_nextToken_157 rfl rfl ?_
      refine gf_3_1 (pc := 158) F w_1_69 dX3_nextToken_158 ?_
      refine k_iald (pc := 161) F rfl dX3_nextToken_161 ?_
      refine k_bipush (pc := 162) F (v := (48 : Int32)) dX3_nextToken_162 cb_48 ?_
      refine k_bipush (pc := 164) F (v := (57 : Int32)) dX3_nextToken_164 cb_57 ?_
      refine k_callSI (pc := 166) B (As := [.int (σ3.1 5 (ix (σ3.1 3 1))), .int (48 : Int32), .int (57 : Int32)]) (rest := []) (ct_X3_isIn E (σ3.1 5 (ix (σ3.1 3 1))) (48 : Int32) (57 : Int32)  σ3) ms_X3_isIn w_2_127 rfl hR_X3_nextToken_X3_isIn rfl (Nat.le_of_ble_eq_true rfl) dX3_nextToken_166 (fun rq6 σ5 hoq => ?_)
      refine k_if_eq (pc := 169) F 264 dX3_nextToken_169 (by decide) (fun _ => ?_) (fun _ => ?_)
      · refine k_aload_n (pc := 264) F 0 0 dX3_nextToken_264 rfl rfl ?_
        refine k_aload_n (pc := 265) F 0 0 dX3_nextToken_265 rfl rfl ?_
        refine gf_3_0 (pc := 266) F w_1_67 dX3_nextToken_266 ?_
        refine gf_4_0 (pc := 269) F w_1_58 dX3_nextToken_269 ?_
        refine k_aload_n (pc := 272) F 0 0 dX3_nextToken_272 rfl rfl ?_
        refine gf_3_1 (pc := 273) F w_1_69 dX3_nextToken_273 ?_
        refine k_iald (pc := 276) F rfl dX3_nextToken_276 ?_
        refine k_bipush (pc := 277) F (v := (59 : Int32)) dX3_nextToken_277 cb_59 ?_
        refine k_icmp_ne (pc := 279) F 286 dX3_nextToken_279 (by decide) (fun _ => ?_) (fun _ => ?_)
        · refine k_iconst (pc := 282) F (v := (3 : Int32)) dX3_nextToken_282 ci_3 ?_
          refine k_goto (pc := 283) F 287 dX3_nextToken_283 (by decide) ?_
          exact k_sub [0] rfl (t_X3_nextToken_287 B (3 : Int32)   σ5)
        · refine k_iconst (pc := 286) F (v := (4 : Int32)) dX3_nextToken_286 ci_4 ?_
          exact k_sub [0] rfl (t_X3_nextToken_287 B (4 : Int32)   σ5)
      · refine k_aload_n (pc := 172) F 0 0 dX3_nextToken_172 rfl rfl ?_
        refine k_iconst (pc := 173) F (v := (2 : Int32)) dX3_nextToken_173 ci_2 ?_
        refine pf_3_3 (pc := 174) F w_1_71 dX3_nextToken_174 (fun σ9 => ?_)
        refine k_aload_n (pc := 177) F 0 0 dX3_nextToken_177 rfl rfl ?_
        refine k_iconst (pc := 178) F (v := (0 : Int32)) dX3_nextToken_178 ci_0 ?_
        refine pf_3_4 (pc := 179) F w_1_72 dX3_nextToken_179 (fun σ10 => ?_)
        exact k_sub [0] rfl (t_X3_nextToken_L182 B    FU   σ10)
    · refine k_aload_n (pc := 96) F 0 0 dX3_nextToken_96 rfl rfl ?_
      refine k_iconst (pc := 97) F (v := (1 : Int32)) dX3_nextToken_97 ci_1 ?_
      refine pf_3_3 (pc := 98) F w_1_71 dX3_nextToken_98 (fun σ17 => ?_)
      exact k_sub [0] rfl (t_X3_nextToken_L101 B    FU   σ17)
  · refine k_aload_n (pc := 66) F 0 0 dX3_nextToken_66 rfl rfl ?_
    refine k_iconst (pc := 67) F (v := (0 : Int32)) dX3_nextToken_67 ci_0 ?_
    refine pf_3_3 (pc := 68) F w_1_71 dX3_nextToken_68 (fun σ21 => ?_)
    refine k_goto (pc := 71) F 300 dX3_nextToken_71 (by decide) ?_
    exact k_vret (pc := 300) B dX3_nextToken_300
set_option maxHeartbeats 4000000 in
set_option maxRecDepth 100000 in
theorem t_X3_nextToken {E : En} {G : Cx} (B : Bx E G cX3_nextToken 1 RX3 H_X3_nextToken none)   (σ : Mm) : KR E G 1 (ZV E G) (f_X3_nextToken  σ) 0 [(0, .ref (ad E 3))] [] σ := by
  have F := B.1
  unfold f_X3_nextToken
  exact k_sub [0] rfl (t_X3_nextToken_L0 B   _ (fun   σ => by
        exact k_sub [0] rfl (t_X3_nextToken_44 B    σ)) FU   σ)
set_option maxHeartbeats 4000000 in
set_option maxRecDepth 100000 in
theorem ct_X3_nextToken (E : En)   (σ : Mm) : CtV E yX3_nextToken cX3_nextToken 1 none H_X3_nextToken [.ref (ad E 3)] σ (f_X3_nextToken  σ) := ct_V (by decide) (Nat.le_of_ble_eq_true rfl) rfl (fun G B => t_X3_nextToken B   σ)
abbrev H_X3_highestOf : Nat := 0
set_option maxHeartbeats 4000000 in
set_option maxRecDepth 100000 in
theorem t_X3_highestOf {E : En} {G : Cx} (B : Bx E G cX3_highestOf 2 RX3 H_X3_highestOf (some .int)) (aq0 : Int32) (aq1 : Int32)  (σ : Mm) : KR E G 2 (ZI E G) (f_X3_highestOf aq0 aq1 σ) 0 [(0, .int aq0), (1, .int aq1)] [] σ := by
  have F := B.1
  unfold f_X3_highestOf
  refine k_iload_n (pc := 0) F 0 0 dX3_highestOf_0 rfl rfl ?_
  refine k_case (fun hwq1 => ?_) (fun hwq1 => ?_)
  · refine k_look (pc := 1) (off := 27) F 28 dX3_highestOf_1 (by decide) (by rw [hwq1] <;> rfl) (by decide) ?_
    refine k_iconst (pc := 28) F (v := (2 : Int32)) dX3_highestOf_28 ci_2 ?_
    exact k_iret (pc := 29) B dX3_highestOf_29
  refine k_case (fun hwq2 => ?_) (fun hwq2 => ?_)
  · refine k_look (pc := 1) (off := 29) F 30 dX3_highestOf_1 (by decide) (by rw [hwq2] <;> rfl) (by decide) ?_
    refine k_iload_n (pc := 30) F 1 1 dX3_highestOf_30 rfl rfl ?_
    exact k_iret (pc := 31) B dX3_highestOf_31
  · refine k_look (pc := 1) (off := 31) F 32 dX3_highestOf_1 (by decide) (by have hwq1 := ne_i (z := 1) (by decide) hwq1; have hwq2 := ne_i (z := 4) (by decide) hwq2; simp [Op.lookupswitch.offset, Ne.symm hwq1, Ne.symm hwq2]) (by decide) ?_
    refine k_iconst (pc := 32) F (v := (3 : Int32)) dX3_highestOf_32 ci_3 ?_
    exact k_iret (pc := 33) B dX3_highestOf_33
set_option maxHeartbeats 4000000 in
set_option maxRecDepth 100000 in
theorem ct_X3_highestOf (E : En) (aq0 : Int32) (aq1 : Int32)  (σ : Mm) : CtI E yX3_highestOf cX3_highestOf 2 (some .int) H_X3_highestOf [.int aq0, .int aq1] σ (f_X3_highestOf aq0 aq1 σ) := ct_I (by decide) (Nat.le_of_ble_eq_true rfl) rfl (fun G B => t_X3_highestOf B aq0 aq1  σ)
abbrev H_J0_isLatin1_aae02 : Nat := 0
set_option maxHeartbeats 4000000 in
set_option maxRecDepth 100000 in
theorem t_J0_isLatin1_aae02_17 {E : En} {G : Cx} (B : Bx E G cJ0_isLatin1_aae02 1 RJ0 H_J0_isLatin1_aae02 (some .boolean))    (σ : Mm) : KR E G 1 (ZI E G) (f_J0_isLatin1_aae02_17  σ) 17 [] [] σ := by
  have F := B.1
  unfold f_J0_isLatin1_aae02_17
  refine k_iconst (pc := 17) F (v := (0 : Int32)) dJ0_isLatin1_aae02_17 ci_0 ?_
  exact k_zret (pc := 18) B dJ0_isLatin1_aae02_18
set_option maxHeartbeats 4000000 in
set_option maxRecDepth 100000 in
theorem t_J0_isLatin1_aae02 {E : En} {G : Cx} (B : Bx E G cJ0_isLatin1_aae02 1 RJ0 H_J0_isLatin1_aae02 (some .boolean)) (kq : Nat) (hkq : kq < 9) (σ : Mm) : KR E G 1 (ZI E G) (f_J0_isLatin1_aae02 kq σ) 0 [(0, .ref (kA E kq))] [] σ := by
  have F := B.1
  unfold f_J0_isLatin1_aae02
  refine k_comp (pc := 0) F w_2_161 dJ0_isLatin1_aae02_0 ?_
  refine k_if_eq (pc := 3) F 17 dJ0_isLatin1_aae02_3 (by decide) (fun _ => ?_) (fun _ => ?_)
  · exact k_sub [] rfl (t_J0_isLatin1_aae02_17 B    σ)
  · refine k_aload_n (pc := 6) F 0 0 dJ0_isLatin1_aae02_6 rfl rfl ?_
    refine k_kcod (pc := 7) F hkq w_7_26 dJ0_isLatin1_aae02_7 ?_
    refine k_if_ne (pc := 10) F 17 dJ0_isLatin1_aae02_10 (by decide) (fun _ => ?_) (fun _ => ?_)
    · refine k_iconst (pc := 13) F (v := (1 : Int32)) dJ0_isLatin1_aae02_13 ci_1 ?_
      refine k_goto (pc := 14) F 18 dJ0_isLatin1_aae02_14 (by decide) ?_
      exact k_zret (pc := 18) B dJ0_isLatin1_aae02_18
    · exact k_sub [] rfl (t_J0_isLatin1_aae02_17 B    σ)
set_option maxHeartbeats 4000000 in
set_option maxRecDepth 100000 in
theorem ct_J0_isLatin1_aae02 (E : En) (kq : Nat) (hkq : kq < 9) (σ : Mm) : CtI E yJ0_isLatin1_aae02 cJ0_isLatin1_aae02 1 (some .boolean) H_J0_isLatin1_aae02 [.ref (kA E kq)] σ (f_J0_isLatin1_aae02 kq σ) := ct_I (by decide +kernel) (Nat.le_of_ble_eq_true rfl) rfl (fun G B => t_J0_isLatin1_aae02 B kq hkq σ)
abbrev H_J1_charAt_3b067 : Nat := 2
theorem hR_J1_charAt_3b067_J0_checkIndex_df160 : H_J0_checkIndex_df160 + 1 ≤ H_J1_charAt_3b067 ∧ 8 + (2 + 11) + 40 * H_J0_checkIndex_df160 ≤ 40 * H_J1_charAt_3b067 := by decide
set_option maxHeartbeats 4000000 in
set_option maxRecDepth 100000 in
theorem t_J1_charAt_3b067 {E : En} {G : Cx} (B : Bx E G cJ1_charAt_3b067 2 RJ1 H_J1_charAt_3b067 (some .char)) (kq0 : Nat) (aq1 : Int32) (hkq0 : kq0 < 9) (σ : Mm) : KR E G 2 (ZI E G) (f_J1_charAt_3b067 kq0 aq1 σ) 0 [(0, .ref (vA E kq0)), (1, .int aq1)] [] σ := by
  have F := B.1
  unfold f_J1_charAt_3b067
  refine k_iload_n (pc := 0) F 1 1 dJ1_charAt_3b067_0 rfl rfl ?_
  refine k_aload_n (pc := 1) F 0 0 dJ1_charAt_3b067_1 rfl rfl ?_
  refine k_klen (pc := 2) F hkq0 dJ1_charAt_3b067_2 ?_
  refine k_callSV (pc := 3) B (As := [.int aq1, .int (Int32.ofNat (stLen.getD kq0 0))]) (rest := []) (ct_J0_checkIndex_df160 E aq1 (Int32.ofNat (stLen.getD kq0 0))  σ) ms_J0_checkIndex_df160 w_2_174 rfl hR_J1_charAt_3b067_J0_checkIndex_df160 rfl (Nat.le_of_ble_eq_true rfl) dJ1_charAt_3b067_3 (fun rq2 σ1 hoq => ?_)
  refine k_aload_n (pc := 6) F 0 0 dJ1_charAt_3b067_6 rfl rfl ?_
  refine k_iload_n (pc := 7) F 1 1 dJ1_charAt_3b067_7 rfl rfl ?_
  refine k_kld (pc := 8) F hkq0 dJ1_charAt_3b067_8 ?_
  refine k_sipush (pc := 9) F (v := (255 : Int32)) dJ1_charAt_3b067_9 cs_255 ?_
  refine k_iand (pc := 12) F dJ1_charAt_3b067_12 ?_
  refine k_i2c (pc := 13) F dJ1_charAt_3b067_13 ?_
  exact k_cret (pc := 14) B dJ1_charAt_3b067_14
set_option maxHeartbeats 4000000 in
set_option maxRecDepth 100000 in
theorem ct_J1_charAt_3b067 (E : En) (kq0 : Nat) (aq1 : Int32) (hkq0 : kq0 < 9) (σ : Mm) : CtI E yJ1_charAt_3b067 cJ1_charAt_3b067 2 (some .char) H_J1_charAt_3b067 [.ref (vA E kq0), .int aq1] σ (f_J1_charAt_3b067 kq0 aq1 σ) := ct_I (by decide +kernel) (Nat.le_of_ble_eq_true rfl) rfl (fun G B => t_J1_charAt_3b067 B kq0 aq1 hkq0 σ)
abbrev H_J0_charAt_5068e : Nat := 3
theorem hR_J0_charAt_5068e_J0_isLatin1_aae02 : H_J0_isLatin1_aae02 + 1 ≤ H_J0_charAt_5068e ∧ 8 + (1 + 11) + 40 * H_J0_isLatin1_aae02 ≤ 40 * H_J0_charAt_5068e := by decide
theorem hR_J0_charAt_5068e_J1_charAt_3b067 : H_J1_charAt_3b067 + 1 ≤ H_J0_charAt_5068e ∧ 8 + (2 + 11) + 40 * H_J1_charAt_3b067 ≤ 40 * H_J0_charAt_5068e := by decide
set_option maxHeartbeats 4000000 in
set_option maxRecDepth 100000 in
theorem t_J0_charAt_5068e {E : En} {G : Cx} (B : Bx E G cJ0_charAt_5068e 2 RJ0 H_J0_charAt_5068e (some .char)) (kq : Nat) (aq0 : Int32) (hkq : kq < 9) (σ : Mm) : KR E G 2 (ZI E G) (f_J0_charAt_5068e kq aq0 σ) 0 [(0, .ref (kA E kq)), (1, .int aq0)] [] σ := by
  have F := B.1
  unfold f_J0_charAt_5068e
  refine k_aload_n (pc := 0) F 0 0 dJ0_charAt_5068e_0 rfl rfl ?_
  refine k_callKI (pc := 1) B (i := kq) hkq rfl (As := []) (rest := []) (ct_J0_isLatin1_aae02 E kq hkq σ) mv_J0_isLatin1_aae02 w_2_167 rfl hR_J0_charAt_5068e_J0_isLatin1_aae02 rfl (Nat.le_of_ble_eq_true rfl) dJ0_charAt_5068e_1 (fun rq2 σ1 hoq => ?_)
  refine k_if_eq (pc := 4) F 16 dJ0_charAt_5068e_4 (by decide) (fun _ => ?_) (fun _ => ?_)
  · exact k_none
  · refine k_aload_n (pc := 7) F 0 0 dJ0_charAt_5068e_7 rfl rfl ?_
    refine k_kval (pc := 8) F hkq w_7_25 dJ0_charAt_5068e_8 ?_
    refine k_iload_n (pc := 11) F 1 1 dJ0_charAt_5068e_11 rfl rfl ?_
    refine k_callSI (pc := 12) B (As := [.ref (vA E kq), .int aq0]) (rest := []) (ct_J1_charAt_3b067 E kq aq0 hkq σ1) ms_J1_charAt_3b067 w_2_171 rfl hR_J0_charAt_5068e_J1_charAt_3b067 rfl (Nat.le_of_ble_eq_true rfl) dJ0_charAt_5068e_12 (fun rq4 σ3 hoq => ?_)
    exact k_cret (pc := 15) B dJ0_charAt_5068e_15
set_option maxHeartbeats 4000000 in
set_option maxRecDepth 100000 in
theorem ct_J0_charAt_5068e (E : En) (kq : Nat) (aq0 : Int32) (hkq : kq < 9) (σ : Mm) : CtI E yJ0_charAt_5068e cJ0_charAt_5068e 2 (some .char) H_J0_charAt_5068e [.ref (kA E kq), .int aq0] σ (f_J0_charAt_5068e kq aq0 σ) := ct_I (by decide +kernel) (Nat.le_of_ble_eq_true rfl) rfl (fun G B => t_J0_charAt_5068e B kq aq0 hkq σ)
abbrev H_J0_coder_7d493 : Nat := 0
set_option maxHeartbeats 4000000 in
set_option maxRecDepth 100000 in
theorem t_J0_coder_7d493 {E : En} {G : Cx} (B : Bx E G cJ0_coder_7d493 1 RJ0 H_J0_coder_7d493 (some .byte)) (kq : Nat) (hkq : kq < 9) (σ : Mm) : KR E G 1 (ZI E G) (f_J0_coder_7d493 kq σ) 0 [(0, .ref (kA E kq))] [] σ := by
  have F := B.1
  unfold f_J0_coder_7d493
  refine k_comp (pc := 0) F w_2_161 dJ0_coder_7d493_0 ?_
  refine k_if_eq (pc := 3) F 13 dJ0_coder_7d493_3 (by decide) (fun _ => ?_) (fun _ => ?_)
  · refine k_iconst (pc := 13) F (v := (1 : Int32)) dJ0_coder_7d493_13 ci_1 ?_
    exact k_bret (pc := 14) B dJ0_coder_7d493_14
  · refine k_aload_n (pc := 6) F 0 0 dJ0_coder_7d493_6 rfl rfl ?_
    refine k_kcod (pc := 7) F hkq w_7_26 dJ0_coder_7d493_7 ?_
    refine k_goto (pc := 10) F 14 dJ0_coder_7d493_10 (by decide) ?_
    exact k_bret (pc := 14) B dJ0_coder_7d493_14
set_option maxHeartbeats 4000000 in
set_option maxRecDepth 100000 in
theorem ct_J0_coder_7d493 (E : En) (kq : Nat) (hkq : kq < 9) (σ : Mm) : CtI E yJ0_coder_7d493 cJ0_coder_7d493 1 (some .byte) H_J0_coder_7d493 [.ref (kA E kq)] σ (f_J0_coder_7d493 kq σ) := ct_I (by decide +kernel) (Nat.le_of_ble_eq_true rfl) rfl (fun G B => t_J0_coder_7d493 B kq hkq σ)
abbrev H_J0_length_8abf5 : Nat := 1
theorem hR_J0_length_8abf5_J0_coder_7d493 : H_J0_coder_7d493 + 1 ≤ H_J0_length_8abf5 ∧ 8 + (1 + 11) + 40 * H_J0_coder_7d493 ≤ 40 * H_J0_length_8abf5 := by decide
set_option maxHeartbeats 4000000 in
set_option maxRecDepth 100000 in
theorem t_J0_length_8abf5 {E : En} {G : Cx} (B : Bx E G cJ0_length_8abf5 1 RJ0 H_J0_length_8abf5 (some .int)) (kq : Nat) (hkq : kq < 9) (σ : Mm) : KR E G 1 (ZI E G) (f_J0_length_8abf5 kq σ) 0 [(0, .ref (kA E kq))] [] σ := by
  have F := B.1
  unfold f_J0_length_8abf5
  refine k_aload_n (pc := 0) F 0 0 dJ0_length_8abf5_0 rfl rfl ?_
  refine k_kval (pc := 1) F hkq w_7_25 dJ0_length_8abf5_1 ?_
  refine k_klen (pc := 4) F hkq dJ0_length_8abf5_4 ?_
  refine k_aload_n (pc := 5) F 0 0 dJ0_length_8abf5_5 rfl rfl ?_
  refine k_callKI (pc := 6) B (i := kq) hkq rfl (As := []) (rest := [.int (Int32.ofNat (stLen.getD kq 0))]) (ct_J0_coder_7d493 E kq hkq σ) mv_J0_coder_7d493 w_2_157 rfl hR_J0_length_8abf5_J0_coder_7d493 rfl (Nat.le_of_ble_eq_true rfl) dJ0_length_8abf5_6 (fun rq2 σ1 hoq => ?_)
  refine k_ishr (pc := 9) F dJ0_length_8abf5_9 ?_
  exact k_iret (pc := 10) B dJ0_length_8abf5_10
set_option maxHeartbeats 4000000 in
set_option maxRecDepth 100000 in
theorem ct_J0_length_8abf5 (E : En) (kq : Nat) (hkq : kq < 9) (σ : Mm) : CtI E yJ0_length_8abf5 cJ0_length_8abf5 1 (some .int) H_J0_length_8abf5 [.ref (kA E kq)] σ (f_J0_length_8abf5 kq σ) := ct_I (by decide +kernel) (Nat.le_of_ble_eq_true rfl) rfl (fun G B => t_J0_length_8abf5 B kq hkq σ)
abbrev H_X3_isLatest : Nat := 4
theorem hR_X3_isLatest_J0_length_8abf5 : H_J0_length_8abf5 + 1 ≤ H_X3_isLatest ∧ 8 + (1 + 11) + 40 * H_J0_length_8abf5 ≤ 40 * H_X3_isLatest := by decide
theorem hR_X3_isLatest_J0_charAt_5068e : H_J0_charAt_5068e + 1 ≤ H_X3_isLatest ∧ 8 + (2 + 11) + 40 * H_J0_charAt_5068e ≤ 40 * H_X3_isLatest := by decide
set_option maxHeartbeats 4000000 in
set_option maxRecDepth 100000 in
theorem t_X3_isLatest_L20b {E : En} {G : Cx} (B : Bx E G cX3_isLatest 3 RX3 H_X3_isLatest (some .boolean)) (kq1 : Nat) (hkq1 : kq1 < 9)  (L20 : Int32 → Mm → Option (Int32 × Mm)) (hL20 : ∀ (xq2 : Int32)  (σ : Mm), KR E G 3 (ZI E G) (L20 xq2 σ) 20 [(0, .ref (ad E 3)), (1, .ref (kA E kq1)), (2, .int xq2)] [] σ) (xq2 : Int32)  (σ : Mm) : KR E G 3 (ZI E G) (f_X3_isLatest_L20 kq1 L20 xq2 σ) 20 [(0, .ref (ad E 3)), (1, .ref (kA E kq1)), (2, .int xq2)] [] σ := by
  have F := B.1
  unfold f_X3_isLatest_L20
  refine k_iload_n (pc := 20) F 2 2 dX3_isLatest_20 rfl rfl ?_
  refine k_aload_n (pc := 21) F 1 1 dX3_isLatest_21 rfl rfl ?_
  refine k_callKI (pc := 22) B (i := kq1) hkq1 rfl (As := []) (rest := [.int xq2]) (ct_J0_length_8abf5 E kq1 hkq1 σ) mv_J0_length_8abf5 w_2_153 rfl hR_X3_isLatest_J0_length_8abf5 rfl (Nat.le_of_ble_eq_true rfl) dX3_isLatest_22 (fun rq4 σ3 hoq => ?_)
  refine k_icmp_ge (pc := 25) F 58 dX3_isLatest_25 (by decide) (fun _ => ?_) (fun _ => ?_)
  · refine k_iconst (pc := 58) F (v := (1 : Int32)) dX3_isLatest_58 ci_1 ?_
    exact k_zret (pc := 59) B dX3_isLatest_59
  · refine k_aload_n (pc := 28) F 1 1 dX3_isLatest_28 rfl rfl ?_
    refine k_iload_n (pc := 29) F 2 2 dX3_isLatest_29 rfl rfl ?_
    refine k_callKI (pc := 30) B (i := kq1) hkq1 rfl (As := [.int xq2]) (rest := []) (ct_J0_charAt_5068e E kq1 xq2 hkq1 σ3) mv_J0_charAt_5068e w_2_163 rfl hR_X3_isLatest_J0_charAt_5068e rfl (Nat.le_of_ble_eq_true rfl) dX3_isLatest_30 (fun rq6 σ5 hoq => ?_)
    refine k_aload_n (pc := 33) F 0 0 dX3_isLatest_33 rfl rfl ?_
    refine gf_3_0 (pc := 34) F w_1_67 dX3_isLatest_34 ?_
    refine gf_4_0 (pc := 37) F w_1_58 dX3_isLatest_37 ?_
    refine k_aload_n (pc := 40) F 0 0 dX3_isLatest_40 rfl rfl ?_
    refine gf_3_2 (pc := 41) F w_1_70 dX3_isLatest_41 ?_
    refine k_iload_n (pc := 44) F 2 2 dX3_isLatest_44 rfl rfl ?_
    refine k_iadd (pc := 45) F dX3_isLatest_45 ?_
    refine k_iald (pc := 46) F rfl dX3_isLatest_46 ?_
    refine k_icmp_eq (pc := 47) F 52 dX3_isLatest_47 (by decide) (fun _ => ?_) (fun _ => ?_)
    · refine k_iinc (pc := 52) F (c := (1 : Int32)) (lw := fun wq => [(2, .int wq), (0, .ref (ad E 3)), (1, .ref (kA E kq1))]) 2 2 dX3_isLatest_52 rfl ci_1 (by decide) (fun _ => rfl) (fun vq7 => ?_)
      refine k_goto (pc := 55) F 20 dX3_isLatest_55 (by decide) ?_
      exact k_sub [1, 2, 0] rfl (hL20 vq7 σ5)
    · refine k_iconst (pc := 50) F (v := (0 : Int32)) dX3_isLatest_50 ci_0 ?_
      exact k_zret (pc := 51) B dX3_isLatest_51
set_option maxHeartbeats 4000000 in
set_option maxRecDepth 100000 in
theorem t_X3_isLatest_L20 {E : En} {G : Cx} (B : Bx E G cX3_isLatest 3 RX3 H_X3_isLatest (some .boolean)) (kq1 : Nat) (hkq1 : kq1 < 9)  : ∀ (n : Nat) (xq2 : Int32)  (σ : Mm), KR E G 3 (ZI E G) (fx (fun _ _ => none) n (f_X3_isLatest_L20 kq1) xq2 σ) 20 [(0, .ref (ad E 3)), (1, .ref (kA E kq1)), (2, .int xq2)] [] σ :=
  fun n => fx_ind (P := fun f => ∀ (xq2 : Int32)  (σ : Mm), KR E G 3 (ZI E G) (f xq2 σ) 20 [(0, .ref (ad E 3)), (1, .ref (kA E kq1)), (2, .int xq2)] [] σ) (fun _ _ => k_none) (fun L20 hL20 xq2 σ => t_X3_isLatest_L20b B kq1 hkq1  L20 hL20 xq2 σ) n
set_option maxHeartbeats 4000000 in
set_option maxRecDepth 100000 in
theorem t_X3_isLatest {E : En} {G : Cx} (B : Bx E G cX3_isLatest 3 RX3 H_X3_isLatest (some .boolean)) (kq0 : Nat) (hkq0 : kq0 < 9) (σ : Mm) : KR E G 3 (ZI E G) (f_X3_isLatest kq0 σ) 0 [(0, .ref (ad E 3)), (1, .ref (kA E kq0))] [] σ := by
  have F := B.1
  unfold f_X3_isLatest
  refine k_aload_n (pc := 0) F 1 1 dX3_isLatest_0 rfl rfl ?_
  refine k_callKI (pc := 1) B (i := kq0) hkq0 rfl (As := []) (rest := []) (ct_J0_length_8abf5 E kq0 hkq0 σ) mv_J0_length_8abf5 w_2_153 rfl hR_X3_isLatest_J0_length_8abf5 rfl (Nat.le_of_ble_eq_true rfl) dX3_isLatest_1 (fun rq2 σ1 hoq => ?_)
  refine k_aload_n (pc := 4) F 0 0 dX3_isLatest_4 rfl rfl ?_
  refine gf_3_1 (pc := 5) F w_1_69 dX3_isLatest_5 ?_
  refine k_aload_n (pc := 8) F 0 0 dX3_isLatest_8 rfl rfl ?_
  refine gf_3_2 (pc := 9) F w_1_70 dX3_isLatest_9 ?_
  refine k_isub (pc := 12) F dX3_isLatest_12 ?_
  refine k_icmp_eq (pc := 13) F 18 dX3_isLatest_13 (by decide) (fun _ => ?_) (fun _ => ?_)
  · refine k_iconst (pc := 18) F (v := (0 : Int32)) dX3_isLatest_18 ci_0 ?_
    refine k_istore_n F (lv' := [(2, .int (0 : Int32)), (0, .ref (ad E 3)), (1, .ref (kA E kq0))]) 2 dX3_isLatest_19 rfl (by decide) rfl ?_
    exact k_sub [1, 2, 0] rfl (t_X3_isLatest_L20 B kq0 hkq0  FU (0 : Int32)  σ1)
  · refine k_iconst (pc := 16) F (v := (0 : Int32)) dX3_isLatest_16 ci_0 ?_
    exact k_zret (pc := 17) B dX3_isLatest_17
set_option maxHeartbeats 4000000 in
set_option maxRecDepth 100000 in
theorem ct_X3_isLatest (E : En) (kq0 : Nat) (hkq0 : kq0 < 9) (σ : Mm) : CtI E yX3_isLatest cX3_isLatest 3 (some .boolean) H_X3_isLatest [.ref (ad E 3), .ref (kA E kq0)] σ (f_X3_isLatest kq0 σ) := ct_I (by decide) (Nat.le_of_ble_eq_true rfl) rfl (fun G B => t_X3_isLatest B kq0 hkq0 σ)
