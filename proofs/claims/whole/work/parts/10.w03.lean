abbrev H_X9_explore : Nat := 3
theorem hR_X9_explore_X9_indexOf : H_X9_indexOf + 1 ≤ H_X9_explore ∧ 8 + (7 + 11) + 40 * H_X9_indexOf ≤ 40 * H_X9_explore := by decide
theorem hR_X9_explore_X1_moved : H_X1_moved + 1 ≤ H_X9_explore ∧ 8 + (13 + 11) + 40 * H_X1_moved ≤ 40 * H_X9_explore := by decide
set_option maxHeartbeats 4000000 in
set_option maxRecDepth 100000 in
theorem t_X9_explore_111 {E : En} {G : Cx} (B : Bx E G cX9_explore 7 RX9 H_X9_explore none) (xq2 : Int32) (xq3 : Int32) (xqs1 : Int32) (xqs2 : Int32)  (L46 : Int32 → Mm → Option (Unit × Mm)) (hL46 : ∀ (xq3 : Int32)  (σ : Mm), KR E G 7 (ZV E G) (L46 xq3 σ) 46 [(0, .ref (ad E 18)), (1, .ref (ad E 13)), (2, .int xq2), (3, .int xq3)] [] σ)  (σ : Mm) : KR E G 7 (ZV E G) (f_X9_explore_111 L46 xq2 xq3 xqs1 xqs2 σ) 111 [(0, .ref (ad E 18)), (1, .ref (ad E 13)), (2, .int xq2), (3, .int xq3)] [.int xqs2, .int xqs1, .ref (ad E 23)] σ := by
  have F := B.1
  unfold f_X9_explore_111
  refine k_iast (pc := 111) F rfl dX9_explore_111 (fun σ10 => ?_)
  refine k_iinc (pc := 112) F (c := (1 : Int32)) (lw := fun wq => [(3, .int wq), (0, .ref (ad E 18)), (1, .ref (ad E 13)), (2, .int xq2)]) 3 3 dX9_explore_112 rfl ci_1 (by decide) (fun _ => rfl) (fun vq11 => ?_)
  refine k_goto (pc := 115) F 46 dX9_explore_115 (by decide) ?_
  exact k_sub [1, 2, 3, 0] rfl (hL46 vq11 σ10)
set_option maxHeartbeats 4000000 in
set_option maxRecDepth 100000 in
theorem t_X9_explore_L46b {E : En} {G : Cx} (B : Bx E G cX9_explore 7 RX9 H_X9_explore none) (xq2 : Int32)  (K118 : Mm → Option (Unit × Mm)) (hK118 : ∀   (σ : Mm), KR E G 7 (ZV E G) (K118  σ) 118 [(0, .ref (ad E 18)), (1, .ref (ad E 13)), (2, .int xq2)] [] σ)  (L46 : Int32 → Mm → Option (Unit × Mm)) (hL46 : ∀ (xq3 : Int32)  (σ : Mm), KR E G 7 (ZV E G) (L46 xq3 σ) 46 [(0, .ref (ad E 18)), (1, .ref (ad E 13)), (2, .int xq2), (3, .int xq3)] [] σ) (xq3 : Int32)  (σ : Mm) : KR E G 7 (ZV E G) (f_X9_explore_L46 K118 xq2 L46 xq3 σ) 46 [(0, .ref (ad E 18)), (1, .ref (ad E 13)), (2, .int xq2), (3, .int xq3)] [] σ := by
  have F := B.1
  unfold f_X9_explore_L46
  refine k_iload_n (pc := 46) F 3 3 dX9_explore_46 rfl rfl ?_
  refine k_bipush (pc := 47) F (v := (6 : Int32)) dX9_explore_47 cb_6 ?_
  refine k_icmp_ge (pc := 49) F 118 dX9_explore_49 (by decide) (fun _ => ?_) (fun _ => ?_)
  · exact k_sub [0, 1, 2] rfl (hK118 σ)
  · refine k_aload_n (pc := 52) F 0 0 dX9_explore_52 rfl rfl ?_
    refine gf_18_8 (pc := 53) F w_1_188 dX9_explore_53 ?_
    refine k_if_ne (pc := 56) F 118 dX9_explore_56 (by decide) (fun _ => ?_) (fun _ => ?_)
    · refine k_aload_n (pc := 59) F 1 1 dX9_explore_59 rfl rfl ?_
      refine k_aload_n (pc := 60) F 0 0 dX9_explore_60 rfl rfl ?_
      refine gf_18_0 (pc := 61) F w_1_179 dX9_explore_61 ?_
      refine k_iload_n (pc := 64) F 2 2 dX9_explore_64 rfl rfl ?_
      refine k_lald (pc := 65) F rfl dX9_explore_65 ?_
      refine k_iload_n (pc := 66) F 3 3 dX9_explore_66 rfl rfl ?_
      refine k_aload_n (pc := 67) F 1 1 dX9_explore_67 rfl rfl ?_
      refine gf_13_1 (pc := 68) F w_1_148 dX9_explore_68 ?_
      refine k_callVL (pc := 71) B (k := 13) (As := [.long (σ.2 19 (ix xq2)), .int xq3, .int (σ.1 13 1)]) (rest := []) (ct_X1_moved E (σ.2 19 (ix xq2)) xq3 (σ.1 13 1)  σ) rfl rfl mv_X1_moved w_3_72 rfl hR_X9_explore_X1_moved rfl (Nat.le_of_ble_eq_true rfl) dX9_explore_71 (fun rq6 σ5 hoq => ?_)
      refine k_lstore F (lv' := [(4, .long rq6), (0, .ref (ad E 18)), (1, .ref (ad E 13)), (2, .int xq2), (3, .int xq3)]) 4 dX9_explore_74 (by decide) rfl ?_
      refine k_iload_n (pc := 76) F 2 3 dX9_explore_76 rfl rfl ?_
      refine k_bipush (pc := 77) F (v := (6 : Int32)) dX9_explore_77 cb_6 ?_
      refine k_imul (pc := 79) F dX9_explore_79 ?_
      refine k_iload_n (pc := 80) F 3 4 dX9_explore_80 rfl rfl ?_
      refine k_iadd (pc := 81) F dX9_explore_81 ?_
      refine k_nmI (fun vq7 => ?_)
      refine k_istore F (lv' := [(6, .int vq7), (4, .long rq6), (0, .ref (ad E 18)), (1, .ref (ad E 13)), (2, .int xq2), (3, .int xq3)]) 6 dX9_explore_82 (by decide) rfl ?_
      refine k_aload_n (pc := 84) F 0 2 dX9_explore_84 rfl rfl ?_
      refine gf_18_4 (pc := 85) F w_1_183 dX9_explore_85 ?_
      refine k_iload (pc := 88) F 6 0 dX9_explore_88 rfl ?_
      refine k_lload (pc := 90) F 4 1 dX9_explore_90 rfl ?_
      refine k_ldc2 (pc := 92) F (v := (-1 : Int64)) w_3_113 dX9_explore_92 ?_
      refine k_lcmp (pc := 95) F dX9_explore_95 ?_
      refine k_if_ne (pc := 96) F 103 dX9_explore_96 (by decide) (fun _ => ?_) (fun _ => ?_)
      · refine k_iconst (pc := 99) F (v := (-1 : Int32)) dX9_explore_99 ci_m1 ?_
        refine k_goto (pc := 100) F 111 dX9_explore_100 (by decide) ?_
        exact k_sub [2, 3, 4, 5] rfl (t_X9_explore_111 B xq2 xq3 vq7 (-1 : Int32)  L46 hL46  σ5)
      · refine k_aload_n (pc := 103) F 0 2 dX9_explore_103 rfl rfl ?_
        refine k_lload (pc := 104) F 4 1 dX9_explore_104 rfl ?_
        refine k_iload (pc := 106) F 6 0 dX9_explore_106 rfl ?_
        refine k_callVI (pc := 108) B (k := 18) (As := [.long rq6, .int vq7]) (rest := [.int vq7, .ref (ad E 23)]) (ct_X9_indexOf E rq6 vq7  σ5) rfl rfl mv_X9_indexOf w_3_63 rfl hR_X9_explore_X9_indexOf rfl (Nat.le_of_ble_eq_true rfl) dX9_explore_108 (fun rq9 σ8 hoq => ?_)
        exact k_sub [2, 3, 4, 5] rfl (t_X9_explore_111 B xq2 xq3 vq7 rq9  L46 hL46  σ8)
    · exact k_sub [0, 1, 2] rfl (hK118 σ)
set_option maxHeartbeats 4000000 in
set_option maxRecDepth 100000 in
theorem t_X9_explore_L46 {E : En} {G : Cx} (B : Bx E G cX9_explore 7 RX9 H_X9_explore none) (xq2 : Int32)  (K118 : Mm → Option (Unit × Mm)) (hK118 : ∀   (σ : Mm), KR E G 7 (ZV E G) (K118  σ) 118 [(0, .ref (ad E 18)), (1, .ref (ad E 13)), (2, .int xq2)] [] σ)  : ∀ (n : Nat) (xq3 : Int32)  (σ : Mm), KR E G 7 (ZV E G) (fx (fun _ _ => none) n (f_X9_explore_L46 K118 xq2) xq3 σ) 46 [(0, .ref (ad E 18)), (1, .ref (ad E 13)), (2, .int xq2), (3, .int xq3)] [] σ :=
  fun n => fx_ind (P := fun f => ∀ (xq3 : Int32)  (σ : Mm), KR E G 7 (ZV E G) (f xq3 σ) 46 [(0, .ref (ad E 18)), (1, .ref (ad E 13)), (2, .int xq2), (3, .int xq3)] [] σ) (fun _ _ => k_none) (fun L46 hL46 xq3 σ => t_X9_explore_L46b B xq2  K118 hK118  L46 hL46 xq3 σ) n
set_option maxHeartbeats 4000000 in
set_option maxRecDepth 100000 in
theorem t_X9_explore_118 {E : En} {G : Cx} (B : Bx E G cX9_explore 7 RX9 H_X9_explore none) (xq2 : Int32)  (L22 : Int32 → Mm → Option (Unit × Mm)) (hL22 : ∀ (xq2 : Int32)  (σ : Mm), KR E G 7 (ZV E G) (L22 xq2 σ) 22 [(0, .ref (ad E 18)), (1, .ref (ad E 13)), (2, .int xq2)] [] σ)  (σ : Mm) : KR E G 7 (ZV E G) (f_X9_explore_118 L22 xq2 σ) 118 [(0, .ref (ad E 18)), (1, .ref (ad E 13)), (2, .int xq2)] [] σ := by
  have F := B.1
  unfold f_X9_explore_118
  refine k_iinc (pc := 118) F (c := (1 : Int32)) (lw := fun wq => [(2, .int wq), (0, .ref (ad E 18)), (1, .ref (ad E 13))]) 2 2 dX9_explore_118 rfl ci_1 (by decide) (fun _ => rfl) (fun vq12 => ?_)
  refine k_goto (pc := 121) F 22 dX9_explore_121 (by decide) ?_
  exact k_sub [1, 2, 0] rfl (hL22 vq12 σ)
set_option maxHeartbeats 4000000 in
set_option maxRecDepth 100000 in
theorem t_X9_explore_L22b {E : En} {G : Cx} (B : Bx E G cX9_explore 7 RX9 H_X9_explore none)    (L22 : Int32 → Mm → Option (Unit × Mm)) (hL22 : ∀ (xq2 : Int32)  (σ : Mm), KR E G 7 (ZV E G) (L22 xq2 σ) 22 [(0, .ref (ad E 18)), (1, .ref (ad E 13)), (2, .int xq2)] [] σ) (xq2 : Int32)  (σ : Mm) : KR E G 7 (ZV E G) (f_X9_explore_L22  L22 xq2 σ) 22 [(0, .ref (ad E 18)), (1, .ref (ad E 13)), (2, .int xq2)] [] σ := by
  have F := B.1
  unfold f_X9_explore_L22
  refine k_iload_n (pc := 22) F 2 2 dX9_explore_22 rfl rfl ?_
  refine k_sipush (pc := 23) F (v := (6000 : Int32)) dX9_explore_23 cs_6000 ?_
  refine k_icmp_ge (pc := 26) F 124 dX9_explore_26 (by decide) (fun _ => ?_) (fun _ => ?_)
  · exact k_vret (pc := 124) B dX9_explore_124
  · refine k_iload_n (pc := 29) F 2 2 dX9_explore_29 rfl rfl ?_
    refine k_aload_n (pc := 30) F 0 0 dX9_explore_30 rfl rfl ?_
    refine gf_18_7 (pc := 31) F w_1_186 dX9_explore_31 ?_
    refine k_icmp_ge (pc := 34) F 124 dX9_explore_34 (by decide) (fun _ => ?_) (fun _ => ?_)
    · exact k_vret (pc := 124) B dX9_explore_124
    · refine k_aload_n (pc := 37) F 0 0 dX9_explore_37 rfl rfl ?_
      refine gf_18_8 (pc := 38) F w_1_188 dX9_explore_38 ?_
      refine k_if_ne (pc := 41) F 124 dX9_explore_41 (by decide) (fun _ => ?_) (fun _ => ?_)
      · refine k_iconst (pc := 44) F (v := (0 : Int32)) dX9_explore_44 ci_0 ?_
        refine k_istore_n F (lv' := [(3, .int (0 : Int32)), (0, .ref (ad E 18)), (1, .ref (ad E 13)), (2, .int xq2)]) 3 dX9_explore_45 rfl (by decide) rfl ?_
        exact k_sub [1, 2, 3, 0] rfl (t_X9_explore_L46 B xq2  _ (fun   σ => by
              exact k_sub [0, 1, 2] rfl (t_X9_explore_118 B xq2  L22 hL22  σ)) FU (0 : Int32)  σ)
      · exact k_vret (pc := 124) B dX9_explore_124
set_option maxHeartbeats 4000000 in
set_option maxRecDepth 100000 in
theorem t_X9_explore_L22 {E : En} {G : Cx} (B : Bx E G cX9_explore 7 RX9 H_X9_explore none)    : ∀ (n : Nat) (xq2 : Int32)  (σ : Mm), KR E G 7 (ZV E G) (fx (fun _ _ => none) n (f_X9_explore_L22 ) xq2 σ) 22 [(0, .ref (ad E 18)), (1, .ref (ad E 13)), (2, .int xq2)] [] σ :=
  fun n => fx_ind (P := fun f => ∀ (xq2 : Int32)  (σ : Mm), KR E G 7 (ZV E G) (f xq2 σ) 22 [(0, .ref (ad E 18)), (1, .ref (ad E 13)), (2, .int xq2)] [] σ) (fun _ _ => k_none) (fun L22 hL22 xq2 σ => t_X9_explore_L22b B    L22 hL22 xq2 σ) n
set_option maxHeartbeats 4000000 in
set_option maxRecDepth 100000 in
theorem t_X9_explore {E : En} {G : Cx} (B : Bx E G cX9_explore 7 RX9 H_X9_explore none)   (σ : Mm) : KR E G 7 (ZV E G) (f_X9_explore  σ) 0 [(0, .ref (ad E 18)), (1, .ref (ad E 13))] [] σ := by
  have F := B.1
  unfold f_X9_explore
  refine k_aload_n (pc := 0) F 0 0 dX9_explore_0 rfl rfl ?_
  refine k_iconst (pc := 1) F (v := (0 : Int32)) dX9_explore_1 ci_0 ?_
  refine pf_18_7 (pc := 2) F w_1_186 dX9_explore_2 (fun σ1 => ?_)
  refine k_aload_n (pc := 5) F 0 0 dX9_explore_5 rfl rfl ?_
  refine k_iconst (pc := 6) F (v := (0 : Int32)) dX9_explore_6 ci_0 ?_
  refine pf_18_8 (pc := 7) F w_1_188 dX9_explore_7 (fun σ2 => ?_)
  refine k_aload_n (pc := 10) F 0 0 dX9_explore_10 rfl rfl ?_
  refine k_aload_n (pc := 11) F 1 1 dX9_explore_11 rfl rfl ?_
  refine gf_13_2 (pc := 12) F w_1_150 dX9_explore_12 ?_
  refine k_iconst (pc := 15) F (v := (-1 : Int32)) dX9_explore_15 ci_m1 ?_
  refine k_callVI (pc := 16) B (k := 18) (As := [.long (σ2.2 13 2), .int (-1 : Int32)]) (rest := []) (ct_X9_indexOf E (σ2.2 13 2) (-1 : Int32)  σ2) rfl rfl mv_X9_indexOf w_3_63 rfl hR_X9_explore_X9_indexOf rfl (Nat.le_of_ble_eq_true rfl) dX9_explore_16 (fun rq4 σ3 hoq => ?_)
  refine k_pop (pc := 19) F dX9_explore_19 rfl ?_
  refine k_iconst (pc := 20) F (v := (0 : Int32)) dX9_explore_20 ci_0 ?_
  refine k_istore_n F (lv' := [(2, .int (0 : Int32)), (0, .ref (ad E 18)), (1, .ref (ad E 13))]) 2 dX9_explore_21 rfl (by decide) rfl ?_
  exact k_sub [1, 2, 0] rfl (t_X9_explore_L22 B    FU (0 : Int32)  σ3)
set_option maxHeartbeats 4000000 in
set_option maxRecDepth 100000 in
theorem ct_X9_explore (E : En)   (σ : Mm) : CtV E yX9_explore cX9_explore 7 none H_X9_explore [.ref (ad E 18), .ref (ad E 13)] σ (f_X9_explore  σ) := ct_V (by decide) (Nat.le_of_ble_eq_true rfl) rfl (fun G B => t_X9_explore B   σ)
abbrev H_X9_gatherEnds : Nat := 3
theorem hR_X9_gatherEnds_X1_isEnd : H_X1_isEnd + 1 ≤ H_X9_gatherEnds ∧ 8 + (4 + 11) + 40 * H_X1_isEnd ≤ 40 * H_X9_gatherEnds := by decide
theorem hR_X9_gatherEnds_X4_include : H_X4_include + 1 ≤ H_X9_gatherEnds ∧ 8 + (3 + 11) + 40 * H_X4_include ≤ 40 * H_X9_gatherEnds := by decide
theorem hR_X9_gatherEnds_X1_resultOf : H_X1_resultOf + 1 ≤ H_X9_gatherEnds ∧ 8 + (6 + 11) + 40 * H_X1_resultOf ≤ 40 * H_X9_gatherEnds := by decide
set_option maxHeartbeats 4000000 in
set_option maxRecDepth 100000 in
theorem t_X9_gatherEnds_42 {E : En} {G : Cx} (B : Bx E G cX9_gatherEnds 4 RX9 H_X9_gatherEnds none) (xq3 : Int32)  (L7 : Int32 → Mm → Option (Unit × Mm)) (hL7 : ∀ (xq3 : Int32)  (σ : Mm), KR E G 4 (ZV E G) (L7 xq3 σ) 7 [(0, .ref (ad E 18)), (1, .ref (ad E 13)), (2, .ref (ad E 26)), (3, .int xq3)] [] σ)  (σ : Mm) : KR E G 4 (ZV E G) (f_X9_gatherEnds_42 L7 xq3 σ) 42 [(0, .ref (ad E 18)), (1, .ref (ad E 13)), (2, .ref (ad E 26)), (3, .int xq3)] [] σ := by
  have F := B.1
  unfold f_X9_gatherEnds_42
  refine k_iinc (pc := 42) F (c := (1 : Int32)) (lw := fun wq => [(3, .int wq), (0, .ref (ad E 18)), (1, .ref (ad E 13)), (2, .ref (ad E 26))]) 3 3 dX9_gatherEnds_42 rfl ci_1 (by decide) (fun _ => rfl) (fun vq4 => ?_)
  refine k_goto (pc := 45) F 7 dX9_gatherEnds_45 (by decide) ?_
  exact k_sub [1, 2, 3, 0] rfl (hL7 vq4 σ)
set_option maxHeartbeats 4000000 in
set_option maxRecDepth 100000 in
theorem t_X9_gatherEnds_L7b {E : En} {G : Cx} (B : Bx E G cX9_gatherEnds 4 RX9 H_X9_gatherEnds none)    (L7 : Int32 → Mm → Option (Unit × Mm)) (hL7 : ∀ (xq3 : Int32)  (σ : Mm), KR E G 4 (ZV E G) (L7 xq3 σ) 7 [(0, .ref (ad E 18)), (1, .ref (ad E 13)), (2, .ref (ad E 26)), (3, .int xq3)] [] σ) (xq3 : Int32)  (σ : Mm) : KR E G 4 (ZV E G) (f_X9_gatherEnds_L7  L7 xq3 σ) 7 [(0, .ref (ad E 18)), (1, .ref (ad E 13)), (2, .ref (ad E 26)), (3, .int xq3)] [] σ := by
  have F := B.1
  unfold f_X9_gatherEnds_L7
  refine k_iload_n (pc := 7) F 3 3 dX9_gatherEnds_7 rfl rfl ?_
  refine k_aload_n (pc := 8) F 0 0 dX9_gatherEnds_8 rfl rfl ?_
  refine gf_18_7 (pc := 9) F w_1_186 dX9_gatherEnds_9 ?_
  refine k_icmp_ge (pc := 12) F 48 dX9_gatherEnds_12 (by decide) (fun _ => ?_) (fun _ => ?_)
  · exact k_vret (pc := 48) B dX9_gatherEnds_48
  · refine k_aload_n (pc := 15) F 1 1 dX9_gatherEnds_15 rfl rfl ?_
    refine k_aload_n (pc := 16) F 0 0 dX9_gatherEnds_16 rfl rfl ?_
    refine gf_18_0 (pc := 17) F w_1_179 dX9_gatherEnds_17 ?_
    refine k_iload_n (pc := 20) F 3 3 dX9_gatherEnds_20 rfl rfl ?_
    refine k_lald (pc := 21) F rfl dX9_gatherEnds_21 ?_
    refine k_callVI (pc := 22) B (k := 13) (As := [.long (σ.2 19 (ix xq3))]) (rest := []) (ct_X1_isEnd E (σ.2 19 (ix xq3))  σ) rfl rfl mv_X1_isEnd w_3_118 rfl hR_X9_gatherEnds_X1_isEnd rfl (Nat.le_of_ble_eq_true rfl) dX9_gatherEnds_22 (fun rq3 σ2 hoq => ?_)
    refine k_if_eq (pc := 25) F 42 dX9_gatherEnds_25 (by decide) (fun _ => ?_) (fun _ => ?_)
    · exact k_sub [0, 1, 2, 3] rfl (t_X9_gatherEnds_42 B xq3  L7 hL7  σ2)
    · refine k_aload_n (pc := 28) F 2 2 dX9_gatherEnds_28 rfl rfl ?_
      refine k_aload_n (pc := 29) F 1 1 dX9_gatherEnds_29 rfl rfl ?_
      refine k_aload_n (pc := 30) F 0 0 dX9_gatherEnds_30 rfl rfl ?_
      refine gf_18_0 (pc := 31) F w_1_179 dX9_gatherEnds_31 ?_
      refine k_iload_n (pc := 34) F 3 3 dX9_gatherEnds_34 rfl rfl ?_
      refine k_lald (pc := 35) F rfl dX9_gatherEnds_35 ?_
      refine k_callVI (pc := 36) B (k := 13) (As := [.long (σ2.2 19 (ix xq3))]) (rest := [.ref (ad E 26)]) (ct_X1_resultOf E (σ2.2 19 (ix xq3))  σ2) rfl rfl mv_X1_resultOf w_3_126 rfl hR_X9_gatherEnds_X1_resultOf rfl (Nat.le_of_ble_eq_true rfl) dX9_gatherEnds_36 (fun rq6 σ5 hoq => ?_)
      refine k_callVV (pc := 39) B (k := 26) (As := [.int rq6]) (rest := []) (ct_X4_include E 26 rq6 isRow_26 σ5) rfl rfl mv_X4_include w_3_130 rfl hR_X9_gatherEnds_X4_include rfl (Nat.le_of_ble_eq_true rfl) dX9_gatherEnds_39 (fun rq8 σ7 hoq => ?_)
      exact k_sub [0, 1, 2, 3] rfl (t_X9_gatherEnds_42 B xq3  L7 hL7  σ7)
set_option maxHeartbeats 4000000 in
set_option maxRecDepth 100000 in
theorem t_X9_gatherEnds_L7 {E : En} {G : Cx} (B : Bx E G cX9_gatherEnds 4 RX9 H_X9_gatherEnds none)    : ∀ (n : Nat) (xq3 : Int32)  (σ : Mm), KR E G 4 (ZV E G) (fx (fun _ _ => none) n (f_X9_gatherEnds_L7 ) xq3 σ) 7 [(0, .ref (ad E 18)), (1, .ref (ad E 13)), (2, .ref (ad E 26)), (3, .int xq3)] [] σ :=
  fun n => fx_ind (P := fun f => ∀ (xq3 : Int32)  (σ : Mm), KR E G 4 (ZV E G) (f xq3 σ) 7 [(0, .ref (ad E 18)), (1, .ref (ad E 13)), (2, .ref (ad E 26)), (3, .int xq3)] [] σ) (fun _ _ => k_none) (fun L7 hL7 xq3 σ => t_X9_gatherEnds_L7b B    L7 hL7 xq3 σ) n
set_option maxHeartbeats 4000000 in
set_option maxRecDepth 100000 in
theorem t_X9_gatherEnds {E : En} {G : Cx} (B : Bx E G cX9_gatherEnds 4 RX9 H_X9_gatherEnds none)   (σ : Mm) : KR E G 4 (ZV E G) (f_X9_gatherEnds  σ) 0 [(0, .ref (ad E 18)), (1, .ref (ad E 13)), (2, .ref (ad E 26))] [] σ := by
  have F := B.1
  unfold f_X9_gatherEnds
  refine k_aload_n (pc := 0) F 2 2 dX9_gatherEnds_0 rfl rfl ?_
  refine k_iconst (pc := 1) F (v := (0 : Int32)) dX9_gatherEnds_1 ci_0 ?_
  refine pf_isRow_1 (pc := 2) F isRow_26 w_1_224 dX9_gatherEnds_2 (fun σ1 => ?_)
  refine k_iconst (pc := 5) F (v := (0 : Int32)) dX9_gatherEnds_5 ci_0 ?_
  refine k_istore_n F (lv' := [(3, .int (0 : Int32)), (0, .ref (ad E 18)), (1, .ref (ad E 13)), (2, .ref (ad E 26))]) 3 dX9_gatherEnds_6 rfl (by decide) rfl ?_
  exact k_sub [1, 2, 3, 0] rfl (t_X9_gatherEnds_L7 B    FU (0 : Int32)  σ1)
set_option maxHeartbeats 4000000 in
set_option maxRecDepth 100000 in
theorem ct_X9_gatherEnds (E : En)   (σ : Mm) : CtV E yX9_gatherEnds cX9_gatherEnds 4 none H_X9_gatherEnds [.ref (ad E 18), .ref (ad E 13), .ref (ad E 26)] σ (f_X9_gatherEnds  σ) := ct_V (by decide) (Nat.le_of_ble_eq_true rfl) rfl (fun G B => t_X9_gatherEnds B   σ)
abbrev H_X7_goThrough : Nat := 4
theorem hR_X7_goThrough_X9_gatherEnds : H_X9_gatherEnds + 1 ≤ H_X7_goThrough ∧ 8 + (4 + 11) + 40 * H_X9_gatherEnds ≤ 40 * H_X7_goThrough := by decide
theorem hR_X7_goThrough_X9_explore : H_X9_explore + 1 ≤ H_X7_goThrough ∧ 8 + (7 + 11) + 40 * H_X9_explore ≤ 40 * H_X7_goThrough := by decide
theorem hR_X7_goThrough_X1_load : H_X1_load + 1 ≤ H_X7_goThrough ∧ 8 + (5 + 11) + 40 * H_X1_load ≤ 40 * H_X7_goThrough := by decide
set_option maxHeartbeats 4000000 in
set_option maxRecDepth 100000 in
theorem t_X7_goThrough {E : En} {G : Cx} (B : Bx E G cX7_goThrough 3 RX7 H_X7_goThrough none) (aq0 : Int64)  (σ : Mm) : KR E G 3 (ZV E G) (f_X7_goThrough aq0 σ) 0 [(0, .ref (ad E 6)), (1, .long aq0)] [] σ := by
  have F := B.1
  unfold f_X7_goThrough
  refine k_aload_n (pc := 0) F 0 0 dX7_goThrough_0 rfl rfl ?_
  refine gf_6_1 (pc := 1) F w_1_233 dX7_goThrough_1 ?_
  refine k_aload_n (pc := 4) F 0 0 dX7_goThrough_4 rfl rfl ?_
  refine gf_6_0 (pc := 5) F w_1_231 dX7_goThrough_5 ?_
  refine k_lload_n (pc := 8) F 1 1 dX7_goThrough_8 rfl rfl ?_
  refine k_callVV (pc := 9) B (k := 13) (As := [.ref (ad E 7), .long aq0]) (rest := []) (ct_X1_load E aq0  σ) rfl rfl mv_X1_load w_3_50 rfl hR_X7_goThrough_X1_load rfl (Nat.le_of_ble_eq_true rfl) dX7_goThrough_9 (fun rq2 σ1 hoq => ?_)
  refine k_aload_n (pc := 12) F 0 0 dX7_goThrough_12 rfl rfl ?_
  refine gf_6_2 (pc := 13) F w_1_235 dX7_goThrough_13 ?_
  refine k_aload_n (pc := 16) F 0 0 dX7_goThrough_16 rfl rfl ?_
  refine gf_6_1 (pc := 17) F w_1_233 dX7_goThrough_17 ?_
  refine k_callVV (pc := 20) B (k := 18) (As := [.ref (ad E 13)]) (rest := []) (ct_X9_explore E   σ1) rfl rfl mv_X9_explore w_3_59 rfl hR_X7_goThrough_X9_explore rfl (Nat.le_of_ble_eq_true rfl) dX7_goThrough_20 (fun rq4 σ3 hoq => ?_)
  refine k_aload_n (pc := 23) F 0 0 dX7_goThrough_23 rfl rfl ?_
  refine gf_6_2 (pc := 24) F w_1_235 dX7_goThrough_24 ?_
  refine k_aload_n (pc := 27) F 0 0 dX7_goThrough_27 rfl rfl ?_
  refine gf_6_1 (pc := 28) F w_1_233 dX7_goThrough_28 ?_
  refine k_aload_n (pc := 31) F 0 0 dX7_goThrough_31 rfl rfl ?_
  refine gf_6_3 (pc := 32) F w_1_237 dX7_goThrough_32 ?_
  refine k_callVV (pc := 35) B (k := 18) (As := [.ref (ad E 13), .ref (ad E 26)]) (rest := []) (ct_X9_gatherEnds E   σ3) rfl rfl mv_X9_gatherEnds w_3_114 rfl hR_X7_goThrough_X9_gatherEnds rfl (Nat.le_of_ble_eq_true rfl) dX7_goThrough_35 (fun rq6 σ5 hoq => ?_)
  exact k_vret (pc := 38) B dX7_goThrough_38
set_option maxHeartbeats 4000000 in
set_option maxRecDepth 100000 in
theorem ct_X7_goThrough (E : En) (aq0 : Int64)  (σ : Mm) : CtV E yX7_goThrough cX7_goThrough 3 none H_X7_goThrough [.ref (ad E 6), .long aq0] σ (f_X7_goThrough aq0 σ) := ct_V (by decide) (Nat.le_of_ble_eq_true rfl) rfl (fun G B => t_X7_goThrough B aq0  σ)
abbrev H_X7_isTooLarge : Nat := 5
theorem hR_X7_isTooLarge_X7_goThrough : H_X7_goThrough + 1 ≤ H_X7_isTooLarge ∧ 8 + (3 + 11) + 40 * H_X7_goThrough ≤ 40 * H_X7_isTooLarge := by decide
set_option maxHeartbeats 4000000 in
set_option maxRecDepth 100000 in
theorem t_X7_isTooLarge {E : En} {G : Cx} (B : Bx E G cX7_isTooLarge 1 RX7 H_X7_isTooLarge (some .boolean))   (σ : Mm) : KR E G 1 (ZI E G) (f_X7_isTooLarge  σ) 0 [(0, .ref (ad E 6))] [] σ := by
  have F := B.1
  unfold f_X7_isTooLarge
  refine k_aload_n (pc := 0) F 0 0 dX7_isTooLarge_0 rfl rfl ?_
  refine gf_6_6 (pc := 1) F w_2_1 dX7_isTooLarge_1 ?_
  refine k_if_ne (pc := 4) F 17 dX7_isTooLarge_4 (by decide) (fun _ => ?_) (fun _ => ?_)
  · refine k_aload_n (pc := 7) F 0 0 dX7_isTooLarge_7 rfl rfl ?_
    refine k_lconst (pc := 8) F (v := (0 : Int64)) dX7_isTooLarge_8 cl_0 ?_
    refine k_callVV (pc := 9) B (k := 6) (As := [.long (0 : Int64)]) (rest := []) (ct_X7_goThrough E (0 : Int64)  σ) rfl rfl mv_X7_goThrough w_3_46 rfl hR_X7_isTooLarge_X7_goThrough rfl (Nat.le_of_ble_eq_true rfl) dX7_isTooLarge_9 (fun rq2 σ1 hoq => ?_)
    refine k_aload_n (pc := 12) F 0 0 dX7_isTooLarge_12 rfl rfl ?_
    refine k_iconst (pc := 13) F (v := (1 : Int32)) dX7_isTooLarge_13 ci_1 ?_
    refine pf_6_6 (pc := 14) F w_2_1 dX7_isTooLarge_14 (fun σ3 => ?_)
    refine k_aload_n (pc := 17) F 0 0 dX7_isTooLarge_17 rfl rfl ?_
    refine gf_6_2 (pc := 18) F w_1_235 dX7_isTooLarge_18 ?_
    refine gf_18_8 (pc := 21) F w_1_189 dX7_isTooLarge_21 ?_
    exact k_zret (pc := 24) B dX7_isTooLarge_24
  · refine k_aload_n (pc := 17) F 0 0 dX7_isTooLarge_17 rfl rfl ?_
    refine gf_6_2 (pc := 18) F w_1_235 dX7_isTooLarge_18 ?_
    refine gf_18_8 (pc := 21) F w_1_189 dX7_isTooLarge_21 ?_
    exact k_zret (pc := 24) B dX7_isTooLarge_24
set_option maxHeartbeats 4000000 in
set_option maxRecDepth 100000 in
theorem ct_X7_isTooLarge (E : En)   (σ : Mm) : CtI E yX7_isTooLarge cX7_isTooLarge 1 (some .boolean) H_X7_isTooLarge [.ref (ad E 6)] σ (f_X7_isTooLarge  σ) := ct_I (by decide) (Nat.le_of_ble_eq_true rfl) rfl (fun G B => t_X7_isTooLarge B   σ)
abbrev H_X7_countBad : Nat := 2
theorem hR_X7_countBad_X4_holds : H_X4_holds + 1 ≤ H_X7_countBad ∧ 8 + (3 + 11) + 40 * H_X4_holds ≤ 40 * H_X7_countBad := by decide
set_option maxHeartbeats 4000000 in
set_option maxRecDepth 100000 in
theorem t_X7_countBad_34 {E : En} {G : Cx} (B : Bx E G cX7_countBad 4 RX7 H_X7_countBad (some .int)) (xq2 : Int32) (xq3 : Int32)  (L4 : Int32 → Int32 → Mm → Option (Int32 × Mm)) (hL4 : ∀ (xq2 : Int32) (xq3 : Int32)  (σ : Mm), KR E G 4 (ZI E G) (L4 xq2 xq3 σ) 4 [(0, .ref (ad E 6)), (1, .ref (ad E 28)), (2, .int xq2), (3, .int xq3)] [] σ)  (σ : Mm) : KR E G 4 (ZI E G) (f_X7_countBad_34 L4 xq2 xq3 σ) 34 [(0, .ref (ad E 6)), (1, .ref (ad E 28)), (2, .int xq2), (3, .int xq3)] [] σ := by
  have F := B.1
  unfold f_X7_countBad_34
  refine k_iinc (pc := 34) F (c := (1 : Int32)) (lw := fun wq => [(3, .int wq), (0, .ref (ad E 6)), (1, .ref (ad E 28)), (2, .int xq2)]) 3 3 dX7_countBad_34 rfl ci_1 (by decide) (fun _ => rfl) (fun vq3 => ?_)
  refine k_goto (pc := 37) F 4 dX7_countBad_37 (by decide) ?_
  exact k_sub [1, 2, 3, 0] rfl (hL4 xq2 vq3 σ)
set_option maxHeartbeats 4000000 in
set_option maxRecDepth 100000 in
theorem t_X7_countBad_L4b {E : En} {G : Cx} (B : Bx E G cX7_countBad 4 RX7 H_X7_countBad (some .int))    (L4 : Int32 → Int32 → Mm → Option (Int32 × Mm)) (hL4 : ∀ (xq2 : Int32) (xq3 : Int32)  (σ : Mm), KR E G 4 (ZI E G) (L4 xq2 xq3 σ) 4 [(0, .ref (ad E 6)), (1, .ref (ad E 28)), (2, .int xq2), (3, .int xq3)] [] σ) (xq2 : Int32) (xq3 : Int32)  (σ : Mm) : KR E G 4 (ZI E G) (f_X7_countBad_L4  L4 xq2 xq3 σ) 4 [(0, .ref (ad E 6)), (1, .ref (ad E 28)), (2, .int xq2), (3, .int xq3)] [] σ := by
  have F := B.1
  unfold f_X7_countBad_L4
  refine k_iload_n (pc := 4) F 3 3 dX7_countBad_4 rfl rfl ?_
  refine k_aload_n (pc := 5) F 0 0 dX7_countBad_5 rfl rfl ?_
  refine gf_6_3 (pc := 6) F w_1_237 dX7_countBad_6 ?_
  refine gf_isRow_1 (pc := 9) F isRow_26 w_1_223 dX7_countBad_9 ?_
  refine k_icmp_ge (pc := 12) F 40 dX7_countBad_12 (by decide) (fun _ => ?_) (fun _ => ?_)
  · refine k_iload_n (pc := 40) F 2 2 dX7_countBad_40 rfl rfl ?_
    exact k_iret (pc := 41) B dX7_countBad_41
  · refine k_aload_n (pc := 15) F 1 1 dX7_countBad_15 rfl rfl ?_
    refine k_aload_n (pc := 16) F 0 0 dX7_countBad_16 rfl rfl ?_
    refine gf_6_3 (pc := 17) F w_1_237 dX7_countBad_17 ?_
    refine gf_isRow_0 (pc := 20) F isRow_26 w_1_220 dX7_countBad_20 ?_
    refine k_iload_n (pc := 23) F 3 3 dX7_countBad_23 rfl rfl ?_
    refine k_iald (pc := 24) F rfl dX7_countBad_24 ?_
    refine k_callVI (pc := 25) B (k := 28) (As := [.int (σ.1 27 (ix xq3))]) (rest := []) (ct_X4_holds E (σ.1 27 (ix xq3))  σ) rfl rfl mv_X4_holds w_3_181 rfl hR_X7_countBad_X4_holds rfl (Nat.le_of_ble_eq_true rfl) dX7_countBad_25 (fun rq2 σ1 hoq => ?_)
    refine k_if_ne (pc := 28) F 34 dX7_countBad_28 (by decide) (fun _ => ?_) (fun _ => ?_)
    · refine k_iinc (pc := 31) F (c := (1 : Int32)) (lw := fun wq => [(2, .int wq), (0, .ref (ad E 6)), (1, .ref (ad E 28)), (3, .int xq3)]) 2 2 dX7_countBad_31 rfl ci_1 (by decide) (fun _ => rfl) (fun vq4 => ?_)
      exact k_sub [1, 2, 0, 3] rfl (t_X7_countBad_34 B vq4 xq3  L4 hL4  σ1)
    · exact k_sub [0, 1, 2, 3] rfl (t_X7_countBad_34 B xq2 xq3  L4 hL4  σ1)
set_option maxHeartbeats 4000000 in
set_option maxRecDepth 100000 in
theorem t_X7_countBad_L4 {E : En} {G : Cx} (B : Bx E G cX7_countBad 4 RX7 H_X7_countBad (some .int))    : ∀ (n : Nat) (xq2 : Int32) (xq3 : Int32)  (σ : Mm), KR E G 4 (ZI E G) (fx (fun _ _ _ => none) n (f_X7_countBad_L4 ) xq2 xq3 σ) 4 [(0, .ref (ad E 6)), (1, .ref (ad E 28)), (2, .int xq2), (3, .int xq3)] [] σ :=
  fun n => fx_ind (P := fun f => ∀ (xq2 : Int32) (xq3 : Int32)  (σ : Mm), KR E G 4 (ZI E G) (f xq2 xq3 σ) 4 [(0, .ref (ad E 6)), (1, .ref (ad E 28)), (2, .int xq2), (3, .int xq3)] [] σ) (fun _ _ _ => k_none) (fun L4 hL4 xq2 xq3 σ => t_X7_countBad_L4b B    L4 hL4 xq2 xq3 σ) n
set_option maxHeartbeats 4000000 in
set_option maxRecDepth 100000 in
theorem t_X7_countBad {E : En} {G : Cx} (B : Bx E G cX7_countBad 4 RX7 H_X7_countBad (some .int))   (σ : Mm) : KR E G 4 (ZI E G) (f_X7_countBad  σ) 0 [(0, .ref (ad E 6)), (1, .ref (ad E 28))] [] σ := by
  have F := B.1
  unfold f_X7_countBad
  refine k_iconst (pc := 0) F (v := (0 : Int32)) dX7_countBad_0 ci_0 ?_
  refine k_istore_n F (lv' := [(2, .int (0 : Int32)), (0, .ref (ad E 6)), (1, .ref (ad E 28))]) 2 dX7_countBad_1 rfl (by decide) rfl ?_
  refine k_iconst (pc := 2) F (v := (0 : Int32)) dX7_countBad_2 ci_0 ?_
  refine k_istore_n F (lv' := [(3, .int (0 : Int32)), (2, .int (0 : Int32)), (0, .ref (ad E 6)), (1, .ref (ad E 28))]) 3 dX7_countBad_3 rfl (by decide) rfl ?_
  exact k_sub [2, 3, 1, 0] rfl (t_X7_countBad_L4 B    FU (0 : Int32) (0 : Int32)  σ)
set_option maxHeartbeats 4000000 in
set_option maxRecDepth 100000 in
theorem ct_X7_countBad (E : En)   (σ : Mm) : CtI E yX7_countBad cX7_countBad 4 (some .int) H_X7_countBad [.ref (ad E 6), .ref (ad E 28)] σ (f_X7_countBad  σ) := ct_I (by decide) (Nat.le_of_ble_eq_true rfl) rfl (fun G B => t_X7_countBad B   σ)
abbrev H_X7_leastBad : Nat := 2
theorem hR_X7_leastBad_X4_holds : H_X4_holds + 1 ≤ H_X7_leastBad ∧ 8 + (3 + 11) + 40 * H_X4_holds ≤ 40 * H_X7_leastBad := by decide
set_option maxHeartbeats 4000000 in
set_option maxRecDepth 100000 in
theorem t_X7_leastBad_L2b {E : En} {G : Cx} (B : Bx E G cX7_leastBad 3 RX7 H_X7_leastBad (some .int))    (L2 : Int32 → Mm → Option (Int32 × Mm)) (hL2 : ∀ (xq2 : Int32)  (σ : Mm), KR E G 3 (ZI E G) (L2 xq2 σ) 2 [(0, .ref (ad E 6)), (1, .ref (ad E 28)), (2, .int xq2)] [] σ) (xq2 : Int32)  (σ : Mm) : KR E G 3 (ZI E G) (f_X7_leastBad_L2  L2 xq2 σ) 2 [(0, .ref (ad E 6)), (1, .ref (ad E 28)), (2, .int xq2)] [] σ := by
  have F := B.1
  unfold f_X7_leastBad_L2
  refine k_iload_n (pc := 2) F 2 2 dX7_leastBad_2 rfl rfl ?_
  refine k_aload_n (pc := 3) F 0 0 dX7_leastBad_3 rfl rfl ?_
  refine gf_6_3 (pc := 4) F w_1_237 dX7_leastBad_4 ?_
  refine gf_isRow_1 (pc := 7) F isRow_26 w_1_223 dX7_leastBad_7 ?_
  refine k_icmp_ge (pc := 10) F 45 dX7_leastBad_10 (by decide) (fun _ => ?_) (fun _ => ?_)
  · refine k_iconst (pc := 45) F (v := (-1 : Int32)) dX7_leastBad_45 ci_m1 ?_
    exact k_iret (pc := 46) B dX7_leastBad_46
  · refine k_aload_n (pc := 13) F 1 1 dX7_leastBad_13 rfl rfl ?_
    refine k_aload_n (pc := 14) F 0 0 dX7_leastBad_14 rfl rfl ?_
    refine gf_6_3 (pc := 15) F w_1_237 dX7_leastBad_15 ?_
    refine gf_isRow_0 (pc := 18) F isRow_26 w_1_220 dX7_leastBad_18 ?_
    refine k_iload_n (pc := 21) F 2 2 dX7_leastBad_21 rfl rfl ?_
    refine k_iald (pc := 22) F rfl dX7_leastBad_22 ?_
    refine k_callVI (pc := 23) B (k := 28) (As := [.int (σ.1 27 (ix xq2))]) (rest := []) (ct_X4_holds E (σ.1 27 (ix xq2))  σ) rfl rfl mv_X4_holds w_3_181 rfl hR_X7_leastBad_X4_holds rfl (Nat.le_of_ble_eq_true rfl) dX7_leastBad_23 (fun rq2 σ1 hoq => ?_)
    refine k_if_ne (pc := 26) F 39 dX7_leastBad_26 (by decide) (fun _ => ?_) (fun _ => ?_)
    · refine k_aload_n (pc := 29) F 0 0 dX7_leastBad_29 rfl rfl ?_
      refine gf_6_3 (pc := 30) F w_1_237 dX7_leastBad_30 ?_
      refine gf_isRow_0 (pc := 33) F isRow_26 w_1_220 dX7_leastBad_33 ?_
      refine k_iload_n (pc := 36) F 2 2 dX7_leastBad_36 rfl rfl ?_
      refine k_iald (pc := 37) F rfl dX7_leastBad_37 ?_
      exact k_iret (pc := 38) B dX7_leastBad_38
    · refine k_iinc (pc := 39) F (c := (1 : Int32)) (lw := fun wq => [(2, .int wq), (0, .ref (ad E 6)), (1, .ref (ad E 28))]) 2 2 dX7_leastBad_39 rfl ci_1 (by decide) (fun _ => rfl) (fun vq3 => ?_)
      refine k_goto (pc := 42) F 2 dX7_leastBad_42 (by decide) ?_
      exact k_sub [1, 2, 0] rfl (hL2 vq3 σ1)
set_option maxHeartbeats 4000000 in
set_option maxRecDepth 100000 in
theorem t_X7_leastBad_L2 {E : En} {G : Cx} (B : Bx E G cX7_leastBad 3 RX7 H_X7_leastBad (some .int))    : ∀ (n : Nat) (xq2 : Int32)  (σ : Mm), KR E G 3 (ZI E G) (fx (fun _ _ => none) n (f_X7_leastBad_L2 ) xq2 σ) 2 [(0, .ref (ad E 6)), (1, .ref (ad E 28)), (2, .int xq2)] [] σ :=
  fun n => fx_ind (P := fun f => ∀ (xq2 : Int32)  (σ : Mm), KR E G 3 (ZI E G) (f xq2 σ) 2 [(0, .ref (ad E 6)), (1, .ref (ad E 28)), (2, .int xq2)] [] σ) (fun _ _ => k_none) (fun L2 hL2 xq2 σ => t_X7_leastBad_L2b B    L2 hL2 xq2 σ) n
set_option maxHeartbeats 4000000 in
set_option maxRecDepth 100000 in
theorem t_X7_leastBad {E : En} {G : Cx} (B : Bx E G cX7_leastBad 3 RX7 H_X7_leastBad (some .int))   (σ : Mm) : KR E G 3 (ZI E G) (f_X7_leastBad  σ) 0 [(0, .ref (ad E 6)), (1, .ref (ad E 28))] [] σ := by
  have F := B.1
  unfold f_X7_leastBad
  refine k_iconst (pc := 0) F (v := (0 : Int32)) dX7_leastBad_0 ci_0 ?_
  refine k_istore_n F (lv' := [(2, .int (0 : Int32)), (0, .ref (ad E 6)), (1, .ref (ad E 28))]) 2 dX7_leastBad_1 rfl (by decide) rfl ?_
  exact k_sub [1, 2, 0] rfl (t_X7_leastBad_L2 B    FU (0 : Int32)  σ)
set_option maxHeartbeats 4000000 in
set_option maxRecDepth 100000 in
theorem ct_X7_leastBad (E : En)   (σ : Mm) : CtI E yX7_leastBad cX7_leastBad 3 (some .int) H_X7_leastBad [.ref (ad E 6), .ref (ad E 28)] σ (f_X7_leastBad  σ) := ct_I (by decide) (Nat.le_of_ble_eq_true rfl) rfl (fun G B => t_X7_leastBad B   σ)
abbrev H_X9_walkTo : Nat := 3
theorem hR_X9_walkTo_X1_isEnd : H_X1_isEnd + 1 ≤ H_X9_walkTo ∧ 8 + (4 + 11) + 40 * H_X1_isEnd ≤ 40 * H_X9_walkTo := by decide
theorem hR_X9_walkTo_X1_resultOf : H_X1_resultOf + 1 ≤ H_X9_walkTo ∧ 8 + (6 + 11) + 40 * H_X1_resultOf ≤ 40 * H_X9_walkTo := by decide
set_option maxHeartbeats 4000000 in
set_option maxRecDepth 100000 in
theorem t_X9_walkTo_49 {E : En} {G : Cx} (B : Bx E G cX9_walkTo 7 RX9 H_X9_walkTo (some .int)) (xq2 : Int32) (xq3 : Int32) (xq4 : Int32)  (L5 : Int32 → Mm → Option (Int32 × Mm)) (hL5 : ∀ (xq4 : Int32)  (σ : Mm), KR E G 7 (ZI E G) (L5 xq4 σ) 5 [(0, .ref (ad E 18)), (1, .ref (ad E 13)), (2, .int xq2), (3, .int xq3), (4, .int xq4)] [] σ)  (σ : Mm) : KR E G 7 (ZI E G) (f_X9_walkTo_49 L5 xq2 xq3 xq4 σ) 49 [(0, .ref (ad E 18)), (1, .ref (ad E 13)), (2, .int xq2), (3, .int xq3), (4, .int xq4)] [] σ := by
  have F := B.1
  unfold f_X9_walkTo_49
  refine k_iinc (pc := 49) F (c := (1 : Int32)) (lw := fun wq => [(4, .int wq), (0, .ref (ad E 18)), (1, .ref (ad E 13)), (2, .int xq2), (3, .int xq3)]) 4 4 dX9_walkTo_49 rfl ci_1 (by decide) (fun _ => rfl) (fun vq3 => ?_)
  refine k_goto (pc := 52) F 5 dX9_walkTo_52 (by decide) ?_
  exact k_sub [1, 2, 3, 4, 0] rfl (hL5 vq3 σ)
set_option maxHeartbeats 4000000 in
set_option maxRecDepth 100000 in
theorem t_X9_walkTo_L5b {E : En} {G : Cx} (B : Bx E G cX9_walkTo 7 RX9 H_X9_walkTo (some .int)) (xq2 : Int32) (xq3 : Int32)  (K43 : Int32 → Mm → Option (Int32 × Mm)) (hK43 : ∀ (xq4 : Int32)  (σ : Mm), KR E G 7 (ZI E G) (K43 xq4 σ) 43 [(0, .ref (ad E 18)), (4, .int xq4)] [] σ) (K55 : Mm → Option (Int32 × Mm)) (hK55 : ∀   (σ : Mm), KR E G 7 (ZI E G) (K55  σ) 55 [(0, .ref (ad E 18)), (3, .int xq3)] [] σ)  (L5 : Int32 → Mm → Option (Int32 × Mm)) (hL5 : ∀ (xq4 : Int32)  (σ : Mm), KR E G 7 (ZI E G) (L5 xq4 σ) 5 [(0, .ref (ad E 18)), (1, .ref (ad E 13)), (2, .int xq2), (3, .int xq3), (4, .int xq4)] [] σ) (xq4 : Int32)  (σ : Mm) : KR E G 7 (ZI E G) (f_X9_walkTo_L5 K43 K55 xq2 xq3 L5 xq4 σ) 5 [(0, .ref (ad E 18)), (1, .ref (ad E 13)), (2, .int xq2), (3, .int xq3), (4, .int xq4)] [] σ := by
  have F := B.1
  unfold f_X9_walkTo_L5
  refine k_iload (pc := 5) F 4 4 dX9_walkTo_5 rfl ?_
  refine k_aload_n (pc := 7) F 0 0 dX9_walkTo_7 rfl rfl ?_
  refine gf_18_7 (pc := 8) F w_1_186 dX9_walkTo_8 ?_
  refine k_icmp_ge (pc := 11) F 55 dX9_walkTo_11 (by decide) (fun _ => ?_) (fun _ => ?_)
  · exact k_sub [0, 3] rfl (hK55 σ)
  · refine k_aload_n (pc := 14) F 1 1 dX9_walkTo_14 rfl rfl ?_
    refine k_aload_n (pc := 15) F 0 0 dX9_walkTo_15 rfl rfl ?_
    refine gf_18_0 (pc := 16) F w_1_179 dX9_walkTo_16 ?_
    refine k_iload (pc := 19) F 4 4 dX9_walkTo_19 rfl ?_
    refine k_lald (pc := 21) F rfl dX9_walkTo_21 ?_
    refine k_callVI (pc := 22) B (k := 13) (As := [.long (σ.2 19 (ix xq4))]) (rest := []) (ct_X1_isEnd E (σ.2 19 (ix xq4))  σ) rfl rfl mv_X1_isEnd w_3_118 rfl hR_X9_walkTo_X1_isEnd rfl (Nat.le_of_ble_eq_true rfl) dX9_walkTo_22 (fun rq2 σ1 hoq => ?_)
    refine k_if_eq (pc := 25) F 49 dX9_walkTo_25 (by decide) (fun _ => ?_) (fun _ => ?_)
    · exact k_sub [0, 1, 2, 3, 4] rfl (t_X9_walkTo_49 B xq2 xq3 xq4  L5 hL5  σ1)
    · refine k_aload_n (pc := 28) F 1 1 dX9_walkTo_28 rfl rfl ?_
      refine k_aload_n (pc := 29) F 0 0 dX9_walkTo_29 rfl rfl ?_
      refine gf_18_0 (pc := 30) F w_1_179 dX9_walkTo_30 ?_
      refine k_iload (pc := 33) F 4 4 dX9_walkTo_33 rfl ?_
      refine k_lald (pc := 35) F rfl dX9_walkTo_35 ?_
      refine k_callVI (pc := 36) B (k := 13) (As := [.long (σ1.2 19 (ix xq4))]) (rest := []) (ct_X1_resultOf E (σ1.2 19 (ix xq4))  σ1) rfl rfl mv_X1_resultOf w_3_126 rfl hR_X9_walkTo_X1_resultOf rfl (Nat.le_of_ble_eq_true rfl) dX9_walkTo_36 (fun rq5 σ4 hoq => ?_)
      refine k_iload_n (pc := 39) F 2 2 dX9_walkTo_39 rfl rfl ?_
      refine k_icmp_ne (pc := 40) F 49 dX9_walkTo_40 (by decide) (fun _ => ?_) (fun _ => ?_)
      · exact k_sub [0, 4] rfl (hK43 xq4 σ4)
      · exact k_sub [0, 1, 2, 3, 4] rfl (t_X9_walkTo_49 B xq2 xq3 xq4  L5 hL5  σ4)
set_option maxHeartbeats 4000000 in
set_option maxRecDepth 100000 in
theorem t_X9_walkTo_L5 {E : En} {G : Cx} (B : Bx E G cX9_walkTo 7 RX9 H_X9_walkTo (some .int)) (xq2 : Int32) (xq3 : Int32)  (K43 : Int32 → Mm → Option (Int32 × Mm)) (hK43 : ∀ (xq4 : Int32)  (σ : Mm), KR E G 7 (ZI E G) (K43 xq4 σ) 43 [(0, .ref (ad E 18)), (4, .int xq4)] [] σ) (K55 : Mm → Option (Int32 × Mm)) (hK55 : ∀   (σ : Mm), KR E G 7 (ZI E G) (K55  σ) 55 [(0, .ref (ad E 18)), (3, .int xq3)] [] σ)  : ∀ (n : Nat) (xq4 : Int32)  (σ : Mm), KR E G 7 (ZI E G) (fx (fun _ _ => none) n (f_X9_walkTo_L5 K43 K55 xq2 xq3) xq4 σ) 5 [(0, .ref (ad E 18)), (1, .ref (ad E 13)), (2, .int xq2), (3, .int xq3), (4, .int xq4)] [] σ :=
  fun n => fx_ind (P := fun f => ∀ (xq4 : Int32)  (σ : Mm), KR E G 7 (ZI E G) (f xq4 σ) 5 [(0, .ref (ad E 18)), (1, .ref (ad E 13)), (2, .int xq2), (3, .int xq3), (4, .int xq4)] [] σ) (fun _ _ => k_none) (fun L5 hL5 xq4 σ => t_X9_walkTo_L5b B xq2 xq3  K43 hK43 K55 hK55  L5 hL5 xq4 σ) n
set_option maxHeartbeats 4000000 in
set_option maxRecDepth 100000 in
theorem t_X9_walkTo_L61b {E : En} {G : Cx} (B : Bx E G cX9_walkTo 7 RX9 H_X9_walkTo (some .int)) (xq3 : Int32)  (K98 : Int32 → Mm → Option (Int32 × Mm)) (hK98 : ∀ (xq4 : Int32)  (σ : Mm), KR E G 7 (ZI E G) (K98 xq4 σ) 98 [(0, .ref (ad E 18)), (3, .int xq3), (4, .int xq4)] [] σ)  (L61 : Int32 → Int32 → Mm → Option (Int32 × Mm)) (hL61 : ∀ (xq4 : Int32) (xq5 : Int32)  (σ : Mm), KR E G 7 (ZI E G) (L61 xq4 xq5 σ) 61 [(0, .ref (ad E 18)), (3, .int xq3), (4, .int xq4), (5, .int xq5)] [] σ) (xq4 : Int32) (xq5 : Int32)  (σ : Mm) : KR E G 7 (ZI E G) (f_X9_walkTo_L61 K98 xq3 L61 xq4 xq5 σ) 61 [(0, .ref (ad E 18)), (3, .int xq3), (4, .int xq4), (5, .int xq5)] [] σ := by
  have F := B.1
  unfold f_X9_walkTo_L61
  refine k_iload (pc := 61) F 4 2 dX9_walkTo_61 rfl ?_
  refine k_aload_n (pc := 63) F 0 0 dX9_walkTo_63 rfl rfl ?_
  refine gf_18_7 (pc := 64) F w_1_186 dX9_walkTo_64 ?_
  refine k_icmp_ge (pc := 67) F 98 dX9_walkTo_67 (by decide) (fun _ => ?_) (fun _ => ?_)
  · exact k_sub [0, 1, 2] rfl (hK98 xq4 σ)
  · refine k_aload_n (pc := 70) F 0 0 dX9_walkTo_70 rfl rfl ?_
    refine gf_18_3 (pc := 71) F w_1_182 dX9_walkTo_71 ?_
    refine k_iload (pc := 74) F 5 3 dX9_walkTo_74 rfl ?_
    refine k_iald (pc := 76) F rfl dX9_walkTo_76 ?_
    refine k_if_lt (pc := 77) F 98 dX9_walkTo_77 (by decide) (fun _ => ?_) (fun _ => ?_)
    · exact k_sub [0, 1, 2] rfl (hK98 xq4 σ)
    · refine k_iinc (pc := 80) F (c := (1 : Int32)) (lw := fun wq => [(4, .int wq), (0, .ref (ad E 18)), (3, .int xq3), (5, .int xq5)]) 4 2 dX9_walkTo_80 rfl ci_1 (by decide) (fun _ => rfl) (fun vq6 => ?_)
      refine k_aload_n (pc := 83) F 0 1 dX9_walkTo_83 rfl rfl ?_
      refine gf_18_3 (pc := 84) F w_1_182 dX9_walkTo_84 ?_
      refine k_iload (pc := 87) F 5 3 dX9_walkTo_87 rfl ?_
      refine k_iald (pc := 89) F rfl dX9_walkTo_89 ?_
      refine k_bipush (pc := 90) F (v := (6 : Int32)) dX9_walkTo_90 cb_6 ?_
      refine k_idiv (pc := 92) F dX9_walkTo_92 (by decide) ?_
      refine k_nmI (fun vq7 => ?_)
      refine k_istore F (lv' := [(5, .int vq7), (4, .int vq6), (0, .ref (ad E 18)), (3, .int xq3)]) 5 dX9_walkTo_93 (by decide) rfl ?_
      refine k_goto (pc := 95) F 61 dX9_walkTo_95 (by decide) ?_
      exact k_sub [2, 3, 1, 0] rfl (hL61 vq6 vq7 σ)
set_option maxHeartbeats 4000000 in
set_option maxRecDepth 100000 in
theorem t_X9_walkTo_L61 {E : En} {G : Cx} (B : Bx E G cX9_walkTo 7 RX9 H_X9_walkTo (some .int)) (xq3 : Int32)  (K98 : Int32 → Mm → Option (Int32 × Mm)) (hK98 : ∀ (xq4 : Int32)  (σ : Mm), KR E G 7 (ZI E G) (K98 xq4 σ) 98 [(0, .ref (ad E 18)), (3, .int xq3), (4, .int xq4)] [] σ)  : ∀ (n : Nat) (xq4 : Int32) (xq5 : Int32)  (σ : Mm), KR E G 7 (ZI E G) (fx (fun _ _ _ => none) n (f_X9_walkTo_L61 K98 xq3) xq4 xq5 σ) 61 [(0, .ref (ad E 18)), (3, .int xq3), (4, .int xq4), (5, .int xq5)] [] σ :=
  fun n => fx_ind (P := fun f => ∀ (xq4 : Int32) (xq5 : Int32)  (σ : Mm), KR E G 7 (ZI E G) (f xq4 xq5 σ) 61 [(0, .ref (ad E 18)), (3, .int xq3), (4, .int xq4), (5, .int xq5)] [] σ) (fun _ _ _ => k_none) (fun L61 hL61 xq4 xq5 σ => t_X9_walkTo_L61b B xq3  K98 hK98  L61 hL61 xq4 xq5 σ) n
set_option maxHeartbeats 4000000 in
set_option maxRecDepth 100000 in
theorem t_X9_walkTo_L107b {E : En} {G : Cx} (B : Bx E G cX9_walkTo 7 RX9 H_X9_walkTo (some .int)) (xq4 : Int32)   (L107 : Int32 → Int32 → Mm → Option (Int32 × Mm)) (hL107 : ∀ (xq5 : Int32) (xq6 : Int32)  (σ : Mm), KR E G 7 (ZI E G) (L107 xq5 xq6 σ) 107 [(0, .ref (ad E 18)), (4, .int xq4), (5, .int xq5), (6, .int xq6)] [] σ) (xq5 : Int32) (xq6 : Int32)  (σ : Mm) : KR E G 7 (ZI E G) (f_X9_walkTo_L107 xq4 L107 xq5 xq6 σ) 107 [(0, .ref (ad E 18)), (4, .int xq4), (5, .int xq5), (6, .int xq6)] [] σ := by
  have F := B.1
  unfold f_X9_walkTo_L107
  refine k_iload (pc := 107) F 6 3 dX9_walkTo_107 rfl ?_
  refine k_if_lt (pc := 109) F 147 dX9_walkTo_109 (by decide) (fun _ => ?_) (fun _ => ?_)
  · refine k_iload (pc := 147) F 4 1 dX9_walkTo_147 rfl ?_
    exact k_iret (pc := 149) B dX9_walkTo_149
  · refine k_aload_n (pc := 112) F 0 0 dX9_walkTo_112 rfl rfl ?_
    refine gf_18_6 (pc := 113) F w_1_185 dX9_walkTo_113 ?_
    refine k_iload (pc := 116) F 6 3 dX9_walkTo_116 rfl ?_
    refine k_aload_n (pc := 118) F 0 0 dX9_walkTo_118 rfl rfl ?_
    refine gf_18_3 (pc := 119) F w_1_182 dX9_walkTo_119 ?_
    refine k_iload (pc := 122) F 5 2 dX9_walkTo_122 rfl ?_
    refine k_iald (pc := 124) F rfl dX9_walkTo_124 ?_
    refine k_bipush (pc := 125) F (v := (6 : Int32)) dX9_walkTo_125 cb_6 ?_
    refine k_irem (pc := 127) F dX9_walkTo_127 (by decide) ?_
    refine k_iast (pc := 128) F rfl dX9_walkTo_128 (fun σ9 => ?_)
    refine k_aload_n (pc := 129) F 0 0 dX9_walkTo_129 rfl rfl ?_
    refine gf_18_3 (pc := 130) F w_1_182 dX9_walkTo_130 ?_
    refine k_iload (pc := 133) F 5 2 dX9_walkTo_133 rfl ?_
    refine k_iald (pc := 135) F rfl dX9_walkTo_135 ?_
    refine k_bipush (pc := 136) F (v := (6 : Int32)) dX9_walkTo_136 cb_6 ?_
    refine k_idiv (pc := 138) F dX9_walkTo_138 (by decide) ?_
    refine k_nmI (fun vq10 => ?_)
    refine k_istore F (lv' := [(5, .int vq10), (0, .ref (ad E 18)), (4, .int xq4), (6, .int xq6)]) 5 dX9_walkTo_139 (by decide) rfl ?_
    refine k_iinc (pc := 141) F (c := (-1 : Int32)) (lw := fun wq => [(6, .int wq), (5, .int vq10), (0, .ref (ad E 18)), (4, .int xq4)]) 6 3 dX9_walkTo_141 rfl ci_m1 (by decide) (fun _ => rfl) (fun vq11 => ?_)
    refine k_goto (pc := 144) F 107 dX9_walkTo_144 (by decide) ?_
    exact k_sub [2, 3, 1, 0] rfl (hL107 vq10 vq11 σ9)
set_option maxHeartbeats 4000000 in
set_option maxRecDepth 100000 in
theorem t_X9_walkTo_L107 {E : En} {G : Cx} (B : Bx E G cX9_walkTo 7 RX9 H_X9_walkTo (some .int)) (xq4 : Int32)   : ∀ (n : Nat) (xq5 : Int32) (xq6 : Int32)  (σ : Mm), KR E G 7 (ZI E G) (fx (fun _ _ _ => none) n (f_X9_walkTo_L107 xq4) xq5 xq6 σ) 107 [(0, .ref (ad E 18)), (4, .int xq4), (5, .int xq5), (6, .int xq6)] [] σ :=
  fun n => fx_ind (P := fun f => ∀ (xq5 : Int32) (xq6 : Int32)  (σ : Mm), KR E G 7 (ZI E G) (f xq5 xq6 σ) 107 [(0, .ref (ad E 18)), (4, .int xq4), (5, .int xq5), (6, .int xq6)] [] σ) (fun _ _ _ => k_none) (fun L107 hL107 xq5 xq6 σ => t_X9_walkTo_L107b B xq4   L107 hL107 xq5 xq6 σ) n
set_option maxHeartbeats 4000000 in
set_option maxRecDepth 100000 in
theorem t_X9_walkTo_98 {E : En} {G : Cx} (B : Bx E G cX9_walkTo 7 RX9 H_X9_walkTo (some .int)) (xq3 : Int32) (xq4 : Int32)   (σ : Mm) : KR E G 7 (ZI E G) (f_X9_walkTo_98 xq3 xq4 σ) 98 [(0, .ref (ad E 18)), (3, .int xq3), (4, .int xq4)] [] σ := by
  have F := B.1
  unfold f_X9_walkTo_98
  refine k_iload_n (pc := 98) F 3 1 dX9_walkTo_98 rfl rfl ?_
  refine k_istore F (lv' := [(5, .int xq3), (0, .ref (ad E 18)), (3, .int xq3), (4, .int xq4)]) 5 dX9_walkTo_99 (by decide) rfl ?_
  refine k_iload (pc := 101) F 4 3 dX9_walkTo_101 rfl ?_
  refine k_iconst (pc := 103) F (v := (1 : Int32)) dX9_walkTo_103 ci_1 ?_
  refine k_isub (pc := 104) F dX9_walkTo_104 ?_
  refine k_nmI (fun vq8 => ?_)
  refine k_istore F (lv' := [(6, .int vq8), (5, .int xq3), (0, .ref (ad E 18)), (3, .int xq3), (4, .int xq4)]) 6 dX9_walkTo_105 (by decide) rfl ?_
  exact k_sub [2, 4, 1, 0] rfl (t_X9_walkTo_L107 B xq4   FU xq3 vq8  σ)
set_option maxHeartbeats 4000000 in
set_option maxRecDepth 100000 in
theorem t_X9_walkTo_55 {E : En} {G : Cx} (B : Bx E G cX9_walkTo 7 RX9 H_X9_walkTo (some .int)) (xq3 : Int32)   (σ : Mm) : KR E G 7 (ZI E G) (f_X9_walkTo_55 xq3 σ) 55 [(0, .ref (ad E 18)), (3, .int xq3)] [] σ := by
  have F := B.1
  unfold f_X9_walkTo_55
  refine k_iconst (pc := 55) F (v := (0 : Int32)) dX9_walkTo_55 ci_0 ?_
  refine k_istore F (lv' := [(4, .int (0 : Int32)), (0, .ref (ad E 18)), (3, .int xq3)]) 4 dX9_walkTo_56 (by decide) rfl ?_
  refine k_iload_n (pc := 58) F 3 2 dX9_walkTo_58 rfl rfl ?_
  refine k_istore F (lv' := [(5, .int xq3), (4, .int (0 : Int32)), (0, .ref (ad E 18)), (3, .int xq3)]) 5 dX9_walkTo_59 (by decide) rfl ?_
  exact k_sub [2, 3, 1, 0] rfl (t_X9_walkTo_L61 B xq3  _ (fun xq4  σ => by
        exact k_sub [0, 1, 2] rfl (t_X9_walkTo_98 B xq3 xq4   σ)) FU (0 : Int32) xq3  σ)
set_option maxHeartbeats 4000000 in
set_option maxRecDepth 100000 in
theorem t_X9_walkTo_43 {E : En} {G : Cx} (B : Bx E G cX9_walkTo 7 RX9 H_X9_walkTo (some .int)) (xq4 : Int32)   (σ : Mm) : KR E G 7 (ZI E G) (f_X9_walkTo_43 xq4 σ) 43 [(0, .ref (ad E 18)), (4, .int xq4)] [] σ := by
  have F := B.1
  unfold f_X9_walkTo_43
  refine k_iload (pc := 43) F 4 1 dX9_walkTo_43 rfl ?_
  refine k_istore_n F (lv' := [(3, .int xq4), (0, .ref (ad E 18)), (4, .int xq4)]) 3 dX9_walkTo_45 rfl (by decide) rfl ?_
  refine k_goto (pc := 46) F 55 dX9_walkTo_46 (by decide) ?_
  exact k_sub [1, 0] rfl (t_X9_walkTo_55 B xq4   σ)
set_option maxHeartbeats 4000000 in
set_option maxRecDepth 100000 in
theorem t_X9_walkTo {E : En} {G : Cx} (B : Bx E G cX9_walkTo 7 RX9 H_X9_walkTo (some .int)) (aq1 : Int32)  (σ : Mm) : KR E G 7 (ZI E G) (f_X9_walkTo aq1 σ) 0 [(0, .ref (ad E 18)), (1, .ref (ad E 13)), (2, .int aq1)] [] σ := by
  have F := B.1
  unfold f_X9_walkTo
  refine k_iconst (pc := 0) F (v := (0 : Int32)) dX9_walkTo_0 ci_0 ?_
  refine k_istore_n F (lv' := [(3, .int (0 : Int32)), (0, .ref (ad E 18)), (1, .ref (ad E 13)), (2, .int aq1)]) 3 dX9_walkTo_1 rfl (by decide) rfl ?_
  refine k_iconst (pc := 2) F (v := (0 : Int32)) dX9_walkTo_2 ci_0 ?_
  refine k_istore F (lv' := [(4, .int (0 : Int32)), (3, .int (0 : Int32)), (0, .ref (ad E 18)), (1, .ref (ad E 13)), (2, .int aq1)]) 4 dX9_walkTo_3 (by decide) rfl ?_
  exact k_sub [2, 3, 4, 1, 0] rfl (t_X9_walkTo_L5 B aq1 (0 : Int32)  _ (fun xq4  σ => by
        exact k_sub [0, 1] rfl (t_X9_walkTo_43 B xq4   σ)) _ (fun   σ => by
        exact k_sub [0, 1] rfl (t_X9_walkTo_55 B (0 : Int32)   σ)) FU (0 : Int32)  σ)
set_option maxHeartbeats 4000000 in
set_option maxRecDepth 100000 in
theorem ct_X9_walkTo (E : En) (aq1 : Int32)  (σ : Mm) : CtI E yX9_walkTo cX9_walkTo 7 (some .int) H_X9_walkTo [.ref (ad E 18), .ref (ad E 13), .int aq1] σ (f_X9_walkTo aq1 σ) := ct_I (by decide) (Nat.le_of_ble_eq_true rfl) rfl (fun G B => t_X9_walkTo B aq1  σ)
abbrev H_X7_walkToWorst : Nat := 14
theorem hR_X7_walkToWorst_X9_walkTo : H_X9_walkTo + 1 ≤ H_X7_walkToWorst ∧ 8 + (7 + 11) + 40 * H_X9_walkTo ≤ 40 * H_X7_walkToWorst := by decide
theorem hR_X7_walkToWorst_X7_orderedResults : H_X7_orderedResults + 1 ≤ H_X7_walkToWorst ∧ 8 + (1 + 11) + 40 * H_X7_orderedResults ≤ 40 * H_X7_walkToWorst := by decide
theorem hR_X7_walkToWorst_X1_load : H_X1_load + 1 ≤ H_X7_walkToWorst ∧ 8 + (5 + 11) + 40 * H_X1_load ≤ 40 * H_X7_walkToWorst := by decide
theorem hR_X7_walkToWorst_X7_leastBad : H_X7_leastBad + 1 ≤ H_X7_walkToWorst ∧ 8 + (3 + 11) + 40 * H_X7_leastBad ≤ 40 * H_X7_walkToWorst := by decide
set_option maxHeartbeats 4000000 in
set_option maxRecDepth 100000 in
theorem t_X7_walkToWorst {E : En} {G : Cx} (B : Bx E G cX7_walkToWorst 2 RX7 H_X7_walkToWorst (some .int))   (σ : Mm) : KR E G 2 (ZI E G) (f_X7_walkToWorst  σ) 0 [(0, .ref (ad E 6))] [] σ := by
  have F := B.1
  unfold f_X7_walkToWorst
  refine k_aload_n (pc := 0) F 0 0 dX7_walkToWorst_0 rfl rfl ?_
  refine k_aload_n (pc := 1) F 0 0 dX7_walkToWorst_1 rfl rfl ?_
  refine k_callVU (pc := 2) B (k := 6) (As := []) (rest := [.ref (ad E 6)]) (ct_X7_orderedResults E   σ) rfl rfl mv_X7_orderedResults w_3_201 rfl hR_X7_walkToWorst_X7_orderedResults rfl (Nat.le_of_ble_eq_true rfl) dX7_walkToWorst_2 (fun rq2 σ1 hoq => ?_)
  refine k_callVI (pc := 5) B (k := 6) (As := [.ref (ad E 28)]) (rest := []) (ct_X7_leastBad E   σ1) rfl rfl mv_X7_leastBad w_3_202 rfl hR_X7_walkToWorst_X7_leastBad rfl (Nat.le_of_ble_eq_true rfl) dX7_walkToWorst_5 (fun rq4 σ3 hoq => ?_)
  refine k_istore_n F (lv' := [(1, .int rq4), (0, .ref (ad E 6))]) 1 dX7_walkToWorst_8 rfl (by decide) rfl ?_
  refine k_iload_n (pc := 9) F 1 0 dX7_walkToWorst_9 rfl rfl ?_
  refine k_if_ge (pc := 10) F 15 dX7_walkToWorst_10 (by decide) (fun _ => ?_) (fun _ => ?_)
  · refine k_aload_n (pc := 15) F 0 1 dX7_walkToWorst_15 rfl rfl ?_
    refine gf_6_1 (pc := 16) F w_1_233 dX7_walkToWorst_16 ?_
    refine k_aload_n (pc := 19) F 0 1 dX7_walkToWorst_19 rfl rfl ?_
    refine gf_6_0 (pc := 20) F w_1_231 dX7_walkToWorst_20 ?_
    refine k_lconst (pc := 23) F (v := (0 : Int64)) dX7_walkToWorst_23 cl_0 ?_
    refine k_callVV (pc := 24) B (k := 13) (As := [.ref (ad E 7), .long (0 : Int64)]) (rest := []) (ct_X1_load E (0 : Int64)  σ3) rfl rfl mv_X1_load w_3_50 rfl hR_X7_walkToWorst_X1_load rfl (Nat.le_of_ble_eq_true rfl) dX7_walkToWorst_24 (fun rq6 σ5 hoq => ?_)
    refine k_aload_n (pc := 27) F 0 1 dX7_walkToWorst_27 rfl rfl ?_
    refine gf_6_2 (pc := 28) F w_1_235 dX7_walkToWorst_28 ?_
    refine k_aload_n (pc := 31) F 0 1 dX7_walkToWorst_31 rfl rfl ?_
    refine gf_6_1 (pc := 32) F w_1_233 dX7_walkToWorst_32 ?_
    refine k_iload_n (pc := 35) F 1 0 dX7_walkToWorst_35 rfl rfl ?_
    refine k_callVI (pc := 36) B (k := 18) (As := [.ref (ad E 13), .int rq4]) (rest := []) (ct_X9_walkTo E rq4  σ5) rfl rfl mv_X9_walkTo w_3_203 rfl hR_X7_walkToWorst_X9_walkTo rfl (Nat.le_of_ble_eq_true rfl) dX7_walkToWorst_36 (fun rq8 σ7 hoq => ?_)
    exact k_iret (pc := 39) B dX7_walkToWorst_39
  · refine k_iconst (pc := 13) F (v := (-1 : Int32)) dX7_walkToWorst_13 ci_m1 ?_
    exact k_iret (pc := 14) B dX7_walkToWorst_14
set_option maxHeartbeats 4000000 in
set_option maxRecDepth 100000 in
theorem ct_X7_walkToWorst (E : En)   (σ : Mm) : CtI E yX7_walkToWorst cX7_walkToWorst 2 (some .int) H_X7_walkToWorst [.ref (ad E 6)] σ (f_X7_walkToWorst  σ) := ct_I (by decide) (Nat.le_of_ble_eq_true rfl) rfl (fun G B => t_X7_walkToWorst B   σ)
abbrev H_X7_healingValues : Nat := 14
theorem hR_X7_healingValues_X7_orderedResults : H_X7_orderedResults + 1 ≤ H_X7_healingValues ∧ 8 + (1 + 11) + 40 * H_X7_orderedResults ≤ 40 * H_X7_healingValues := by decide
theorem hR_X7_healingValues_X7_forget : H_X7_forget + 1 ≤ H_X7_healingValues ∧ 8 + (1 + 11) + 40 * H_X7_forget ≤ 40 * H_X7_healingValues := by decide
theorem hR_X7_healingValues_X5_partOf : H_X5_partOf + 1 ≤ H_X7_healingValues ∧ 8 + (4 + 11) + 40 * H_X5_partOf ≤ 40 * H_X7_healingValues := by decide
theorem hR_X7_healingValues_X7_isTooLarge : H_X7_isTooLarge + 1 ≤ H_X7_healingValues ∧ 8 + (1 + 11) + 40 * H_X7_isTooLarge ≤ 40 * H_X7_healingValues := by decide
theorem hR_X7_healingValues_X5_putPart : H_X5_putPart + 1 ≤ H_X7_healingValues ∧ 8 + (5 + 11) + 40 * H_X5_putPart ≤ 40 * H_X7_healingValues := by decide
theorem hR_X7_healingValues_X7_leastBad : H_X7_leastBad + 1 ≤ H_X7_healingValues ∧ 8 + (3 + 11) + 40 * H_X7_leastBad ≤ 40 * H_X7_healingValues := by decide
set_option maxHeartbeats 4000000 in
set_option maxRecDepth 100000 in
theorem t_X7_healingValues_79 {E : En} {G : Cx} (B : Bx E G cX7_healingValues 7 RX7 H_X7_healingValues (some .int)) (xq1 : Int32) (xq2 : Int32) (xq3 : Int32) (xq4 : Int32) (xq5 : Int32) (xq6 : Int32)  (L18 : Int32 → Int32 → Mm → Option (Int32 × Mm)) (hL18 : ∀ (xq5 : Int32) (xq6 : Int32)  (σ : Mm), KR E G 7 (ZI E G) (L18 xq5 xq6 σ) 18 [(0, .ref (ad E 6)), (1, .int xq1), (2, .int xq2), (3, .int xq3), (4, .int xq4), (5, .int xq5), (6, .int xq6)] [] σ)  (σ : Mm) : KR E G 7 (ZI E G) (f_X7_healingValues_79 L18 xq1 xq2 xq3 xq4 xq5 xq6 σ) 79 [(0, .ref (ad E 6)), (1, .int xq1), (2, .int xq2), (3, .int xq3), (4, .int xq4), (5, .int xq5), (6, .int xq6)] [] σ := by
  have F := B.1
  unfold f_X7_healingValues_79
  refine k_iinc (pc := 79) F (c := (1 : Int32)) (lw := fun wq => [(6, .int wq), (0, .ref (ad E 6)), (1, .int xq1), (2, .int xq2), (3, .int xq3), (4, .int xq4), (5, .int xq5)]) 6 6 dX7_healingValues_79 rfl ci_1 (by decide) (fun _ => rfl) (fun vq13 => ?_)
  refine k_goto (pc := 82) F 18 dX7_healingValues_82 (by decide) ?_
  exact k_sub [1, 2, 3, 4, 5, 6, 0] rfl (hL18 xq5 vq13 σ)
set_option maxHeartbeats 4000000 in
set_option maxRecDepth 100000 in
theorem t_X7_healingValues_L18b {E : En} {G : Cx} (B : Bx E G cX7_healingValues 7 RX7 H_X7_healingValues (some .int)) (xq1 : Int32) (xq2 : Int32) (xq3 : Int32) (xq4 : Int32)  (K85 : Int32 → Mm → Option (Int32 × Mm)) (hK85 : ∀ (xq5 : Int32)  (σ : Mm), KR E G 7 (ZI E G) (K85 xq5 σ) 85 [(0, .ref (ad E 6)), (1, .int xq1), (2, .int xq2), (3, .int xq3), (4, .int xq4), (5, .int xq5)] [] σ)  (L18 : Int32 → Int32 → Mm → Option (Int32 × Mm)) (hL18 : ∀ (xq5 : Int32) (xq6 : Int32)  (σ : Mm), KR E G 7 (ZI E G) (L18 xq5 xq6 σ) 18 [(0, .ref (ad E 6)), (1, .int xq1), (2, .int xq2), (3, .int xq3), (4, .int xq4), (5, .int xq5), (6, .int xq6)] [] σ) (xq5 : Int32) (xq6 : Int32)  (σ : Mm) : KR E G 7 (ZI E G) (f_X7_healingValues_L18 K85 xq1 xq2 xq3 xq4 L18 xq5 xq6 σ) 18 [(0, .ref (ad E 6)), (1, .int xq1), (2, .int xq2), (3, .int xq3), (4, .int xq4), (5, .int xq5), (6, .int xq6)] [] σ := by
  have F := B.1
  unfold f_X7_healingValues_L18
  refine k_iload (pc := 18) F 6 6 dX7_healingValues_18 rfl ?_
  refine k_iconst (pc := 20) F (v := (4 : Int32)) dX7_healingValues_20 ci_4 ?_
  refine k_icmp_ge (pc := 21) F 85 dX7_healingValues_21 (by decide) (fun _ => ?_) (fun _ => ?_)
  · exact k_sub [0, 1, 2, 3, 4, 5] rfl (hK85 xq5 σ)
  · refine k_iload (pc := 24) F 5 5 dX7_healingValues_24 rfl ?_
    refine k_if_lt (pc := 26) F 85 dX7_healingValues_26 (by decide) (fun _ => ?_) (fun _ => ?_)
    · exact k_sub [0, 1, 2, 3, 4, 5] rfl (hK85 xq5 σ)
    · refine k_aload_n (pc := 29) F 0 0 dX7_healingValues_29 rfl rfl ?_
      refine gf_6_0 (pc := 30) F w_1_231 dX7_healingValues_30 ?_
      refine k_iload_n (pc := 33) F 1 1 dX7_healingValues_33 rfl rfl ?_
      refine k_iload_n (pc := 34) F 2 2 dX7_healingValues_34 rfl rfl ?_
      refine k_iload_n (pc := 35) F 3 3 dX7_healingValues_35 rfl rfl ?_
      refine k_iload (pc := 36) F 6 6 dX7_healingValues_36 rfl ?_
      refine k_callVV (pc := 38) B (k := 7) (As := [.int xq1, .int xq2, .int xq3, .int xq6]) (rest := []) (ct_X5_putPart E xq1 xq2 xq3 xq6  σ) rfl rfl mv_X5_putPart w_4_10 rfl hR_X7_healingValues_X5_putPart rfl (Nat.le_of_ble_eq_true rfl) dX7_healingValues_38 (fun rq4 σ3 hoq => ?_)
      refine k_aload_n (pc := 41) F 0 0 dX7_healingValues_41 rfl rfl ?_
      refine k_callVV (pc := 42) B (k := 6) (As := []) (rest := []) (ct_X7_forget E   σ3) rfl rfl mv_X7_forget w_4_11 rfl hR_X7_healingValues_X7_forget rfl (Nat.le_of_ble_eq_true rfl) dX7_healingValues_42 (fun rq6 σ5 hoq => ?_)
      refine k_aload_n (pc := 45) F 0 0 dX7_healingValues_45 rfl rfl ?_
      refine k_callVI (pc := 46) B (k := 6) (As := []) (rest := []) (ct_X7_isTooLarge E   σ5) rfl rfl mv_X7_isTooLarge w_4_12 rfl hR_X7_healingValues_X7_isTooLarge rfl (Nat.le_of_ble_eq_true rfl) dX7_healingValues_46 (fun rq8 σ7 hoq => ?_)
      refine k_if_eq (pc := 49) F 59 dX7_healingValues_49 (by decide) (fun _ => ?_) (fun _ => ?_)
      · refine k_aload_n (pc := 59) F 0 0 dX7_healingValues_59 rfl rfl ?_
        refine k_aload_n (pc := 60) F 0 0 dX7_healingValues_60 rfl rfl ?_
        refine k_callVU (pc := 61) B (k := 6) (As := []) (rest := [.ref (ad E 6)]) (ct_X7_orderedResults E   σ7) rfl rfl mv_X7_orderedResults w_3_201 rfl hR_X7_healingValues_X7_orderedResults rfl (Nat.le_of_ble_eq_true rfl) dX7_healingValues_61 (fun rq10 σ9 hoq => ?_)
        refine k_callVI (pc := 64) B (k := 6) (As := [.ref (ad E 28)]) (rest := []) (ct_X7_leastBad E   σ9) rfl rfl mv_X7_leastBad w_3_202 rfl hR_X7_healingValues_X7_leastBad rfl (Nat.le_of_ble_eq_true rfl) dX7_healingValues_64 (fun rq12 σ11 hoq => ?_)
        refine k_if_ge (pc := 67) F 79 dX7_healingValues_67 (by decide) (fun _ => ?_) (fun _ => ?_)
        · exact k_sub [0, 1, 2, 3, 4, 5, 6] rfl (t_X7_healingValues_79 B xq1 xq2 xq3 xq4 xq5 xq6  L18 hL18  σ11)
        · refine k_iload (pc := 70) F 5 5 dX7_healingValues_70 rfl ?_
          refine k_iconst (pc := 72) F (v := (1 : Int32)) dX7_healingValues_72 ci_1 ?_
          refine k_iload (pc := 73) F 6 6 dX7_healingValues_73 rfl ?_
          refine k_ishl (pc := 75) F dX7_healingValues_75 ?_
          refine k_ior (pc := 76) F dX7_healingValues_76 ?_
          refine k_nmI (fun vq14 => ?_)
          refine k_istore F (lv' := [(5, .int vq14), (0, .ref (ad E 6)), (1, .int xq1), (2, .int xq2), (3, .int xq3), (4, .int xq4), (6, .int xq6)]) 5 dX7_healingValues_77 (by decide) rfl ?_
          exact k_sub [1, 2, 3, 4, 5, 0, 6] rfl (t_X7_healingValues_79 B xq1 xq2 xq3 xq4 vq14 xq6  L18 hL18  σ11)
      · refine k_bipush (pc := 52) F (v := (-2 : Int32)) dX7_healingValues_52 cb_m2 ?_
        refine k_istore F (lv' := [(5, .int (-2 : Int32)), (0, .ref (ad E 6)), (1, .int xq1), (2, .int xq2), (3, .int xq3), (4, .int xq4), (6, .int xq6)]) 5 dX7_healingValues_54 (by decide) rfl ?_
        refine k_goto (pc := 56) F 79 dX7_healingValues_56 (by decide) ?_
        exact k_sub [1, 2, 3, 4, 5, 0, 6] rfl (t_X7_healingValues_79 B xq1 xq2 xq3 xq4 (-2 : Int32) xq6  L18 hL18  σ7)
set_option maxHeartbeats 4000000 in
set_option maxRecDepth 100000 in
theorem t_X7_healingValues_L18 {E : En} {G : Cx} (B : Bx E G cX7_healingValues 7 RX7 H_X7_healingValues (some .int)) (xq1 : Int32) (xq2 : Int32) (xq3 : Int32) (xq4 : Int32)  (K85 : Int32 → Mm → Option (Int32 × Mm)) (hK85 : ∀ (xq5 : Int32)  (σ : Mm), KR E G 7 (ZI E G) (K85 xq5 σ) 85 [(0, .ref (ad E 6)), (1, .int xq1), (2, .int xq2), (3, .int xq3), (4, .int xq4), (5, .int xq5)] [] σ)  : ∀ (n : Nat) (xq5 : Int32) (xq6 : Int32)  (σ : Mm), KR E G 7 (ZI E G) (fx (fun _ _ _ => none) n (f_X7_healingValues_L18 K85 xq1 xq2 xq3 xq4) xq5 xq6 σ) 18 [(0, .ref (ad E 6)), (1, .int xq1), (2, .int xq2), (3, .int xq3), (4, .int xq4), (5, .int xq5), (6, .int xq6)] [] σ :=
  fun n => fx_ind (P := fun f => ∀ (xq5 : Int32) (xq6 : Int32)  (σ : Mm), KR E G 7 (ZI E G) (f xq5 xq6 σ) 18 [(0, .ref (ad E 6)), (1, .int xq1), (2, .int xq2), (3, .int xq3), (4, .int xq4), (5, .int xq5), (6, .int xq6)] [] σ) (fun _ _ _ => k_none) (fun L18 hL18 xq5 xq6 σ => t_X7_healingValues_L18b B xq1 xq2 xq3 xq4  K85 hK85  L18 hL18 xq5 xq6 σ) n
set_option maxHeartbeats 4000000 in
set_option maxRecDepth 100000 in
theorem t_X7_healingValues_85 {E : En} {G : Cx} (B : Bx E G cX7_healingValues 7 RX7 H_X7_healingValues (some .int)) (xq1 : Int32) (xq2 : Int32) (xq3 : Int32) (xq4 : Int32) (xq5 : Int32)   (σ : Mm) : KR E G 7 (ZI E G) (f_X7_healingValues_85 xq1 xq2 xq3 xq4 xq5 σ) 85 [(0, .ref (ad E 6)), (1, .int xq1), (2, .int xq2), (3, .int xq3), (4, .int xq4), (5, .int xq5)] [] σ := by
  have F := B.1
  unfold f_X7_healingValues_85
  refine k_aload_n (pc := 85) F 0 0 dX7_healingValues_85 rfl rfl ?_
  refine gf_6_0 (pc := 86) F w_1_231 dX7_healingValues_86 ?_
  refine k_iload_n (pc := 89) F 1 1 dX7_healingValues_89 rfl rfl ?_
  refine k_iload_n (pc := 90) F 2 2 dX7_healingValues_90 rfl rfl ?_
  refine k_iload_n (pc := 91) F 3 3 dX7_healingValues_91 rfl rfl ?_
  refine k_iload (pc := 92) F 4 4 dX7_healingValues_92 rfl ?_
  refine k_callVV (pc := 94) B (k := 7) (As := [.int xq1, .int xq2, .int xq3, .int xq4]) (rest := []) (ct_X5_putPart E xq1 xq2 xq3 xq4  σ) rfl rfl mv_X5_putPart w_4_10 rfl hR_X7_healingValues_X5_putPart rfl (Nat.le_of_ble_eq_true rfl) dX7_healingValues_94 (fun rq16 σ15 hoq => ?_)
  refine k_aload_n (pc := 97) F 0 0 dX7_healingValues_97 rfl rfl ?_
  refine k_callVV (pc := 98) B (k := 6) (As := []) (rest := []) (ct_X7_forget E   σ15) rfl rfl mv_X7_forget w_4_11 rfl hR_X7_healingValues_X7_forget rfl (Nat.le_of_ble_eq_true rfl) dX7_healingValues_98 (fun rq18 σ17 hoq => ?_)
  refine k_iload (pc := 101) F 5 5 dX7_healingValues_101 rfl ?_
  exact k_iret (pc := 103) B dX7_healingValues_103
set_option maxHeartbeats 4000000 in
set_option maxRecDepth 100000 in
theorem t_X7_healingValues {E : En} {G : Cx} (B : Bx E G cX7_healingValues 7 RX7 H_X7_healingValues (some .int)) (aq0 : Int32) (aq1 : Int32) (aq2 : Int32)  (σ : Mm) : KR E G 7 (ZI E G) (f_X7_healingValues aq0 aq1 aq2 σ) 0 [(0, .ref (ad E 6)), (1, .int aq0), (2, .int aq1), (3, .int aq2)] [] σ := by
  have F := B.1
  unfold f_X7_healingValues
  refine k_aload_n (pc := 0) F 0 0 dX7_healingValues_0 rfl rfl ?_
  refine gf_6_0 (pc := 1) F w_1_231 dX7_healingValues_1 ?_
  refine k_iload_n (pc := 4) F 1 1 dX7_healingValues_4 rfl rfl ?_
  refine k_iload_n (pc := 5) F 2 2 dX7_healingValues_5 rfl rfl ?_
  refine k_iload_n (pc := 6) F 3 3 dX7_healingValues_6 rfl rfl ?_
  refine k_callVI (pc := 7) B (k := 7) (As := [.int aq0, .int aq1, .int aq2]) (rest := []) (ct_X5_partOf E aq0 aq1 aq2  σ) rfl rfl mv_X5_partOf w_4_9 rfl hR_X7_healingValues_X5_partOf rfl (Nat.le_of_ble_eq_true rfl) dX7_healingValues_7 (fun rq2 σ1 hoq => ?_)
  refine k_istore F (lv' := [(4, .int rq2), (0, .ref (ad E 6)), (1, .int aq0), (2, .int aq1), (3, .int aq2)]) 4 dX7_healingValues_10 (by decide) rfl ?_
  refine k_iconst (pc := 12) F (v := (0 : Int32)) dX7_healingValues_12 ci_0 ?_
  refine k_istore F (lv' := [(5, .int (0 : Int32)), (4, .int rq2), (0, .ref (ad E 6)), (1, .int aq0), (2, .int aq1), (3, .int aq2)]) 5 dX7_healingValues_13 (by decide) rfl ?_
  refine k_iconst (pc := 15) F (v := (0 : Int32)) dX7_healingValues_15 ci_0 ?_
  refine k_istore F (lv' := [(6, .int (0 : Int32)), (5, .int (0 : Int32)), (4, .int rq2), (0, .ref (ad E 6)), (1, .int aq0), (2, .int aq1), (3, .int aq2)]) 6 dX7_healingValues_16 (by decide) rfl ?_
  exact k_sub [3, 4, 5, 6, 2, 1, 0] rfl (t_X7_healingValues_L18 B aq0 aq1 aq2 rq2  _ (fun xq5  σ => by
        exact k_sub [0, 1, 2, 3, 4, 5] rfl (t_X7_healingValues_85 B aq0 aq1 aq2 rq2 xq5   σ)) FU (0 : Int32) (0 : Int32)  σ1)
set_option maxHeartbeats 4000000 in
set_option maxRecDepth 100000 in
theorem ct_X7_healingValues (E : En) (aq0 : Int32) (aq1 : Int32) (aq2 : Int32)  (σ : Mm) : CtI E yX7_healingValues cX7_healingValues 7 (some .int) H_X7_healingValues [.ref (ad E 6), .int aq0, .int aq1, .int aq2] σ (f_X7_healingValues aq0 aq1 aq2 σ) := ct_I (by decide) (Nat.le_of_ble_eq_true rfl) rfl (fun G B => t_X7_healingValues B aq0 aq1 aq2  σ)
abbrev H_J6_bitCount_0f7a4 : Nat := 0
set_option maxHeartbeats 4000000 in
set_option maxRecDepth 100000 in
theorem t_J6_bitCount_0f7a4 {E : En} {G : Cx} (B : Bx E G cJ6_bitCount_0f7a4 1 RJ6 H_J6_bitCount_0f7a4 (some .int)) (aq0 : Int32)  (σ : Mm) : KR E G 1 (ZI E G) (f_J6_bitCount_0f7a4 aq0 σ) 0 [(0, .int aq0)] [] σ := by
  have F := B.1
  unfold f_J6_bitCount_0f7a4
  refine k_iload_n (pc := 0) F 0 0 dJ6_bitCount_0f7a4_0 rfl rfl ?_
  refine k_iload_n (pc := 1) F 0 0 dJ6_bitCount_0f7a4_1 rfl rfl ?_
  refine k_iconst (pc := 2) F (v := (1 : Int32)) dJ6_bitCount_0f7a4_2 ci_1 ?_
  refine k_iushr (pc := 3) F dJ6_bitCount_0f7a4_3 ?_
  refine k_ldcw (pc := 4) F (v := (1431655765 : Int32)) w_4_32 dJ6_bitCount_0f7a4_4 ?_
  refine k_iand (pc := 7) F dJ6_bitCount_0f7a4_7 ?_
  refine k_isub (pc := 8) F dJ6_bitCount_0f7a4_8 ?_
  refine k_nmI (fun vq1 => ?_)
  refine k_istore_n F (lv' := [(0, .int vq1)]) 0 dJ6_bitCount_0f7a4_9 rfl (by decide) rfl ?_
  refine k_iload_n (pc := 10) F 0 0 dJ6_bitCount_0f7a4_10 rfl rfl ?_
  refine k_ldcw (pc := 11) F (v := (858993459 : Int32)) w_4_33 dJ6_bitCount_0f7a4_11 ?_
  refine k_iand (pc := 14) F dJ6_bitCount_0f7a4_14 ?_
  refine k_iload_n (pc := 15) F 0 0 dJ6_bitCount_0f7a4_15 rfl rfl ?_
  refine k_iconst (pc := 16) F (v := (2 : Int32)) dJ6_bitCount_0f7a4_16 ci_2 ?_
  refine k_iushr (pc := 17) F dJ6_bitCount_0f7a4_17 ?_
  refine k_ldcw (pc := 18) F (v := (858993459 : Int32)) w_4_33 dJ6_bitCount_0f7a4_18 ?_
  refine k_iand (pc := 21) F dJ6_bitCount_0f7a4_21 ?_
  refine k_iadd (pc := 22) F dJ6_bitCount_0f7a4_22 ?_
  refine k_nmI (fun vq2 => ?_)
  refine k_istore_n F (lv' := [(0, .int vq2)]) 0 dJ6_bitCount_0f7a4_23 rfl (by decide) rfl ?_
  refine k_iload_n (pc := 24) F 0 0 dJ6_bitCount_0f7a4_24 rfl rfl ?_
  refine k_iload_n (pc := 25) F 0 0 dJ6_bitCount_0f7a4_25 rfl rfl ?_
  refine k_iconst (pc := 26) F (v := (4 : Int32)) dJ6_bitCount_0f7a4_26 ci_4 ?_
  refine k_iushr (pc := 27) F dJ6_bitCount_0f7a4_27 ?_
  refine k_iadd (pc := 28) F dJ6_bitCount_0f7a4_28 ?_
  refine k_ldcw (pc := 29) F (v := (252645135 : Int32)) w_4_34 dJ6_bitCount_0f7a4_29 ?_
  refine k_iand (pc := 32) F dJ6_bitCount_0f7a4_32 ?_
  refine k_nmI (fun vq3 => ?_)
  refine k_istore_n F (lv' := [(0, .int vq3)]) 0 dJ6_bitCount_0f7a4_33 rfl (by decide) rfl ?_
  refine k_iload_n (pc := 34) F 0 0 dJ6_bitCount_0f7a4_34 rfl rfl ?_
  refine k_iload_n (pc := 35) F 0 0 dJ6_bitCount_0f7a4_35 rfl rfl ?_
  refine k_bipush (pc := 36) F (v := (8 : Int32)) dJ6_bitCount_0f7a4_36 cb_8 ?_
  refine k_iushr (pc := 38) F dJ6_bitCount_0f7a4_38 ?_
  refine k_iadd (pc := 39) F dJ6_bitCount_0f7a4_39 ?_
  refine k_nmI (fun vq4 => ?_)
  refine k_istore_n F (lv' := [(0, .int vq4)]) 0 dJ6_bitCount_0f7a4_40 rfl (by decide) rfl ?_
  refine k_iload_n (pc := 41) F 0 0 dJ6_bitCount_0f7a4_41 rfl rfl ?_
  refine k_iload_n (pc := 42) F 0 0 dJ6_bitCount_0f7a4_42 rfl rfl ?_
  refine k_bipush (pc := 43) F (v := (16 : Int32)) dJ6_bitCount_0f7a4_43 cb_16 ?_
  refine k_iushr (pc := 45) F dJ6_bitCount_0f7a4_45 ?_
  refine k_iadd (pc := 46) F dJ6_bitCount_0f7a4_46 ?_
  refine k_nmI (fun vq5 => ?_)
  refine k_istore_n F (lv' := [(0, .int vq5)]) 0 dJ6_bitCount_0f7a4_47 rfl (by decide) rfl ?_
  refine k_iload_n (pc := 48) F 0 0 dJ6_bitCount_0f7a4_48 rfl rfl ?_
  refine k_bipush (pc := 49) F (v := (63 : Int32)) dJ6_bitCount_0f7a4_49 cb_63 ?_
  refine k_iand (pc := 51) F dJ6_bitCount_0f7a4_51 ?_
  exact k_iret (pc := 52) B dJ6_bitCount_0f7a4_52
set_option maxHeartbeats 4000000 in
set_option maxRecDepth 100000 in
theorem ct_J6_bitCount_0f7a4 (E : En) (aq0 : Int32)  (σ : Mm) : CtI E yJ6_bitCount_0f7a4 cJ6_bitCount_0f7a4 1 (some .int) H_J6_bitCount_0f7a4 [.int aq0] σ (f_J6_bitCount_0f7a4 aq0 σ) := ct_I (by decide +kernel) (Nat.le_of_ble_eq_true rfl) rfl (fun G B => t_J6_bitCount_0f7a4 B aq0  σ)
abbrev H_X7_findFencePlaces : Nat := 1
theorem hR_X7_findFencePlaces_X5_partOf : H_X5_partOf + 1 ≤ H_X7_findFencePlaces ∧ 8 + (4 + 11) + 40 * H_X5_partOf ≤ 40 * H_X7_findFencePlaces := by decide
theorem hR_X7_findFencePlaces_X5_isDone : H_X5_isDone + 1 ≤ H_X7_findFencePlaces ∧ 8 + (3 + 11) + 40 * H_X5_isDone ≤ 40 * H_X7_findFencePlaces := by decide
set_option maxHeartbeats 4000000 in
set_option maxRecDepth 100000 in
theorem t_X7_findFencePlaces_76 {E : En} {G : Cx} (B : Bx E G cX7_findFencePlaces 4 RX7 H_X7_findFencePlaces (some .int)) (xq1 : Int32) (xq2 : Int32) (xq3 : Int32)  (L17 : Int32 → Int32 → Mm → Option (Int32 × Mm)) (hL17 : ∀ (xq1 : Int32) (xq3 : Int32)  (σ : Mm), KR E G 4 (ZI E G) (L17 xq1 xq3 σ) 17 [(0, .ref (ad E 6)), (1, .int xq1), (2, .int xq2), (3, .int xq3)] [] σ)  (σ : Mm) : KR E G 4 (ZI E G) (f_X7_findFencePlaces_76 L17 xq1 xq2 xq3 σ) 76 [(0, .ref (ad E 6)), (1, .int xq1), (2, .int xq2), (3, .int xq3)] [] σ := by
  have F := B.1
  unfold f_X7_findFencePlaces_76
  refine k_iinc (pc := 76) F (c := (1 : Int32)) (lw := fun wq => [(3, .int wq), (0, .ref (ad E 6)), (1, .int xq1), (2, .int xq2)]) 3 3 dX7_findFencePlaces_76 rfl ci_1 (by decide) (fun _ => rfl) (fun vq5 => ?_)
  refine k_goto (pc := 79) F 17 dX7_findFencePlaces_79 (by decide) ?_
  exact k_sub [1, 2, 3, 0] rfl (hL17 xq1 vq5 σ)
set_option maxHeartbeats 4000000 in
set_option maxRecDepth 100000 in
theorem t_X7_findFencePlaces_L17b {E : En} {G : Cx} (B : Bx E G cX7_findFencePlaces 4 RX7 H_X7_findFencePlaces (some .int)) (xq2 : Int32)  (K82 : Int32 → Mm → Option (Int32 × Mm)) (hK82 : ∀ (xq1 : Int32)  (σ : Mm), KR E G 4 (ZI E G) (K82 xq1 σ) 82 [(0, .ref (ad E 6)), (1, .int xq1), (2, .int xq2)] [] σ)  (L17 : Int32 → Int32 → Mm → Option (Int32 × Mm)) (hL17 : ∀ (xq1 : Int32) (xq3 : Int32)  (σ : Mm), KR E G 4 (ZI E G) (L17 xq1 xq3 σ) 17 [(0, .ref (ad E 6)), (1, .int xq1), (2, .int xq2), (3, .int xq3)] [] σ) (xq1 : Int32) (xq3 : Int32)  (σ : Mm) : KR E G 4 (ZI E G) (f_X7_findFencePlaces_L17 K82 xq2 L17 xq1 xq3 σ) 17 [(0, .ref (ad E 6)), (1, .int xq1), (2, .int xq2), (3, .int xq3)] [] σ := by
  have F := B.1
  unfold f_X7_findFencePlaces_L17
  refine k_iload_n (pc := 17) F 3 3 dX7_findFencePlaces_17 rfl rfl ?_
  refine k_aload_n (pc := 18) F 0 0 dX7_findFencePlaces_18 rfl rfl ?_
  refine gf_6_0 (pc := 19) F w_1_231 dX7_findFencePlaces_19 ?_
  refine gf_7_1 (pc := 22) F w_1_104 dX7_findFencePlaces_22 ?_
  refine k_iload_n (pc := 25) F 2 2 dX7_findFencePlaces_25 rfl rfl ?_
  refine k_iald (pc := 26) F rfl dX7_findFencePlaces_26 ?_
  refine k_icmp_ge (pc := 27) F 82 dX7_findFencePlaces_27 (by decide) (fun _ => ?_) (fun _ => ?_)
  · exact k_sub [0, 1, 2] rfl (hK82 xq1 σ)
  · refine k_aload_n (pc := 30) F 0 0 dX7_findFencePlaces_30 rfl rfl ?_
    refine gf_6_0 (pc := 31) F w_1_231 dX7_findFencePlaces_31 ?_
    refine k_iload_n (pc := 34) F 2 2 dX7_findFencePlaces_34 rfl rfl ?_
    refine k_callVI (pc := 35) B (k := 7) (As := [.int xq2]) (rest := []) (ct_X5_isDone E xq2  σ) rfl rfl mv_X5_isDone w_4_25 rfl hR_X7_findFencePlaces_X5_isDone rfl (Nat.le_of_ble_eq_true rfl) dX7_findFencePlaces_35 (fun rq2 σ1 hoq => ?_)
    refine k_if_eq (pc := 38) F 82 dX7_findFencePlaces_38 (by decide) (fun _ => ?_) (fun _ => ?_)
    · exact k_sub [0, 1, 2] rfl (hK82 xq1 σ1)
    · refine k_aload_n (pc := 41) F 0 0 dX7_findFencePlaces_41 rfl rfl ?_
      refine gf_6_0 (pc := 42) F w_1_231 dX7_findFencePlaces_42 ?_
      refine k_iload_n (pc := 45) F 2 2 dX7_findFencePlaces_45 rfl rfl ?_
      refine k_iload_n (pc := 46) F 3 3 dX7_findFencePlaces_46 rfl rfl ?_
      refine k_iconst (pc := 47) F (v := (0 : Int32)) dX7_findFencePlaces_47 ci_0 ?_
      refine k_callVI (pc := 48) B (k := 7) (As := [.int xq2, .int xq3, .int (0 : Int32)]) (rest := []) (ct_X5_partOf E xq2 xq3 (0 : Int32)  σ1) rfl rfl mv_X5_partOf w_4_9 rfl hR_X7_findFencePlaces_X5_partOf rfl (Nat.le_of_ble_eq_true rfl) dX7_findFencePlaces_48 (fun rq4 σ3 hoq => ?_)
      refine k_iconst (pc := 51) F (v := (2 : Int32)) dX7_findFencePlaces_51 ci_2 ?_
      refine k_icmp_ne (pc := 52) F 76 dX7_findFencePlaces_52 (by decide) (fun _ => ?_) (fun _ => ?_)
      · refine k_iload_n (pc := 55) F 1 1 dX7_findFencePlaces_55 rfl rfl ?_
        refine k_bipush (pc := 56) F (v := (6 : Int32)) dX7_findFencePlaces_56 cb_6 ?_
        refine k_icmp_ge (pc := 58) F 76 dX7_findFencePlaces_58 (by decide) (fun _ => ?_) (fun _ => ?_)
        · exact k_sub [0, 1, 2, 3] rfl (t_X7_findFencePlaces_76 B xq1 xq2 xq3  L17 hL17  σ3)
        · refine k_aload_n (pc := 61) F 0 0 dX7_findFencePlaces_61 rfl rfl ?_
          refine gf_6_5 (pc := 62) F w_2_0 dX7_findFencePlaces_62 ?_
          refine k_iload_n (pc := 65) F 1 1 dX7_findFencePlaces_65 rfl rfl ?_
          refine k_iload_n (pc := 66) F 2 2 dX7_findFencePlaces_66 rfl rfl ?_
          refine k_bipush (pc := 67) F (v := (7 : Int32)) dX7_findFencePlaces_67 cb_7 ?_
          refine k_imul (pc := 69) F dX7_findFencePlaces_69 ?_
          refine k_iload_n (pc := 70) F 3 3 dX7_findFencePlaces_70 rfl rfl ?_
          refine k_iadd (pc := 71) F dX7_findFencePlaces_71 ?_
          refine k_iast (pc := 72) F rfl dX7_findFencePlaces_72 (fun σ6 => ?_)
          refine k_iinc (pc := 73) F (c := (1 : Int32)) (lw := fun wq => [(1, .int wq), (0, .ref (ad E 6)), (2, .int xq2), (3, .int xq3)]) 1 1 dX7_findFencePlaces_73 rfl ci_1 (by decide) (fun _ => rfl) (fun vq7 => ?_)
          exact k_sub [1, 0, 2, 3] rfl (t_X7_findFencePlaces_76 B vq7 xq2 xq3  L17 hL17  σ6)
      · exact k_sub [0, 1, 2, 3] rfl (t_X7_findFencePlaces_76 B xq1 xq2 xq3  L17 hL17  σ3)
set_option maxHeartbeats 4000000 in
set_option maxRecDepth 100000 in
theorem t_X7_findFencePlaces_L17 {E : En} {G : Cx} (B : Bx E G cX7_findFencePlaces 4 RX7 H_X7_findFencePlaces (some .int)) (xq2 : Int32)  (K82 : Int32 → Mm → Option (Int32 × Mm)) (hK82 : ∀ (xq1 : Int32)  (σ : Mm), KR E G 4 (ZI E G) (K82 xq1 σ) 82 [(0, .ref (ad E 6)), (1, .int xq1), (2, .int xq2)] [] σ)  : ∀ (n : Nat) (xq1 : Int32) (xq3 : Int32)  (σ : Mm), KR E G 4 (ZI E G) (fx (fun _ _ _ => none) n (f_X7_findFencePlaces_L17 K82 xq2) xq1 xq3 σ) 17 [(0, .ref (ad E 6)), (1, .int xq1), (2, .int xq2), (3, .int xq3)] [] σ :=
  fun n => fx_ind (P := fun f => ∀ (xq1 : Int32) (xq3 : Int32)  (σ : Mm), KR E G 4 (ZI E G) (f xq1 xq3 σ) 17 [(0, .ref (ad E 6)), (1, .int xq1), (2, .int xq2), (3, .int xq3)] [] σ) (fun _ _ _ => k_none) (fun L17 hL17 xq1 xq3 σ => t_X7_findFencePlaces_L17b B xq2  K82 hK82  L17 hL17 xq1 xq3 σ) n
set_option maxHeartbeats 4000000 in
set_option maxRecDepth 100000 in
theorem t_X7_findFencePlaces_82 {E : En} {G : Cx} (B : Bx E G cX7_findFencePlaces 4 RX7 H_X7_findFencePlaces (some .int)) (xq1 : Int32) (xq2 : Int32)  (L4 : Int32 → Int32 → Mm → Option (Int32 × Mm)) (hL4 : ∀ (xq1 : Int32) (xq2 : Int32)  (σ : Mm), KR E G 4 (ZI E G) (L4 xq1 xq2 σ) 4 [(0, .ref (ad E 6)), (1, .int xq1), (2, .int xq2)] [] σ)  (σ : Mm) : KR E G 4 (ZI E G) (f_X7_findFencePlaces_82 L4 xq1 xq2 σ) 82 [(0, .ref (ad E 6)), (1, .int xq1), (2, .int xq2)] [] σ := by
  have F := B.1
  unfold f_X7_findFencePlaces_82
  refine k_iinc (pc := 82) F (c := (1 : Int32)) (lw := fun wq => [(2, .int wq), (0, .ref (ad E 6)), (1, .int xq1)]) 2 2 dX7_findFencePlaces_82 rfl ci_1 (by decide) (fun _ => rfl) (fun vq8 => ?_)
  refine k_goto (pc := 85) F 4 dX7_findFencePlaces_85 (by decide) ?_
  exact k_sub [1, 2, 0] rfl (hL4 xq1 vq8 σ)
set_option maxHeartbeats 4000000 in
set_option maxRecDepth 100000 in
theorem t_X7_findFencePlaces_L4b {E : En} {G : Cx} (B : Bx E G cX7_findFencePlaces 4 RX7 H_X7_findFencePlaces (some .int))    (L4 : Int32 → Int32 → Mm → Option (Int32 × Mm)) (hL4 : ∀ (xq1 : Int32) (xq2 : Int32)  (σ : Mm), KR E G 4 (ZI E G) (L4 xq1 xq2 σ) 4 [(0, .ref (ad E 6)), (1, .int xq1), (2, .int xq2)] [] σ) (xq1 : Int32) (xq2 : Int32)  (σ : Mm) : KR E G 4 (ZI E G) (f_X7_findFencePlaces_L4  L4 xq1 xq2 σ) 4 [(0, .ref (ad E 6)), (1, .int xq1), (2, .int xq2)] [] σ := by
  have F := B.1
  unfold f_X7_findFencePlaces_L4
  refine k_iload_n (pc := 4) F 2 2 dX7_findFencePlaces_4 rfl rfl ?_
  refine k_aload_n (pc := 5) F 0 0 dX7_findFencePlaces_5 rfl rfl ?_
  refine gf_6_0 (pc := 6) F w_1_231 dX7_findFencePlaces_6 ?_
  refine gf_7_0 (pc := 9) F w_1_99 dX7_findFencePlaces_9 ?_
  refine k_icmp_ge (pc := 12) F 88 dX7_findFencePlaces_12 (by decide) (fun _ => ?_) (fun _ => ?_)
  · refine k_iload_n (pc := 88) F 1 1 dX7_findFencePlaces_88 rfl rfl ?_
    exact k_iret (pc := 89) B dX7_findFencePlaces_89
  · refine k_iconst (pc := 15) F (v := (0 : Int32)) dX7_findFencePlaces_15 ci_0 ?_
    refine k_istore_n F (lv' := [(3, .int (0 : Int32)), (0, .ref (ad E 6)), (1, .int xq1), (2, .int xq2)]) 3 dX7_findFencePlaces_16 rfl (by decide) rfl ?_
    exact k_sub [1, 2, 3, 0] rfl (t_X7_findFencePlaces_L17 B xq2  _ (fun xq1  σ => by
          exact k_sub [0, 1, 2] rfl (t_X7_findFencePlaces_82 B xq1 xq2  L4 hL4  σ)) FU xq1 (0 : Int32)  σ)
set_option maxHeartbeats 4000000 in
set_option maxRecDepth 100000 in
theorem t_X7_findFencePlaces_L4 {E : En} {G : Cx} (B : Bx E G cX7_findFencePlaces 4 RX7 H_X7_findFencePlaces (some .int))    : ∀ (n : Nat) (xq1 : Int32) (xq2 : Int32)  (σ : Mm), KR E G 4 (ZI E G) (fx (fun _ _ _ => none) n (f_X7_findFencePlaces_L4 ) xq1 xq2 σ) 4 [(0, .ref (ad E 6)), (1, .int xq1), (2, .int xq2)] [] σ :=
  fun n => fx_ind (P := fun f => ∀ (xq1 : Int32) (xq2 : Int32)  (σ : Mm), KR E G 4 (ZI E G) (f xq1 xq2 σ) 4 [(0, .ref (ad E 6)), (1, .int xq1), (2, .int xq2)] [] σ) (fun _ _ _ => k_none) (fun L4 hL4 xq1 xq2 σ => t_X7_findFencePlaces_L4b B    L4 hL4 xq1 xq2 σ) n
set_option maxHeartbeats 4000000 in
set_option maxRecDepth 100000 in
theorem t_X7_findFencePlaces {E : En} {G : Cx} (B : Bx E G cX7_findFencePlaces 4 RX7 H_X7_findFencePlaces (some .int))   (σ : Mm) : KR E G 4 (ZI E G) (f_X7_findFencePlaces  σ) 0 [(0, .ref (ad E 6))] [] σ := by
  have F := B.1
  unfold f_X7_findFencePlaces
  refine k_iconst (pc := 0) F (v := (0 : Int32)) dX7_findFencePlaces_0 ci_0 ?_
  refine k_istore_n F (lv' := [(1, .int (0 : Int32)), (0, .ref (ad E 6))]) 1 dX7_findFencePlaces_1 rfl (by decide) rfl ?_
  refine k_iconst (pc := 2) F (v := (0 : Int32)) dX7_findFencePlaces_2 ci_0 ?_
  refine k_istore_n F (lv' := [(2, .int (0 : Int32)), (1, .int (0 : Int32)), (0, .ref (ad E 6))]) 2 dX7_findFencePlaces_3 rfl (by decide) rfl ?_
  exact k_sub [2, 1, 0] rfl (t_X7_findFencePlaces_L4 B    FU (0 : Int32) (0 : Int32)  σ)
set_option maxHeartbeats 4000000 in
set_option maxRecDepth 100000 in
theorem ct_X7_findFencePlaces (E : En)   (σ : Mm) : CtI E yX7_findFencePlaces cX7_findFencePlaces 4 (some .int) H_X7_findFencePlaces [.ref (ad E 6)] σ (f_X7_findFencePlaces  σ) := ct_I (by decide) (Nat.le_of_ble_eq_true rfl) rfl (fun G B => t_X7_findFencePlaces B   σ)
abbrev H_X7_tryFences : Nat := 5
theorem hR_X7_tryFences_X7_goThrough : H_X7_goThrough + 1 ≤ H_X7_tryFences ∧ 8 + (3 + 11) + 40 * H_X7_goThrough ≤ 40 * H_X7_tryFences := by decide
theorem hR_X7_tryFences_X7_leastBad : H_X7_leastBad + 1 ≤ H_X7_tryFences ∧ 8 + (3 + 11) + 40 * H_X7_leastBad ≤ 40 * H_X7_tryFences := by decide
set_option maxHeartbeats 4000000 in
set_option maxRecDepth 100000 in
theorem t_X7_tryFences_36 {E : En} {G : Cx} (B : Bx E G cX7_tryFences 7 RX7 H_X7_tryFences (some .int)) (xq1 : Int32) (xq2 : Int32) (xq4 : Int64) (xq6 : Int32)  (L6 : Int64 → Int32 → Mm → Option (Int32 × Mm)) (hL6 : ∀ (xq4 : Int64) (xq6 : Int32)  (σ : Mm), KR E G 7 (ZI E G) (L6 xq4 xq6 σ) 6 [(0, .ref (ad E 6)), (1, .int xq1), (2, .int xq2), (3, .ref (ad E 28)), (4, .long xq4), (6, .int xq6)] [] σ)  (σ : Mm) : KR E G 7 (ZI E G) (f_X7_tryFences_36 L6 xq1 xq2 xq4 xq6 σ) 36 [(0, .ref (ad E 6)), (1, .int xq1), (2, .int xq2), (3, .ref (ad E 28)), (4, .long xq4), (6, .int xq6)] [] σ := by
  have F := B.1
  unfold f_X7_tryFences_36
  refine k_iinc (pc := 36) F (c := (1 : Int32)) (lw := fun wq => [(6, .int wq), (0, .ref (ad E 6)), (1, .int xq1), (2, .int xq2), (3, .ref (ad E 28)), (4, .long xq4)]) 6 5 dX7_tryFences_36 rfl ci_1 (by decide) (fun _ => rfl) (fun vq1 => ?_)
  refine k_goto (pc := 39) F 6 dX7_tryFences_39 (by decide) ?_
  exact k_sub [1, 2, 3, 4, 5, 0] rfl (hL6 xq4 vq1 σ)
set_option maxHeartbeats 4000000 in
set_option maxRecDepth 100000 in
theorem t_X7_tryFences_L6b {E : En} {G : Cx} (B : Bx E G cX7_tryFences 7 RX7 H_X7_tryFences (some .int)) (xq1 : Int32) (xq2 : Int32)  (K42 : Int64 → Mm → Option (Int32 × Mm)) (hK42 : ∀ (xq4 : Int64)  (σ : Mm), KR E G 7 (ZI E G) (K42 xq4 σ) 42 [(0, .ref (ad E 6)), (1, .int xq1), (3, .ref (ad E 28)), (4, .long xq4)] [] σ)  (L6 : Int64 → Int32 → Mm → Option (Int32 × Mm)) (hL6 : ∀ (xq4 : Int64) (xq6 : Int32)  (σ : Mm), KR E G 7 (ZI E G) (L6 xq4 xq6 σ) 6 [(0, .ref (ad E 6)), (1, .int xq1), (2, .int xq2), (3, .ref (ad E 28)), (4, .long xq4), (6, .int xq6)] [] σ) (xq4 : Int64) (xq6 : Int32)  (σ : Mm) : KR E G 7 (ZI E G) (f_X7_tryFences_L6 K42 xq1 xq2 L6 xq4 xq6 σ) 6 [(0, .ref (ad E 6)), (1, .int xq1), (2, .int xq2), (3, .ref (ad E 28)), (4, .long xq4), (6, .int xq6)] [] σ := by
  have F := B.1
  unfold f_X7_tryFences_L6
  refine k_iload (pc := 6) F 6 5 dX7_tryFences_6 rfl ?_
  refine k_iload_n (pc := 8) F 2 2 dX7_tryFences_8 rfl rfl ?_
  refine k_icmp_ge (pc := 9) F 42 dX7_tryFences_9 (by decide) (fun _ => ?_) (fun _ => ?_)
  · exact k_sub [0, 1, 3, 4] rfl (hK42 xq4 σ)
  · refine k_iload_n (pc := 12) F 1 1 dX7_tryFences_12 rfl rfl ?_
    refine k_iload (pc := 13) F 6 5 dX7_tryFences_13 rfl ?_
    refine k_ishr (pc := 15) F dX7_tryFences_15 ?_
    refine k_iconst (pc := 16) F (v := (1 : Int32)) dX7_tryFences_16 ci_1 ?_
    refine k_iand (pc := 17) F dX7_tryFences_17 ?_
    refine k_iconst (pc := 18) F (v := (1 : Int32)) dX7_tryFences_18 ci_1 ?_
    refine k_icmp_ne (pc := 19) F 36 dX7_tryFences_19 (by decide) (fun _ => ?_) (fun _ => ?_)
    · refine k_lload (pc := 22) F 4 4 dX7_tryFences_22 rfl ?_
      refine k_lconst (pc := 24) F (v := (1 : Int64)) dX7_tryFences_24 cl_1 ?_
      refine k_aload_n (pc := 25) F 0 0 dX7_tryFences_25 rfl rfl ?_
      refine gf_6_5 (pc := 26) F w_2_0 dX7_tryFences_26 ?_
      refine k_iload (pc := 29) F 6 5 dX7_tryFences_29 rfl ?_
      refine k_iald (pc := 31) F rfl dX7_tryFences_31 ?_
      refine k_lshl (pc := 32) F dX7_tryFences_32 ?_
      refine k_lor (pc := 33) F dX7_tryFences_33 ?_
      refine k_nmL (fun vq2 => ?_)
      refine k_lstore F (lv' := [(4, .long vq2), (0, .ref (ad E 6)), (1, .int xq1), (2, .int xq2), (3, .ref (ad E 28)), (6, .int xq6)]) 4 dX7_tryFences_34 (by decide) rfl ?_
      exact k_sub [1, 2, 3, 4, 0, 5] rfl (t_X7_tryFences_36 B xq1 xq2 vq2 xq6  L6 hL6  σ)
    · exact k_sub [0, 1, 2, 3, 4, 5] rfl (t_X7_tryFences_36 B xq1 xq2 xq4 xq6  L6 hL6  σ)
set_option maxHeartbeats 4000000 in
set_option maxRecDepth 100000 in
theorem t_X7_tryFences_L6 {E : En} {G : Cx} (B : Bx E G cX7_tryFences 7 RX7 H_X7_tryFences (some .int)) (xq1 : Int32) (xq2 : Int32)  (K42 : Int64 → Mm → Option (Int32 × Mm)) (hK42 : ∀ (xq4 : Int64)  (σ : Mm), KR E G 7 (ZI E G) (K42 xq4 σ) 42 [(0, .ref (ad E 6)), (1, .int xq1), (3, .ref (ad E 28)), (4, .long xq4)] [] σ)  : ∀ (n : Nat) (xq4 : Int64) (xq6 : Int32)  (σ : Mm), KR E G 7 (ZI E G) (fx (fun _ _ _ => none) n (f_X7_tryFences_L6 K42 xq1 xq2) xq4 xq6 σ) 6 [(0, .ref (ad E 6)), (1, .int xq1), (2, .int xq2), (3, .ref (ad E 28)), (4, .long xq4), (6, .int xq6)] [] σ :=
  fun n => fx_ind (P := fun f => ∀ (xq4 : Int64) (xq6 : Int32)  (σ : Mm), KR E G 7 (ZI E G) (f xq4 xq6 σ) 6 [(0, .ref (ad E 6)), (1, .int xq1), (2, .int xq2), (3, .ref (ad E 28)), (4, .long xq4), (6, .int xq6)] [] σ) (fun _ _ _ => k_none) (fun L6 hL6 xq4 xq6 σ => t_X7_tryFences_L6b B xq1 xq2  K42 hK42  L6 hL6 xq4 xq6 σ) n
set_option maxHeartbeats 4000000 in
set_option maxRecDepth 100000 in
theorem t_X7_tryFences_42 {E : En} {G : Cx} (B : Bx E G cX7_tryFences 7 RX7 H_X7_tryFences (some .int)) (xq1 : Int32) (xq4 : Int64)   (σ : Mm) : KR E G 7 (ZI E G) (f_X7_tryFences_42 xq1 xq4 σ) 42 [(0, .ref (ad E 6)), (1, .int xq1), (3, .ref (ad E 28)), (4, .long xq4)] [] σ := by
  have F := B.1
  unfold f_X7_tryFences_42
  refine k_aload_n (pc := 42) F 0 0 dX7_tryFences_42 rfl rfl ?_
  refine k_lload (pc := 43) F 4 3 dX7_tryFences_43 rfl ?_
  refine k_callVV (pc := 45) B (k := 6) (As := [.long xq4]) (rest := []) (ct_X7_goThrough E xq4  σ) rfl rfl mv_X7_goThrough w_3_46 rfl hR_X7_tryFences_X7_goThrough rfl (Nat.le_of_ble_eq_true rfl) dX7_tryFences_45 (fun rq4 σ3 hoq => ?_)
  refine k_aload_n (pc := 48) F 0 0 dX7_tryFences_48 rfl rfl ?_
  refine gf_6_2 (pc := 49) F w_1_235 dX7_tryFences_49 ?_
  refine gf_18_8 (pc := 52) F w_1_189 dX7_tryFences_52 ?_
  refine k_if_eq (pc := 55) F 61 dX7_tryFences_55 (by decide) (fun _ => ?_) (fun _ => ?_)
  · refine k_aload_n (pc := 61) F 0 0 dX7_tryFences_61 rfl rfl ?_
    refine k_aload_n (pc := 62) F 3 2 dX7_tryFences_62 rfl rfl ?_
    refine k_callVI (pc := 63) B (k := 6) (As := [.ref (ad E 28)]) (rest := []) (ct_X7_leastBad E   σ3) rfl rfl mv_X7_leastBad w_3_202 rfl hR_X7_tryFences_X7_leastBad rfl (Nat.le_of_ble_eq_true rfl) dX7_tryFences_63 (fun rq6 σ5 hoq => ?_)
    refine k_if_ge (pc := 66) F 73 dX7_tryFences_66 (by decide) (fun _ => ?_) (fun _ => ?_)
    · refine k_iconst (pc := 73) F (v := (-1 : Int32)) dX7_tryFences_73 ci_m1 ?_
      exact k_iret (pc := 74) B dX7_tryFences_74
    · refine k_iload_n (pc := 69) F 1 1 dX7_tryFences_69 rfl rfl ?_
      refine k_goto (pc := 70) F 74 dX7_tryFences_70 (by decide) ?_
      exact k_iret (pc := 74) B dX7_tryFences_74
  · refine k_bipush (pc := 58) F (v := (-2 : Int32)) dX7_tryFences_58 cb_m2 ?_
    exact k_iret (pc := 60) B dX7_tryFences_60
set_option maxHeartbeats 4000000 in
set_option maxRecDepth 100000 in
theorem t_X7_tryFences {E : En} {G : Cx} (B : Bx E G cX7_tryFences 7 RX7 H_X7_tryFences (some .int)) (aq0 : Int32) (aq1 : Int32)  (σ : Mm) : KR E G 7 (ZI E G) (f_X7_tryFences aq0 aq1 σ) 0 [(0, .ref (ad E 6)), (1, .int aq0), (2, .int aq1), (3, .ref (ad E 28))] [] σ := by
  have F := B.1
  unfold f_X7_tryFences
  refine k_lconst (pc := 0) F (v := (0 : Int64)) dX7_tryFences_0 cl_0 ?_
  refine k_lstore F (lv' := [(4, .long (0 : Int64)), (0, .ref (ad E 6)), (1, .int aq0), (2, .int aq1), (3, .ref (ad E 28))]) 4 dX7_tryFences_1 (by decide) rfl ?_
  refine k_iconst (pc := 3) F (v := (0 : Int32)) dX7_tryFences_3 ci_0 ?_
  refine k_istore F (lv' := [(6, .int (0 : Int32)), (4, .long (0 : Int64)), (0, .ref (ad E 6)), (1, .int aq0), (2, .int aq1), (3, .ref (ad E 28))]) 6 dX7_tryFences_4 (by decide) rfl ?_
  exact k_sub [2, 3, 4, 5, 1, 0] rfl (t_X7_tryFences_L6 B aq0 aq1  _ (fun xq4  σ => by
        exact k_sub [0, 1, 2, 3] rfl (t_X7_tryFences_42 B aq0 xq4   σ)) FU (0 : Int64) (0 : Int32)  σ)
set_option maxHeartbeats 4000000 in
set_option maxRecDepth 100000 in
theorem ct_X7_tryFences (E : En) (aq0 : Int32) (aq1 : Int32)  (σ : Mm) : CtI E yX7_tryFences cX7_tryFences 7 (some .int) H_X7_tryFences [.ref (ad E 6), .int aq0, .int aq1, .ref (ad E 28)] σ (f_X7_tryFences aq0 aq1 σ) := ct_I (by decide) (Nat.le_of_ble_eq_true rfl) rfl (fun G B => t_X7_tryFences B aq0 aq1  σ)
abbrev H_X7_fewestFences : Nat := 14
theorem hR_X7_fewestFences_X7_orderedResults : H_X7_orderedResults + 1 ≤ H_X7_fewestFences ∧ 8 + (1 + 11) + 40 * H_X7_orderedResults ≤ 40 * H_X7_fewestFences := by decide
theorem hR_X7_fewestFences_X7_findFencePlaces : H_X7_findFencePlaces + 1 ≤ H_X7_fewestFences ∧ 8 + (4 + 11) + 40 * H_X7_findFencePlaces ≤ 40 * H_X7_fewestFences := by decide
theorem hR_X7_fewestFences_X7_isTooLarge : H_X7_isTooLarge + 1 ≤ H_X7_fewestFences ∧ 8 + (1 + 11) + 40 * H_X7_isTooLarge ≤ 40 * H_X7_fewestFences := by decide
theorem hR_X7_fewestFences_J6_bitCount_0f7a4 : H_J6_bitCount_0f7a4 + 1 ≤ H_X7_fewestFences ∧ 8 + (1 + 11) + 40 * H_J6_bitCount_0f7a4 ≤ 40 * H_X7_fewestFences := by decide
theorem hR_X7_fewestFences_X7_tryFences : H_X7_tryFences + 1 ≤ H_X7_fewestFences ∧ 8 + (7 + 11) + 40 * H_X7_tryFences ≤ 40 * H_X7_fewestFences := by decide
theorem hR_X7_fewestFences_X7_leastBad : H_X7_leastBad + 1 ≤ H_X7_fewestFences ∧ 8 + (3 + 11) + 40 * H_X7_leastBad ≤ 40 * H_X7_fewestFences := by decide
set_option maxHeartbeats 4000000 in
set_option maxRecDepth 100000 in
theorem t_X7_fewestFences_81 {E : En} {G : Cx} (B : Bx E G cX7_fewestFences 6 RX7 H_X7_fewestFences (some .int)) (xq2 : Int32) (xq3 : Int32) (xq4 : Int32) (xq5 : Int32)  (L49 : Int32 → Int32 → Mm → Option (Int32 × Mm)) (hL49 : ∀ (xq3 : Int32) (xq5 : Int32)  (σ : Mm), KR E G 6 (ZI E G) (L49 xq3 xq5 σ) 49 [(0, .ref (ad E 6)), (1, .ref (ad E 28)), (2, .int xq2), (3, .int xq3), (4, .int xq4), (5, .int xq5)] [] σ)  (σ : Mm) : KR E G 6 (ZI E G) (f_X7_fewestFences_81 L49 xq2 xq3 xq4 xq5 σ) 81 [(0, .ref (ad E 6)), (1, .ref (ad E 28)), (2, .int xq2), (3, .int xq3), (4, .int xq4), (5, .int xq5)] [] σ := by
  have F := B.1
  unfold f_X7_fewestFences_81
  refine k_iinc (pc := 81) F (c := (1 : Int32)) (lw := fun wq => [(5, .int wq), (0, .ref (ad E 6)), (1, .ref (ad E 28)), (2, .int xq2), (3, .int xq3), (4, .int xq4)]) 5 5 dX7_fewestFences_81 rfl ci_1 (by decide) (fun _ => rfl) (fun vq13 => ?_)
  refine k_goto (pc := 84) F 49 dX7_fewestFences_84 (by decide) ?_
  exact k_sub [1, 2, 3, 4, 5, 0] rfl (hL49 xq3 vq13 σ)
set_option maxHeartbeats 4000000 in
set_option maxRecDepth 100000 in
theorem t_X7_fewestFences_L49b {E : En} {G : Cx} (B : Bx E G cX7_fewestFences 6 RX7 H_X7_fewestFences (some .int)) (xq2 : Int32) (xq4 : Int32)  (K87 : Int32 → Mm → Option (Int32 × Mm)) (hK87 : ∀ (xq3 : Int32)  (σ : Mm), KR E G 6 (ZI E G) (K87 xq3 σ) 87 [(0, .ref (ad E 6)), (1, .ref (ad E 28)), (2, .int xq2), (3, .int xq3), (4, .int xq4)] [] σ)  (L49 : Int32 → Int32 → Mm → Option (Int32 × Mm)) (hL49 : ∀ (xq3 : Int32) (xq5 : Int32)  (σ : Mm), KR E G 6 (ZI E G) (L49 xq3 xq5 σ) 49 [(0, .ref (ad E 6)), (1, .ref (ad E 28)), (2, .int xq2), (3, .int xq3), (4, .int xq4), (5, .int xq5)] [] σ) (xq3 : Int32) (xq5 : Int32)  (σ : Mm) : KR E G 6 (ZI E G) (f_X7_fewestFences_L49 K87 xq2 xq4 L49 xq3 xq5 σ) 49 [(0, .ref (ad E 6)), (1, .ref (ad E 28)), (2, .int xq2), (3, .int xq3), (4, .int xq4), (5, .int xq5)] [] σ := by
  have F := B.1
  unfold f_X7_fewestFences_L49
  refine k_iload (pc := 49) F 5 5 dX7_fewestFences_49 rfl ?_
  refine k_iconst (pc := 51) F (v := (1 : Int32)) dX7_fewestFences_51 ci_1 ?_
  refine k_iload_n (pc := 52) F 2 2 dX7_fewestFences_52 rfl rfl ?_
  refine k_ishl (pc := 53) F dX7_fewestFences_53 ?_
  refine k_icmp_ge (pc := 54) F 87 dX7_fewestFences_54 (by decide) (fun _ => ?_) (fun _ => ?_)
  · exact k_sub [0, 1, 2, 3, 4] rfl (hK87 xq3 σ)
  · refine k_iload_n (pc := 57) F 3 3 dX7_fewestFences_57 rfl rfl ?_
    refine k_iconst (pc := 58) F (v := (-1 : Int32)) dX7_fewestFences_58 ci_m1 ?_
    refine k_icmp_ne (pc := 59) F 87 dX7_fewestFences_59 (by decide) (fun _ => ?_) (fun _ => ?_)
    · refine k_iload (pc := 62) F 5 5 dX7_fewestFences_62 rfl ?_
      refine k_callSI (pc := 64) B (As := [.int xq5]) (rest := []) (ct_J6_bitCount_0f7a4 E xq5  σ) ms_J6_bitCount_0f7a4 w_4_29 rfl hR_X7_fewestFences_J6_bitCount_0f7a4 rfl (Nat.le_of_ble_eq_true rfl) dX7_fewestFences_64 (fun rq12 σ11 hoq => ?_)
      refine k_iload (pc := 67) F 4 4 dX7_fewestFences_67 rfl ?_
      refine k_icmp_ne (pc := 69) F 81 dX7_fewestFences_69 (by decide) (fun _ => ?_) (fun _ => ?_)
      · refine k_aload_n (pc := 72) F 0 0 dX7_fewestFences_72 rfl rfl ?_
        refine k_iload (pc := 73) F 5 5 dX7_fewestFences_73 rfl ?_
        refine k_iload_n (pc := 75) F 2 2 dX7_fewestFences_75 rfl rfl ?_
        refine k_aload_n (pc := 76) F 1 1 dX7_fewestFences_76 rfl rfl ?_
        refine k_callVI (pc := 77) B (k := 6) (As := [.int xq5, .int xq2, .ref (ad E 28)]) (rest := []) (ct_X7_tryFences E xq5 xq2  σ11) rfl rfl mv_X7_tryFences w_4_35 rfl hR_X7_fewestFences_X7_tryFences rfl (Nat.le_of_ble_eq_true rfl) dX7_fewestFences_77 (fun rq15 σ14 hoq => ?_)
        refine k_istore_n F (lv' := [(3, .int rq15), (0, .ref (ad E 6)), (1, .ref (ad E 28)), (2, .int xq2), (4, .int xq4), (5, .int xq5)]) 3 dX7_fewestFences_80 rfl (by decide) rfl ?_
        exact k_sub [1, 2, 3, 0, 4, 5] rfl (t_X7_fewestFences_81 B xq2 rq15 xq4 xq5  L49 hL49  σ14)
      · exact k_sub [0, 1, 2, 3, 4, 5] rfl (t_X7_fewestFences_81 B xq2 xq3 xq4 xq5  L49 hL49  σ11)
    · exact k_sub [0, 1, 2, 3, 4] rfl (hK87 xq3 σ)
set_option maxHeartbeats 4000000 in
set_option maxRecDepth 100000 in
theorem t_X7_fewestFences_L49 {E : En} {G : Cx} (B : Bx E G cX7_fewestFences 6 RX7 H_X7_fewestFences (some .int)) (xq2 : Int32) (xq4 : Int32)  (K87 : Int32 → Mm → Option (Int32 × Mm)) (hK87 : ∀ (xq3 : Int32)  (σ : Mm), KR E G 6 (ZI E G) (K87 xq3 σ) 87 [(0, .ref (ad E 6)), (1, .ref (ad E 28)), (2, .int xq2), (3, .int xq3), (4, .int xq4)] [] σ)  : ∀ (n : Nat) (xq3 : Int32) (xq5 : Int32)  (σ : Mm), KR E G 6 (ZI E G) (fx (fun _ _ _ => none) n (f_X7_fewestFences_L49 K87 xq2 xq4) xq3 xq5 σ) 49 [(0, .ref (ad E 6)), (1, .ref (ad E 28)), (2, .int xq2), (3, .int xq3), (4, .int xq4), (5, .int xq5)] [] σ :=
  fun n => fx_ind (P := fun f => ∀ (xq3 : Int32) (xq5 : Int32)  (σ : Mm), KR E G 6 (ZI E G) (f xq3 xq5 σ) 49 [(0, .ref (ad E 6)), (1, .ref (ad E 28)), (2, .int xq2), (3, .int xq3), (4, .int xq4), (5, .int xq5)] [] σ) (fun _ _ _ => k_none) (fun L49 hL49 xq3 xq5 σ => t_X7_fewestFences_L49b B xq2 xq4  K87 hK87  L49 hL49 xq3 xq5 σ) n
set_option maxHeartbeats 4000000 in
set_option maxRecDepth 100000 in
theorem t_X7_fewestFences_87 {E : En} {G : Cx} (B : Bx E G cX7_fewestFences 6 RX7 H_X7_fewestFences (some .int)) (xq2 : Int32) (xq3 : Int32) (xq4 : Int32)  (L35 : Int32 → Int32 → Mm → Option (Int32 × Mm)) (hL35 : ∀ (xq3 : Int32) (xq4 : Int32)  (σ : Mm), KR E G 6 (ZI E G) (L35 xq3 xq4 σ) 35 [(0, .ref (ad E 6)), (1, .ref (ad E 28)), (2, .int xq2), (3, .int xq3), (4, .int xq4)] [] σ)  (σ : Mm) : KR E G 6 (ZI E G) (f_X7_fewestFences_87 L35 xq2 xq3 xq4 σ) 87 [(0, .ref (ad E 6)), (1, .ref (ad E 28)), (2, .int xq2), (3, .int xq3), (4, .int xq4)] [] σ := by
  have F := B.1
  unfold f_X7_fewestFences_87
  refine k_iinc (pc := 87) F (c := (1 : Int32)) (lw := fun wq => [(4, .int wq), (0, .ref (ad E 6)), (1, .ref (ad E 28)), (2, .int xq2), (3, .int xq3)]) 4 4 dX7_fewestFences_87 rfl ci_1 (by decide) (fun _ => rfl) (fun vq16 => ?_)
  refine k_goto (pc := 90) F 35 dX7_fewestFences_90 (by decide) ?_
  exact k_sub [1, 2, 3, 4, 0] rfl (hL35 xq3 vq16 σ)
set_option maxHeartbeats 4000000 in
set_option maxRecDepth 100000 in
theorem t_X7_fewestFences_L35b {E : En} {G : Cx} (B : Bx E G cX7_fewestFences 6 RX7 H_X7_fewestFences (some .int)) (xq2 : Int32)   (L35 : Int32 → Int32 → Mm → Option (Int32 × Mm)) (hL35 : ∀ (xq3 : Int32) (xq4 : Int32)  (σ : Mm), KR E G 6 (ZI E G) (L35 xq3 xq4 σ) 35 [(0, .ref (ad E 6)), (1, .ref (ad E 28)), (2, .int xq2), (3, .int xq3), (4, .int xq4)] [] σ) (xq3 : Int32) (xq4 : Int32)  (σ : Mm) : KR E G 6 (ZI E G) (f_X7_fewestFences_L35 xq2 L35 xq3 xq4 σ) 35 [(0, .ref (ad E 6)), (1, .ref (ad E 28)), (2, .int xq2), (3, .int xq3), (4, .int xq4)] [] σ := by
  have F := B.1
  unfold f_X7_fewestFences_L35
  refine k_iload (pc := 35) F 4 4 dX7_fewestFences_35 rfl ?_
  refine k_iload_n (pc := 37) F 2 2 dX7_fewestFences_37 rfl rfl ?_
  refine k_icmp_gt (pc := 38) F 93 dX7_fewestFences_38 (by decide) (fun _ => ?_) (fun _ => ?_)
  · refine k_aload_n (pc := 93) F 0 0 dX7_fewestFences_93 rfl rfl ?_
    refine k_iconst (pc := 94) F (v := (0 : Int32)) dX7_fewestFences_94 ci_0 ?_
    refine pf_6_6 (pc := 95) F w_2_1 dX7_fewestFences_95 (fun σ9 => ?_)
    refine k_iload_n (pc := 98) F 3 3 dX7_fewestFences_98 rfl rfl ?_
    exact k_iret (pc := 99) B dX7_fewestFences_99
  · refine k_iload_n (pc := 41) F 3 3 dX7_fewestFences_41 rfl rfl ?_
    refine k_iconst (pc := 42) F (v := (-1 : Int32)) dX7_fewestFences_42 ci_m1 ?_
    refine k_icmp_ne (pc := 43) F 93 dX7_fewestFences_43 (by decide) (fun _ => ?_) (fun _ => ?_)
    · refine k_iconst (pc := 46) F (v := (0 : Int32)) dX7_fewestFences_46 ci_0 ?_
      refine k_istore F (lv' := [(5, .int (0 : Int32)), (0, .ref (ad E 6)), (1, .ref (ad E 28)), (2, .int xq2), (3, .int xq3), (4, .int xq4)]) 5 dX7_fewestFences_47 (by decide) rfl ?_
      exact k_sub [1, 2, 3, 4, 5, 0] rfl (t_X7_fewestFences_L49 B xq2 xq4  _ (fun xq3  σ => by
            exact k_sub [0, 1, 2, 3, 4] rfl (t_X7_fewestFences_87 B xq2 xq3 xq4  L35 hL35  σ)) FU xq3 (0 : Int32)  σ)
    · refine k_aload_n (pc := 93) F 0 0 dX7_fewestFences_93 rfl rfl ?_
      refine k_iconst (pc := 94) F (v := (0 : Int32)) dX7_fewestFences_94 ci_0 ?_
      refine pf_6_6 (pc := 95) F w_2_1 dX7_fewestFences_95 (fun σ10 => ?_)
      refine k_iload_n (pc := 98) F 3 3 dX7_fewestFences_98 rfl rfl ?_
      exact k_iret (pc := 99) B dX7_fewestFences_99
set_option maxHeartbeats 4000000 in
set_option maxRecDepth 100000 in
theorem t_X7_fewestFences_L35 {E : En} {G : Cx} (B : Bx E G cX7_fewestFences 6 RX7 H_X7_fewestFences (some .int)) (xq2 : Int32)   : ∀ (n : Nat) (xq3 : Int32) (xq4 : Int32)  (σ : Mm), KR E G 6 (ZI E G) (fx (fun _ _ _ => none) n (f_X7_fewestFences_L35 xq2) xq3 xq4 σ) 35 [(0, .ref (ad E 6)), (1, .ref (ad E 28)), (2, .int xq2), (3, .int xq3), (4, .int xq4)] [] σ :=
  fun n => fx_ind (P := fun f => ∀ (xq3 : Int32) (xq4 : Int32)  (σ : Mm), KR E G 6 (ZI E G) (f xq3 xq4 σ) 35 [(0, .ref (ad E 6)), (1, .ref (ad E 28)), (2, .int xq2), (3, .int xq3), (4, .int xq4)] [] σ) (fun _ _ _ => k_none) (fun L35 hL35 xq3 xq4 σ => t_X7_fewestFences_L35b B xq2   L35 hL35 xq3 xq4 σ) n
set_option maxHeartbeats 4000000 in
set_option maxRecDepth 100000 in
theorem t_X7_fewestFences {E : En} {G : Cx} (B : Bx E G cX7_fewestFences 6 RX7 H_X7_fewestFences (some .int))   (σ : Mm) : KR E G 6 (ZI E G) (f_X7_fewestFences  σ) 0 [(0, .ref (ad E 6))] [] σ := by
  have F := B.1
  unfold f_X7_fewestFences
  refine k_aload_n (pc := 0) F 0 0 dX7_fewestFences_0 rfl rfl ?_
  refine k_callVU (pc := 1) B (k := 6) (As := []) (rest := []) (ct_X7_orderedResults E   σ) rfl rfl mv_X7_orderedResults w_3_201 rfl hR_X7_fewestFences_X7_orderedResults rfl (Nat.le_of_ble_eq_true rfl) dX7_fewestFences_1 (fun rq2 σ1 hoq => ?_)
  refine k_astore_n F (lv' := [(1, .ref (ad E 28)), (0, .ref (ad E 6))]) 1 dX7_fewestFences_4 rfl (by decide) rfl ?_
  refine k_aload_n (pc := 5) F 0 1 dX7_fewestFences_5 rfl rfl ?_
  refine k_callVI (pc := 6) B (k := 6) (As := []) (rest := []) (ct_X7_isTooLarge E   σ1) rfl rfl mv_X7_isTooLarge w_4_12 rfl hR_X7_fewestFences_X7_isTooLarge rfl (Nat.le_of_ble_eq_true rfl) dX7_fewestFences_6 (fun rq4 σ3 hoq => ?_)
  refine k_if_eq (pc := 9) F 15 dX7_fewestFences_9 (by decide) (fun _ => ?_) (fun _ => ?_)
  · refine k_aload_n (pc := 15) F 0 1 dX7_fewestFences_15 rfl rfl ?_
    refine k_aload_n (pc := 16) F 1 0 dX7_fewestFences_16 rfl rfl ?_
    refine k_callVI (pc := 17) B (k := 6) (As := [.ref (ad E 28)]) (rest := []) (ct_X7_leastBad E   σ3) rfl rfl mv_X7_leastBad w_3_202 rfl hR_X7_fewestFences_X7_leastBad rfl (Nat.le_of_ble_eq_true rfl) dX7_fewestFences_17 (fun rq6 σ5 hoq => ?_)
    refine k_if_ge (pc := 20) F 25 dX7_fewestFences_20 (by decide) (fun _ => ?_) (fun _ => ?_)
    · refine k_aload_n (pc := 25) F 0 1 dX7_fewestFences_25 rfl rfl ?_
      refine k_callVI (pc := 26) B (k := 6) (As := []) (rest := []) (ct_X7_findFencePlaces E   σ5) rfl rfl mv_X7_findFencePlaces w_4_21 rfl hR_X7_fewestFences_X7_findFencePlaces rfl (Nat.le_of_ble_eq_true rfl) dX7_fewestFences_26 (fun rq8 σ7 hoq => ?_)
      refine k_istore_n F (lv' := [(2, .int rq8), (1, .ref (ad E 28)), (0, .ref (ad E 6))]) 2 dX7_fewestFences_29 rfl (by decide) rfl ?_
      refine k_iconst (pc := 30) F (v := (-1 : Int32)) dX7_fewestFences_30 ci_m1 ?_
      refine k_istore_n F (lv' := [(3, .int (-1 : Int32)), (2, .int rq8), (1, .ref (ad E 28)), (0, .ref (ad E 6))]) 3 dX7_fewestFences_31 rfl (by decide) rfl ?_
      refine k_iconst (pc := 32) F (v := (1 : Int32)) dX7_fewestFences_32 ci_1 ?_
      refine k_istore F (lv' := [(4, .int (1 : Int32)), (3, .int (-1 : Int32)), (2, .int rq8), (1, .ref (ad E 28)), (0, .ref (ad E 6))]) 4 dX7_fewestFences_33 (by decide) rfl ?_
      exact k_sub [4, 3, 2, 1, 0] rfl (t_X7_fewestFences_L35 B rq8   FU (-1 : Int32) (1 : Int32)  σ7)
    · refine k_iconst (pc := 23) F (v := (0 : Int32)) dX7_fewestFences_23 ci_0 ?_
      exact k_iret (pc := 24) B dX7_fewestFences_24
  · refine k_bipush (pc := 12) F (v := (-2 : Int32)) dX7_fewestFences_12 cb_m2 ?_
    exact k_iret (pc := 14) B dX7_fewestFences_14
set_option maxHeartbeats 4000000 in
set_option maxRecDepth 100000 in
theorem ct_X7_fewestFences (E : En)   (σ : Mm) : CtI E yX7_fewestFences cX7_fewestFences 6 (some .int) H_X7_fewestFences [.ref (ad E 6)] σ (f_X7_fewestFences  σ) := ct_I (by decide) (Nat.le_of_ble_eq_true rfl) rfl (fun G B => t_X7_fewestFences B   σ)
