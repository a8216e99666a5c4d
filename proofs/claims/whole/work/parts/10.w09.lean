abbrev H_X11_does : Nat := 2
theorem hR_X11_does_X11_stepsOn : H_X11_stepsOn + 1 ≤ H_X11_does ∧ 8 + (7 + 11) + 40 * H_X11_stepsOn ≤ 40 * H_X11_does := by decide
set_option maxHeartbeats 4000000 in
set_option maxRecDepth 100000 in
theorem t_X11_does {E : En} {G : Cx} (B : Bx E G cX11_does 4 RX11 H_X11_does none) (aq0 : Int32) (aq1 : Int32)  (σ : Mm) : KR E G 4 (ZV E G) (f_X11_does aq0 aq1 σ) 0 [(0, .ref (ad E 48)), (1, .int aq0), (2, .int aq1)] [] σ := by
  have F := B.1
  unfold f_X11_does
  refine k_aload_n (pc := 0) F 0 0 dX11_does_0 rfl rfl ?_
  refine k_iconst (pc := 1) F (v := (-1 : Int32)) dX11_does_1 ci_m1 ?_
  refine pf_48_47 (pc := 2) F w_4_217 dX11_does_2 (fun σ1 => ?_)
  refine k_iload_n (pc := 5) F 1 1 dX11_does_5 rfl rfl ?_
  refine k_bipush (pc := 6) F (v := (10 : Int32)) dX11_does_6 cb_10 ?_
  refine k_icmp_ge (pc := 8) F 18 dX11_does_8 (by decide) (fun _ => ?_) (fun _ => ?_)
  · refine k_iload_n (pc := 18) F 1 1 dX11_does_18 rfl rfl ?_
    refine k_bipush (pc := 19) F (v := (10 : Int32)) dX11_does_19 cb_10 ?_
    refine k_isub (pc := 21) F dX11_does_21 ?_
    refine k_nmI (fun vq2 => ?_)
    refine k_istore_n F (lv' := [(3, .int vq2), (0, .ref (ad E 48)), (1, .int aq0), (2, .int aq1)]) 3 dX11_does_22 rfl (by decide) rfl ?_
    refine k_aload_n (pc := 23) F 0 1 dX11_does_23 rfl rfl ?_
    refine k_aload_n (pc := 24) F 0 1 dX11_does_24 rfl rfl ?_
    refine gf_48_45 (pc := 25) F w_4_215 dX11_does_25 ?_
    refine k_iconst (pc := 28) F (v := (2 : Int32)) dX11_does_28 ci_2 ?_
    refine k_iload_n (pc := 29) F 3 0 dX11_does_29 rfl rfl ?_
    refine k_imul (pc := 30) F dX11_does_30 ?_
    refine k_iald (pc := 31) F rfl dX11_does_31 ?_
    refine pf_48_47 (pc := 32) F w_4_217 dX11_does_32 (fun σ3 => ?_)
    refine k_aload_n (pc := 35) F 0 1 dX11_does_35 rfl rfl ?_
    refine gf_48_39 (pc := 36) F w_4_209 dX11_does_36 ?_
    refine k_aload_n (pc := 39) F 0 1 dX11_does_39 rfl rfl ?_
    refine gf_48_47 (pc := 40) F w_4_217 dX11_does_40 ?_
    refine k_aload_n (pc := 43) F 0 1 dX11_does_43 rfl rfl ?_
    refine gf_48_46 (pc := 44) F w_4_216 dX11_does_44 ?_
    refine k_iconst (pc := 47) F (v := (2 : Int32)) dX11_does_47 ci_2 ?_
    refine k_iload_n (pc := 48) F 3 0 dX11_does_48 rfl rfl ?_
    refine k_imul (pc := 49) F dX11_does_49 ?_
    refine k_iald (pc := 50) F rfl dX11_does_50 ?_
    refine k_iast (pc := 51) F rfl dX11_does_51 (fun σ4 => ?_)
    refine k_aload_n (pc := 52) F 0 1 dX11_does_52 rfl rfl ?_
    refine gf_48_45 (pc := 53) F w_4_215 dX11_does_53 ?_
    refine k_iconst (pc := 56) F (v := (2 : Int32)) dX11_does_56 ci_2 ?_
    refine k_iload_n (pc := 57) F 3 0 dX11_does_57 rfl rfl ?_
    refine k_imul (pc := 58) F dX11_does_58 ?_
    refine k_aload_n (pc := 59) F 0 1 dX11_does_59 rfl rfl ?_
    refine gf_48_45 (pc := 60) F w_4_215 dX11_does_60 ?_
    refine k_iconst (pc := 63) F (v := (2 : Int32)) dX11_does_63 ci_2 ?_
    refine k_iload_n (pc := 64) F 3 0 dX11_does_64 rfl rfl ?_
    refine k_imul (pc := 65) F dX11_does_65 ?_
    refine k_iconst (pc := 66) F (v := (1 : Int32)) dX11_does_66 ci_1 ?_
    refine k_iadd (pc := 67) F dX11_does_67 ?_
    refine k_iald (pc := 68) F rfl dX11_does_68 ?_
    refine k_iast (pc := 69) F rfl dX11_does_69 (fun σ5 => ?_)
    refine k_aload_n (pc := 70) F 0 1 dX11_does_70 rfl rfl ?_
    refine gf_48_46 (pc := 71) F w_4_216 dX11_does_71 ?_
    refine k_iconst (pc := 74) F (v := (2 : Int32)) dX11_does_74 ci_2 ?_
    refine k_iload_n (pc := 75) F 3 0 dX11_does_75 rfl rfl ?_
    refine k_imul (pc := 76) F dX11_does_76 ?_
    refine k_aload_n (pc := 77) F 0 1 dX11_does_77 rfl rfl ?_
    refine gf_48_46 (pc := 78) F w_4_216 dX11_does_78 ?_
    refine k_iconst (pc := 81) F (v := (2 : Int32)) dX11_does_81 ci_2 ?_
    refine k_iload_n (pc := 82) F 3 0 dX11_does_82 rfl rfl ?_
    refine k_imul (pc := 83) F dX11_does_83 ?_
    refine k_iconst (pc := 84) F (v := (1 : Int32)) dX11_does_84 ci_1 ?_
    refine k_iadd (pc := 85) F dX11_does_85 ?_
    refine k_iald (pc := 86) F rfl dX11_does_86 ?_
    refine k_iast (pc := 87) F rfl dX11_does_87 (fun σ6 => ?_)
    refine k_aload_n (pc := 88) F 0 1 dX11_does_88 rfl rfl ?_
    refine gf_48_44 (pc := 89) F w_4_214 dX11_does_89 ?_
    refine k_iload_n (pc := 92) F 3 0 dX11_does_92 rfl rfl ?_
    refine k_dup2 (pc := 93) F dX11_does_93 rfl rfl ?_
    refine k_iald (pc := 94) F rfl dX11_does_94 ?_
    refine k_iconst (pc := 95) F (v := (1 : Int32)) dX11_does_95 ci_1 ?_
    refine k_isub (pc := 96) F dX11_does_96 ?_
    refine k_iast (pc := 97) F rfl dX11_does_97 (fun σ7 => ?_)
    exact k_vret (pc := 98) B dX11_does_98
  · refine k_aload_n (pc := 11) F 0 0 dX11_does_11 rfl rfl ?_
    refine k_iload_n (pc := 12) F 1 1 dX11_does_12 rfl rfl ?_
    refine k_iload_n (pc := 13) F 2 2 dX11_does_13 rfl rfl ?_
    refine k_callVV (pc := 14) B (k := 48) (As := [.int aq0, .int aq1]) (rest := []) (ct_X11_stepsOn E aq0 aq1  σ1) rfl rfl mv_X11_stepsOn w_6_66 rfl hR_X11_does_X11_stepsOn rfl (Nat.le_of_ble_eq_true rfl) dX11_does_14 (fun rq9 σ8 hoq => ?_)
    exact k_vret (pc := 17) B dX11_does_17
set_option maxHeartbeats 4000000 in
set_option maxRecDepth 100000 in
theorem ct_X11_does (E : En) (aq0 : Int32) (aq1 : Int32)  (σ : Mm) : CtV E yX11_does cX11_does 4 none H_X11_does [.ref (ad E 48), .int aq0, .int aq1] σ (f_X11_does aq0 aq1 σ) := ct_V (by decide) (Nat.le_of_ble_eq_true rfl) rfl (fun G B => t_X11_does B aq0 aq1  σ)
abbrev H_X11_moveOf : Nat := 0
set_option maxHeartbeats 4000000 in
set_option maxRecDepth 100000 in
theorem t_X11_moveOf {E : En} {G : Cx} (B : Bx E G cX11_moveOf 1 RX11 H_X11_moveOf (some .int)) (aq0 : Int32)  (σ : Mm) : KR E G 1 (ZI E G) (f_X11_moveOf aq0 σ) 0 [(0, .int aq0)] [] σ := by
  have F := B.1
  unfold f_X11_moveOf
  refine k_iload_n (pc := 0) F 0 0 dX11_moveOf_0 rfl rfl ?_
  refine k_iconst (pc := 1) F (v := (3 : Int32)) dX11_moveOf_1 ci_3 ?_
  refine k_icmp_ge (pc := 2) F 9 dX11_moveOf_2 (by decide) (fun _ => ?_) (fun _ => ?_)
  · refine k_bipush (pc := 9) F (v := (7 : Int32)) dX11_moveOf_9 cb_7 ?_
    refine k_iload_n (pc := 11) F 0 0 dX11_moveOf_11 rfl rfl ?_
    refine k_iadd (pc := 12) F dX11_moveOf_12 ?_
    exact k_iret (pc := 13) B dX11_moveOf_13
  · refine k_iload_n (pc := 5) F 0 0 dX11_moveOf_5 rfl rfl ?_
    refine k_goto (pc := 6) F 13 dX11_moveOf_6 (by decide) ?_
    exact k_iret (pc := 13) B dX11_moveOf_13
set_option maxHeartbeats 4000000 in
set_option maxRecDepth 100000 in
theorem ct_X11_moveOf (E : En) (aq0 : Int32)  (σ : Mm) : CtI E yX11_moveOf cX11_moveOf 1 (some .int) H_X11_moveOf [.int aq0] σ (f_X11_moveOf aq0 σ) := ct_I (by decide) (Nat.le_of_ble_eq_true rfl) rfl (fun G B => t_X11_moveOf B aq0  σ)
abbrev H_X11_placeOf : Nat := 0
set_option maxHeartbeats 4000000 in
set_option maxRecDepth 100000 in
theorem t_X11_placeOf_L18b {E : En} {G : Cx} (B : Bx E G cX11_placeOf 5 RX11 H_X11_placeOf (some .int)) (xq1 : Int64) (xq3 : Int32)  (K60 : Int32 → Mm → Option (Int32 × Mm)) (hK60 : ∀ (xq4 : Int32)  (σ : Mm), KR E G 5 (ZI E G) (K60 xq4 σ) 60 [(0, .ref (ad E 48)), (1, .long xq1), (3, .int xq3), (4, .int xq4)] [] σ)  (L18 : Int32 → Mm → Option (Int32 × Mm)) (hL18 : ∀ (xq4 : Int32)  (σ : Mm), KR E G 5 (ZI E G) (L18 xq4 σ) 18 [(0, .ref (ad E 48)), (1, .long xq1), (3, .int xq3), (4, .int xq4)] [] σ) (xq4 : Int32)  (σ : Mm) : KR E G 5 (ZI E G) (f_X11_placeOf_L18 K60 xq1 xq3 L18 xq4 σ) 18 [(0, .ref (ad E 48)), (1, .long xq1), (3, .int xq3), (4, .int xq4)] [] σ := by
  have F := B.1
  unfold f_X11_placeOf_L18
  refine k_aload_n (pc := 18) F 0 0 dX11_placeOf_18 rfl rfl ?_
  refine gf_48_54 (pc := 19) F w_4_224 dX11_placeOf_19 ?_
  refine k_iload (pc := 22) F 4 3 dX11_placeOf_22 rfl ?_
  refine k_iald (pc := 24) F rfl dX11_placeOf_24 ?_
  refine k_if_eq (pc := 25) F 60 dX11_placeOf_25 (by decide) (fun _ => ?_) (fun _ => ?_)
  · exact k_sub [0, 1, 2, 3] rfl (hK60 xq4 σ)
  · refine k_aload_n (pc := 28) F 0 0 dX11_placeOf_28 rfl rfl ?_
    refine gf_48_51 (pc := 29) F w_4_221 dX11_placeOf_29 ?_
    refine k_aload_n (pc := 32) F 0 0 dX11_placeOf_32 rfl rfl ?_
    refine gf_48_54 (pc := 33) F w_4_224 dX11_placeOf_33 ?_
    refine k_iload (pc := 36) F 4 3 dX11_placeOf_36 rfl ?_
    refine k_iald (pc := 38) F rfl dX11_placeOf_38 ?_
    refine k_iconst (pc := 39) F (v := (1 : Int32)) dX11_placeOf_39 ci_1 ?_
    refine k_isub (pc := 40) F dX11_placeOf_40 ?_
    refine k_lald (pc := 41) F rfl dX11_placeOf_41 ?_
    refine k_lload_n (pc := 42) F 1 1 dX11_placeOf_42 rfl rfl ?_
    refine k_lcmp (pc := 43) F dX11_placeOf_43 ?_
    refine k_if_eq (pc := 44) F 60 dX11_placeOf_44 (by decide) (fun _ => ?_) (fun _ => ?_)
    · exact k_sub [0, 1, 2, 3] rfl (hK60 xq4 σ)
    · refine k_iload (pc := 47) F 4 3 dX11_placeOf_47 rfl ?_
      refine k_iconst (pc := 49) F (v := (1 : Int32)) dX11_placeOf_49 ci_1 ?_
      refine k_iadd (pc := 50) F dX11_placeOf_50 ?_
      refine k_sipush (pc := 51) F (v := (16383 : Int32)) dX11_placeOf_51 cs_16383 ?_
      refine k_iand (pc := 54) F dX11_placeOf_54 ?_
      refine k_nmI (fun vq2 => ?_)
      refine k_istore F (lv' := [(4, .int vq2), (0, .ref (ad E 48)), (1, .long xq1), (3, .int xq3)]) 4 dX11_placeOf_55 (by decide) rfl ?_
      refine k_goto (pc := 57) F 18 dX11_placeOf_57 (by decide) ?_
      exact k_sub [1, 2, 3, 0] rfl (hL18 vq2 σ)
set_option maxHeartbeats 4000000 in
set_option maxRecDepth 100000 in
theorem t_X11_placeOf_L18 {E : En} {G : Cx} (B : Bx E G cX11_placeOf 5 RX11 H_X11_placeOf (some .int)) (xq1 : Int64) (xq3 : Int32)  (K60 : Int32 → Mm → Option (Int32 × Mm)) (hK60 : ∀ (xq4 : Int32)  (σ : Mm), KR E G 5 (ZI E G) (K60 xq4 σ) 60 [(0, .ref (ad E 48)), (1, .long xq1), (3, .int xq3), (4, .int xq4)] [] σ)  : ∀ (n : Nat) (xq4 : Int32)  (σ : Mm), KR E G 5 (ZI E G) (fx (fun _ _ => none) n (f_X11_placeOf_L18 K60 xq1 xq3) xq4 σ) 18 [(0, .ref (ad E 48)), (1, .long xq1), (3, .int xq3), (4, .int xq4)] [] σ :=
  fun n => fx_ind (P := fun f => ∀ (xq4 : Int32)  (σ : Mm), KR E G 5 (ZI E G) (f xq4 σ) 18 [(0, .ref (ad E 48)), (1, .long xq1), (3, .int xq3), (4, .int xq4)] [] σ) (fun _ _ => k_none) (fun L18 hL18 xq4 σ => t_X11_placeOf_L18b B xq1 xq3  K60 hK60  L18 hL18 xq4 σ) n
set_option maxHeartbeats 4000000 in
set_option maxRecDepth 100000 in
theorem t_X11_placeOf_60 {E : En} {G : Cx} (B : Bx E G cX11_placeOf 5 RX11 H_X11_placeOf (some .int)) (xq1 : Int64) (xq3 : Int32) (xq4 : Int32)   (σ : Mm) : KR E G 5 (ZI E G) (f_X11_placeOf_60 xq1 xq3 xq4 σ) 60 [(0, .ref (ad E 48)), (1, .long xq1), (3, .int xq3), (4, .int xq4)] [] σ := by
  have F := B.1
  unfold f_X11_placeOf_60
  refine k_aload_n (pc := 60) F 0 0 dX11_placeOf_60 rfl rfl ?_
  refine gf_48_54 (pc := 61) F w_4_224 dX11_placeOf_61 ?_
  refine k_iload (pc := 64) F 4 3 dX11_placeOf_64 rfl ?_
  refine k_iald (pc := 66) F rfl dX11_placeOf_66 ?_
  refine k_if_ne (pc := 67) F 111 dX11_placeOf_67 (by decide) (fun _ => ?_) (fun _ => ?_)
  · refine k_aload_n (pc := 70) F 0 0 dX11_placeOf_70 rfl rfl ?_
    refine gf_48_51 (pc := 71) F w_4_221 dX11_placeOf_71 ?_
    refine k_aload_n (pc := 74) F 0 0 dX11_placeOf_74 rfl rfl ?_
    refine gf_48_50 (pc := 75) F w_4_220 dX11_placeOf_75 ?_
    refine k_lload_n (pc := 78) F 1 1 dX11_placeOf_78 rfl rfl ?_
    refine k_last (pc := 79) F rfl dX11_placeOf_79 (fun σ3 => ?_)
    refine k_aload_n (pc := 80) F 0 0 dX11_placeOf_80 rfl rfl ?_
    refine gf_48_53 (pc := 81) F w_4_223 dX11_placeOf_81 ?_
    refine k_aload_n (pc := 84) F 0 0 dX11_placeOf_84 rfl rfl ?_
    refine gf_48_50 (pc := 85) F w_4_220 dX11_placeOf_85 ?_
    refine k_iload_n (pc := 88) F 3 2 dX11_placeOf_88 rfl rfl ?_
    refine k_iast (pc := 89) F rfl dX11_placeOf_89 (fun σ4 => ?_)
    refine k_aload_n (pc := 90) F 0 0 dX11_placeOf_90 rfl rfl ?_
    refine k_dup (pc := 91) F dX11_placeOf_91 rfl ?_
    refine gf_48_50 (pc := 92) F w_4_220 dX11_placeOf_92 ?_
    refine k_iconst (pc := 95) F (v := (1 : Int32)) dX11_placeOf_95 ci_1 ?_
    refine k_iadd (pc := 96) F dX11_placeOf_96 ?_
    refine pf_48_50 (pc := 97) F w_4_220 dX11_placeOf_97 (fun σ5 => ?_)
    refine k_aload_n (pc := 100) F 0 0 dX11_placeOf_100 rfl rfl ?_
    refine gf_48_54 (pc := 101) F w_4_224 dX11_placeOf_101 ?_
    refine k_iload (pc := 104) F 4 3 dX11_placeOf_104 rfl ?_
    refine k_aload_n (pc := 106) F 0 0 dX11_placeOf_106 rfl rfl ?_
    refine gf_48_50 (pc := 107) F w_4_220 dX11_placeOf_107 ?_
    refine k_iast (pc := 110) F rfl dX11_placeOf_110 (fun σ6 => ?_)
    refine k_aload_n (pc := 111) F 0 0 dX11_placeOf_111 rfl rfl ?_
    refine gf_48_54 (pc := 112) F w_4_224 dX11_placeOf_112 ?_
    refine k_iload (pc := 115) F 4 3 dX11_placeOf_115 rfl ?_
    refine k_iald (pc := 117) F rfl dX11_placeOf_117 ?_
    refine k_iconst (pc := 118) F (v := (1 : Int32)) dX11_placeOf_118 ci_1 ?_
    refine k_isub (pc := 119) F dX11_placeOf_119 ?_
    exact k_iret (pc := 120) B dX11_placeOf_120
  · refine k_aload_n (pc := 111) F 0 0 dX11_placeOf_111 rfl rfl ?_
    refine gf_48_54 (pc := 112) F w_4_224 dX11_placeOf_112 ?_
    refine k_iload (pc := 115) F 4 3 dX11_placeOf_115 rfl ?_
    refine k_iald (pc := 117) F rfl dX11_placeOf_117 ?_
    refine k_iconst (pc := 118) F (v := (1 : Int32)) dX11_placeOf_118 ci_1 ?_
    refine k_isub (pc := 119) F dX11_placeOf_119 ?_
    exact k_iret (pc := 120) B dX11_placeOf_120
set_option maxHeartbeats 4000000 in
set_option maxRecDepth 100000 in
theorem t_X11_placeOf {E : En} {G : Cx} (B : Bx E G cX11_placeOf 5 RX11 H_X11_placeOf (some .int)) (aq0 : Int64) (aq1 : Int32)  (σ : Mm) : KR E G 5 (ZI E G) (f_X11_placeOf aq0 aq1 σ) 0 [(0, .ref (ad E 48)), (1, .long aq0), (3, .int aq1)] [] σ := by
  have F := B.1
  unfold f_X11_placeOf
  refine k_lload_n (pc := 0) F 1 1 dX11_placeOf_0 rfl rfl ?_
  refine k_lload_n (pc := 1) F 1 1 dX11_placeOf_1 rfl rfl ?_
  refine k_bipush (pc := 2) F (v := (17 : Int32)) dX11_placeOf_2 cb_17 ?_
  refine k_lshr (pc := 4) F dX11_placeOf_4 ?_
  refine k_lxor (pc := 5) F dX11_placeOf_5 ?_
  refine k_lload_n (pc := 6) F 1 1 dX11_placeOf_6 rfl rfl ?_
  refine k_bipush (pc := 7) F (v := (35 : Int32)) dX11_placeOf_7 cb_35 ?_
  refine k_lshr (pc := 9) F dX11_placeOf_9 ?_
  refine k_lxor (pc := 10) F dX11_placeOf_10 ?_
  refine k_ldc2 (pc := 11) F (v := (16383 : Int64)) w_6_38 dX11_placeOf_11 ?_
  refine k_land (pc := 14) F dX11_placeOf_14 ?_
  refine k_l2i (pc := 15) F dX11_placeOf_15 ?_
  refine k_nmI (fun vq1 => ?_)
  refine k_istore F (lv' := [(4, .int vq1), (0, .ref (ad E 48)), (1, .long aq0), (3, .int aq1)]) 4 dX11_placeOf_16 (by decide) rfl ?_
  exact k_sub [1, 2, 3, 0] rfl (t_X11_placeOf_L18 B aq0 aq1  _ (fun xq4  σ => by
        exact k_sub [0, 1, 2, 3] rfl (t_X11_placeOf_60 B aq0 aq1 xq4   σ)) FU vq1  σ)
set_option maxHeartbeats 4000000 in
set_option maxRecDepth 100000 in
theorem ct_X11_placeOf (E : En) (aq0 : Int64) (aq1 : Int32)  (σ : Mm) : CtI E yX11_placeOf cX11_placeOf 5 (some .int) H_X11_placeOf [.ref (ad E 48), .long aq0, .int aq1] σ (f_X11_placeOf aq0 aq1 σ) := ct_I (by decide) (Nat.le_of_ble_eq_true rfl) rfl (fun G B => t_X11_placeOf B aq0 aq1  σ)
abbrev H_X11_goesThrough : Nat := 3
theorem hR_X11_goesThrough_X11_resultNow : H_X11_resultNow + 1 ≤ H_X11_goesThrough ∧ 8 + (3 + 11) + 40 * H_X11_resultNow ≤ 40 * H_X11_goesThrough := by decide
theorem hR_X11_goesThrough_X11_lay : H_X11_lay + 1 ≤ H_X11_goesThrough ∧ 8 + (5 + 11) + 40 * H_X11_lay ≤ 40 * H_X11_goesThrough := by decide
theorem hR_X11_goesThrough_X11_pack : H_X11_pack + 1 ≤ H_X11_goesThrough ∧ 8 + (4 + 11) + 40 * H_X11_pack ≤ 40 * H_X11_goesThrough := by decide
theorem hR_X11_goesThrough_X11_unpack : H_X11_unpack + 1 ≤ H_X11_goesThrough ∧ 8 + (11 + 11) + 40 * H_X11_unpack ≤ 40 * H_X11_goesThrough := by decide
theorem hR_X11_goesThrough_X11_begins : H_X11_begins + 1 ≤ H_X11_goesThrough ∧ 8 + (2 + 11) + 40 * H_X11_begins ≤ 40 * H_X11_goesThrough := by decide
theorem hR_X11_goesThrough_X11_placeOf : H_X11_placeOf + 1 ≤ H_X11_goesThrough ∧ 8 + (5 + 11) + 40 * H_X11_placeOf ≤ 40 * H_X11_goesThrough := by decide
theorem hR_X11_goesThrough_X11_moveOf : H_X11_moveOf + 1 ≤ H_X11_goesThrough ∧ 8 + (1 + 11) + 40 * H_X11_moveOf ≤ 40 * H_X11_goesThrough := by decide
theorem hR_X11_goesThrough_X11_isEnd : H_X11_isEnd + 1 ≤ H_X11_goesThrough ∧ 8 + (3 + 11) + 40 * H_X11_isEnd ≤ 40 * H_X11_goesThrough := by decide
theorem hR_X11_goesThrough_X11_does : H_X11_does + 1 ≤ H_X11_goesThrough ∧ 8 + (4 + 11) + 40 * H_X11_does ≤ 40 * H_X11_goesThrough := by decide
theorem hR_X11_goesThrough_X11_can : H_X11_can + 1 ≤ H_X11_goesThrough ∧ 8 + (4 + 11) + 40 * H_X11_can ≤ 40 * H_X11_goesThrough := by decide
set_option maxHeartbeats 4000000 in
set_option maxRecDepth 100000 in
theorem t_X11_goesThrough_L7b {E : En} {G : Cx} (B : Bx E G cX11_goesThrough 5 RX11 H_X11_goesThrough (some .boolean))   (K27 : Mm → Option (Int32 × Mm)) (hK27 : ∀   (σ : Mm), KR E G 5 (ZI E G) (K27  σ) 27 [(0, .ref (ad E 48))] [] σ)  (L7 : Int32 → Mm → Option (Int32 × Mm)) (hL7 : ∀ (xq2 : Int32)  (σ : Mm), KR E G 5 (ZI E G) (L7 xq2 σ) 7 [(0, .ref (ad E 48)), (2, .int xq2)] [] σ) (xq2 : Int32)  (σ : Mm) : KR E G 5 (ZI E G) (f_X11_goesThrough_L7 K27  L7 xq2 σ) 7 [(0, .ref (ad E 48)), (2, .int xq2)] [] σ := by
  have F := B.1
  unfold f_X11_goesThrough_L7
  refine k_iload_n (pc := 7) F 2 1 dX11_goesThrough_7 rfl rfl ?_
  refine k_sipush (pc := 8) F (v := (16384 : Int32)) dX11_goesThrough_8 cs_16384 ?_
  refine k_icmp_ge (pc := 11) F 27 dX11_goesThrough_11 (by decide) (fun _ => ?_) (fun _ => ?_)
  · exact k_sub [0] rfl (hK27 σ)
  · refine k_aload_n (pc := 14) F 0 0 dX11_goesThrough_14 rfl rfl ?_
    refine gf_48_54 (pc := 15) F w_4_224 dX11_goesThrough_15 ?_
    refine k_iload_n (pc := 18) F 2 1 dX11_goesThrough_18 rfl rfl ?_
    refine k_iconst (pc := 19) F (v := (0 : Int32)) dX11_goesThrough_19 ci_0 ?_
    refine k_iast (pc := 20) F rfl dX11_goesThrough_20 (fun σ3 => ?_)
    refine k_iinc (pc := 21) F (c := (1 : Int32)) (lw := fun wq => [(2, .int wq), (0, .ref (ad E 48))]) 2 1 dX11_goesThrough_21 rfl ci_1 (by decide) (fun _ => rfl) (fun vq4 => ?_)
    refine k_goto (pc := 24) F 7 dX11_goesThrough_24 (by decide) ?_
    exact k_sub [1, 0] rfl (hL7 vq4 σ3)
set_option maxHeartbeats 4000000 in
set_option maxRecDepth 100000 in
theorem t_X11_goesThrough_L7 {E : En} {G : Cx} (B : Bx E G cX11_goesThrough 5 RX11 H_X11_goesThrough (some .boolean))   (K27 : Mm → Option (Int32 × Mm)) (hK27 : ∀   (σ : Mm), KR E G 5 (ZI E G) (K27  σ) 27 [(0, .ref (ad E 48))] [] σ)  : ∀ (n : Nat) (xq2 : Int32)  (σ : Mm), KR E G 5 (ZI E G) (fx (fun _ _ => none) n (f_X11_goesThrough_L7 K27 ) xq2 σ) 7 [(0, .ref (ad E 48)), (2, .int xq2)] [] σ :=
  fun n => fx_ind (P := fun f => ∀ (xq2 : Int32)  (σ : Mm), KR E G 5 (ZI E G) (f xq2 σ) 7 [(0, .ref (ad E 48)), (2, .int xq2)] [] σ) (fun _ _ => k_none) (fun L7 hL7 xq2 σ => t_X11_goesThrough_L7b B   K27 hK27  L7 hL7 xq2 σ) n
set_option maxHeartbeats 4000000 in
set_option maxRecDepth 100000 in
theorem t_X11_goesThrough_197 {E : En} {G : Cx} (B : Bx E G cX11_goesThrough 5 RX11 H_X11_goesThrough (some .boolean)) (xq3 : Int32) (xq4 : Int32)  (L100 : Int32 → Mm → Option (Int32 × Mm)) (hL100 : ∀ (xq4 : Int32)  (σ : Mm), KR E G 5 (ZI E G) (L100 xq4 σ) 100 [(0, .ref (ad E 48)), (3, .int xq3), (4, .int xq4)] [] σ)  (σ : Mm) : KR E G 5 (ZI E G) (f_X11_goesThrough_197 L100 xq3 xq4 σ) 197 [(0, .ref (ad E 48)), (3, .int xq3), (4, .int xq4)] [] σ := by
  have F := B.1
  unfold f_X11_goesThrough_197
  refine k_iinc (pc := 197) F (c := (1 : Int32)) (lw := fun wq => [(4, .int wq), (0, .ref (ad E 48)), (3, .int xq3)]) 4 2 dX11_goesThrough_197 rfl ci_1 (by decide) (fun _ => rfl) (fun vq24 => ?_)
  refine k_goto (pc := 200) F 100 dX11_goesThrough_200 (by decide) ?_
  exact k_sub [1, 2, 0] rfl (hL100 vq24 σ)
set_option maxHeartbeats 4000000 in
set_option maxRecDepth 100000 in
theorem t_X11_goesThrough_L100b {E : En} {G : Cx} (B : Bx E G cX11_goesThrough 5 RX11 H_X11_goesThrough (some .boolean)) (xq3 : Int32)  (K203 : Mm → Option (Int32 × Mm)) (hK203 : ∀   (σ : Mm), KR E G 5 (ZI E G) (K203  σ) 203 [(0, .ref (ad E 48)), (3, .int xq3)] [] σ)  (L100 : Int32 → Mm → Option (Int32 × Mm)) (hL100 : ∀ (xq4 : Int32)  (σ : Mm), KR E G 5 (ZI E G) (L100 xq4 σ) 100 [(0, .ref (ad E 48)), (3, .int xq3), (4, .int xq4)] [] σ) (xq4 : Int32)  (σ : Mm) : KR E G 5 (ZI E G) (f_X11_goesThrough_L100 K203 xq3 L100 xq4 σ) 100 [(0, .ref (ad E 48)), (3, .int xq3), (4, .int xq4)] [] σ := by
  have F := B.1
  unfold f_X11_goesThrough_L100
  refine k_iload (pc := 100) F 4 2 dX11_goesThrough_100 rfl ?_
  refine k_bipush (pc := 102) F (v := (6 : Int32)) dX11_goesThrough_102 cb_6 ?_
  refine k_icmp_ge (pc := 104) F 203 dX11_goesThrough_104 (by decide) (fun _ => ?_) (fun _ => ?_)
  · exact k_sub [0, 1] rfl (hK203 σ)
  · refine k_aload_n (pc := 107) F 0 0 dX11_goesThrough_107 rfl rfl ?_
    refine gf_48_50 (pc := 108) F w_4_220 dX11_goesThrough_108 ?_
    refine k_sipush (pc := 111) F (v := (6000 : Int32)) dX11_goesThrough_111 cs_6000 ?_
    refine k_icmp_gt (pc := 114) F 203 dX11_goesThrough_114 (by decide) (fun _ => ?_) (fun _ => ?_)
    · exact k_sub [0, 1] rfl (hK203 σ)
    · refine k_aload_n (pc := 117) F 0 0 dX11_goesThrough_117 rfl rfl ?_
      refine k_aload_n (pc := 118) F 0 0 dX11_goesThrough_118 rfl rfl ?_
      refine gf_48_51 (pc := 119) F w_4_221 dX11_goesThrough_119 ?_
      refine k_iload_n (pc := 122) F 3 1 dX11_goesThrough_122 rfl rfl ?_
      refine k_lald (pc := 123) F rfl dX11_goesThrough_123 ?_
      refine k_callVV (pc := 124) B (k := 48) (As := [.long (σ.2 82 (ix xq3))]) (rest := []) (ct_X11_unpack E (σ.2 82 (ix xq3))  σ) rfl rfl mv_X11_unpack w_6_39 rfl hR_X11_goesThrough_X11_unpack rfl (Nat.le_of_ble_eq_true rfl) dX11_goesThrough_124 (fun rq18 σ17 hoq => ?_)
      refine k_aload_n (pc := 127) F 0 0 dX11_goesThrough_127 rfl rfl ?_
      refine gf_48_52 (pc := 128) F w_4_222 dX11_goesThrough_128 ?_
      refine k_bipush (pc := 131) F (v := (6 : Int32)) dX11_goesThrough_131 cb_6 ?_
      refine k_iload_n (pc := 133) F 3 1 dX11_goesThrough_133 rfl rfl ?_
      refine k_imul (pc := 134) F dX11_goesThrough_134 ?_
      refine k_iload (pc := 135) F 4 2 dX11_goesThrough_135 rfl ?_
      refine k_iadd (pc := 137) F dX11_goesThrough_137 ?_
      refine k_iconst (pc := 138) F (v := (-1 : Int32)) dX11_goesThrough_138 ci_m1 ?_
      refine k_iast (pc := 139) F rfl dX11_goesThrough_139 (fun σ19 => ?_)
      refine k_aload_n (pc := 140) F 0 0 dX11_goesThrough_140 rfl rfl ?_
      refine k_iload (pc := 141) F 4 2 dX11_goesThrough_141 rfl ?_
      refine k_callSI (pc := 143) B (As := [.int xq4]) (rest := [.ref (ad E 48)]) (ct_X11_moveOf E xq4  σ19) ms_X11_moveOf w_6_51 rfl hR_X11_goesThrough_X11_moveOf rfl (Nat.le_of_ble_eq_true rfl) dX11_goesThrough_143 (fun rq21 σ20 hoq => ?_)
      refine k_aload_n (pc := 146) F 0 0 dX11_goesThrough_146 rfl rfl ?_
      refine gf_48_11 (pc := 147) F w_4_181 dX11_goesThrough_147 ?_
      refine k_callVI (pc := 150) B (k := 48) (As := [.int rq21, .int (σ20.1 48 11)]) (rest := []) (ct_X11_can E rq21 (σ20.1 48 11)  σ20) rfl rfl mv_X11_can w_6_54 rfl hR_X11_goesThrough_X11_can rfl (Nat.le_of_ble_eq_true rfl) dX11_goesThrough_150 (fun rq23 σ22 hoq => ?_)
      refine k_if_eq (pc := 153) F 197 dX11_goesThrough_153 (by decide) (fun _ => ?_) (fun _ => ?_)
      · exact k_sub [0, 1, 2] rfl (t_X11_goesThrough_197 B xq3 xq4  L100 hL100  σ22)
      · refine k_aload_n (pc := 156) F 0 0 dX11_goesThrough_156 rfl rfl ?_
        refine k_iload (pc := 157) F 4 2 dX11_goesThrough_157 rfl ?_
        refine k_callSI (pc := 159) B (As := [.int xq4]) (rest := [.ref (ad E 48)]) (ct_X11_moveOf E xq4  σ22) ms_X11_moveOf w_6_51 rfl hR_X11_goesThrough_X11_moveOf rfl (Nat.le_of_ble_eq_true rfl) dX11_goesThrough_159 (fun rq26 σ25 hoq => ?_)
        refine k_aload_n (pc := 162) F 0 0 dX11_goesThrough_162 rfl rfl ?_
        refine gf_48_11 (pc := 163) F w_4_181 dX11_goesThrough_163 ?_
        refine k_callVV (pc := 166) B (k := 48) (As := [.int rq26, .int (σ25.1 48 11)]) (rest := []) (ct_X11_does E rq26 (σ25.1 48 11)  σ25) rfl rfl mv_X11_does w_6_62 rfl hR_X11_goesThrough_X11_does rfl (Nat.le_of_ble_eq_true rfl) dX11_goesThrough_166 (fun rq28 σ27 hoq => ?_)
        refine k_aload_n (pc := 169) F 0 0 dX11_goesThrough_169 rfl rfl ?_
        refine gf_48_52 (pc := 170) F w_4_222 dX11_goesThrough_170 ?_
        refine k_bipush (pc := 173) F (v := (6 : Int32)) dX11_goesThrough_173 cb_6 ?_
        refine k_iload_n (pc := 175) F 3 1 dX11_goesThrough_175 rfl rfl ?_
        refine k_imul (pc := 176) F dX11_goesThrough_176 ?_
        refine k_iload (pc := 177) F 4 2 dX11_goesThrough_177 rfl ?_
        refine k_iadd (pc := 179) F dX11_goesThrough_179 ?_
        refine k_aload_n (pc := 180) F 0 0 dX11_goesThrough_180 rfl rfl ?_
        refine k_aload_n (pc := 181) F 0 0 dX11_goesThrough_181 rfl rfl ?_
        refine k_callVL (pc := 182) B (k := 48) (As := []) (rest := [.ref (ad E 48), .int (((6 : Int32) * xq3) + xq4), .ref (ad E 83)]) (ct_X11_pack E   σ27) rfl rfl mv_X11_pack w_6_22 rfl hR_X11_goesThrough_X11_pack rfl (Nat.le_of_ble_eq_true rfl) dX11_goesThrough_182 (fun rq30 σ29 hoq => ?_)
        refine k_aload_n (pc := 185) F 0 0 dX11_goesThrough_185 rfl rfl ?_
        refine gf_48_53 (pc := 186) F w_4_223 dX11_goesThrough_186 ?_
        refine k_iload_n (pc := 189) F 3 1 dX11_goesThrough_189 rfl rfl ?_
        refine k_iald (pc := 190) F rfl dX11_goesThrough_190 ?_
        refine k_iconst (pc := 191) F (v := (1 : Int32)) dX11_goesThrough_191 ci_1 ?_
        refine k_iadd (pc := 192) F dX11_goesThrough_192 ?_
        refine k_callVI (pc := 193) B (k := 48) (As := [.long rq30, .int ((σ29.1 84 (ix xq3)) + (1 : Int32))]) (rest := [.int (((6 : Int32) * xq3) + xq4), .ref (ad E 83)]) (ct_X11_placeOf E rq30 ((σ29.1 84 (ix xq3)) + (1 : Int32))  σ29) rfl rfl mv_X11_placeOf w_6_34 rfl hR_X11_goesThrough_X11_placeOf rfl (Nat.le_of_ble_eq_true rfl) dX11_goesThrough_193 (fun rq32 σ31 hoq => ?_)
        refine k_iast (pc := 196) F rfl dX11_goesThrough_196 (fun σ33 => ?_)
        exact k_sub [0, 1, 2] rfl (t_X11_goesThrough_197 B xq3 xq4  L100 hL100  σ33)
set_option maxHeartbeats 4000000 in
set_option maxRecDepth 100000 in
theorem t_X11_goesThrough_L100 {E : En} {G : Cx} (B : Bx E G cX11_goesThrough 5 RX11 H_X11_goesThrough (some .boolean)) (xq3 : Int32)  (K203 : Mm → Option (Int32 × Mm)) (hK203 : ∀   (σ : Mm), KR E G 5 (ZI E G) (K203  σ) 203 [(0, .ref (ad E 48)), (3, .int xq3)] [] σ)  : ∀ (n : Nat) (xq4 : Int32)  (σ : Mm), KR E G 5 (ZI E G) (fx (fun _ _ => none) n (f_X11_goesThrough_L100 K203 xq3) xq4 σ) 100 [(0, .ref (ad E 48)), (3, .int xq3), (4, .int xq4)] [] σ :=
  fun n => fx_ind (P := fun f => ∀ (xq4 : Int32)  (σ : Mm), KR E G 5 (ZI E G) (f xq4 σ) 100 [(0, .ref (ad E 48)), (3, .int xq3), (4, .int xq4)] [] σ) (fun _ _ => k_none) (fun L100 hL100 xq4 σ => t_X11_goesThrough_L100b B xq3  K203 hK203  L100 hL100 xq4 σ) n
set_option maxHeartbeats 4000000 in
set_option maxRecDepth 100000 in
theorem t_X11_goesThrough_203 {E : En} {G : Cx} (B : Bx E G cX11_goesThrough 5 RX11 H_X11_goesThrough (some .boolean)) (xq3 : Int32)  (L48 : Int32 → Mm → Option (Int32 × Mm)) (hL48 : ∀ (xq3 : Int32)  (σ : Mm), KR E G 5 (ZI E G) (L48 xq3 σ) 48 [(0, .ref (ad E 48)), (3, .int xq3)] [] σ)  (σ : Mm) : KR E G 5 (ZI E G) (f_X11_goesThrough_203 L48 xq3 σ) 203 [(0, .ref (ad E 48)), (3, .int xq3)] [] σ := by
  have F := B.1
  unfold f_X11_goesThrough_203
  refine k_iinc (pc := 203) F (c := (1 : Int32)) (lw := fun wq => [(3, .int wq), (0, .ref (ad E 48))]) 3 1 dX11_goesThrough_203 rfl ci_1 (by decide) (fun _ => rfl) (fun vq34 => ?_)
  refine k_goto (pc := 206) F 48 dX11_goesThrough_206 (by decide) ?_
  exact k_sub [1, 0] rfl (hL48 vq34 σ)
set_option maxHeartbeats 4000000 in
set_option maxRecDepth 100000 in
theorem t_X11_goesThrough_96 {E : En} {G : Cx} (B : Bx E G cX11_goesThrough 5 RX11 H_X11_goesThrough (some .boolean)) (xq3 : Int32) (xqs1 : Int32) (xqs2 : Int32)  (L48 : Int32 → Mm → Option (Int32 × Mm)) (hL48 : ∀ (xq3 : Int32)  (σ : Mm), KR E G 5 (ZI E G) (L48 xq3 σ) 48 [(0, .ref (ad E 48)), (3, .int xq3)] [] σ)  (σ : Mm) : KR E G 5 (ZI E G) (f_X11_goesThrough_96 L48 xq3 xqs1 xqs2 σ) 96 [(0, .ref (ad E 48)), (3, .int xq3)] [.int xqs2, .int xqs1, .ref (ad E 87)] σ := by
  have F := B.1
  unfold f_X11_goesThrough_96
  refine k_iast (pc := 96) F rfl dX11_goesThrough_96 (fun σ16 => ?_)
  refine k_iconst (pc := 97) F (v := (0 : Int32)) dX11_goesThrough_97 ci_0 ?_
  refine k_istore F (lv' := [(4, .int (0 : Int32)), (0, .ref (ad E 48)), (3, .int xq3)]) 4 dX11_goesThrough_98 (by decide) rfl ?_
  exact k_sub [1, 2, 0] rfl (t_X11_goesThrough_L100 B xq3  _ (fun   σ => by
        exact k_sub [0, 1] rfl (t_X11_goesThrough_203 B xq3  L48 hL48  σ)) FU (0 : Int32)  σ16)
set_option maxHeartbeats 4000000 in
set_option maxRecDepth 100000 in
theorem t_X11_goesThrough_L48b {E : En} {G : Cx} (B : Bx E G cX11_goesThrough 5 RX11 H_X11_goesThrough (some .boolean))   (K209 : Mm → Option (Int32 × Mm)) (hK209 : ∀   (σ : Mm), KR E G 5 (ZI E G) (K209  σ) 209 [(0, .ref (ad E 48))] [] σ)  (L48 : Int32 → Mm → Option (Int32 × Mm)) (hL48 : ∀ (xq3 : Int32)  (σ : Mm), KR E G 5 (ZI E G) (L48 xq3 σ) 48 [(0, .ref (ad E 48)), (3, .int xq3)] [] σ) (xq3 : Int32)  (σ : Mm) : KR E G 5 (ZI E G) (f_X11_goesThrough_L48 K209  L48 xq3 σ) 48 [(0, .ref (ad E 48)), (3, .int xq3)] [] σ := by
  have F := B.1
  unfold f_X11_goesThrough_L48
  refine k_iload_n (pc := 48) F 3 1 dX11_goesThrough_48 rfl rfl ?_
  refine k_aload_n (pc := 49) F 0 0 dX11_goesThrough_49 rfl rfl ?_
  refine gf_48_50 (pc := 50) F w_4_220 dX11_goesThrough_50 ?_
  refine k_icmp_ge (pc := 53) F 209 dX11_goesThrough_53 (by decide) (fun _ => ?_) (fun _ => ?_)
  · exact k_sub [0] rfl (hK209 σ)
  · refine k_aload_n (pc := 56) F 0 0 dX11_goesThrough_56 rfl rfl ?_
    refine gf_48_50 (pc := 57) F w_4_220 dX11_goesThrough_57 ?_
    refine k_sipush (pc := 60) F (v := (6000 : Int32)) dX11_goesThrough_60 cs_6000 ?_
    refine k_icmp_gt (pc := 63) F 209 dX11_goesThrough_63 (by decide) (fun _ => ?_) (fun _ => ?_)
    · exact k_sub [0] rfl (hK209 σ)
    · refine k_aload_n (pc := 66) F 0 0 dX11_goesThrough_66 rfl rfl ?_
      refine k_aload_n (pc := 67) F 0 0 dX11_goesThrough_67 rfl rfl ?_
      refine gf_48_51 (pc := 68) F w_4_221 dX11_goesThrough_68 ?_
      refine k_iload_n (pc := 71) F 3 1 dX11_goesThrough_71 rfl rfl ?_
      refine k_lald (pc := 72) F rfl dX11_goesThrough_72 ?_
      refine k_callVV (pc := 73) B (k := 48) (As := [.long (σ.2 82 (ix xq3))]) (rest := []) (ct_X11_unpack E (σ.2 82 (ix xq3))  σ) rfl rfl mv_X11_unpack w_6_39 rfl hR_X11_goesThrough_X11_unpack rfl (Nat.le_of_ble_eq_true rfl) dX11_goesThrough_73 (fun rq13 σ12 hoq => ?_)
      refine k_aload_n (pc := 76) F 0 0 dX11_goesThrough_76 rfl rfl ?_
      refine gf_48_56 (pc := 77) F w_4_226 dX11_goesThrough_77 ?_
      refine k_iload_n (pc := 80) F 3 1 dX11_goesThrough_80 rfl rfl ?_
      refine k_aload_n (pc := 81) F 0 0 dX11_goesThrough_81 rfl rfl ?_
      refine k_callVI (pc := 82) B (k := 48) (As := []) (rest := [.int xq3, .ref (ad E 87)]) (ct_X11_isEnd E   σ12) rfl rfl mv_X11_isEnd w_6_43 rfl hR_X11_goesThrough_X11_isEnd rfl (Nat.le_of_ble_eq_true rfl) dX11_goesThrough_82 (fun rq15 σ14 hoq => ?_)
      refine k_if_eq (pc := 85) F 95 dX11_goesThrough_85 (by decide) (fun _ => ?_) (fun _ => ?_)
      · refine k_iconst (pc := 95) F (v := (-1 : Int32)) dX11_goesThrough_95 ci_m1 ?_
        exact k_sub [0, 1] rfl (t_X11_goesThrough_96 B xq3 xq3 (-1 : Int32)  L48 hL48  σ14)
      · refine k_aload_n (pc := 88) F 0 0 dX11_goesThrough_88 rfl rfl ?_
        refine k_callVI (pc := 89) B (k := 48) (As := []) (rest := [.int xq3, .ref (ad E 87)]) (ct_X11_resultNow E   σ14) rfl rfl mv_X11_resultNow w_6_47 rfl hR_X11_goesThrough_X11_resultNow rfl (Nat.le_of_ble_eq_true rfl) dX11_goesThrough_89 (fun rq36 σ35 hoq => ?_)
        refine k_goto (pc := 92) F 96 dX11_goesThrough_92 (by decide) ?_
        exact k_sub [0, 1] rfl (t_X11_goesThrough_96 B xq3 xq3 rq36  L48 hL48  σ35)
set_option maxHeartbeats 4000000 in
set_option maxRecDepth 100000 in
theorem t_X11_goesThrough_L48 {E : En} {G : Cx} (B : Bx E G cX11_goesThrough 5 RX11 H_X11_goesThrough (some .boolean))   (K209 : Mm → Option (Int32 × Mm)) (hK209 : ∀   (σ : Mm), KR E G 5 (ZI E G) (K209  σ) 209 [(0, .ref (ad E 48))] [] σ)  : ∀ (n : Nat) (xq3 : Int32)  (σ : Mm), KR E G 5 (ZI E G) (fx (fun _ _ => none) n (f_X11_goesThrough_L48 K209 ) xq3 σ) 48 [(0, .ref (ad E 48)), (3, .int xq3)] [] σ :=
  fun n => fx_ind (P := fun f => ∀ (xq3 : Int32)  (σ : Mm), KR E G 5 (ZI E G) (f xq3 σ) 48 [(0, .ref (ad E 48)), (3, .int xq3)] [] σ) (fun _ _ => k_none) (fun L48 hL48 xq3 σ => t_X11_goesThrough_L48b B   K209 hK209  L48 hL48 xq3 σ) n
set_option maxHeartbeats 4000000 in
set_option maxRecDepth 100000 in
theorem t_X11_goesThrough_209 {E : En} {G : Cx} (B : Bx E G cX11_goesThrough 5 RX11 H_X11_goesThrough (some .boolean))    (σ : Mm) : KR E G 5 (ZI E G) (f_X11_goesThrough_209  σ) 209 [(0, .ref (ad E 48))] [] σ := by
  have F := B.1
  unfold f_X11_goesThrough_209
  refine k_aload_n (pc := 209) F 0 0 dX11_goesThrough_209 rfl rfl ?_
  refine gf_48_50 (pc := 210) F w_4_220 dX11_goesThrough_210 ?_
  refine k_sipush (pc := 213) F (v := (6000 : Int32)) dX11_goesThrough_213 cs_6000 ?_
  refine k_icmp_gt (pc := 216) F 223 dX11_goesThrough_216 (by decide) (fun _ => ?_) (fun _ => ?_)
  · refine k_iconst (pc := 223) F (v := (0 : Int32)) dX11_goesThrough_223 ci_0 ?_
    exact k_zret (pc := 224) B dX11_goesThrough_224
  · refine k_iconst (pc := 219) F (v := (1 : Int32)) dX11_goesThrough_219 ci_1 ?_
    refine k_goto (pc := 220) F 224 dX11_goesThrough_220 (by decide) ?_
    exact k_zret (pc := 224) B dX11_goesThrough_224
set_option maxHeartbeats 4000000 in
set_option maxRecDepth 100000 in
theorem t_X11_goesThrough_27 {E : En} {G : Cx} (B : Bx E G cX11_goesThrough 5 RX11 H_X11_goesThrough (some .boolean))    (σ : Mm) : KR E G 5 (ZI E G) (f_X11_goesThrough_27  σ) 27 [(0, .ref (ad E 48))] [] σ := by
  have F := B.1
  unfold f_X11_goesThrough_27
  refine k_aload_n (pc := 27) F 0 0 dX11_goesThrough_27 rfl rfl ?_
  refine k_iconst (pc := 28) F (v := (0 : Int32)) dX11_goesThrough_28 ci_0 ?_
  refine pf_48_50 (pc := 29) F w_4_220 dX11_goesThrough_29 (fun σ5 => ?_)
  refine k_aload_n (pc := 32) F 0 0 dX11_goesThrough_32 rfl rfl ?_
  refine k_callVV (pc := 33) B (k := 48) (As := []) (rest := []) (ct_X11_begins E   σ5) rfl rfl mv_X11_begins w_6_18 rfl hR_X11_goesThrough_X11_begins rfl (Nat.le_of_ble_eq_true rfl) dX11_goesThrough_33 (fun rq7 σ6 hoq => ?_)
  refine k_aload_n (pc := 36) F 0 0 dX11_goesThrough_36 rfl rfl ?_
  refine k_aload_n (pc := 37) F 0 0 dX11_goesThrough_37 rfl rfl ?_
  refine k_callVL (pc := 38) B (k := 48) (As := []) (rest := [.ref (ad E 48)]) (ct_X11_pack E   σ6) rfl rfl mv_X11_pack w_6_22 rfl hR_X11_goesThrough_X11_pack rfl (Nat.le_of_ble_eq_true rfl) dX11_goesThrough_38 (fun rq9 σ8 hoq => ?_)
  refine k_iconst (pc := 41) F (v := (0 : Int32)) dX11_goesThrough_41 ci_0 ?_
  refine k_callVI (pc := 42) B (k := 48) (As := [.long rq9, .int (0 : Int32)]) (rest := []) (ct_X11_placeOf E rq9 (0 : Int32)  σ8) rfl rfl mv_X11_placeOf w_6_34 rfl hR_X11_goesThrough_X11_placeOf rfl (Nat.le_of_ble_eq_true rfl) dX11_goesThrough_42 (fun rq11 σ10 hoq => ?_)
  refine k_istore_n F (lv' := [(2, .int rq11), (0, .ref (ad E 48))]) 2 dX11_goesThrough_45 rfl (by decide) rfl ?_
  refine k_iload_n (pc := 46) F 2 0 dX11_goesThrough_46 rfl rfl ?_
  refine k_istore_n F (lv' := [(3, .int rq11), (2, .int rq11), (0, .ref (ad E 48))]) 3 dX11_goesThrough_47 rfl (by decide) rfl ?_
  exact k_sub [2, 0] rfl (t_X11_goesThrough_L48 B   _ (fun   σ => by
        exact k_sub [0] rfl (t_X11_goesThrough_209 B    σ)) FU rq11  σ10)
set_option maxHeartbeats 4000000 in
set_option maxRecDepth 100000 in
theorem t_X11_goesThrough {E : En} {G : Cx} (B : Bx E G cX11_goesThrough 5 RX11 H_X11_goesThrough (some .boolean)) (aq0 : Int32)  (σ : Mm) : KR E G 5 (ZI E G) (f_X11_goesThrough aq0 σ) 0 [(0, .ref (ad E 48)), (1, .int aq0)] [] σ := by
  have F := B.1
  unfold f_X11_goesThrough
  refine k_aload_n (pc := 0) F 0 0 dX11_goesThrough_0 rfl rfl ?_
  refine k_iload_n (pc := 1) F 1 1 dX11_goesThrough_1 rfl rfl ?_
  refine k_callVV (pc := 2) B (k := 48) (As := [.int aq0]) (rest := []) (ct_X11_lay E aq0  σ) rfl rfl mv_X11_lay w_6_6 rfl hR_X11_goesThrough_X11_lay rfl (Nat.le_of_ble_eq_true rfl) dX11_goesThrough_2 (fun rq2 σ1 hoq => ?_)
  refine k_iconst (pc := 5) F (v := (0 : Int32)) dX11_goesThrough_5 ci_0 ?_
  refine k_istore_n F (lv' := [(2, .int (0 : Int32)), (0, .ref (ad E 48)), (1, .int aq0)]) 2 dX11_goesThrough_6 rfl (by decide) rfl ?_
  exact k_sub [1, 0] rfl (t_X11_goesThrough_L7 B   _ (fun   σ => by
        exact k_sub [0] rfl (t_X11_goesThrough_27 B    σ)) FU (0 : Int32)  σ1)
set_option maxHeartbeats 4000000 in
set_option maxRecDepth 100000 in
theorem ct_X11_goesThrough (E : En) (aq0 : Int32)  (σ : Mm) : CtI E yX11_goesThrough cX11_goesThrough 5 (some .boolean) H_X11_goesThrough [.ref (ad E 48), .int aq0] σ (f_X11_goesThrough aq0 σ) := ct_I (by decide) (Nat.le_of_ble_eq_true rfl) rfl (fun G B => t_X11_goesThrough B aq0  σ)
abbrev H_X11_comes : Nat := 0
set_option maxHeartbeats 4000000 in
set_option maxRecDepth 100000 in
theorem t_X11_comes_L2b {E : En} {G : Cx} (B : Bx E G cX11_comes 5 RX11 H_X11_comes (some .int)) (kq0 : Nat) (xq1 : Int32) (xq2 : Int32) (hkq0 : isIA kq0) (K21 : Int32 → Mm → Option (Int32 × Mm)) (hK21 : ∀ (xq3 : Int32)  (σ : Mm), KR E G 5 (ZI E G) (K21 xq3 σ) 21 [(0, .ref (ad E kq0)), (1, .int xq1), (2, .int xq2), (3, .int xq3)] [] σ)  (L2 : Int32 → Mm → Option (Int32 × Mm)) (hL2 : ∀ (xq3 : Int32)  (σ : Mm), KR E G 5 (ZI E G) (L2 xq3 σ) 2 [(0, .ref (ad E kq0)), (1, .int xq1), (2, .int xq2), (3, .int xq3)] [] σ) (xq3 : Int32)  (σ : Mm) : KR E G 5 (ZI E G) (f_X11_comes_L2 K21 kq0 xq1 xq2 L2 xq3 σ) 2 [(0, .ref (ad E kq0)), (1, .int xq1), (2, .int xq2), (3, .int xq3)] [] σ := by
  have F := B.1
  unfold f_X11_comes_L2
  refine k_iload_n (pc := 2) F 3 3 dX11_comes_2 rfl rfl ?_
  refine k_if_le (pc := 3) F 21 dX11_comes_3 (by decide) (fun _ => ?_) (fun _ => ?_)
  · exact k_sub [0, 1, 2, 3] rfl (hK21 xq3 σ)
  · refine k_aload_n (pc := 6) F 0 0 dX11_comes_6 rfl rfl ?_
    refine k_iload_n (pc := 7) F 3 3 dX11_comes_7 rfl rfl ?_
    refine k_iconst (pc := 8) F (v := (1 : Int32)) dX11_comes_8 ci_1 ?_
    refine k_isub (pc := 9) F dX11_comes_9 ?_
    refine k_iald (pc := 10) F (isIA_l hkq0) dX11_comes_10 ?_
    refine k_iload_n (pc := 11) F 2 2 dX11_comes_11 rfl rfl ?_
    refine k_icmp_le (pc := 12) F 21 dX11_comes_12 (by decide) (fun _ => ?_) (fun _ => ?_)
    · exact k_sub [0, 1, 2, 3] rfl (hK21 xq3 σ)
    · refine k_iinc (pc := 15) F (c := (-1 : Int32)) (lw := fun wq => [(3, .int wq), (0, .ref (ad E kq0)), (1, .int xq1), (2, .int xq2)]) 3 3 dX11_comes_15 rfl ci_m1 (by decide) (fun _ => rfl) (fun vq1 => ?_)
      refine k_goto (pc := 18) F 2 dX11_comes_18 (by decide) ?_
      exact k_sub [1, 2, 3, 0] rfl (hL2 vq1 σ)
set_option maxHeartbeats 4000000 in
set_option maxRecDepth 100000 in
theorem t_X11_comes_L2 {E : En} {G : Cx} (B : Bx E G cX11_comes 5 RX11 H_X11_comes (some .int)) (kq0 : Nat) (xq1 : Int32) (xq2 : Int32) (hkq0 : isIA kq0) (K21 : Int32 → Mm → Option (Int32 × Mm)) (hK21 : ∀ (xq3 : Int32)  (σ : Mm), KR E G 5 (ZI E G) (K21 xq3 σ) 21 [(0, .ref (ad E kq0)), (1, .int xq1), (2, .int xq2), (3, .int xq3)] [] σ)  : ∀ (n : Nat) (xq3 : Int32)  (σ : Mm), KR E G 5 (ZI E G) (fx (fun _ _ => none) n (f_X11_comes_L2 K21 kq0 xq1 xq2) xq3 σ) 2 [(0, .ref (ad E kq0)), (1, .int xq1), (2, .int xq2), (3, .int xq3)] [] σ :=
  fun n => fx_ind (P := fun f => ∀ (xq3 : Int32)  (σ : Mm), KR E G 5 (ZI E G) (f xq3 σ) 2 [(0, .ref (ad E kq0)), (1, .int xq1), (2, .int xq2), (3, .int xq3)] [] σ) (fun _ _ => k_none) (fun L2 hL2 xq3 σ => t_X11_comes_L2b B kq0 xq1 xq2 hkq0 K21 hK21  L2 hL2 xq3 σ) n
set_option maxHeartbeats 4000000 in
set_option maxRecDepth 100000 in
theorem t_X11_comes_L39b {E : En} {G : Cx} (B : Bx E G cX11_comes 5 RX11 H_X11_comes (some .int)) (kq0 : Nat) (xq1 : Int32) (xq2 : Int32) (xq3 : Int32) (hkq0 : isIA kq0)  (L39 : Int32 → Mm → Option (Int32 × Mm)) (hL39 : ∀ (xq4 : Int32)  (σ : Mm), KR E G 5 (ZI E G) (L39 xq4 σ) 39 [(0, .ref (ad E kq0)), (1, .int xq1), (2, .int xq2), (3, .int xq3), (4, .int xq4)] [] σ) (xq4 : Int32)  (σ : Mm) : KR E G 5 (ZI E G) (f_X11_comes_L39 kq0 xq1 xq2 xq3 L39 xq4 σ) 39 [(0, .ref (ad E kq0)), (1, .int xq1), (2, .int xq2), (3, .int xq3), (4, .int xq4)] [] σ := by
  have F := B.1
  unfold f_X11_comes_L39
  refine k_iload (pc := 39) F 4 4 dX11_comes_39 rfl ?_
  refine k_iload_n (pc := 41) F 3 3 dX11_comes_41 rfl rfl ?_
  refine k_icmp_le (pc := 42) F 61 dX11_comes_42 (by decide) (fun _ => ?_) (fun _ => ?_)
  · refine k_aload_n (pc := 61) F 0 0 dX11_comes_61 rfl rfl ?_
    refine k_iload_n (pc := 62) F 3 3 dX11_comes_62 rfl rfl ?_
    refine k_iload_n (pc := 63) F 2 2 dX11_comes_63 rfl rfl ?_
    refine k_iast (pc := 64) F (isIA_l hkq0) dX11_comes_64 (fun σ2 => ?_)
    refine k_iload_n (pc := 65) F 1 1 dX11_comes_65 rfl rfl ?_
    refine k_iconst (pc := 66) F (v := (1 : Int32)) dX11_comes_66 ci_1 ?_
    refine k_iadd (pc := 67) F dX11_comes_67 ?_
    exact k_iret (pc := 68) B dX11_comes_68
  · refine k_aload_n (pc := 45) F 0 0 dX11_comes_45 rfl rfl ?_
    refine k_iload (pc := 46) F 4 4 dX11_comes_46 rfl ?_
    refine k_aload_n (pc := 48) F 0 0 dX11_comes_48 rfl rfl ?_
    refine k_iload (pc := 49) F 4 4 dX11_comes_49 rfl ?_
    refine k_iconst (pc := 51) F (v := (1 : Int32)) dX11_comes_51 ci_1 ?_
    refine k_isub (pc := 52) F dX11_comes_52 ?_
    refine k_iald (pc := 53) F (isIA_l hkq0) dX11_comes_53 ?_
    refine k_iast (pc := 54) F (isIA_l hkq0) dX11_comes_54 (fun σ3 => ?_)
    refine k_iinc (pc := 55) F (c := (-1 : Int32)) (lw := fun wq => [(4, .int wq), (0, .ref (ad E kq0)), (1, .int xq1), (2, .int xq2), (3, .int xq3)]) 4 4 dX11_comes_55 rfl ci_m1 (by decide) (fun _ => rfl) (fun vq4 => ?_)
    refine k_goto (pc := 58) F 39 dX11_comes_58 (by decide) ?_
    exact k_sub [1, 2, 3, 4, 0] rfl (hL39 vq4 σ3)
set_option maxHeartbeats 4000000 in
set_option maxRecDepth 100000 in
theorem t_X11_comes_L39 {E : En} {G : Cx} (B : Bx E G cX11_comes 5 RX11 H_X11_comes (some .int)) (kq0 : Nat) (xq1 : Int32) (xq2 : Int32) (xq3 : Int32) (hkq0 : isIA kq0)  : ∀ (n : Nat) (xq4 : Int32)  (σ : Mm), KR E G 5 (ZI E G) (fx (fun _ _ => none) n (f_X11_comes_L39 kq0 xq1 xq2 xq3) xq4 σ) 39 [(0, .ref (ad E kq0)), (1, .int xq1), (2, .int xq2), (3, .int xq3), (4, .int xq4)] [] σ :=
  fun n => fx_ind (P := fun f => ∀ (xq4 : Int32)  (σ : Mm), KR E G 5 (ZI E G) (f xq4 σ) 39 [(0, .ref (ad E kq0)), (1, .int xq1), (2, .int xq2), (3, .int xq3), (4, .int xq4)] [] σ) (fun _ _ => k_none) (fun L39 hL39 xq4 σ => t_X11_comes_L39b B kq0 xq1 xq2 xq3 hkq0  L39 hL39 xq4 σ) n
set_option maxHeartbeats 4000000 in
set_option maxRecDepth 100000 in
theorem t_X11_comes_36 {E : En} {G : Cx} (B : Bx E G cX11_comes 5 RX11 H_X11_comes (some .int)) (kq0 : Nat) (xq1 : Int32) (xq2 : Int32) (xq3 : Int32) (hkq0 : isIA kq0)  (σ : Mm) : KR E G 5 (ZI E G) (f_X11_comes_36 kq0 xq1 xq2 xq3 σ) 36 [(0, .ref (ad E kq0)), (1, .int xq1), (2, .int xq2), (3, .int xq3)] [] σ := by
  have F := B.1
  unfold f_X11_comes_36
  refine k_iload_n (pc := 36) F 1 1 dX11_comes_36 rfl rfl ?_
  refine k_istore F (lv' := [(4, .int xq1), (0, .ref (ad E kq0)), (1, .int xq1), (2, .int xq2), (3, .int xq3)]) 4 dX11_comes_37 (by decide) rfl ?_
  exact k_sub [1, 2, 3, 4, 0] rfl (t_X11_comes_L39 B kq0 xq1 xq2 xq3 hkq0  FU xq1  σ)
set_option maxHeartbeats 4000000 in
set_option maxRecDepth 100000 in
theorem t_X11_comes_21 {E : En} {G : Cx} (B : Bx E G cX11_comes 5 RX11 H_X11_comes (some .int)) (kq0 : Nat) (xq1 : Int32) (xq2 : Int32) (xq3 : Int32) (hkq0 : isIA kq0)  (σ : Mm) : KR E G 5 (ZI E G) (f_X11_comes_21 kq0 xq1 xq2 xq3 σ) 21 [(0, .ref (ad E kq0)), (1, .int xq1), (2, .int xq2), (3, .int xq3)] [] σ := by
  have F := B.1
  unfold f_X11_comes_21
  refine k_iload_n (pc := 21) F 3 3 dX11_comes_21 rfl rfl ?_
  refine k_if_le (pc := 22) F 36 dX11_comes_22 (by decide) (fun _ => ?_) (fun _ => ?_)
  · exact k_sub [0, 1, 2, 3] rfl (t_X11_comes_36 B kq0 xq1 xq2 xq3 hkq0  σ)
  · refine k_aload_n (pc := 25) F 0 0 dX11_comes_25 rfl rfl ?_
    refine k_iload_n (pc := 26) F 3 3 dX11_comes_26 rfl rfl ?_
    refine k_iconst (pc := 27) F (v := (1 : Int32)) dX11_comes_27 ci_1 ?_
    refine k_isub (pc := 28) F dX11_comes_28 ?_
    refine k_iald (pc := 29) F (isIA_l hkq0) dX11_comes_29 ?_
    refine k_iload_n (pc := 30) F 2 2 dX11_comes_30 rfl rfl ?_
    refine k_icmp_ne (pc := 31) F 36 dX11_comes_31 (by decide) (fun _ => ?_) (fun _ => ?_)
    · refine k_iload_n (pc := 34) F 1 1 dX11_comes_34 rfl rfl ?_
      exact k_iret (pc := 35) B dX11_comes_35
    · exact k_sub [0, 1, 2, 3] rfl (t_X11_comes_36 B kq0 xq1 xq2 xq3 hkq0  σ)
set_option maxHeartbeats 4000000 in
set_option maxRecDepth 100000 in
theorem t_X11_comes {E : En} {G : Cx} (B : Bx E G cX11_comes 5 RX11 H_X11_comes (some .int)) (kq0 : Nat) (aq1 : Int32) (aq2 : Int32) (hkq0 : isIA kq0) (σ : Mm) : KR E G 5 (ZI E G) (f_X11_comes kq0 aq1 aq2 σ) 0 [(0, .ref (ad E kq0)), (1, .int aq1), (2, .int aq2)] [] σ := by
  have F := B.1
  unfold f_X11_comes
  refine k_iload_n (pc := 0) F 1 1 dX11_comes_0 rfl rfl ?_
  refine k_istore_n F (lv' := [(3, .int aq1), (0, .ref (ad E kq0)), (1, .int aq1), (2, .int aq2)]) 3 dX11_comes_1 rfl (by decide) rfl ?_
  exact k_sub [1, 2, 3, 0] rfl (t_X11_comes_L2 B kq0 aq1 aq2 hkq0 _ (fun xq3  σ => by
        exact k_sub [0, 1, 2, 3] rfl (t_X11_comes_21 B kq0 aq1 aq2 xq3 hkq0  σ)) FU aq1  σ)
set_option maxHeartbeats 4000000 in
set_option maxRecDepth 100000 in
theorem ct_X11_comes (E : En) (kq0 : Nat) (aq1 : Int32) (aq2 : Int32) (hkq0 : isIA kq0) (σ : Mm) : CtI E yX11_comes cX11_comes 5 (some .int) H_X11_comes [.ref (ad E kq0), .int aq1, .int aq2] σ (f_X11_comes kq0 aq1 aq2 σ) := ct_I (by decide) (Nat.le_of_ble_eq_true rfl) rfl (fun G B => t_X11_comes B kq0 aq1 aq2 hkq0 σ)
abbrev H_X11_findResults : Nat := 1
theorem hR_X11_findResults_X11_comes : H_X11_comes + 1 ≤ H_X11_findResults ∧ 8 + (5 + 11) + 40 * H_X11_comes ≤ 40 * H_X11_findResults := by decide
set_option maxHeartbeats 4000000 in
set_option maxRecDepth 100000 in
theorem t_X11_findResults_49 {E : En} {G : Cx} (B : Bx E G cX11_findResults 2 RX11 H_X11_findResults none) (xq1 : Int32) (xqs1 : Int32)  (L7 : Int32 → Mm → Option (Unit × Mm)) (hL7 : ∀ (xq1 : Int32)  (σ : Mm), KR E G 2 (ZV E G) (L7 xq1 σ) 7 [(0, .ref (ad E 48)), (1, .int xq1)] [] σ)  (σ : Mm) : KR E G 2 (ZV E G) (f_X11_findResults_49 L7 xq1 xqs1 σ) 49 [(0, .ref (ad E 48)), (1, .int xq1)] [.int xqs1, .ref (ad E 48)] σ := by
  have F := B.1
  unfold f_X11_findResults_49
  refine pf_48_58 (pc := 49) F w_4_228 dX11_findResults_49 (fun σ4 => ?_)
  refine k_iinc (pc := 52) F (c := (1 : Int32)) (lw := fun wq => [(1, .int wq), (0, .ref (ad E 48))]) 1 1 dX11_findResults_52 rfl ci_1 (by decide) (fun _ => rfl) (fun vq5 => ?_)
  refine k_goto (pc := 55) F 7 dX11_findResults_55 (by decide) ?_
  exact k_sub [1, 0] rfl (hL7 vq5 σ4)
set_option maxHeartbeats 4000000 in
set_option maxRecDepth 100000 in
theorem t_X11_findResults_L7b {E : En} {G : Cx} (B : Bx E G cX11_findResults 2 RX11 H_X11_findResults none)    (L7 : Int32 → Mm → Option (Unit × Mm)) (hL7 : ∀ (xq1 : Int32)  (σ : Mm), KR E G 2 (ZV E G) (L7 xq1 σ) 7 [(0, .ref (ad E 48)), (1, .int xq1)] [] σ) (xq1 : Int32)  (σ : Mm) : KR E G 2 (ZV E G) (f_X11_findResults_L7  L7 xq1 σ) 7 [(0, .ref (ad E 48)), (1, .int xq1)] [] σ := by
  have F := B.1
  unfold f_X11_findResults_L7
  refine k_iload_n (pc := 7) F 1 1 dX11_findResults_7 rfl rfl ?_
  refine k_aload_n (pc := 8) F 0 0 dX11_findResults_8 rfl rfl ?_
  refine gf_48_50 (pc := 9) F w_4_220 dX11_findResults_9 ?_
  refine k_icmp_ge (pc := 12) F 58 dX11_findResults_12 (by decide) (fun _ => ?_) (fun _ => ?_)
  · exact k_vret (pc := 58) B dX11_findResults_58
  · refine k_aload_n (pc := 15) F 0 0 dX11_findResults_15 rfl rfl ?_
    refine k_aload_n (pc := 16) F 0 0 dX11_findResults_16 rfl rfl ?_
    refine gf_48_56 (pc := 17) F w_4_226 dX11_findResults_17 ?_
    refine k_iload_n (pc := 20) F 1 1 dX11_findResults_20 rfl rfl ?_
    refine k_iald (pc := 21) F rfl dX11_findResults_21 ?_
    refine k_if_ge (pc := 22) F 32 dX11_findResults_22 (by decide) (fun _ => ?_) (fun _ => ?_)
    · refine k_aload_n (pc := 32) F 0 0 dX11_findResults_32 rfl rfl ?_
      refine gf_48_57 (pc := 33) F w_4_227 dX11_findResults_33 ?_
      refine k_aload_n (pc := 36) F 0 0 dX11_findResults_36 rfl rfl ?_
      refine gf_48_58 (pc := 37) F w_4_228 dX11_findResults_37 ?_
      refine k_aload_n (pc := 40) F 0 0 dX11_findResults_40 rfl rfl ?_
      refine gf_48_56 (pc := 41) F w_4_226 dX11_findResults_41 ?_
      refine k_iload_n (pc := 44) F 1 1 dX11_findResults_44 rfl rfl ?_
      refine k_iald (pc := 45) F rfl dX11_findResults_45 ?_
      refine k_callSI (pc := 46) B (As := [.ref (ad E 88), .int (σ.1 48 58), .int (σ.1 87 (ix xq1))]) (rest := [.ref (ad E 48)]) (ct_X11_comes E 88 (σ.1 48 58) (σ.1 87 (ix xq1)) isIA_88 σ) ms_X11_comes w_6_86 rfl hR_X11_findResults_X11_comes rfl (Nat.le_of_ble_eq_true rfl) dX11_findResults_46 (fun rq3 σ2 hoq => ?_)
      exact k_sub [0, 1] rfl (t_X11_findResults_49 B xq1 rq3  L7 hL7  σ2)
    · refine k_aload_n (pc := 25) F 0 0 dX11_findResults_25 rfl rfl ?_
      refine gf_48_58 (pc := 26) F w_4_228 dX11_findResults_26 ?_
      refine k_goto (pc := 29) F 49 dX11_findResults_29 (by decide) ?_
      exact k_sub [0, 1] rfl (t_X11_findResults_49 B xq1 (σ.1 48 58)  L7 hL7  σ)
set_option maxHeartbeats 4000000 in
set_option maxRecDepth 100000 in
theorem t_X11_findResults_L7 {E : En} {G : Cx} (B : Bx E G cX11_findResults 2 RX11 H_X11_findResults none)    : ∀ (n : Nat) (xq1 : Int32)  (σ : Mm), KR E G 2 (ZV E G) (fx (fun _ _ => none) n (f_X11_findResults_L7 ) xq1 σ) 7 [(0, .ref (ad E 48)), (1, .int xq1)] [] σ :=
  fun n => fx_ind (P := fun f => ∀ (xq1 : Int32)  (σ : Mm), KR E G 2 (ZV E G) (f xq1 σ) 7 [(0, .ref (ad E 48)), (1, .int xq1)] [] σ) (fun _ _ => k_none) (fun L7 hL7 xq1 σ => t_X11_findResults_L7b B    L7 hL7 xq1 σ) n
set_option maxHeartbeats 4000000 in
set_option maxRecDepth 100000 in
theorem t_X11_findResults {E : En} {G : Cx} (B : Bx E G cX11_findResults 2 RX11 H_X11_findResults none)   (σ : Mm) : KR E G 2 (ZV E G) (f_X11_findResults  σ) 0 [(0, .ref (ad E 48))] [] σ := by
  have F := B.1
  unfold f_X11_findResults
  refine k_aload_n (pc := 0) F 0 0 dX11_findResults_0 rfl rfl ?_
  refine k_iconst (pc := 1) F (v := (0 : Int32)) dX11_findResults_1 ci_0 ?_
  refine pf_48_58 (pc := 2) F w_4_228 dX11_findResults_2 (fun σ1 => ?_)
  refine k_iconst (pc := 5) F (v := (0 : Int32)) dX11_findResults_5 ci_0 ?_
  refine k_istore_n F (lv' := [(1, .int (0 : Int32)), (0, .ref (ad E 48))]) 1 dX11_findResults_6 rfl (by decide) rfl ?_
  exact k_sub [1, 0] rfl (t_X11_findResults_L7 B    FU (0 : Int32)  σ1)
set_option maxHeartbeats 4000000 in
set_option maxRecDepth 100000 in
theorem ct_X11_findResults (E : En)   (σ : Mm) : CtV E yX11_findResults cX11_findResults 2 none H_X11_findResults [.ref (ad E 48)] σ (f_X11_findResults  σ) := ct_V (by decide) (Nat.le_of_ble_eq_true rfl) rfl (fun G B => t_X11_findResults B   σ)
abbrev H_X11_wholeCall : Nat := 2
theorem hR_X11_wholeCall_X11_stepsOn : H_X11_stepsOn + 1 ≤ H_X11_wholeCall ∧ 8 + (7 + 11) + 40 * H_X11_stepsOn ≤ 40 * H_X11_wholeCall := by decide
set_option maxHeartbeats 4000000 in
set_option maxRecDepth 100000 in
theorem t_X11_wholeCall_L11b {E : En} {G : Cx} (B : Bx E G cX11_wholeCall 4 RX11 H_X11_wholeCall (some .boolean)) (xq1 : Int32) (xq2 : Int32)  (K37 : Mm → Option (Int32 × Mm)) (hK37 : ∀   (σ : Mm), KR E G 4 (ZI E G) (K37  σ) 37 [(0, .ref (ad E 48)), (1, .int xq1), (2, .int xq2)] [] σ)  (L11 : Int32 → Mm → Option (Int32 × Mm)) (hL11 : ∀ (xq3 : Int32)  (σ : Mm), KR E G 4 (ZI E G) (L11 xq3 σ) 11 [(0, .ref (ad E 48)), (1, .int xq1), (2, .int xq2), (3, .int xq3)] [] σ) (xq3 : Int32)  (σ : Mm) : KR E G 4 (ZI E G) (f_X11_wholeCall_L11 K37 xq1 xq2 L11 xq3 σ) 11 [(0, .ref (ad E 48)), (1, .int xq1), (2, .int xq2), (3, .int xq3)] [] σ := by
  have F := B.1
  unfold f_X11_wholeCall_L11
  refine k_aload_n (pc := 11) F 0 0 dX11_wholeCall_11 rfl rfl ?_
  refine gf_48_40 (pc := 12) F w_4_210 dX11_wholeCall_12 ?_
  refine k_iload_n (pc := 15) F 1 1 dX11_wholeCall_15 rfl rfl ?_
  refine k_iald (pc := 16) F rfl dX11_wholeCall_16 ?_
  refine k_iload_n (pc := 17) F 2 2 dX11_wholeCall_17 rfl rfl ?_
  refine k_icmp_ne (pc := 18) F 37 dX11_wholeCall_18 (by decide) (fun _ => ?_) (fun _ => ?_)
  · refine k_iload_n (pc := 21) F 3 3 dX11_wholeCall_21 rfl rfl ?_
    refine k_if_le (pc := 22) F 37 dX11_wholeCall_22 (by decide) (fun _ => ?_) (fun _ => ?_)
    · exact k_sub [0, 1, 2] rfl (hK37 σ)
    · refine k_aload_n (pc := 25) F 0 0 dX11_wholeCall_25 rfl rfl ?_
      refine k_iload_n (pc := 26) F 1 1 dX11_wholeCall_26 rfl rfl ?_
      refine k_iconst (pc := 27) F (v := (0 : Int32)) dX11_wholeCall_27 ci_0 ?_
      refine k_callVV (pc := 28) B (k := 48) (As := [.int xq1, .int (0 : Int32)]) (rest := []) (ct_X11_stepsOn E xq1 (0 : Int32)  σ) rfl rfl mv_X11_stepsOn w_6_66 rfl hR_X11_wholeCall_X11_stepsOn rfl (Nat.le_of_ble_eq_true rfl) dX11_wholeCall_28 (fun rq3 σ2 hoq => ?_)
      refine k_iinc (pc := 31) F (c := (-1 : Int32)) (lw := fun wq => [(3, .int wq), (0, .ref (ad E 48)), (1, .int xq1), (2, .int xq2)]) 3 3 dX11_wholeCall_31 rfl ci_m1 (by decide) (fun _ => rfl) (fun vq4 => ?_)
      refine k_goto (pc := 34) F 11 dX11_wholeCall_34 (by decide) ?_
      exact k_sub [1, 2, 3, 0] rfl (hL11 vq4 σ2)
  · exact k_sub [0, 1, 2] rfl (hK37 σ)
set_option maxHeartbeats 4000000 in
set_option maxRecDepth 100000 in
theorem t_X11_wholeCall_L11 {E : En} {G : Cx} (B : Bx E G cX11_wholeCall 4 RX11 H_X11_wholeCall (some .boolean)) (xq1 : Int32) (xq2 : Int32)  (K37 : Mm → Option (Int32 × Mm)) (hK37 : ∀   (σ : Mm), KR E G 4 (ZI E G) (K37  σ) 37 [(0, .ref (ad E 48)), (1, .int xq1), (2, .int xq2)] [] σ)  : ∀ (n : Nat) (xq3 : Int32)  (σ : Mm), KR E G 4 (ZI E G) (fx (fun _ _ => none) n (f_X11_wholeCall_L11 K37 xq1 xq2) xq3 σ) 11 [(0, .ref (ad E 48)), (1, .int xq1), (2, .int xq2), (3, .int xq3)] [] σ :=
  fun n => fx_ind (P := fun f => ∀ (xq3 : Int32)  (σ : Mm), KR E G 4 (ZI E G) (f xq3 σ) 11 [(0, .ref (ad E 48)), (1, .int xq1), (2, .int xq2), (3, .int xq3)] [] σ) (fun _ _ => k_none) (fun L11 hL11 xq3 σ => t_X11_wholeCall_L11b B xq1 xq2  K37 hK37  L11 hL11 xq3 σ) n
set_option maxHeartbeats 4000000 in
set_option maxRecDepth 100000 in
theorem t_X11_wholeCall_37 {E : En} {G : Cx} (B : Bx E G cX11_wholeCall 4 RX11 H_X11_wholeCall (some .boolean)) (xq1 : Int32) (xq2 : Int32)   (σ : Mm) : KR E G 4 (ZI E G) (f_X11_wholeCall_37 xq1 xq2 σ) 37 [(0, .ref (ad E 48)), (1, .int xq1), (2, .int xq2)] [] σ := by
  have F := B.1
  unfold f_X11_wholeCall_37
  refine k_aload_n (pc := 37) F 0 0 dX11_wholeCall_37 rfl rfl ?_
  refine gf_48_40 (pc := 38) F w_4_210 dX11_wholeCall_38 ?_
  refine k_iload_n (pc := 41) F 1 1 dX11_wholeCall_41 rfl rfl ?_
  refine k_iald (pc := 42) F rfl dX11_wholeCall_42 ?_
  refine k_iload_n (pc := 43) F 2 2 dX11_wholeCall_43 rfl rfl ?_
  refine k_icmp_le (pc := 44) F 51 dX11_wholeCall_44 (by decide) (fun _ => ?_) (fun _ => ?_)
  · refine k_iconst (pc := 51) F (v := (0 : Int32)) dX11_wholeCall_51 ci_0 ?_
    exact k_zret (pc := 52) B dX11_wholeCall_52
  · refine k_iconst (pc := 47) F (v := (1 : Int32)) dX11_wholeCall_47 ci_1 ?_
    refine k_goto (pc := 48) F 52 dX11_wholeCall_48 (by decide) ?_
    exact k_zret (pc := 52) B dX11_wholeCall_52
set_option maxHeartbeats 4000000 in
set_option maxRecDepth 100000 in
theorem t_X11_wholeCall {E : En} {G : Cx} (B : Bx E G cX11_wholeCall 4 RX11 H_X11_wholeCall (some .boolean)) (aq0 : Int32)  (σ : Mm) : KR E G 4 (ZI E G) (f_X11_wholeCall aq0 σ) 0 [(0, .ref (ad E 48)), (1, .int aq0)] [] σ := by
  have F := B.1
  unfold f_X11_wholeCall
  refine k_aload_n (pc := 0) F 0 0 dX11_wholeCall_0 rfl rfl ?_
  refine gf_48_40 (pc := 1) F w_4_210 dX11_wholeCall_1 ?_
  refine k_iload_n (pc := 4) F 1 1 dX11_wholeCall_4 rfl rfl ?_
  refine k_iald (pc := 5) F rfl dX11_wholeCall_5 ?_
  refine k_nmI (fun vq1 => ?_)
  refine k_istore_n F (lv' := [(2, .int vq1), (0, .ref (ad E 48)), (1, .int aq0)]) 2 dX11_wholeCall_6 rfl (by decide) rfl ?_
  refine k_sipush (pc := 7) F (v := (14337 : Int32)) dX11_wholeCall_7 cs_14337 ?_
  refine k_istore_n F (lv' := [(3, .int (14337 : Int32)), (2, .int vq1), (0, .ref (ad E 48)), (1, .int aq0)]) 3 dX11_wholeCall_10 rfl (by decide) rfl ?_
  exact k_sub [2, 3, 1, 0] rfl (t_X11_wholeCall_L11 B aq0 vq1  _ (fun   σ => by
        exact k_sub [0, 1, 2] rfl (t_X11_wholeCall_37 B aq0 vq1   σ)) FU (14337 : Int32)  σ)
set_option maxHeartbeats 4000000 in
set_option maxRecDepth 100000 in
theorem ct_X11_wholeCall (E : En) (aq0 : Int32)  (σ : Mm) : CtI E yX11_wholeCall cX11_wholeCall 4 (some .boolean) H_X11_wholeCall [.ref (ad E 48), .int aq0] σ (f_X11_wholeCall aq0 σ) := ct_I (by decide) (Nat.le_of_ble_eq_true rfl) rfl (fun G B => t_X11_wholeCall B aq0  σ)
abbrev HBX11_ordersFrom : Nat := 3
abbrev H_X11_ordersFrom : Nat := 11
set_option maxHeartbeats 4000000 in
set_option maxRecDepth 100000 in
theorem t_X11_ordersFrom_67 {E : En} {G : Cx} {dr d : Nat} (B : Bx E G cX11_ordersFrom 4 RX11 d none) (hd : dr + 1 ≤ d ∧ HBX11_ordersFrom ≤ dr) (S : Int32 → Mm → Option (Unit × Mm)) (hS : ∀ (aq0 : Int32) (σ : Mm), CtV E yX11_ordersFrom cX11_ordersFrom 4 none dr [.ref (ad E 48), .int aq0] σ (S aq0 σ)) (xq1 : Int32) (xq2 : Int32) (xq3 : Int32)  (L14 : Int32 → Int32 → Mm → Option (Unit × Mm)) (hL14 : ∀ (xq2 : Int32) (xq3 : Int32)  (σ : Mm), KR E G 4 (ZV E G) (L14 xq2 xq3 σ) 14 [(0, .ref (ad E 48)), (1, .int xq1), (2, .int xq2), (3, .int xq3)] [] σ)  (σ : Mm) : KR E G 4 (ZV E G) (f_X11_ordersFrom_67 S L14 xq1 xq2 xq3 σ) 67 [(0, .ref (ad E 48)), (1, .int xq1), (2, .int xq2), (3, .int xq3)] [] σ := by
  have F := B.1
  unfold f_X11_ordersFrom_67
  refine k_iinc (pc := 67) F (c := (1 : Int32)) (lw := fun wq => [(3, .int wq), (0, .ref (ad E 48)), (1, .int xq1), (2, .int xq2)]) 3 3 dX11_ordersFrom_67 rfl ci_1 (by decide) (fun _ => rfl) (fun vq8 => ?_)
  refine k_goto (pc := 70) F 14 dX11_ordersFrom_70 (by decide) ?_
  exact k_sub [1, 2, 3, 0] rfl (hL14 xq2 vq8 σ)
set_option maxHeartbeats 4000000 in
set_option maxRecDepth 100000 in
theorem t_X11_ordersFrom_L14b {E : En} {G : Cx} {dr d : Nat} (B : Bx E G cX11_ordersFrom 4 RX11 d none) (hd : dr + 1 ≤ d ∧ HBX11_ordersFrom ≤ dr) (S : Int32 → Mm → Option (Unit × Mm)) (hS : ∀ (aq0 : Int32) (σ : Mm), CtV E yX11_ordersFrom cX11_ordersFrom 4 none dr [.ref (ad E 48), .int aq0] σ (S aq0 σ)) (xq1 : Int32)  (K73 : Int32 → Mm → Option (Unit × Mm)) (hK73 : ∀ (xq2 : Int32)  (σ : Mm), KR E G 4 (ZV E G) (K73 xq2 σ) 73 [(0, .ref (ad E 48)), (1, .int xq1), (2, .int xq2)] [] σ)  (L14 : Int32 → Int32 → Mm → Option (Unit × Mm)) (hL14 : ∀ (xq2 : Int32) (xq3 : Int32)  (σ : Mm), KR E G 4 (ZV E G) (L14 xq2 xq3 σ) 14 [(0, .ref (ad E 48)), (1, .int xq1), (2, .int xq2), (3, .int xq3)] [] σ) (xq2 : Int32) (xq3 : Int32)  (σ : Mm) : KR E G 4 (ZV E G) (f_X11_ordersFrom_L14 S K73 xq1 L14 xq2 xq3 σ) 14 [(0, .ref (ad E 48)), (1, .int xq1), (2, .int xq2), (3, .int xq3)] [] σ := by
  have F := B.1
  unfold f_X11_ordersFrom_L14
  refine k_iload_n (pc := 14) F 3 3 dX11_ordersFrom_14 rfl rfl ?_
  refine k_aload_n (pc := 15) F 0 0 dX11_ordersFrom_15 rfl rfl ?_
  refine gf_48_7 (pc := 16) F w_4_177 dX11_ordersFrom_16 ?_
  refine k_icmp_ge (pc := 19) F 73 dX11_ordersFrom_19 (by decide) (fun _ => ?_) (fun _ => ?_)
  · exact k_sub [0, 1, 2] rfl (hK73 xq2 σ)
  · refine k_aload_n (pc := 22) F 0 0 dX11_ordersFrom_22 rfl rfl ?_
    refine k_aload_n (pc := 23) F 0 0 dX11_ordersFrom_23 rfl rfl ?_
    refine gf_48_61 (pc := 24) F w_4_231 dX11_ordersFrom_24 ?_
    refine k_iload_n (pc := 27) F 1 1 dX11_ordersFrom_27 rfl rfl ?_
    refine k_lald (pc := 28) F rfl dX11_ordersFrom_28 ?_
    refine k_callVV (pc := 29) B (k := 48) (As := [.long (σ.2 90 (ix xq1))]) (rest := []) (ct_X11_unpack E (σ.2 90 (ix xq1))  σ) rfl rfl mv_X11_unpack w_6_39 rfl (rec_h (d2 := H_X11_unpack) hd (by decide)) rfl (Nat.le_of_ble_eq_true rfl) dX11_ordersFrom_29 (fun rq5 σ4 hoq => ?_)
    refine k_aload_n (pc := 32) F 0 0 dX11_ordersFrom_32 rfl rfl ?_
    refine gf_48_40 (pc := 33) F w_4_210 dX11_ordersFrom_33 ?_
    refine k_iload_n (pc := 36) F 3 3 dX11_ordersFrom_36 rfl rfl ?_
    refine k_iald (pc := 37) F rfl dX11_ordersFrom_37 ?_
    refine k_aload_n (pc := 38) F 0 0 dX11_ordersFrom_38 rfl rfl ?_
    refine gf_48_9 (pc := 39) F w_4_179 dX11_ordersFrom_39 ?_
    refine k_iload_n (pc := 42) F 3 3 dX11_ordersFrom_42 rfl rfl ?_
    refine k_iald (pc := 43) F rfl dX11_ordersFrom_43 ?_
    refine k_icmp_ne (pc := 44) F 50 dX11_ordersFrom_44 (by decide) (fun _ => ?_) (fun _ => ?_)
    · refine k_goto (pc := 47) F 67 dX11_ordersFrom_47 (by decide) ?_
      exact k_sub [0, 1, 2, 3] rfl (t_X11_ordersFrom_67 B hd S hS xq1 xq2 xq3  L14 hL14  σ4)
    · refine k_iconst (pc := 50) F (v := (0 : Int32)) dX11_ordersFrom_50 ci_0 ?_
      refine k_istore_n F (lv' := [(2, .int (0 : Int32)), (0, .ref (ad E 48)), (1, .int xq1), (3, .int xq3)]) 2 dX11_ordersFrom_51 rfl (by decide) rfl ?_
      refine k_aload_n (pc := 52) F 0 1 dX11_ordersFrom_52 rfl rfl ?_
      refine k_iload_n (pc := 53) F 3 3 dX11_ordersFrom_53 rfl rfl ?_
      refine k_callVI (pc := 54) B (k := 48) (As := [.int xq3]) (rest := []) (ct_X11_wholeCall E xq3  σ4) rfl rfl mv_X11_wholeCall w_6_97 rfl (rec_h (d2 := H_X11_wholeCall) hd (by decide)) rfl (Nat.le_of_ble_eq_true rfl) dX11_ordersFrom_54 (fun rq7 σ6 hoq => ?_)
      refine k_if_eq (pc := 57) F 67 dX11_ordersFrom_57 (by decide) (fun _ => ?_) (fun _ => ?_)
      · exact k_sub [1, 2, 0, 3] rfl (t_X11_ordersFrom_67 B hd S hS xq1 (0 : Int32) xq3  L14 hL14  σ6)
      · refine k_aload_n (pc := 60) F 0 1 dX11_ordersFrom_60 rfl rfl ?_
        refine k_iload_n (pc := 61) F 1 2 dX11_ordersFrom_61 rfl rfl ?_
        refine k_iconst (pc := 62) F (v := (1 : Int32)) dX11_ordersFrom_62 ci_1 ?_
        refine k_iadd (pc := 63) F dX11_ordersFrom_63 ?_
        refine k_callVV (pc := 64) B (k := 48) (As := [.int (xq1 + (1 : Int32))]) (rest := []) (hS (xq1 + (1 : Int32)) σ6) rfl rfl mv_X11_ordersFrom w_6_93 rfl ⟨hd.1, by omega⟩ rfl (Nat.le_of_ble_eq_true rfl) dX11_ordersFrom_64 (fun rq10 σ9 hoq => ?_)
        exact k_sub [1, 2, 0, 3] rfl (t_X11_ordersFrom_67 B hd S hS xq1 (0 : Int32) xq3  L14 hL14  σ9)
set_option maxHeartbeats 4000000 in
set_option maxRecDepth 100000 in
theorem t_X11_ordersFrom_L14 {E : En} {G : Cx} {dr d : Nat} (B : Bx E G cX11_ordersFrom 4 RX11 d none) (hd : dr + 1 ≤ d ∧ HBX11_ordersFrom ≤ dr) (S : Int32 → Mm → Option (Unit × Mm)) (hS : ∀ (aq0 : Int32) (σ : Mm), CtV E yX11_ordersFrom cX11_ordersFrom 4 none dr [.ref (ad E 48), .int aq0] σ (S aq0 σ)) (xq1 : Int32)  (K73 : Int32 → Mm → Option (Unit × Mm)) (hK73 : ∀ (xq2 : Int32)  (σ : Mm), KR E G 4 (ZV E G) (K73 xq2 σ) 73 [(0, .ref (ad E 48)), (1, .int xq1), (2, .int xq2)] [] σ)  : ∀ (n : Nat) (xq2 : Int32) (xq3 : Int32)  (σ : Mm), KR E G 4 (ZV E G) (fx (fun _ _ _ => none) n (f_X11_ordersFrom_L14 S K73 xq1) xq2 xq3 σ) 14 [(0, .ref (ad E 48)), (1, .int xq1), (2, .int xq2), (3, .int xq3)] [] σ :=
  fun n => fx_ind (P := fun f => ∀ (xq2 : Int32) (xq3 : Int32)  (σ : Mm), KR E G 4 (ZV E G) (f xq2 xq3 σ) 14 [(0, .ref (ad E 48)), (1, .int xq1), (2, .int xq2), (3, .int xq3)] [] σ) (fun _ _ _ => k_none) (fun L14 hL14 xq2 xq3 σ => t_X11_ordersFrom_L14b B hd S hS xq1  K73 hK73  L14 hL14 xq2 xq3 σ) n
set_option maxHeartbeats 4000000 in
set_option maxRecDepth 100000 in
theorem t_X11_ordersFrom_73 {E : En} {G : Cx} {dr d : Nat} (B : Bx E G cX11_ordersFrom 4 RX11 d none) (hd : dr + 1 ≤ d ∧ HBX11_ordersFrom ≤ dr) (S : Int32 → Mm → Option (Unit × Mm)) (hS : ∀ (aq0 : Int32) (σ : Mm), CtV E yX11_ordersFrom cX11_ordersFrom 4 none dr [.ref (ad E 48), .int aq0] σ (S aq0 σ)) (xq1 : Int32) (xq2 : Int32)   (σ : Mm) : KR E G 4 (ZV E G) (f_X11_ordersFrom_73 S xq1 xq2 σ) 73 [(0, .ref (ad E 48)), (1, .int xq1), (2, .int xq2)] [] σ := by
  have F := B.1
  unfold f_X11_ordersFrom_73
  refine k_iload_n (pc := 73) F 2 2 dX11_ordersFrom_73 rfl rfl ?_
  refine k_if_eq (pc := 74) F 106 dX11_ordersFrom_74 (by decide) (fun _ => ?_) (fun _ => ?_)
  · exact k_vret (pc := 106) B dX11_ordersFrom_106
  · refine k_aload_n (pc := 77) F 0 0 dX11_ordersFrom_77 rfl rfl ?_
    refine k_aload_n (pc := 78) F 0 0 dX11_ordersFrom_78 rfl rfl ?_
    refine gf_48_61 (pc := 79) F w_4_231 dX11_ordersFrom_79 ?_
    refine k_iload_n (pc := 82) F 1 1 dX11_ordersFrom_82 rfl rfl ?_
    refine k_lald (pc := 83) F rfl dX11_ordersFrom_83 ?_
    refine k_callVV (pc := 84) B (k := 48) (As := [.long (σ.2 90 (ix xq1))]) (rest := []) (ct_X11_unpack E (σ.2 90 (ix xq1))  σ) rfl rfl mv_X11_unpack w_6_39 rfl (rec_h (d2 := H_X11_unpack) hd (by decide)) rfl (Nat.le_of_ble_eq_true rfl) dX11_ordersFrom_84 (fun rq12 σ11 hoq => ?_)
    refine k_aload_n (pc := 87) F 0 0 dX11_ordersFrom_87 rfl rfl ?_
    refine k_aload_n (pc := 88) F 0 0 dX11_ordersFrom_88 rfl rfl ?_
    refine gf_48_59 (pc := 89) F w_4_229 dX11_ordersFrom_89 ?_
    refine k_aload_n (pc := 92) F 0 0 dX11_ordersFrom_92 rfl rfl ?_
    refine gf_48_60 (pc := 93) F w_4_230 dX11_ordersFrom_93 ?_
    refine k_aload_n (pc := 96) F 0 0 dX11_ordersFrom_96 rfl rfl ?_
    refine k_callVI (pc := 97) B (k := 48) (As := []) (rest := [.int (σ11.1 48 60), .ref (ad E 89), .ref (ad E 48)]) (ct_X11_resultNow E   σ11) rfl rfl mv_X11_resultNow w_6_47 rfl (rec_h (d2 := H_X11_resultNow) hd (by decide)) rfl (Nat.le_of_ble_eq_true rfl) dX11_ordersFrom_97 (fun rq14 σ13 hoq => ?_)
    refine k_callSI (pc := 100) B (As := [.ref (ad E 89), .int (σ11.1 48 60), .int rq14]) (rest := [.ref (ad E 48)]) (ct_X11_comes E 89 (σ11.1 48 60) rq14 isIA_89 σ13) ms_X11_comes w_6_86 rfl (rec_h (d2 := H_X11_comes) hd (by decide)) rfl (Nat.le_of_ble_eq_true rfl) dX11_ordersFrom_100 (fun rq16 σ15 hoq => ?_)
    refine pf_48_60 (pc := 103) F w_4_230 dX11_ordersFrom_103 (fun σ17 => ?_)
    exact k_vret (pc := 106) B dX11_ordersFrom_106
set_option maxHeartbeats 4000000 in
set_option maxRecDepth 100000 in
theorem t_X11_ordersFrom {E : En} {G : Cx} {dr d : Nat} (B : Bx E G cX11_ordersFrom 4 RX11 d none) (hd : dr + 1 ≤ d ∧ HBX11_ordersFrom ≤ dr) (S : Int32 → Mm → Option (Unit × Mm)) (hS : ∀ (aq0 : Int32) (σ : Mm), CtV E yX11_ordersFrom cX11_ordersFrom 4 none dr [.ref (ad E 48), .int aq0] σ (S aq0 σ)) (aq0 : Int32)  (σ : Mm) : KR E G 4 (ZV E G) (f_X11_ordersFrom_b S aq0 σ) 0 [(0, .ref (ad E 48)), (1, .int aq0)] [] σ := by
  have F := B.1
  unfold f_X11_ordersFrom_b
  refine k_iconst (pc := 0) F (v := (1 : Int32)) dX11_ordersFrom_0 ci_1 ?_
  refine k_istore_n F (lv' := [(2, .int (1 : Int32)), (0, .ref (ad E 48)), (1, .int aq0)]) 2 dX11_ordersFrom_1 rfl (by decide) rfl ?_
  refine k_aload_n (pc := 2) F 0 1 dX11_ordersFrom_2 rfl rfl ?_
  refine gf_48_61 (pc := 3) F w_4_231 dX11_ordersFrom_3 ?_
  refine k_iload_n (pc := 6) F 1 2 dX11_ordersFrom_6 rfl rfl ?_
  refine k_aload_n (pc := 7) F 0 1 dX11_ordersFrom_7 rfl rfl ?_
  refine k_callVL (pc := 8) B (k := 48) (As := []) (rest := [.int aq0, .ref (ad E 90)]) (ct_X11_pack E   σ) rfl rfl mv_X11_pack w_6_22 rfl (rec_h (d2 := H_X11_pack) hd (by decide)) rfl (Nat.le_of_ble_eq_true rfl) dX11_ordersFrom_8 (fun rq2 σ1 hoq => ?_)
  refine k_last (pc := 11) F rfl dX11_ordersFrom_11 (fun σ3 => ?_)
  refine k_iconst (pc := 12) F (v := (0 : Int32)) dX11_ordersFrom_12 ci_0 ?_
  refine k_istore_n F (lv' := [(3, .int (0 : Int32)), (2, .int (1 : Int32)), (0, .ref (ad E 48)), (1, .int aq0)]) 3 dX11_ordersFrom_13 rfl (by decide) rfl ?_
  exact k_sub [2, 3, 1, 0] rfl (t_X11_ordersFrom_L14 B hd S hS aq0  _ (fun xq2  σ => by
        exact k_sub [0, 1, 2] rfl (t_X11_ordersFrom_73 B hd S hS aq0 xq2   σ)) FU (1 : Int32) (0 : Int32)  σ3)
set_option maxHeartbeats 4000000 in
set_option maxRecDepth 100000 in
theorem ct_X11_ordersFrom_n (E : En) : ∀ (n : Nat) (aq0 : Int32) (σ : Mm), CtV E yX11_ordersFrom cX11_ordersFrom 4 none (HBX11_ordersFrom + n) [.ref (ad E 48), .int aq0] σ (f_X11_ordersFrom n aq0 σ)
  | 0 => fun aq0 σ r σ2 ho => by cases ho
  | n + 1 => fun aq0 σ => ct_V (by decide) (Nat.le_of_ble_eq_true rfl) rfl (fun G B => t_X11_ordersFrom (dr := HBX11_ordersFrom + n) B ⟨by omega, by omega⟩ (f_X11_ordersFrom n) (fun aq0 σ => ct_X11_ordersFrom_n E n aq0 σ) aq0 σ)
set_option maxHeartbeats 4000000 in
set_option maxRecDepth 100000 in
theorem ct_X11_ordersFrom (E : En) (aq0 : Int32) (σ : Mm) : CtV E yX11_ordersFrom cX11_ordersFrom 4 none H_X11_ordersFrom [.ref (ad E 48), .int aq0] σ (f_X11_ordersFrom 8 aq0 σ) := ct_X11_ordersFrom_n E 8 aq0 σ
abbrev H_X11_findGoods : Nat := 12
theorem hR_X11_findGoods_X11_ordersFrom : H_X11_ordersFrom + 1 ≤ H_X11_findGoods ∧ 8 + (4 + 11) + 40 * H_X11_ordersFrom ≤ 40 * H_X11_findGoods := by decide
theorem hR_X11_findGoods_X11_begins : H_X11_begins + 1 ≤ H_X11_findGoods ∧ 8 + (2 + 11) + 40 * H_X11_begins ≤ 40 * H_X11_findGoods := by decide
set_option maxHeartbeats 4000000 in
set_option maxRecDepth 100000 in
theorem t_X11_findGoods {E : En} {G : Cx} (B : Bx E G cX11_findGoods 1 RX11 H_X11_findGoods none)   (σ : Mm) : KR E G 1 (ZV E G) (f_X11_findGoods  σ) 0 [(0, .ref (ad E 48))] [] σ := by
  have F := B.1
  unfold f_X11_findGoods
  refine k_aload_n (pc := 0) F 0 0 dX11_findGoods_0 rfl rfl ?_
  refine k_iconst (pc := 1) F (v := (0 : Int32)) dX11_findGoods_1 ci_0 ?_
  refine pf_48_60 (pc := 2) F w_4_230 dX11_findGoods_2 (fun σ1 => ?_)
  refine k_aload_n (pc := 5) F 0 0 dX11_findGoods_5 rfl rfl ?_
  refine k_callVV (pc := 6) B (k := 48) (As := []) (rest := []) (ct_X11_begins E   σ1) rfl rfl mv_X11_begins w_6_18 rfl hR_X11_findGoods_X11_begins rfl (Nat.le_of_ble_eq_true rfl) dX11_findGoods_6 (fun rq3 σ2 hoq => ?_)
  refine k_aload_n (pc := 9) F 0 0 dX11_findGoods_9 rfl rfl ?_
  refine k_iconst (pc := 10) F (v := (0 : Int32)) dX11_findGoods_10 ci_0 ?_
  refine k_callVV (pc := 11) B (k := 48) (As := [.int (0 : Int32)]) (rest := []) (ct_X11_ordersFrom E (0 : Int32)  σ2) rfl rfl mv_X11_ordersFrom w_6_93 rfl hR_X11_findGoods_X11_ordersFrom rfl (Nat.le_of_ble_eq_true rfl) dX11_findGoods_11 (fun rq5 σ4 hoq => ?_)
  exact k_vret (pc := 14) B dX11_findGoods_14
set_option maxHeartbeats 4000000 in
set_option maxRecDepth 100000 in
theorem ct_X11_findGoods (E : En)   (σ : Mm) : CtV E yX11_findGoods cX11_findGoods 1 none H_X11_findGoods [.ref (ad E 48)] σ (f_X11_findGoods  σ) := ct_V (by decide) (Nat.le_of_ble_eq_true rfl) rfl (fun G B => t_X11_findGoods B   σ)
abbrev H_X11_isGood : Nat := 0
set_option maxHeartbeats 4000000 in
set_option maxRecDepth 100000 in
theorem t_X11_isGood_31 {E : En} {G : Cx} (B : Bx E G cX11_isGood 4 RX11 H_X11_isGood (some .boolean)) (xq1 : Int32) (xq3 : Int32) (xqs0 : Int32)  (L4 : Int32 → Int32 → Mm → Option (Int32 × Mm)) (hL4 : ∀ (xq2 : Int32) (xq3 : Int32)  (σ : Mm), KR E G 4 (ZI E G) (L4 xq2 xq3 σ) 4 [(0, .ref (ad E 48)), (1, .int xq1), (2, .int xq2), (3, .int xq3)] [] σ)  (σ : Mm) : KR E G 4 (ZI E G) (f_X11_isGood_31 L4 xq1 xq3 xqs0 σ) 31 [(0, .ref (ad E 48)), (1, .int xq1), (3, .int xq3)] [.int xqs0] σ := by
  have F := B.1
  unfold f_X11_isGood_31
  refine k_istore_n F (lv' := [(2, .int xqs0), (0, .ref (ad E 48)), (1, .int xq1), (3, .int xq3)]) 2 dX11_isGood_31 rfl (by decide) rfl ?_
  refine k_iinc (pc := 32) F (c := (1 : Int32)) (lw := fun wq => [(3, .int wq), (2, .int xqs0), (0, .ref (ad E 48)), (1, .int xq1)]) 3 3 dX11_isGood_32 rfl ci_1 (by decide) (fun _ => rfl) (fun vq1 => ?_)
  refine k_goto (pc := 35) F 4 dX11_isGood_35 (by decide) ?_
  exact k_sub [2, 3, 1, 0] rfl (hL4 xqs0 vq1 σ)
set_option maxHeartbeats 4000000 in
set_option maxRecDepth 100000 in
theorem t_X11_isGood_26 {E : En} {G : Cx} (B : Bx E G cX11_isGood 4 RX11 H_X11_isGood (some .boolean)) (xq1 : Int32) (xq3 : Int32)  (L4 : Int32 → Int32 → Mm → Option (Int32 × Mm)) (hL4 : ∀ (xq2 : Int32) (xq3 : Int32)  (σ : Mm), KR E G 4 (ZI E G) (L4 xq2 xq3 σ) 4 [(0, .ref (ad E 48)), (1, .int xq1), (2, .int xq2), (3, .int xq3)] [] σ)  (σ : Mm) : KR E G 4 (ZI E G) (f_X11_isGood_26 L4 xq1 xq3 σ) 26 [(0, .ref (ad E 48)), (1, .int xq1), (3, .int xq3)] [] σ := by
  have F := B.1
  unfold f_X11_isGood_26
  refine k_iconst (pc := 26) F (v := (1 : Int32)) dX11_isGood_26 ci_1 ?_
  refine k_goto (pc := 27) F 31 dX11_isGood_27 (by decide) ?_
  exact k_sub [0, 1, 2] rfl (t_X11_isGood_31 B xq1 xq3 (1 : Int32)  L4 hL4  σ)
set_option maxHeartbeats 4000000 in
set_option maxRecDepth 100000 in
theorem t_X11_isGood_L4b {E : En} {G : Cx} (B : Bx E G cX11_isGood 4 RX11 H_X11_isGood (some .boolean)) (xq1 : Int32)   (L4 : Int32 → Int32 → Mm → Option (Int32 × Mm)) (hL4 : ∀ (xq2 : Int32) (xq3 : Int32)  (σ : Mm), KR E G 4 (ZI E G) (L4 xq2 xq3 σ) 4 [(0, .ref (ad E 48)), (1, .int xq1), (2, .int xq2), (3, .int xq3)] [] σ) (xq2 : Int32) (xq3 : Int32)  (σ : Mm) : KR E G 4 (ZI E G) (f_X11_isGood_L4 xq1 L4 xq2 xq3 σ) 4 [(0, .ref (ad E 48)), (1, .int xq1), (2, .int xq2), (3, .int xq3)] [] σ := by
  have F := B.1
  unfold f_X11_isGood_L4
  refine k_iload_n (pc := 4) F 3 3 dX11_isGood_4 rfl rfl ?_
  refine k_aload_n (pc := 5) F 0 0 dX11_isGood_5 rfl rfl ?_
  refine gf_48_60 (pc := 6) F w_4_230 dX11_isGood_6 ?_
  refine k_icmp_ge (pc := 9) F 38 dX11_isGood_9 (by decide) (fun _ => ?_) (fun _ => ?_)
  · refine k_iload_n (pc := 38) F 2 2 dX11_isGood_38 rfl rfl ?_
    exact k_zret (pc := 39) B dX11_isGood_39
  · refine k_iload_n (pc := 12) F 2 2 dX11_isGood_12 rfl rfl ?_
    refine k_if_ne (pc := 13) F 26 dX11_isGood_13 (by decide) (fun _ => ?_) (fun _ => ?_)
    · refine k_aload_n (pc := 16) F 0 0 dX11_isGood_16 rfl rfl ?_
      refine gf_48_59 (pc := 17) F w_4_229 dX11_isGood_17 ?_
      refine k_iload_n (pc := 20) F 3 3 dX11_isGood_20 rfl rfl ?_
      refine k_iald (pc := 21) F rfl dX11_isGood_21 ?_
      refine k_iload_n (pc := 22) F 1 1 dX11_isGood_22 rfl rfl ?_
      refine k_icmp_ne (pc := 23) F 30 dX11_isGood_23 (by decide) (fun _ => ?_) (fun _ => ?_)
      · exact k_sub [0, 1, 3] rfl (t_X11_isGood_26 B xq1 xq3  L4 hL4  σ)
      · refine k_iconst (pc := 30) F (v := (0 : Int32)) dX11_isGood_30 ci_0 ?_
        exact k_sub [0, 1, 3] rfl (t_X11_isGood_31 B xq1 xq3 (0 : Int32)  L4 hL4  σ)
    · exact k_sub [0, 1, 3] rfl (t_X11_isGood_26 B xq1 xq3  L4 hL4  σ)
set_option maxHeartbeats 4000000 in
set_option maxRecDepth 100000 in
theorem t_X11_isGood_L4 {E : En} {G : Cx} (B : Bx E G cX11_isGood 4 RX11 H_X11_isGood (some .boolean)) (xq1 : Int32)   : ∀ (n : Nat) (xq2 : Int32) (xq3 : Int32)  (σ : Mm), KR E G 4 (ZI E G) (fx (fun _ _ _ => none) n (f_X11_isGood_L4 xq1) xq2 xq3 σ) 4 [(0, .ref (ad E 48)), (1, .int xq1), (2, .int xq2), (3, .int xq3)] [] σ :=
  fun n => fx_ind (P := fun f => ∀ (xq2 : Int32) (xq3 : Int32)  (σ : Mm), KR E G 4 (ZI E G) (f xq2 xq3 σ) 4 [(0, .ref (ad E 48)), (1, .int xq1), (2, .int xq2), (3, .int xq3)] [] σ) (fun _ _ _ => k_none) (fun L4 hL4 xq2 xq3 σ => t_X11_isGood_L4b B xq1   L4 hL4 xq2 xq3 σ) n
set_option maxHeartbeats 4000000 in
set_option maxRecDepth 100000 in
theorem t_X11_isGood {E : En} {G : Cx} (B : Bx E G cX11_isGood 4 RX11 H_X11_isGood (some .boolean)) (aq0 : Int32)  (σ : Mm) : KR E G 4 (ZI E G) (f_X11_isGood aq0 σ) 0 [(0, .ref (ad E 48)), (1, .int aq0)] [] σ := by
  have F := B.1
  unfold f_X11_isGood
  refine k_iconst (pc := 0) F (v := (0 : Int32)) dX11_isGood_0 ci_0 ?_
  refine k_istore_n F (lv' := [(2, .int (0 : Int32)), (0, .ref (ad E 48)), (1, .int aq0)]) 2 dX11_isGood_1 rfl (by decide) rfl ?_
  refine k_iconst (pc := 2) F (v := (0 : Int32)) dX11_isGood_2 ci_0 ?_
  refine k_istore_n F (lv' := [(3, .int (0 : Int32)), (2, .int (0 : Int32)), (0, .ref (ad E 48)), (1, .int aq0)]) 3 dX11_isGood_3 rfl (by decide) rfl ?_
  exact k_sub [2, 3, 1, 0] rfl (t_X11_isGood_L4 B aq0   FU (0 : Int32) (0 : Int32)  σ)
set_option maxHeartbeats 4000000 in
set_option maxRecDepth 100000 in
theorem ct_X11_isGood (E : En) (aq0 : Int32)  (σ : Mm) : CtI E yX11_isGood cX11_isGood 4 (some .boolean) H_X11_isGood [.ref (ad E 48), .int aq0] σ (f_X11_isGood aq0 σ) := ct_I (by decide) (Nat.le_of_ble_eq_true rfl) rfl (fun G B => t_X11_isGood B aq0  σ)
abbrev H_X11_lookAll : Nat := 13
theorem hR_X11_lookAll_X11_findResults : H_X11_findResults + 1 ≤ H_X11_lookAll ∧ 8 + (2 + 11) + 40 * H_X11_findResults ≤ 40 * H_X11_lookAll := by decide
theorem hR_X11_lookAll_X11_findGoods : H_X11_findGoods + 1 ≤ H_X11_lookAll ∧ 8 + (1 + 11) + 40 * H_X11_findGoods ≤ 40 * H_X11_lookAll := by decide
theorem hR_X11_lookAll_X11_goesThrough : H_X11_goesThrough + 1 ≤ H_X11_lookAll ∧ 8 + (5 + 11) + 40 * H_X11_goesThrough ≤ 40 * H_X11_lookAll := by decide
set_option maxHeartbeats 4000000 in
set_option maxRecDepth 100000 in
theorem t_X11_lookAll_22 {E : En} {G : Cx} (B : Bx E G cX11_lookAll 1 RX11 H_X11_lookAll none) (xqs1 : Int32)   (σ : Mm) : KR E G 1 (ZV E G) (f_X11_lookAll_22 xqs1 σ) 22 [(0, .ref (ad E 48))] [.int xqs1, .ref (ad E 48)] σ := by
  have F := B.1
  unfold f_X11_lookAll_22
  refine pf_48_49 (pc := 22) F w_4_219 dX11_lookAll_22 (fun σ3 => ?_)
  refine k_aload_n (pc := 25) F 0 0 dX11_lookAll_25 rfl rfl ?_
  refine gf_48_49 (pc := 26) F w_4_219 dX11_lookAll_26 ?_
  refine k_if_ne (pc := 29) F 36 dX11_lookAll_29 (by decide) (fun _ => ?_) (fun _ => ?_)
  · refine k_aload_n (pc := 32) F 0 0 dX11_lookAll_32 rfl rfl ?_
    refine k_callVV (pc := 33) B (k := 48) (As := []) (rest := []) (ct_X11_findResults E   σ3) rfl rfl mv_X11_findResults w_6_82 rfl hR_X11_lookAll_X11_findResults rfl (Nat.le_of_ble_eq_true rfl) dX11_lookAll_33 (fun rq8 σ7 hoq => ?_)
    refine k_aload_n (pc := 36) F 0 0 dX11_lookAll_36 rfl rfl ?_
    refine k_callVV (pc := 37) B (k := 48) (As := []) (rest := []) (ct_X11_findGoods E   σ7) rfl rfl mv_X11_findGoods w_6_89 rfl hR_X11_lookAll_X11_findGoods rfl (Nat.le_of_ble_eq_true rfl) dX11_lookAll_37 (fun rq10 σ9 hoq => ?_)
    refine k_aload_n (pc := 40) F 0 0 dX11_lookAll_40 rfl rfl ?_
    refine k_iconst (pc := 41) F (v := (1 : Int32)) dX11_lookAll_41 ci_1 ?_
    refine pf_48_48 (pc := 42) F w_4_218 dX11_lookAll_42 (fun σ11 => ?_)
    exact k_vret (pc := 45) B dX11_lookAll_45
  · refine k_aload_n (pc := 36) F 0 0 dX11_lookAll_36 rfl rfl ?_
    refine k_callVV (pc := 37) B (k := 48) (As := []) (rest := []) (ct_X11_findGoods E   σ3) rfl rfl mv_X11_findGoods w_6_89 rfl hR_X11_lookAll_X11_findGoods rfl (Nat.le_of_ble_eq_true rfl) dX11_lookAll_37 (fun rq5 σ4 hoq => ?_)
    refine k_aload_n (pc := 40) F 0 0 dX11_lookAll_40 rfl rfl ?_
    refine k_iconst (pc := 41) F (v := (1 : Int32)) dX11_lookAll_41 ci_1 ?_
    refine pf_48_48 (pc := 42) F w_4_218 dX11_lookAll_42 (fun σ6 => ?_)
    exact k_vret (pc := 45) B dX11_lookAll_45
set_option maxHeartbeats 4000000 in
set_option maxRecDepth 100000 in
theorem t_X11_lookAll {E : En} {G : Cx} (B : Bx E G cX11_lookAll 1 RX11 H_X11_lookAll none)   (σ : Mm) : KR E G 1 (ZV E G) (f_X11_lookAll  σ) 0 [(0, .ref (ad E 48))] [] σ := by
  have F := B.1
  unfold f_X11_lookAll
  refine k_aload_n (pc := 0) F 0 0 dX11_lookAll_0 rfl rfl ?_
  refine gf_48_48 (pc := 1) F w_4_218 dX11_lookAll_1 ?_
  refine k_if_eq (pc := 4) F 8 dX11_lookAll_4 (by decide) (fun _ => ?_) (fun _ => ?_)
  · refine k_aload_n (pc := 8) F 0 0 dX11_lookAll_8 rfl rfl ?_
    refine k_aload_n (pc := 9) F 0 0 dX11_lookAll_9 rfl rfl ?_
    refine k_iconst (pc := 10) F (v := (0 : Int32)) dX11_lookAll_10 ci_0 ?_
    refine k_callVI (pc := 11) B (k := 48) (As := [.int (0 : Int32)]) (rest := [.ref (ad E 48)]) (ct_X11_goesThrough E (0 : Int32)  σ) rfl rfl mv_X11_goesThrough w_6_2 rfl hR_X11_lookAll_X11_goesThrough rfl (Nat.le_of_ble_eq_true rfl) dX11_lookAll_11 (fun rq2 σ1 hoq => ?_)
    refine k_if_ne (pc := 14) F 21 dX11_lookAll_14 (by decide) (fun _ => ?_) (fun _ => ?_)
    · refine k_iconst (pc := 17) F (v := (1 : Int32)) dX11_lookAll_17 ci_1 ?_
      refine k_goto (pc := 18) F 22 dX11_lookAll_18 (by decide) ?_
      exact k_sub [0] rfl (t_X11_lookAll_22 B (1 : Int32)   σ1)
    · refine k_iconst (pc := 21) F (v := (0 : Int32)) dX11_lookAll_21 ci_0 ?_
      exact k_sub [0] rfl (t_X11_lookAll_22 B (0 : Int32)   σ1)
  · exact k_vret (pc := 7) B dX11_lookAll_7
set_option maxHeartbeats 4000000 in
set_option maxRecDepth 100000 in
theorem ct_X11_lookAll (E : En)   (σ : Mm) : CtV E yX11_lookAll cX11_lookAll 1 none H_X11_lookAll [.ref (ad E 48)] σ (f_X11_lookAll  σ) := ct_V (by decide) (Nat.le_of_ble_eq_true rfl) rfl (fun G B => t_X11_lookAll B   σ)
abbrev H_X11_badMany : Nat := 1
theorem hR_X11_badMany_X11_isGood : H_X11_isGood + 1 ≤ H_X11_badMany ∧ 8 + (4 + 11) + 40 * H_X11_isGood ≤ 40 * H_X11_badMany := by decide
set_option maxHeartbeats 4000000 in
set_option maxRecDepth 100000 in
theorem t_X11_badMany_31 {E : En} {G : Cx} (B : Bx E G cX11_badMany 3 RX11 H_X11_badMany (some .int)) (xq2 : Int32) (xqs0 : Int32) (xqs1 : Int32)  (L4 : Int32 → Int32 → Mm → Option (Int32 × Mm)) (hL4 : ∀ (xq1 : Int32) (xq2 : Int32)  (σ : Mm), KR E G 3 (ZI E G) (L4 xq1 xq2 σ) 4 [(0, .ref (ad E 48)), (1, .int xq1), (2, .int xq2)] [] σ)  (σ : Mm) : KR E G 3 (ZI E G) (f_X11_badMany_31 L4 xq2 xqs0 xqs1 σ) 31 [(0, .ref (ad E 48)), (2, .int xq2)] [.int xqs1, .int xqs0] σ := by
  have F := B.1
  unfold f_X11_badMany_31
  refine k_iadd (pc := 31) F dX11_badMany_31 ?_
  refine k_nmI (fun vq3 => ?_)
  refine k_istore_n F (lv' := [(1, .int vq3), (0, .ref (ad E 48)), (2, .int xq2)]) 1 dX11_badMany_32 rfl (by decide) rfl ?_
  refine k_iinc (pc := 33) F (c := (1 : Int32)) (lw := fun wq => [(2, .int wq), (1, .int vq3), (0, .ref (ad E 48))]) 2 2 dX11_badMany_33 rfl ci_1 (by decide) (fun _ => rfl) (fun vq4 => ?_)
  refine k_goto (pc := 36) F 4 dX11_badMany_36 (by decide) ?_
  exact k_sub [2, 1, 0] rfl (hL4 vq3 vq4 σ)
set_option maxHeartbeats 4000000 in
set_option maxRecDepth 100000 in
theorem t_X11_badMany_L4b {E : En} {G : Cx} (B : Bx E G cX11_badMany 3 RX11 H_X11_badMany (some .int))    (L4 : Int32 → Int32 → Mm → Option (Int32 × Mm)) (hL4 : ∀ (xq1 : Int32) (xq2 : Int32)  (σ : Mm), KR E G 3 (ZI E G) (L4 xq1 xq2 σ) 4 [(0, .ref (ad E 48)), (1, .int xq1), (2, .int xq2)] [] σ) (xq1 : Int32) (xq2 : Int32)  (σ : Mm) : KR E G 3 (ZI E G) (f_X11_badMany_L4  L4 xq1 xq2 σ) 4 [(0, .ref (ad E 48)), (1, .int xq1), (2, .int xq2)] [] σ := by
  have F := B.1
  unfold f_X11_badMany_L4
  refine k_iload_n (pc := 4) F 2 2 dX11_badMany_4 rfl rfl ?_
  refine k_aload_n (pc := 5) F 0 0 dX11_badMany_5 rfl rfl ?_
  refine gf_48_58 (pc := 6) F w_4_228 dX11_badMany_6 ?_
  refine k_icmp_ge (pc := 9) F 39 dX11_badMany_9 (by decide) (fun _ => ?_) (fun _ => ?_)
  · refine k_iload_n (pc := 39) F 1 1 dX11_badMany_39 rfl rfl ?_
    exact k_iret (pc := 40) B dX11_badMany_40
  · refine k_iload_n (pc := 12) F 1 1 dX11_badMany_12 rfl rfl ?_
    refine k_aload_n (pc := 13) F 0 0 dX11_badMany_13 rfl rfl ?_
    refine k_aload_n (pc := 14) F 0 0 dX11_badMany_14 rfl rfl ?_
    refine gf_48_57 (pc := 15) F w_4_227 dX11_badMany_15 ?_
    refine k_iload_n (pc := 18) F 2 2 dX11_badMany_18 rfl rfl ?_
    refine k_iald (pc := 19) F rfl dX11_badMany_19 ?_
    refine k_callVI (pc := 20) B (k := 48) (As := [.int (σ.1 88 (ix xq2))]) (rest := [.int xq1]) (ct_X11_isGood E (σ.1 88 (ix xq2))  σ) rfl rfl mv_X11_isGood w_6_127 rfl hR_X11_badMany_X11_isGood rfl (Nat.le_of_ble_eq_true rfl) dX11_badMany_20 (fun rq2 σ1 hoq => ?_)
    refine k_if_eq (pc := 23) F 30 dX11_badMany_23 (by decide) (fun _ => ?_) (fun _ => ?_)
    · refine k_iconst (pc := 30) F (v := (1 : Int32)) dX11_badMany_30 ci_1 ?_
      exact k_sub [0, 2] rfl (t_X11_badMany_31 B xq2 xq1 (1 : Int32)  L4 hL4  σ1)
    · refine k_iconst (pc := 26) F (v := (0 : Int32)) dX11_badMany_26 ci_0 ?_
      refine k_goto (pc := 27) F 31 dX11_badMany_27 (by decide) ?_
      exact k_sub [0, 2] rfl (t_X11_badMany_31 B xq2 xq1 (0 : Int32)  L4 hL4  σ1)
set_option maxHeartbeats 4000000 in
set_option maxRecDepth 100000 in
theorem t_X11_badMany_L4 {E : En} {G : Cx} (B : Bx E G cX11_badMany 3 RX11 H_X11_badMany (some .int))    : ∀ (n : Nat) (xq1 : Int32) (xq2 : Int32)  (σ : Mm), KR E G 3 (ZI E G) (fx (fun _ _ _ => none) n (f_X11_badMany_L4 ) xq1 xq2 σ) 4 [(0, .ref (ad E 48)), (1, .int xq1), (2, .int xq2)] [] σ :=
  fun n => fx_ind (P := fun f => ∀ (xq1 : Int32) (xq2 : Int32)  (σ : Mm), KR E G 3 (ZI E G) (f xq1 xq2 σ) 4 [(0, .ref (ad E 48)), (1, .int xq1), (2, .int xq2)] [] σ) (fun _ _ _ => k_none) (fun L4 hL4 xq1 xq2 σ => t_X11_badMany_L4b B    L4 hL4 xq1 xq2 σ) n
set_option maxHeartbeats 4000000 in
set_option maxRecDepth 100000 in
theorem t_X11_badMany {E : En} {G : Cx} (B : Bx E G cX11_badMany 3 RX11 H_X11_badMany (some .int))   (σ : Mm) : KR E G 3 (ZI E G) (f_X11_badMany  σ) 0 [(0, .ref (ad E 48))] [] σ := by
  have F := B.1
  unfold f_X11_badMany
  refine k_iconst (pc := 0) F (v := (0 : Int32)) dX11_badMany_0 ci_0 ?_
  refine k_istore_n F (lv' := [(1, .int (0 : Int32)), (0, .ref (ad E 48))]) 1 dX11_badMany_1 rfl (by decide) rfl ?_
  refine k_iconst (pc := 2) F (v := (0 : Int32)) dX11_badMany_2 ci_0 ?_
  refine k_istore_n F (lv' := [(2, .int (0 : Int32)), (1, .int (0 : Int32)), (0, .ref (ad E 48))]) 2 dX11_badMany_3 rfl (by decide) rfl ?_
  exact k_sub [2, 1, 0] rfl (t_X11_badMany_L4 B    FU (0 : Int32) (0 : Int32)  σ)
set_option maxHeartbeats 4000000 in
set_option maxRecDepth 100000 in
theorem ct_X11_badMany (E : En)   (σ : Mm) : CtI E yX11_badMany cX11_badMany 3 (some .int) H_X11_badMany [.ref (ad E 48)] σ (f_X11_badMany  σ) := ct_I (by decide) (Nat.le_of_ble_eq_true rfl) rfl (fun G B => t_X11_badMany B   σ)
abbrev H_X11_leastBad : Nat := 1
theorem hR_X11_leastBad_X11_isGood : H_X11_isGood + 1 ≤ H_X11_leastBad ∧ 8 + (4 + 11) + 40 * H_X11_isGood ≤ 40 * H_X11_leastBad := by decide
set_option maxHeartbeats 4000000 in
set_option maxRecDepth 100000 in
theorem t_X11_leastBad_L2b {E : En} {G : Cx} (B : Bx E G cX11_leastBad 2 RX11 H_X11_leastBad (some .int))    (L2 : Int32 → Mm → Option (Int32 × Mm)) (hL2 : ∀ (xq1 : Int32)  (σ : Mm), KR E G 2 (ZI E G) (L2 xq1 σ) 2 [(0, .ref (ad E 48)), (1, .int xq1)] [] σ) (xq1 : Int32)  (σ : Mm) : KR E G 2 (ZI E G) (f_X11_leastBad_L2  L2 xq1 σ) 2 [(0, .ref (ad E 48)), (1, .int xq1)] [] σ := by
  have F := B.1
  unfold f_X11_leastBad_L2
  refine k_iload_n (pc := 2) F 1 1 dX11_leastBad_2 rfl rfl ?_
  refine k_aload_n (pc := 3) F 0 0 dX11_leastBad_3 rfl rfl ?_
  refine gf_48_58 (pc := 4) F w_4_228 dX11_leastBad_4 ?_
  refine k_icmp_ge (pc := 7) F 36 dX11_leastBad_7 (by decide) (fun _ => ?_) (fun _ => ?_)
  · refine k_iconst (pc := 36) F (v := (-1 : Int32)) dX11_leastBad_36 ci_m1 ?_
    exact k_iret (pc := 37) B dX11_leastBad_37
  · refine k_aload_n (pc := 10) F 0 0 dX11_leastBad_10 rfl rfl ?_
    refine k_aload_n (pc := 11) F 0 0 dX11_leastBad_11 rfl rfl ?_
    refine gf_48_57 (pc := 12) F w_4_227 dX11_leastBad_12 ?_
    refine k_iload_n (pc := 15) F 1 1 dX11_leastBad_15 rfl rfl ?_
    refine k_iald (pc := 16) F rfl dX11_leastBad_16 ?_
    refine k_callVI (pc := 17) B (k := 48) (As := [.int (σ.1 88 (ix xq1))]) (rest := []) (ct_X11_isGood E (σ.1 88 (ix xq1))  σ) rfl rfl mv_X11_isGood w_6_127 rfl hR_X11_leastBad_X11_isGood rfl (Nat.le_of_ble_eq_true rfl) dX11_leastBad_17 (fun rq2 σ1 hoq => ?_)
    refine k_if_ne (pc := 20) F 30 dX11_leastBad_20 (by decide) (fun _ => ?_) (fun _ => ?_)
    · refine k_aload_n (pc := 23) F 0 0 dX11_leastBad_23 rfl rfl ?_
      refine gf_48_57 (pc := 24) F w_4_227 dX11_leastBad_24 ?_
      refine k_iload_n (pc := 27) F 1 1 dX11_leastBad_27 rfl rfl ?_
      refine k_iald (pc := 28) F rfl dX11_leastBad_28 ?_
      exact k_iret (pc := 29) B dX11_leastBad_29
    · refine k_iinc (pc := 30) F (c := (1 : Int32)) (lw := fun wq => [(1, .int wq), (0, .ref (ad E 48))]) 1 1 dX11_leastBad_30 rfl ci_1 (by decide) (fun _ => rfl) (fun vq3 => ?_)
      refine k_goto (pc := 33) F 2 dX11_leastBad_33 (by decide) ?_
      exact k_sub [1, 0] rfl (hL2 vq3 σ1)
set_option maxHeartbeats 4000000 in
set_option maxRecDepth 100000 in
theorem t_X11_leastBad_L2 {E : En} {G : Cx} (B : Bx E G cX11_leastBad 2 RX11 H_X11_leastBad (some .int))    : ∀ (n : Nat) (xq1 : Int32)  (σ : Mm), KR E G 2 (ZI E G) (fx (fun _ _ => none) n (f_X11_leastBad_L2 ) xq1 σ) 2 [(0, .ref (ad E 48)), (1, .int xq1)] [] σ :=
  fun n => fx_ind (P := fun f => ∀ (xq1 : Int32)  (σ : Mm), KR E G 2 (ZI E G) (f xq1 σ) 2 [(0, .ref (ad E 48)), (1, .int xq1)] [] σ) (fun _ _ => k_none) (fun L2 hL2 xq1 σ => t_X11_leastBad_L2b B    L2 hL2 xq1 σ) n
set_option maxHeartbeats 4000000 in
set_option maxRecDepth 100000 in
theorem t_X11_leastBad {E : En} {G : Cx} (B : Bx E G cX11_leastBad 2 RX11 H_X11_leastBad (some .int))   (σ : Mm) : KR E G 2 (ZI E G) (f_X11_leastBad  σ) 0 [(0, .ref (ad E 48))] [] σ := by
  have F := B.1
  unfold f_X11_leastBad
  refine k_iconst (pc := 0) F (v := (0 : Int32)) dX11_leastBad_0 ci_0 ?_
  refine k_istore_n F (lv' := [(1, .int (0 : Int32)), (0, .ref (ad E 48))]) 1 dX11_leastBad_1 rfl (by decide) rfl ?_
  exact k_sub [1, 0] rfl (t_X11_leastBad_L2 B    FU (0 : Int32)  σ)
set_option maxHeartbeats 4000000 in
set_option maxRecDepth 100000 in
theorem ct_X11_leastBad (E : En)   (σ : Mm) : CtI E yX11_leastBad cX11_leastBad 2 (some .int) H_X11_leastBad [.ref (ad E 48)] σ (f_X11_leastBad  σ) := ct_I (by decide) (Nat.le_of_ble_eq_true rfl) rfl (fun G B => t_X11_leastBad B   σ)
abbrev H_X11_states : Nat := 14
theorem hR_X11_states_X11_finds : H_X11_finds + 1 ≤ H_X11_states ∧ 8 + (2 + 11) + 40 * H_X11_finds ≤ 40 * H_X11_states := by decide
theorem hR_X11_states_X11_lookAll : H_X11_lookAll + 1 ≤ H_X11_states ∧ 8 + (1 + 11) + 40 * H_X11_lookAll ≤ 40 * H_X11_states := by decide
set_option maxHeartbeats 4000000 in
set_option maxRecDepth 100000 in
theorem t_X11_states {E : En} {G : Cx} (B : Bx E G cX11_states 1 RX11 H_X11_states (some .int))   (σ : Mm) : KR E G 1 (ZI E G) (f_X11_states  σ) 0 [(0, .ref (ad E 48))] [] σ := by
  have F := B.1
  unfold f_X11_states
  refine k_aload_n (pc := 0) F 0 0 dX11_states_0 rfl rfl ?_
  refine k_callVV (pc := 1) B (k := 48) (As := []) (rest := []) (ct_X11_lookAll E   σ) rfl rfl mv_X11_lookAll w_5_238 rfl hR_X11_states_X11_lookAll rfl (Nat.le_of_ble_eq_true rfl) dX11_states_1 (fun rq2 σ1 hoq => ?_)
  refine k_aload_n (pc := 4) F 0 0 dX11_states_4 rfl rfl ?_
  refine gf_48_49 (pc := 5) F w_4_219 dX11_states_5 ?_
  refine k_if_eq (pc := 8) F 21 dX11_states_8 (by decide) (fun _ => ?_) (fun _ => ?_)
  · refine k_aload_n (pc := 21) F 0 0 dX11_states_21 rfl rfl ?_
    refine gf_48_50 (pc := 22) F w_4_220 dX11_states_22 ?_
    exact k_iret (pc := 25) B dX11_states_25
  · refine k_aload_n (pc := 11) F 0 0 dX11_states_11 rfl rfl ?_
    refine k_ldcw (pc := 12) F (v := (-1000000007 : Int32)) w_6_101 dX11_states_12 ?_
    refine k_callVI (pc := 15) B (k := 48) (As := [.int (-1000000007 : Int32)]) (rest := []) (ct_X11_finds E (-1000000007 : Int32)  σ1) rfl rfl mv_X11_finds w_5_144 rfl hR_X11_states_X11_finds rfl (Nat.le_of_ble_eq_true rfl) dX11_states_15 (fun rq4 σ3 hoq => ?_)
    refine k_goto (pc := 18) F 25 dX11_states_18 (by decide) ?_
    exact k_iret (pc := 25) B dX11_states_25
set_option maxHeartbeats 4000000 in
set_option maxRecDepth 100000 in
theorem ct_X11_states (E : En)   (σ : Mm) : CtI E yX11_states cX11_states 1 (some .int) H_X11_states [.ref (ad E 48)] σ (f_X11_states  σ) := ct_I (by decide) (Nat.le_of_ble_eq_true rfl) rfl (fun G B => t_X11_states B   σ)
