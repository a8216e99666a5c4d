abbrev H_X11_begins : Nat := 0
set_option maxHeartbeats 4000000 in
set_option maxRecDepth 100000 in
theorem t_X11_begins_L2b {E : En} {G : Cx} (B : Bx E G cX11_begins 2 RX11 H_X11_begins none)   (K25 : Mm → Option (Unit × Mm)) (hK25 : ∀   (σ : Mm), KR E G 2 (ZV E G) (K25  σ) 25 [(0, .ref (ad E 48))] [] σ)  (L2 : Int32 → Mm → Option (Unit × Mm)) (hL2 : ∀ (xq1 : Int32)  (σ : Mm), KR E G 2 (ZV E G) (L2 xq1 σ) 2 [(0, .ref (ad E 48)), (1, .int xq1)] [] σ) (xq1 : Int32)  (σ : Mm) : KR E G 2 (ZV E G) (f_X11_begins_L2 K25  L2 xq1 σ) 2 [(0, .ref (ad E 48)), (1, .int xq1)] [] σ := by
  have F := B.1
  unfold f_X11_begins_L2
  refine k_iload_n (pc := 2) F 1 1 dX11_begins_2 rfl rfl ?_
  refine k_iconst (pc := 3) F (v := (3 : Int32)) dX11_begins_3 ci_3 ?_
  refine k_icmp_ge (pc := 4) F 25 dX11_begins_4 (by decide) (fun _ => ?_) (fun _ => ?_)
  · exact k_sub [0] rfl (hK25 σ)
  · refine k_aload_n (pc := 7) F 0 0 dX11_begins_7 rfl rfl ?_
    refine gf_48_39 (pc := 8) F w_4_209 dX11_begins_8 ?_
    refine k_iload_n (pc := 11) F 1 1 dX11_begins_11 rfl rfl ?_
    refine k_aload_n (pc := 12) F 0 0 dX11_begins_12 rfl rfl ?_
    refine gf_48_10 (pc := 13) F w_4_180 dX11_begins_13 ?_
    refine k_iload_n (pc := 16) F 1 1 dX11_begins_16 rfl rfl ?_
    refine k_iald (pc := 17) F rfl dX11_begins_17 ?_
    refine k_iast (pc := 18) F rfl dX11_begins_18 (fun σ1 => ?_)
    refine k_iinc (pc := 19) F (c := (1 : Int32)) (lw := fun wq => [(1, .int wq), (0, .ref (ad E 48))]) 1 1 dX11_begins_19 rfl ci_1 (by decide) (fun _ => rfl) (fun vq2 => ?_)
    refine k_goto (pc := 22) F 2 dX11_begins_22 (by decide) ?_
    exact k_sub [1, 0] rfl (hL2 vq2 σ1)
set_option maxHeartbeats 4000000 in
set_option maxRecDepth 100000 in
theorem t_X11_begins_L2 {E : En} {G : Cx} (B : Bx E G cX11_begins 2 RX11 H_X11_begins none)   (K25 : Mm → Option (Unit × Mm)) (hK25 : ∀   (σ : Mm), KR E G 2 (ZV E G) (K25  σ) 25 [(0, .ref (ad E 48))] [] σ)  : ∀ (n : Nat) (xq1 : Int32)  (σ : Mm), KR E G 2 (ZV E G) (fx (fun _ _ => none) n (f_X11_begins_L2 K25 ) xq1 σ) 2 [(0, .ref (ad E 48)), (1, .int xq1)] [] σ :=
  fun n => fx_ind (P := fun f => ∀ (xq1 : Int32)  (σ : Mm), KR E G 2 (ZV E G) (f xq1 σ) 2 [(0, .ref (ad E 48)), (1, .int xq1)] [] σ) (fun _ _ => k_none) (fun L2 hL2 xq1 σ => t_X11_begins_L2b B   K25 hK25  L2 hL2 xq1 σ) n
set_option maxHeartbeats 4000000 in
set_option maxRecDepth 100000 in
theorem t_X11_begins_L27b {E : En} {G : Cx} (B : Bx E G cX11_begins 2 RX11 H_X11_begins none)    (L27 : Int32 → Mm → Option (Unit × Mm)) (hL27 : ∀ (xq1 : Int32)  (σ : Mm), KR E G 2 (ZV E G) (L27 xq1 σ) 27 [(0, .ref (ad E 48)), (1, .int xq1)] [] σ) (xq1 : Int32)  (σ : Mm) : KR E G 2 (ZV E G) (f_X11_begins_L27  L27 xq1 σ) 27 [(0, .ref (ad E 48)), (1, .int xq1)] [] σ := by
  have F := B.1
  unfold f_X11_begins_L27
  refine k_iload_n (pc := 27) F 1 1 dX11_begins_27 rfl rfl ?_
  refine k_iconst (pc := 28) F (v := (3 : Int32)) dX11_begins_28 ci_3 ?_
  refine k_icmp_ge (pc := 29) F 73 dX11_begins_29 (by decide) (fun _ => ?_) (fun _ => ?_)
  · exact k_vret (pc := 73) B dX11_begins_73
  · refine k_aload_n (pc := 32) F 0 0 dX11_begins_32 rfl rfl ?_
    refine gf_48_40 (pc := 33) F w_4_210 dX11_begins_33 ?_
    refine k_iload_n (pc := 36) F 1 1 dX11_begins_36 rfl rfl ?_
    refine k_iconst (pc := 37) F (v := (0 : Int32)) dX11_begins_37 ci_0 ?_
    refine k_iast (pc := 38) F rfl dX11_begins_38 (fun σ3 => ?_)
    refine k_aload_n (pc := 39) F 0 0 dX11_begins_39 rfl rfl ?_
    refine gf_48_41 (pc := 40) F w_4_211 dX11_begins_40 ?_
    refine k_iload_n (pc := 43) F 1 1 dX11_begins_43 rfl rfl ?_
    refine k_iconst (pc := 44) F (v := (0 : Int32)) dX11_begins_44 ci_0 ?_
    refine k_iast (pc := 45) F rfl dX11_begins_45 (fun σ4 => ?_)
    refine k_aload_n (pc := 46) F 0 0 dX11_begins_46 rfl rfl ?_
    refine gf_48_42 (pc := 47) F w_4_212 dX11_begins_47 ?_
    refine k_iload_n (pc := 50) F 1 1 dX11_begins_50 rfl rfl ?_
    refine k_iconst (pc := 51) F (v := (0 : Int32)) dX11_begins_51 ci_0 ?_
    refine k_iast (pc := 52) F rfl dX11_begins_52 (fun σ5 => ?_)
    refine k_aload_n (pc := 53) F 0 0 dX11_begins_53 rfl rfl ?_
    refine gf_48_43 (pc := 54) F w_4_213 dX11_begins_54 ?_
    refine k_iload_n (pc := 57) F 1 1 dX11_begins_57 rfl rfl ?_
    refine k_iconst (pc := 58) F (v := (0 : Int32)) dX11_begins_58 ci_0 ?_
    refine k_iast (pc := 59) F rfl dX11_begins_59 (fun σ6 => ?_)
    refine k_aload_n (pc := 60) F 0 0 dX11_begins_60 rfl rfl ?_
    refine gf_48_44 (pc := 61) F w_4_214 dX11_begins_61 ?_
    refine k_iload_n (pc := 64) F 1 1 dX11_begins_64 rfl rfl ?_
    refine k_iconst (pc := 65) F (v := (0 : Int32)) dX11_begins_65 ci_0 ?_
    refine k_iast (pc := 66) F rfl dX11_begins_66 (fun σ7 => ?_)
    refine k_iinc (pc := 67) F (c := (1 : Int32)) (lw := fun wq => [(1, .int wq), (0, .ref (ad E 48))]) 1 1 dX11_begins_67 rfl ci_1 (by decide) (fun _ => rfl) (fun vq8 => ?_)
    refine k_goto (pc := 70) F 27 dX11_begins_70 (by decide) ?_
    exact k_sub [1, 0] rfl (hL27 vq8 σ7)
set_option maxHeartbeats 4000000 in
set_option maxRecDepth 100000 in
theorem t_X11_begins_L27 {E : En} {G : Cx} (B : Bx E G cX11_begins 2 RX11 H_X11_begins none)    : ∀ (n : Nat) (xq1 : Int32)  (σ : Mm), KR E G 2 (ZV E G) (fx (fun _ _ => none) n (f_X11_begins_L27 ) xq1 σ) 27 [(0, .ref (ad E 48)), (1, .int xq1)] [] σ :=
  fun n => fx_ind (P := fun f => ∀ (xq1 : Int32)  (σ : Mm), KR E G 2 (ZV E G) (f xq1 σ) 27 [(0, .ref (ad E 48)), (1, .int xq1)] [] σ) (fun _ _ => k_none) (fun L27 hL27 xq1 σ => t_X11_begins_L27b B    L27 hL27 xq1 σ) n
set_option maxHeartbeats 4000000 in
set_option maxRecDepth 100000 in
theorem t_X11_begins_25 {E : En} {G : Cx} (B : Bx E G cX11_begins 2 RX11 H_X11_begins none)    (σ : Mm) : KR E G 2 (ZV E G) (f_X11_begins_25  σ) 25 [(0, .ref (ad E 48))] [] σ := by
  have F := B.1
  unfold f_X11_begins_25
  refine k_iconst (pc := 25) F (v := (0 : Int32)) dX11_begins_25 ci_0 ?_
  refine k_istore_n F (lv' := [(1, .int (0 : Int32)), (0, .ref (ad E 48))]) 1 dX11_begins_26 rfl (by decide) rfl ?_
  exact k_sub [1, 0] rfl (t_X11_begins_L27 B    FU (0 : Int32)  σ)
set_option maxHeartbeats 4000000 in
set_option maxRecDepth 100000 in
theorem t_X11_begins {E : En} {G : Cx} (B : Bx E G cX11_begins 2 RX11 H_X11_begins none)   (σ : Mm) : KR E G 2 (ZV E G) (f_X11_begins  σ) 0 [(0, .ref (ad E 48))] [] σ := by
  have F := B.1
  unfold f_X11_begins
  refine k_iconst (pc := 0) F (v := (0 : Int32)) dX11_begins_0 ci_0 ?_
  refine k_istore_n F (lv' := [(1, .int (0 : Int32)), (0, .ref (ad E 48))]) 1 dX11_begins_1 rfl (by decide) rfl ?_
  exact k_sub [1, 0] rfl (t_X11_begins_L2 B   _ (fun   σ => by
        exact k_sub [0] rfl (t_X11_begins_25 B    σ)) FU (0 : Int32)  σ)
set_option maxHeartbeats 4000000 in
set_option maxRecDepth 100000 in
theorem ct_X11_begins (E : En)   (σ : Mm) : CtV E yX11_begins cX11_begins 2 none H_X11_begins [.ref (ad E 48)] σ (f_X11_begins  σ) := ct_V (by decide) (Nat.le_of_ble_eq_true rfl) rfl (fun G B => t_X11_begins B   σ)
abbrev H_X11_waitCode : Nat := 0
set_option maxHeartbeats 4000000 in
set_option maxRecDepth 100000 in
theorem t_X11_waitCode {E : En} {G : Cx} (B : Bx E G cX11_waitCode 4 RX11 H_X11_waitCode (some .int)) (aq0 : Int32)  (σ : Mm) : KR E G 4 (ZI E G) (f_X11_waitCode aq0 σ) 0 [(0, .ref (ad E 48)), (1, .int aq0)] [] σ := by
  have F := B.1
  unfold f_X11_waitCode
  refine k_iconst (pc := 0) F (v := (4 : Int32)) dX11_waitCode_0 ci_4 ?_
  refine k_aload_n (pc := 1) F 0 0 dX11_waitCode_1 rfl rfl ?_
  refine gf_48_45 (pc := 2) F w_4_215 dX11_waitCode_2 ?_
  refine k_iconst (pc := 5) F (v := (2 : Int32)) dX11_waitCode_5 ci_2 ?_
  refine k_iload_n (pc := 6) F 1 1 dX11_waitCode_6 rfl rfl ?_
  refine k_imul (pc := 7) F dX11_waitCode_7 ?_
  refine k_iald (pc := 8) F rfl dX11_waitCode_8 ?_
  refine k_imul (pc := 9) F dX11_waitCode_9 ?_
  refine k_aload_n (pc := 10) F 0 0 dX11_waitCode_10 rfl rfl ?_
  refine gf_48_46 (pc := 11) F w_4_216 dX11_waitCode_11 ?_
  refine k_iconst (pc := 14) F (v := (2 : Int32)) dX11_waitCode_14 ci_2 ?_
  refine k_iload_n (pc := 15) F 1 1 dX11_waitCode_15 rfl rfl ?_
  refine k_imul (pc := 16) F dX11_waitCode_16 ?_
  refine k_iald (pc := 17) F rfl dX11_waitCode_17 ?_
  refine k_iadd (pc := 18) F dX11_waitCode_18 ?_
  refine k_nmI (fun vq1 => ?_)
  refine k_istore_n F (lv' := [(2, .int vq1), (0, .ref (ad E 48)), (1, .int aq0)]) 2 dX11_waitCode_19 rfl (by decide) rfl ?_
  refine k_iconst (pc := 20) F (v := (4 : Int32)) dX11_waitCode_20 ci_4 ?_
  refine k_aload_n (pc := 21) F 0 1 dX11_waitCode_21 rfl rfl ?_
  refine gf_48_45 (pc := 22) F w_4_215 dX11_waitCode_22 ?_
  refine k_iconst (pc := 25) F (v := (2 : Int32)) dX11_waitCode_25 ci_2 ?_
  refine k_iload_n (pc := 26) F 1 2 dX11_waitCode_26 rfl rfl ?_
  refine k_imul (pc := 27) F dX11_waitCode_27 ?_
  refine k_iconst (pc := 28) F (v := (1 : Int32)) dX11_waitCode_28 ci_1 ?_
  refine k_iadd (pc := 29) F dX11_waitCode_29 ?_
  refine k_iald (pc := 30) F rfl dX11_waitCode_30 ?_
  refine k_imul (pc := 31) F dX11_waitCode_31 ?_
  refine k_aload_n (pc := 32) F 0 1 dX11_waitCode_32 rfl rfl ?_
  refine gf_48_46 (pc := 33) F w_4_216 dX11_waitCode_33 ?_
  refine k_iconst (pc := 36) F (v := (2 : Int32)) dX11_waitCode_36 ci_2 ?_
  refine k_iload_n (pc := 37) F 1 2 dX11_waitCode_37 rfl rfl ?_
  refine k_imul (pc := 38) F dX11_waitCode_38 ?_
  refine k_iconst (pc := 39) F (v := (1 : Int32)) dX11_waitCode_39 ci_1 ?_
  refine k_iadd (pc := 40) F dX11_waitCode_40 ?_
  refine k_iald (pc := 41) F rfl dX11_waitCode_41 ?_
  refine k_iadd (pc := 42) F dX11_waitCode_42 ?_
  refine k_nmI (fun vq2 => ?_)
  refine k_istore_n F (lv' := [(3, .int vq2), (2, .int vq1), (0, .ref (ad E 48)), (1, .int aq0)]) 3 dX11_waitCode_43 rfl (by decide) rfl ?_
  refine k_aload_n (pc := 44) F 0 2 dX11_waitCode_44 rfl rfl ?_
  refine gf_48_44 (pc := 45) F w_4_214 dX11_waitCode_45 ?_
  refine k_iload_n (pc := 48) F 1 3 dX11_waitCode_48 rfl rfl ?_
  refine k_iald (pc := 49) F rfl dX11_waitCode_49 ?_
  refine k_if_ne (pc := 50) F 57 dX11_waitCode_50 (by decide) (fun _ => ?_) (fun _ => ?_)
  · refine k_iconst (pc := 53) F (v := (0 : Int32)) dX11_waitCode_53 ci_0 ?_
    refine k_goto (pc := 54) F 82 dX11_waitCode_54 (by decide) ?_
    exact k_iret (pc := 82) B dX11_waitCode_82
  · refine k_aload_n (pc := 57) F 0 2 dX11_waitCode_57 rfl rfl ?_
    refine gf_48_44 (pc := 58) F w_4_214 dX11_waitCode_58 ?_
    refine k_iload_n (pc := 61) F 1 3 dX11_waitCode_61 rfl rfl ?_
    refine k_iald (pc := 62) F rfl dX11_waitCode_62 ?_
    refine k_iconst (pc := 63) F (v := (1 : Int32)) dX11_waitCode_63 ci_1 ?_
    refine k_icmp_ne (pc := 64) F 73 dX11_waitCode_64 (by decide) (fun _ => ?_) (fun _ => ?_)
    · refine k_iconst (pc := 67) F (v := (1 : Int32)) dX11_waitCode_67 ci_1 ?_
      refine k_iload_n (pc := 68) F 2 1 dX11_waitCode_68 rfl rfl ?_
      refine k_iadd (pc := 69) F dX11_waitCode_69 ?_
      refine k_goto (pc := 70) F 82 dX11_waitCode_70 (by decide) ?_
      exact k_iret (pc := 82) B dX11_waitCode_82
    · refine k_bipush (pc := 73) F (v := (13 : Int32)) dX11_waitCode_73 cb_13 ?_
      refine k_bipush (pc := 75) F (v := (12 : Int32)) dX11_waitCode_75 cb_12 ?_
      refine k_iload_n (pc := 77) F 2 1 dX11_waitCode_77 rfl rfl ?_
      refine k_imul (pc := 78) F dX11_waitCode_78 ?_
      refine k_iadd (pc := 79) F dX11_waitCode_79 ?_
      refine k_iload_n (pc := 80) F 3 0 dX11_waitCode_80 rfl rfl ?_
      refine k_iadd (pc := 81) F dX11_waitCode_81 ?_
      exact k_iret (pc := 82) B dX11_waitCode_82
set_option maxHeartbeats 4000000 in
set_option maxRecDepth 100000 in
theorem ct_X11_waitCode (E : En) (aq0 : Int32)  (σ : Mm) : CtI E yX11_waitCode cX11_waitCode 4 (some .int) H_X11_waitCode [.ref (ad E 48), .int aq0] σ (f_X11_waitCode aq0 σ) := ct_I (by decide) (Nat.le_of_ble_eq_true rfl) rfl (fun G B => t_X11_waitCode B aq0  σ)
abbrev H_X11_pack : Nat := 1
theorem hR_X11_pack_X11_waitCode : H_X11_waitCode + 1 ≤ H_X11_pack ∧ 8 + (4 + 11) + 40 * H_X11_waitCode ≤ 40 * H_X11_pack := by decide
set_option maxHeartbeats 4000000 in
set_option maxRecDepth 100000 in
theorem t_X11_pack_L34b {E : En} {G : Cx} (B : Bx E G cX11_pack 4 RX11 H_X11_pack (some .long))    (L34 : Int64 → Int32 → Mm → Option (Int64 × Mm)) (hL34 : ∀ (xq1 : Int64) (xq3 : Int32)  (σ : Mm), KR E G 4 (ZL E G) (L34 xq1 xq3 σ) 34 [(0, .ref (ad E 48)), (1, .long xq1), (3, .int xq3)] [] σ) (xq1 : Int64) (xq3 : Int32)  (σ : Mm) : KR E G 4 (ZL E G) (f_X11_pack_L34  L34 xq1 xq3 σ) 34 [(0, .ref (ad E 48)), (1, .long xq1), (3, .int xq3)] [] σ := by
  have F := B.1
  unfold f_X11_pack_L34
  refine k_iload_n (pc := 34) F 3 2 dX11_pack_34 rfl rfl ?_
  refine k_aload_n (pc := 35) F 0 0 dX11_pack_35 rfl rfl ?_
  refine gf_48_7 (pc := 36) F w_4_177 dX11_pack_36 ?_
  refine k_icmp_ge (pc := 39) F 110 dX11_pack_39 (by decide) (fun _ => ?_) (fun _ => ?_)
  · refine k_lload_n (pc := 110) F 1 1 dX11_pack_110 rfl rfl ?_
    exact k_lret (pc := 111) B dX11_pack_111
  · refine k_ldc2 (pc := 42) F (v := (42 : Int64)) w_6_28 dX11_pack_42 ?_
    refine k_lload_n (pc := 45) F 1 1 dX11_pack_45 rfl rfl ?_
    refine k_lmul (pc := 46) F dX11_pack_46 ?_
    refine k_bipush (pc := 47) F (v := (14 : Int32)) dX11_pack_47 cb_14 ?_
    refine k_aload_n (pc := 49) F 0 0 dX11_pack_49 rfl rfl ?_
    refine gf_48_40 (pc := 50) F w_4_210 dX11_pack_50 ?_
    refine k_iload_n (pc := 53) F 3 2 dX11_pack_53 rfl rfl ?_
    refine k_iald (pc := 54) F rfl dX11_pack_54 ?_
    refine k_imul (pc := 55) F dX11_pack_55 ?_
    refine k_i2l (pc := 56) F dX11_pack_56 ?_
    refine k_ladd (pc := 57) F dX11_pack_57 ?_
    refine k_aload_n (pc := 58) F 0 0 dX11_pack_58 rfl rfl ?_
    refine gf_48_41 (pc := 59) F w_4_211 dX11_pack_59 ?_
    refine k_iload_n (pc := 62) F 3 2 dX11_pack_62 rfl rfl ?_
    refine k_iald (pc := 63) F rfl dX11_pack_63 ?_
    refine k_i2l (pc := 64) F dX11_pack_64 ?_
    refine k_ladd (pc := 65) F dX11_pack_65 ?_
    refine k_nmL (fun vq2 => ?_)
    refine k_lstore_n F (lv' := [(1, .long vq2), (0, .ref (ad E 48)), (3, .int xq3)]) 1 dX11_pack_66 rfl (by decide) rfl ?_
    refine k_ldc2 (pc := 67) F (v := (16 : Int64)) w_6_26 dX11_pack_67 ?_
    refine k_lload_n (pc := 70) F 1 0 dX11_pack_70 rfl rfl ?_
    refine k_lmul (pc := 71) F dX11_pack_71 ?_
    refine k_iconst (pc := 72) F (v := (4 : Int32)) dX11_pack_72 ci_4 ?_
    refine k_aload_n (pc := 73) F 0 1 dX11_pack_73 rfl rfl ?_
    refine gf_48_42 (pc := 74) F w_4_212 dX11_pack_74 ?_
    refine k_iload_n (pc := 77) F 3 2 dX11_pack_77 rfl rfl ?_
    refine k_iald (pc := 78) F rfl dX11_pack_78 ?_
    refine k_imul (pc := 79) F dX11_pack_79 ?_
    refine k_i2l (pc := 80) F dX11_pack_80 ?_
    refine k_ladd (pc := 81) F dX11_pack_81 ?_
    refine k_aload_n (pc := 82) F 0 1 dX11_pack_82 rfl rfl ?_
    refine gf_48_43 (pc := 83) F w_4_213 dX11_pack_83 ?_
    refine k_iload_n (pc := 86) F 3 2 dX11_pack_86 rfl rfl ?_
    refine k_iald (pc := 87) F rfl dX11_pack_87 ?_
    refine k_i2l (pc := 88) F dX11_pack_88 ?_
    refine k_ladd (pc := 89) F dX11_pack_89 ?_
    refine k_nmL (fun vq3 => ?_)
    refine k_lstore_n F (lv' := [(1, .long vq3), (0, .ref (ad E 48)), (3, .int xq3)]) 1 dX11_pack_90 rfl (by decide) rfl ?_
    refine k_ldc2 (pc := 91) F (v := (157 : Int64)) w_6_29 dX11_pack_91 ?_
    refine k_lload_n (pc := 94) F 1 0 dX11_pack_94 rfl rfl ?_
    refine k_lmul (pc := 95) F dX11_pack_95 ?_
    refine k_aload_n (pc := 96) F 0 1 dX11_pack_96 rfl rfl ?_
    refine k_iload_n (pc := 97) F 3 2 dX11_pack_97 rfl rfl ?_
    refine k_callVI (pc := 98) B (k := 48) (As := [.int xq3]) (rest := [.long ((157 : Int64) * vq3)]) (ct_X11_waitCode E xq3  σ) rfl rfl mv_X11_waitCode w_6_30 rfl hR_X11_pack_X11_waitCode rfl (Nat.le_of_ble_eq_true rfl) dX11_pack_98 (fun rq5 σ4 hoq => ?_)
    refine k_i2l (pc := 101) F dX11_pack_101 ?_
    refine k_ladd (pc := 102) F dX11_pack_102 ?_
    refine k_nmL (fun vq6 => ?_)
    refine k_lstore_n F (lv' := [(1, .long vq6), (0, .ref (ad E 48)), (3, .int xq3)]) 1 dX11_pack_103 rfl (by decide) rfl ?_
    refine k_iinc (pc := 104) F (c := (1 : Int32)) (lw := fun wq => [(3, .int wq), (1, .long vq6), (0, .ref (ad E 48))]) 3 2 dX11_pack_104 rfl ci_1 (by decide) (fun _ => rfl) (fun vq7 => ?_)
    refine k_goto (pc := 107) F 34 dX11_pack_107 (by decide) ?_
    exact k_sub [2, 1, 0] rfl (hL34 vq6 vq7 σ4)
set_option maxHeartbeats 4000000 in
set_option maxRecDepth 100000 in
theorem t_X11_pack_L34 {E : En} {G : Cx} (B : Bx E G cX11_pack 4 RX11 H_X11_pack (some .long))    : ∀ (n : Nat) (xq1 : Int64) (xq3 : Int32)  (σ : Mm), KR E G 4 (ZL E G) (fx (fun _ _ _ => none) n (f_X11_pack_L34 ) xq1 xq3 σ) 34 [(0, .ref (ad E 48)), (1, .long xq1), (3, .int xq3)] [] σ :=
  fun n => fx_ind (P := fun f => ∀ (xq1 : Int64) (xq3 : Int32)  (σ : Mm), KR E G 4 (ZL E G) (f xq1 xq3 σ) 34 [(0, .ref (ad E 48)), (1, .long xq1), (3, .int xq3)] [] σ) (fun _ _ _ => k_none) (fun L34 hL34 xq1 xq3 σ => t_X11_pack_L34b B    L34 hL34 xq1 xq3 σ) n
set_option maxHeartbeats 4000000 in
set_option maxRecDepth 100000 in
theorem t_X11_pack {E : En} {G : Cx} (B : Bx E G cX11_pack 4 RX11 H_X11_pack (some .long))   (σ : Mm) : KR E G 4 (ZL E G) (f_X11_pack  σ) 0 [(0, .ref (ad E 48))] [] σ := by
  have F := B.1
  unfold f_X11_pack
  refine k_ldc2 (pc := 0) F (v := (16 : Int64)) w_6_26 dX11_pack_0 ?_
  refine k_aload_n (pc := 3) F 0 0 dX11_pack_3 rfl rfl ?_
  refine gf_48_39 (pc := 4) F w_4_209 dX11_pack_4 ?_
  refine k_iconst (pc := 7) F (v := (0 : Int32)) dX11_pack_7 ci_0 ?_
  refine k_iald (pc := 8) F rfl dX11_pack_8 ?_
  refine k_i2l (pc := 9) F dX11_pack_9 ?_
  refine k_lmul (pc := 10) F dX11_pack_10 ?_
  refine k_ldc2 (pc := 11) F (v := (4 : Int64)) w_6_27 dX11_pack_11 ?_
  refine k_aload_n (pc := 14) F 0 0 dX11_pack_14 rfl rfl ?_
  refine gf_48_39 (pc := 15) F w_4_209 dX11_pack_15 ?_
  refine k_iconst (pc := 18) F (v := (1 : Int32)) dX11_pack_18 ci_1 ?_
  refine k_iald (pc := 19) F rfl dX11_pack_19 ?_
  refine k_i2l (pc := 20) F dX11_pack_20 ?_
  refine k_lmul (pc := 21) F dX11_pack_21 ?_
  refine k_ladd (pc := 22) F dX11_pack_22 ?_
  refine k_aload_n (pc := 23) F 0 0 dX11_pack_23 rfl rfl ?_
  refine gf_48_39 (pc := 24) F w_4_209 dX11_pack_24 ?_
  refine k_iconst (pc := 27) F (v := (2 : Int32)) dX11_pack_27 ci_2 ?_
  refine k_iald (pc := 28) F rfl dX11_pack_28 ?_
  refine k_i2l (pc := 29) F dX11_pack_29 ?_
  refine k_ladd (pc := 30) F dX11_pack_30 ?_
  refine k_nmL (fun vq1 => ?_)
  refine k_lstore_n F (lv' := [(1, .long vq1), (0, .ref (ad E 48))]) 1 dX11_pack_31 rfl (by decide) rfl ?_
  refine k_iconst (pc := 32) F (v := (0 : Int32)) dX11_pack_32 ci_0 ?_
  refine k_istore_n F (lv' := [(3, .int (0 : Int32)), (1, .long vq1), (0, .ref (ad E 48))]) 3 dX11_pack_33 rfl (by decide) rfl ?_
  exact k_sub [2, 1, 0] rfl (t_X11_pack_L34 B    FU vq1 (0 : Int32)  σ)
set_option maxHeartbeats 4000000 in
set_option maxRecDepth 100000 in
theorem ct_X11_pack (E : En)   (σ : Mm) : CtL E yX11_pack cX11_pack 4 (some .long) H_X11_pack [.ref (ad E 48)] σ (f_X11_pack  σ) := ct_L (by decide) (Nat.le_of_ble_eq_true rfl) rfl (fun G B => t_X11_pack B   σ)
abbrev H_X11_unpack : Nat := 0
set_option maxHeartbeats 4000000 in
set_option maxRecDepth 100000 in
theorem t_X11_unpack_183 {E : En} {G : Cx} (B : Bx E G cX11_unpack 11 RX11 H_X11_unpack none) (xq3 : Int64) (xq5 : Int32) (xq9 : Int32) (xqs0 : Int32)  (L10 : Int64 → Int32 → Mm → Option (Unit × Mm)) (hL10 : ∀ (xq3 : Int64) (xq5 : Int32)  (σ : Mm), KR E G 11 (ZV E G) (L10 xq3 xq5 σ) 10 [(0, .ref (ad E 48)), (3, .long xq3), (5, .int xq5)] [] σ)  (σ : Mm) : KR E G 11 (ZV E G) (f_X11_unpack_183 L10 xq3 xq5 xq9 xqs0 σ) 183 [(0, .ref (ad E 48)), (3, .long xq3), (5, .int xq5), (9, .int xq9)] [.int xqs0] σ := by
  have F := B.1
  unfold f_X11_unpack_183
  refine k_istore F (lv' := [(10, .int xqs0), (0, .ref (ad E 48)), (3, .long xq3), (5, .int xq5), (9, .int xq9)]) 10 dX11_unpack_183 (by decide) rfl ?_
  refine k_aload_n (pc := 185) F 0 1 dX11_unpack_185 rfl rfl ?_
  refine gf_48_45 (pc := 186) F w_4_215 dX11_unpack_186 ?_
  refine k_iconst (pc := 189) F (v := (2 : Int32)) dX11_unpack_189 ci_2 ?_
  refine k_iload (pc := 190) F 5 3 dX11_unpack_190 rfl ?_
  refine k_imul (pc := 192) F dX11_unpack_192 ?_
  refine k_iload (pc := 193) F 9 4 dX11_unpack_193 rfl ?_
  refine k_iconst (pc := 195) F (v := (4 : Int32)) dX11_unpack_195 ci_4 ?_
  refine k_idiv (pc := 196) F dX11_unpack_196 (by decide) ?_
  refine k_iast (pc := 197) F rfl dX11_unpack_197 (fun σ13 => ?_)
  refine k_aload_n (pc := 198) F 0 1 dX11_unpack_198 rfl rfl ?_
  refine gf_48_46 (pc := 199) F w_4_216 dX11_unpack_199 ?_
  refine k_iconst (pc := 202) F (v := (2 : Int32)) dX11_unpack_202 ci_2 ?_
  refine k_iload (pc := 203) F 5 3 dX11_unpack_203 rfl ?_
  refine k_imul (pc := 205) F dX11_unpack_205 ?_
  refine k_iload (pc := 206) F 9 4 dX11_unpack_206 rfl ?_
  refine k_iconst (pc := 208) F (v := (4 : Int32)) dX11_unpack_208 ci_4 ?_
  refine k_irem (pc := 209) F dX11_unpack_209 (by decide) ?_
  refine k_iast (pc := 210) F rfl dX11_unpack_210 (fun σ14 => ?_)
  refine k_aload_n (pc := 211) F 0 1 dX11_unpack_211 rfl rfl ?_
  refine gf_48_45 (pc := 212) F w_4_215 dX11_unpack_212 ?_
  refine k_iconst (pc := 215) F (v := (2 : Int32)) dX11_unpack_215 ci_2 ?_
  refine k_iload (pc := 216) F 5 3 dX11_unpack_216 rfl ?_
  refine k_imul (pc := 218) F dX11_unpack_218 ?_
  refine k_iconst (pc := 219) F (v := (1 : Int32)) dX11_unpack_219 ci_1 ?_
  refine k_iadd (pc := 220) F dX11_unpack_220 ?_
  refine k_iload (pc := 221) F 10 0 dX11_unpack_221 rfl ?_
  refine k_iconst (pc := 223) F (v := (4 : Int32)) dX11_unpack_223 ci_4 ?_
  refine k_idiv (pc := 224) F dX11_unpack_224 (by decide) ?_
  refine k_iast (pc := 225) F rfl dX11_unpack_225 (fun σ15 => ?_)
  refine k_aload_n (pc := 226) F 0 1 dX11_unpack_226 rfl rfl ?_
  refine gf_48_46 (pc := 227) F w_4_216 dX11_unpack_227 ?_
  refine k_iconst (pc := 230) F (v := (2 : Int32)) dX11_unpack_230 ci_2 ?_
  refine k_iload (pc := 231) F 5 3 dX11_unpack_231 rfl ?_
  refine k_imul (pc := 233) F dX11_unpack_233 ?_
  refine k_iconst (pc := 234) F (v := (1 : Int32)) dX11_unpack_234 ci_1 ?_
  refine k_iadd (pc := 235) F dX11_unpack_235 ?_
  refine k_iload (pc := 236) F 10 0 dX11_unpack_236 rfl ?_
  refine k_iconst (pc := 238) F (v := (4 : Int32)) dX11_unpack_238 ci_4 ?_
  refine k_irem (pc := 239) F dX11_unpack_239 (by decide) ?_
  refine k_iast (pc := 240) F rfl dX11_unpack_240 (fun σ16 => ?_)
  refine k_iinc (pc := 241) F (c := (-1 : Int32)) (lw := fun wq => [(5, .int wq), (10, .int xqs0), (0, .ref (ad E 48)), (3, .long xq3), (9, .int xq9)]) 5 3 dX11_unpack_241 rfl ci_m1 (by decide) (fun _ => rfl) (fun vq17 => ?_)
  refine k_goto (pc := 244) F 10 dX11_unpack_244 (by decide) ?_
  exact k_sub [2, 3, 0] rfl (hL10 xq3 vq17 σ16)
set_option maxHeartbeats 4000000 in
set_option maxRecDepth 100000 in
theorem t_X11_unpack_162 {E : En} {G : Cx} (B : Bx E G cX11_unpack 11 RX11 H_X11_unpack none) (xq3 : Int64) (xq5 : Int32) (xq6 : Int32) (xqs0 : Int32)  (L10 : Int64 → Int32 → Mm → Option (Unit × Mm)) (hL10 : ∀ (xq3 : Int64) (xq5 : Int32)  (σ : Mm), KR E G 11 (ZV E G) (L10 xq3 xq5 σ) 10 [(0, .ref (ad E 48)), (3, .long xq3), (5, .int xq5)] [] σ)  (σ : Mm) : KR E G 11 (ZV E G) (f_X11_unpack_162 L10 xq3 xq5 xq6 xqs0 σ) 162 [(0, .ref (ad E 48)), (3, .long xq3), (5, .int xq5), (6, .int xq6)] [.int xqs0] σ := by
  have F := B.1
  unfold f_X11_unpack_162
  refine k_istore F (lv' := [(9, .int xqs0), (0, .ref (ad E 48)), (3, .long xq3), (5, .int xq5), (6, .int xq6)]) 9 dX11_unpack_162 (by decide) rfl ?_
  refine k_iload (pc := 164) F 6 4 dX11_unpack_164 rfl ?_
  refine k_bipush (pc := 166) F (v := (13 : Int32)) dX11_unpack_166 cb_13 ?_
  refine k_icmp_ge (pc := 168) F 175 dX11_unpack_168 (by decide) (fun _ => ?_) (fun _ => ?_)
  · refine k_iload (pc := 175) F 6 4 dX11_unpack_175 rfl ?_
    refine k_bipush (pc := 177) F (v := (13 : Int32)) dX11_unpack_177 cb_13 ?_
    refine k_isub (pc := 179) F dX11_unpack_179 ?_
    refine k_bipush (pc := 180) F (v := (12 : Int32)) dX11_unpack_180 cb_12 ?_
    refine k_irem (pc := 182) F dX11_unpack_182 (by decide) ?_
    exact k_sub [1, 2, 3, 0] rfl (t_X11_unpack_183 B xq3 xq5 xqs0 (irm (xq6 - (13 : Int32)) (12 : Int32))  L10 hL10  σ)
  · refine k_iconst (pc := 171) F (v := (0 : Int32)) dX11_unpack_171 ci_0 ?_
    refine k_goto (pc := 172) F 183 dX11_unpack_172 (by decide) ?_
    exact k_sub [1, 2, 3, 0] rfl (t_X11_unpack_183 B xq3 xq5 xqs0 (0 : Int32)  L10 hL10  σ)
set_option maxHeartbeats 4000000 in
set_option maxRecDepth 100000 in
theorem t_X11_unpack_130 {E : En} {G : Cx} (B : Bx E G cX11_unpack 11 RX11 H_X11_unpack none) (xq3 : Int64) (xq5 : Int32) (xq6 : Int32) (xqs1 : Int32) (xqs2 : Int32)  (L10 : Int64 → Int32 → Mm → Option (Unit × Mm)) (hL10 : ∀ (xq3 : Int64) (xq5 : Int32)  (σ : Mm), KR E G 11 (ZV E G) (L10 xq3 xq5 σ) 10 [(0, .ref (ad E 48)), (3, .long xq3), (5, .int xq5)] [] σ)  (σ : Mm) : KR E G 11 (ZV E G) (f_X11_unpack_130 L10 xq3 xq5 xq6 xqs1 xqs2 σ) 130 [(0, .ref (ad E 48)), (3, .long xq3), (5, .int xq5), (6, .int xq6)] [.int xqs2, .int xqs1, .ref (ad E 79)] σ := by
  have F := B.1
  unfold f_X11_unpack_130
  refine k_iast (pc := 130) F rfl dX11_unpack_130 (fun σ12 => ?_)
  refine k_iload (pc := 131) F 6 3 dX11_unpack_131 rfl ?_
  refine k_if_ne (pc := 133) F 140 dX11_unpack_133 (by decide) (fun _ => ?_) (fun _ => ?_)
  · refine k_iconst (pc := 136) F (v := (0 : Int32)) dX11_unpack_136 ci_0 ?_
    refine k_goto (pc := 137) F 162 dX11_unpack_137 (by decide) ?_
    exact k_sub [0, 1, 2, 3] rfl (t_X11_unpack_162 B xq3 xq5 xq6 (0 : Int32)  L10 hL10  σ12)
  · refine k_iload (pc := 140) F 6 3 dX11_unpack_140 rfl ?_
    refine k_bipush (pc := 142) F (v := (13 : Int32)) dX11_unpack_142 cb_13 ?_
    refine k_icmp_ge (pc := 144) F 154 dX11_unpack_144 (by decide) (fun _ => ?_) (fun _ => ?_)
    · refine k_iload (pc := 154) F 6 3 dX11_unpack_154 rfl ?_
      refine k_bipush (pc := 156) F (v := (13 : Int32)) dX11_unpack_156 cb_13 ?_
      refine k_isub (pc := 158) F dX11_unpack_158 ?_
      refine k_bipush (pc := 159) F (v := (12 : Int32)) dX11_unpack_159 cb_12 ?_
      refine k_idiv (pc := 161) F dX11_unpack_161 (by decide) ?_
      exact k_sub [0, 1, 2, 3] rfl (t_X11_unpack_162 B xq3 xq5 xq6 ((xq6 - (13 : Int32)) / (12 : Int32))  L10 hL10  σ12)
    · refine k_iload (pc := 147) F 6 3 dX11_unpack_147 rfl ?_
      refine k_iconst (pc := 149) F (v := (1 : Int32)) dX11_unpack_149 ci_1 ?_
      refine k_isub (pc := 150) F dX11_unpack_150 ?_
      refine k_goto (pc := 151) F 162 dX11_unpack_151 (by decide) ?_
      exact k_sub [0, 1, 2, 3] rfl (t_X11_unpack_162 B xq3 xq5 xq6 (xq6 - (1 : Int32))  L10 hL10  σ12)
set_option maxHeartbeats 4000000 in
set_option maxRecDepth 100000 in
theorem t_X11_unpack_L10b {E : En} {G : Cx} (B : Bx E G cX11_unpack 11 RX11 H_X11_unpack none)   (K247 : Int64 → Mm → Option (Unit × Mm)) (hK247 : ∀ (xq3 : Int64)  (σ : Mm), KR E G 11 (ZV E G) (K247 xq3 σ) 247 [(0, .ref (ad E 48)), (3, .long xq3)] [] σ)  (L10 : Int64 → Int32 → Mm → Option (Unit × Mm)) (hL10 : ∀ (xq3 : Int64) (xq5 : Int32)  (σ : Mm), KR E G 11 (ZV E G) (L10 xq3 xq5 σ) 10 [(0, .ref (ad E 48)), (3, .long xq3), (5, .int xq5)] [] σ) (xq3 : Int64) (xq5 : Int32)  (σ : Mm) : KR E G 11 (ZV E G) (f_X11_unpack_L10 K247  L10 xq3 xq5 σ) 10 [(0, .ref (ad E 48)), (3, .long xq3), (5, .int xq5)] [] σ := by
  have F := B.1
  unfold f_X11_unpack_L10
  refine k_iload (pc := 10) F 5 2 dX11_unpack_10 rfl ?_
  refine k_if_lt (pc := 12) F 247 dX11_unpack_12 (by decide) (fun _ => ?_) (fun _ => ?_)
  · exact k_sub [0, 1] rfl (hK247 xq3 σ)
  · refine k_lload_n (pc := 15) F 3 1 dX11_unpack_15 rfl rfl ?_
    refine k_ldc2 (pc := 16) F (v := (157 : Int64)) w_6_29 dX11_unpack_16 ?_
    refine k_lrem (pc := 19) F dX11_unpack_19 (by decide) ?_
    refine k_l2i (pc := 20) F dX11_unpack_20 ?_
    refine k_nmI (fun vq2 => ?_)
    refine k_istore F (lv' := [(6, .int vq2), (0, .ref (ad E 48)), (3, .long xq3), (5, .int xq5)]) 6 dX11_unpack_21 (by decide) rfl ?_
    refine k_lload_n (pc := 23) F 3 2 dX11_unpack_23 rfl rfl ?_
    refine k_ldc2 (pc := 24) F (v := (157 : Int64)) w_6_29 dX11_unpack_24 ?_
    refine k_ldiv (pc := 27) F dX11_unpack_27 (by decide) ?_
    refine k_nmL (fun vq3 => ?_)
    refine k_lstore_n F (lv' := [(3, .long vq3), (6, .int vq2), (0, .ref (ad E 48)), (5, .int xq5)]) 3 dX11_unpack_28 rfl (by decide) rfl ?_
    refine k_lload_n (pc := 29) F 3 0 dX11_unpack_29 rfl rfl ?_
    refine k_ldc2 (pc := 30) F (v := (16 : Int64)) w_6_26 dX11_unpack_30 ?_
    refine k_lrem (pc := 33) F dX11_unpack_33 (by decide) ?_
    refine k_l2i (pc := 34) F dX11_unpack_34 ?_
    refine k_nmI (fun vq4 => ?_)
    refine k_istore F (lv' := [(7, .int vq4), (3, .long vq3), (6, .int vq2), (0, .ref (ad E 48)), (5, .int xq5)]) 7 dX11_unpack_35 (by decide) rfl ?_
    refine k_lload_n (pc := 37) F 3 1 dX11_unpack_37 rfl rfl ?_
    refine k_ldc2 (pc := 38) F (v := (16 : Int64)) w_6_26 dX11_unpack_38 ?_
    refine k_ldiv (pc := 41) F dX11_unpack_41 (by decide) ?_
    refine k_nmL (fun vq5 => ?_)
    refine k_lstore_n F (lv' := [(3, .long vq5), (7, .int vq4), (6, .int vq2), (0, .ref (ad E 48)), (5, .int xq5)]) 3 dX11_unpack_42 rfl (by decide) rfl ?_
    refine k_lload_n (pc := 43) F 3 0 dX11_unpack_43 rfl rfl ?_
    refine k_ldc2 (pc := 44) F (v := (42 : Int64)) w_6_28 dX11_unpack_44 ?_
    refine k_lrem (pc := 47) F dX11_unpack_47 (by decide) ?_
    refine k_l2i (pc := 48) F dX11_unpack_48 ?_
    refine k_nmI (fun vq6 => ?_)
    refine k_istore F (lv' := [(8, .int vq6), (3, .long vq5), (7, .int vq4), (6, .int vq2), (0, .ref (ad E 48)), (5, .int xq5)]) 8 dX11_unpack_49 (by decide) rfl ?_
    refine k_lload_n (pc := 51) F 3 1 dX11_unpack_51 rfl rfl ?_
    refine k_ldc2 (pc := 52) F (v := (42 : Int64)) w_6_28 dX11_unpack_52 ?_
    refine k_ldiv (pc := 55) F dX11_unpack_55 (by decide) ?_
    refine k_nmL (fun vq7 => ?_)
    refine k_lstore_n F (lv' := [(3, .long vq7), (8, .int vq6), (7, .int vq4), (6, .int vq2), (0, .ref (ad E 48)), (5, .int xq5)]) 3 dX11_unpack_56 rfl (by decide) rfl ?_
    refine k_aload_n (pc := 57) F 0 4 dX11_unpack_57 rfl rfl ?_
    refine gf_48_40 (pc := 58) F w_4_210 dX11_unpack_58 ?_
    refine k_iload (pc := 61) F 5 5 dX11_unpack_61 rfl ?_
    refine k_iload (pc := 63) F 8 1 dX11_unpack_63 rfl ?_
    refine k_bipush (pc := 65) F (v := (14 : Int32)) dX11_unpack_65 cb_14 ?_
    refine k_idiv (pc := 67) F dX11_unpack_67 (by decide) ?_
    refine k_iast (pc := 68) F rfl dX11_unpack_68 (fun σ8 => ?_)
    refine k_aload_n (pc := 69) F 0 4 dX11_unpack_69 rfl rfl ?_
    refine gf_48_41 (pc := 70) F w_4_211 dX11_unpack_70 ?_
    refine k_iload (pc := 73) F 5 5 dX11_unpack_73 rfl ?_
    refine k_iload (pc := 75) F 8 1 dX11_unpack_75 rfl ?_
    refine k_bipush (pc := 77) F (v := (14 : Int32)) dX11_unpack_77 cb_14 ?_
    refine k_irem (pc := 79) F dX11_unpack_79 (by decide) ?_
    refine k_iast (pc := 80) F rfl dX11_unpack_80 (fun σ9 => ?_)
    refine k_aload_n (pc := 81) F 0 4 dX11_unpack_81 rfl rfl ?_
    refine gf_48_42 (pc := 82) F w_4_212 dX11_unpack_82 ?_
    refine k_iload (pc := 85) F 5 5 dX11_unpack_85 rfl ?_
    refine k_iload (pc := 87) F 7 2 dX11_unpack_87 rfl ?_
    refine k_iconst (pc := 89) F (v := (4 : Int32)) dX11_unpack_89 ci_4 ?_
    refine k_idiv (pc := 90) F dX11_unpack_90 (by decide) ?_
    refine k_iast (pc := 91) F rfl dX11_unpack_91 (fun σ10 => ?_)
    refine k_aload_n (pc := 92) F 0 4 dX11_unpack_92 rfl rfl ?_
    refine gf_48_43 (pc := 93) F w_4_213 dX11_unpack_93 ?_
    refine k_iload (pc := 96) F 5 5 dX11_unpack_96 rfl ?_
    refine k_iload (pc := 98) F 7 2 dX11_unpack_98 rfl ?_
    refine k_iconst (pc := 100) F (v := (4 : Int32)) dX11_unpack_100 ci_4 ?_
    refine k_irem (pc := 101) F dX11_unpack_101 (by decide) ?_
    refine k_iast (pc := 102) F rfl dX11_unpack_102 (fun σ11 => ?_)
    refine k_aload_n (pc := 103) F 0 4 dX11_unpack_103 rfl rfl ?_
    refine gf_48_44 (pc := 104) F w_4_214 dX11_unpack_104 ?_
    refine k_iload (pc := 107) F 5 5 dX11_unpack_107 rfl ?_
    refine k_iload (pc := 109) F 6 3 dX11_unpack_109 rfl ?_
    refine k_if_ne (pc := 111) F 118 dX11_unpack_111 (by decide) (fun _ => ?_) (fun _ => ?_)
    · refine k_iconst (pc := 114) F (v := (0 : Int32)) dX11_unpack_114 ci_0 ?_
      refine k_goto (pc := 115) F 130 dX11_unpack_115 (by decide) ?_
      exact k_sub [4, 0, 5, 3] rfl (t_X11_unpack_130 B vq7 xq5 vq2 xq5 (0 : Int32)  L10 hL10  σ11)
    · refine k_iload (pc := 118) F 6 3 dX11_unpack_118 rfl ?_
      refine k_bipush (pc := 120) F (v := (13 : Int32)) dX11_unpack_120 cb_13 ?_
      refine k_icmp_ge (pc := 122) F 129 dX11_unpack_122 (by decide) (fun _ => ?_) (fun _ => ?_)
      · refine k_iconst (pc := 129) F (v := (2 : Int32)) dX11_unpack_129 ci_2 ?_
        exact k_sub [4, 0, 5, 3] rfl (t_X11_unpack_130 B vq7 xq5 vq2 xq5 (2 : Int32)  L10 hL10  σ11)
      · refine k_iconst (pc := 125) F (v := (1 : Int32)) dX11_unpack_125 ci_1 ?_
        refine k_goto (pc := 126) F 130 dX11_unpack_126 (by decide) ?_
        exact k_sub [4, 0, 5, 3] rfl (t_X11_unpack_130 B vq7 xq5 vq2 xq5 (1 : Int32)  L10 hL10  σ11)
set_option maxHeartbeats 4000000 in
set_option maxRecDepth 100000 in
theorem t_X11_unpack_L10 {E : En} {G : Cx} (B : Bx E G cX11_unpack 11 RX11 H_X11_unpack none)   (K247 : Int64 → Mm → Option (Unit × Mm)) (hK247 : ∀ (xq3 : Int64)  (σ : Mm), KR E G 11 (ZV E G) (K247 xq3 σ) 247 [(0, .ref (ad E 48)), (3, .long xq3)] [] σ)  : ∀ (n : Nat) (xq3 : Int64) (xq5 : Int32)  (σ : Mm), KR E G 11 (ZV E G) (fx (fun _ _ _ => none) n (f_X11_unpack_L10 K247 ) xq3 xq5 σ) 10 [(0, .ref (ad E 48)), (3, .long xq3), (5, .int xq5)] [] σ :=
  fun n => fx_ind (P := fun f => ∀ (xq3 : Int64) (xq5 : Int32)  (σ : Mm), KR E G 11 (ZV E G) (f xq3 xq5 σ) 10 [(0, .ref (ad E 48)), (3, .long xq3), (5, .int xq5)] [] σ) (fun _ _ _ => k_none) (fun L10 hL10 xq3 xq5 σ => t_X11_unpack_L10b B   K247 hK247  L10 hL10 xq3 xq5 σ) n
set_option maxHeartbeats 4000000 in
set_option maxRecDepth 100000 in
theorem t_X11_unpack_247 {E : En} {G : Cx} (B : Bx E G cX11_unpack 11 RX11 H_X11_unpack none) (xq3 : Int64)   (σ : Mm) : KR E G 11 (ZV E G) (f_X11_unpack_247 xq3 σ) 247 [(0, .ref (ad E 48)), (3, .long xq3)] [] σ := by
  have F := B.1
  unfold f_X11_unpack_247
  refine k_aload_n (pc := 247) F 0 0 dX11_unpack_247 rfl rfl ?_
  refine gf_48_39 (pc := 248) F w_4_209 dX11_unpack_248 ?_
  refine k_iconst (pc := 251) F (v := (0 : Int32)) dX11_unpack_251 ci_0 ?_
  refine k_lload_n (pc := 252) F 3 1 dX11_unpack_252 rfl rfl ?_
  refine k_ldc2 (pc := 253) F (v := (16 : Int64)) w_6_26 dX11_unpack_253 ?_
  refine k_ldiv (pc := 256) F dX11_unpack_256 (by decide) ?_
  refine k_l2i (pc := 257) F dX11_unpack_257 ?_
  refine k_iast (pc := 258) F rfl dX11_unpack_258 (fun σ18 => ?_)
  refine k_aload_n (pc := 259) F 0 0 dX11_unpack_259 rfl rfl ?_
  refine gf_48_39 (pc := 260) F w_4_209 dX11_unpack_260 ?_
  refine k_iconst (pc := 263) F (v := (1 : Int32)) dX11_unpack_263 ci_1 ?_
  refine k_lload_n (pc := 264) F 3 1 dX11_unpack_264 rfl rfl ?_
  refine k_ldc2 (pc := 265) F (v := (4 : Int64)) w_6_27 dX11_unpack_265 ?_
  refine k_ldiv (pc := 268) F dX11_unpack_268 (by decide) ?_
  refine k_ldc2 (pc := 269) F (v := (4 : Int64)) w_6_27 dX11_unpack_269 ?_
  refine k_lrem (pc := 272) F dX11_unpack_272 (by decide) ?_
  refine k_l2i (pc := 273) F dX11_unpack_273 ?_
  refine k_iast (pc := 274) F rfl dX11_unpack_274 (fun σ19 => ?_)
  refine k_aload_n (pc := 275) F 0 0 dX11_unpack_275 rfl rfl ?_
  refine gf_48_39 (pc := 276) F w_4_209 dX11_unpack_276 ?_
  refine k_iconst (pc := 279) F (v := (2 : Int32)) dX11_unpack_279 ci_2 ?_
  refine k_lload_n (pc := 280) F 3 1 dX11_unpack_280 rfl rfl ?_
  refine k_ldc2 (pc := 281) F (v := (4 : Int64)) w_6_27 dX11_unpack_281 ?_
  refine k_lrem (pc := 284) F dX11_unpack_284 (by decide) ?_
  refine k_l2i (pc := 285) F dX11_unpack_285 ?_
  refine k_iast (pc := 286) F rfl dX11_unpack_286 (fun σ20 => ?_)
  exact k_vret (pc := 287) B dX11_unpack_287
set_option maxHeartbeats 4000000 in
set_option maxRecDepth 100000 in
theorem t_X11_unpack {E : En} {G : Cx} (B : Bx E G cX11_unpack 11 RX11 H_X11_unpack none) (aq0 : Int64)  (σ : Mm) : KR E G 11 (ZV E G) (f_X11_unpack aq0 σ) 0 [(0, .ref (ad E 48)), (1, .long aq0)] [] σ := by
  have F := B.1
  unfold f_X11_unpack
  refine k_lload_n (pc := 0) F 1 1 dX11_unpack_0 rfl rfl ?_
  refine k_lstore_n F (lv' := [(3, .long aq0), (0, .ref (ad E 48)), (1, .long aq0)]) 3 dX11_unpack_1 rfl (by decide) rfl ?_
  refine k_aload_n (pc := 2) F 0 1 dX11_unpack_2 rfl rfl ?_
  refine gf_48_7 (pc := 3) F w_4_177 dX11_unpack_3 ?_
  refine k_iconst (pc := 6) F (v := (1 : Int32)) dX11_unpack_6 ci_1 ?_
  refine k_isub (pc := 7) F dX11_unpack_7 ?_
  refine k_nmI (fun vq1 => ?_)
  refine k_istore F (lv' := [(5, .int vq1), (3, .long aq0), (0, .ref (ad E 48)), (1, .long aq0)]) 5 dX11_unpack_8 (by decide) rfl ?_
  exact k_sub [2, 1, 0] rfl (t_X11_unpack_L10 B   _ (fun xq3  σ => by
        exact k_sub [0, 1] rfl (t_X11_unpack_247 B xq3   σ)) FU aq0 vq1  σ)
set_option maxHeartbeats 4000000 in
set_option maxRecDepth 100000 in
theorem ct_X11_unpack (E : En) (aq0 : Int64)  (σ : Mm) : CtV E yX11_unpack cX11_unpack 11 none H_X11_unpack [.ref (ad E 48), .long aq0] σ (f_X11_unpack aq0 σ) := ct_V (by decide) (Nat.le_of_ble_eq_true rfl) rfl (fun G B => t_X11_unpack B aq0  σ)
abbrev H_X11_isEnd : Nat := 0
set_option maxHeartbeats 4000000 in
set_option maxRecDepth 100000 in
theorem t_X11_isEnd_45 {E : En} {G : Cx} (B : Bx E G cX11_isEnd 3 RX11 H_X11_isEnd (some .boolean)) (xq2 : Int32) (xqs0 : Int32)  (L4 : Int32 → Int32 → Mm → Option (Int32 × Mm)) (hL4 : ∀ (xq1 : Int32) (xq2 : Int32)  (σ : Mm), KR E G 3 (ZI E G) (L4 xq1 xq2 σ) 4 [(0, .ref (ad E 48)), (1, .int xq1), (2, .int xq2)] [] σ)  (σ : Mm) : KR E G 3 (ZI E G) (f_X11_isEnd_45 L4 xq2 xqs0 σ) 45 [(0, .ref (ad E 48)), (2, .int xq2)] [.int xqs0] σ := by
  have F := B.1
  unfold f_X11_isEnd_45
  refine k_istore_n F (lv' := [(1, .int xqs0), (0, .ref (ad E 48)), (2, .int xq2)]) 1 dX11_isEnd_45 rfl (by decide) rfl ?_
  refine k_iinc (pc := 46) F (c := (1 : Int32)) (lw := fun wq => [(2, .int wq), (1, .int xqs0), (0, .ref (ad E 48))]) 2 2 dX11_isEnd_46 rfl ci_1 (by decide) (fun _ => rfl) (fun vq1 => ?_)
  refine k_goto (pc := 49) F 4 dX11_isEnd_49 (by decide) ?_
  exact k_sub [2, 1, 0] rfl (hL4 xqs0 vq1 σ)
set_option maxHeartbeats 4000000 in
set_option maxRecDepth 100000 in
theorem t_X11_isEnd_44 {E : En} {G : Cx} (B : Bx E G cX11_isEnd 3 RX11 H_X11_isEnd (some .boolean)) (xq2 : Int32)  (L4 : Int32 → Int32 → Mm → Option (Int32 × Mm)) (hL4 : ∀ (xq1 : Int32) (xq2 : Int32)  (σ : Mm), KR E G 3 (ZI E G) (L4 xq1 xq2 σ) 4 [(0, .ref (ad E 48)), (1, .int xq1), (2, .int xq2)] [] σ)  (σ : Mm) : KR E G 3 (ZI E G) (f_X11_isEnd_44 L4 xq2 σ) 44 [(0, .ref (ad E 48)), (2, .int xq2)] [] σ := by
  have F := B.1
  unfold f_X11_isEnd_44
  refine k_iconst (pc := 44) F (v := (0 : Int32)) dX11_isEnd_44 ci_0 ?_
  exact k_sub [0, 1] rfl (t_X11_isEnd_45 B xq2 (0 : Int32)  L4 hL4  σ)
set_option maxHeartbeats 4000000 in
set_option maxRecDepth 100000 in
theorem t_X11_isEnd_L4b {E : En} {G : Cx} (B : Bx E G cX11_isEnd 3 RX11 H_X11_isEnd (some .boolean))    (L4 : Int32 → Int32 → Mm → Option (Int32 × Mm)) (hL4 : ∀ (xq1 : Int32) (xq2 : Int32)  (σ : Mm), KR E G 3 (ZI E G) (L4 xq1 xq2 σ) 4 [(0, .ref (ad E 48)), (1, .int xq1), (2, .int xq2)] [] σ) (xq1 : Int32) (xq2 : Int32)  (σ : Mm) : KR E G 3 (ZI E G) (f_X11_isEnd_L4  L4 xq1 xq2 σ) 4 [(0, .ref (ad E 48)), (1, .int xq1), (2, .int xq2)] [] σ := by
  have F := B.1
  unfold f_X11_isEnd_L4
  refine k_iload_n (pc := 4) F 2 2 dX11_isEnd_4 rfl rfl ?_
  refine k_aload_n (pc := 5) F 0 0 dX11_isEnd_5 rfl rfl ?_
  refine gf_48_7 (pc := 6) F w_4_177 dX11_isEnd_6 ?_
  refine k_icmp_ge (pc := 9) F 52 dX11_isEnd_9 (by decide) (fun _ => ?_) (fun _ => ?_)
  · refine k_iload_n (pc := 52) F 1 1 dX11_isEnd_52 rfl rfl ?_
    exact k_zret (pc := 53) B dX11_isEnd_53
  · refine k_iload_n (pc := 12) F 1 1 dX11_isEnd_12 rfl rfl ?_
    refine k_if_eq (pc := 13) F 44 dX11_isEnd_13 (by decide) (fun _ => ?_) (fun _ => ?_)
    · exact k_sub [0, 2] rfl (t_X11_isEnd_44 B xq2  L4 hL4  σ)
    · refine k_aload_n (pc := 16) F 0 0 dX11_isEnd_16 rfl rfl ?_
      refine gf_48_40 (pc := 17) F w_4_210 dX11_isEnd_17 ?_
      refine k_iload_n (pc := 20) F 2 2 dX11_isEnd_20 rfl rfl ?_
      refine k_iald (pc := 21) F rfl dX11_isEnd_21 ?_
      refine k_aload_n (pc := 22) F 0 0 dX11_isEnd_22 rfl rfl ?_
      refine gf_48_9 (pc := 23) F w_4_179 dX11_isEnd_23 ?_
      refine k_iload_n (pc := 26) F 2 2 dX11_isEnd_26 rfl rfl ?_
      refine k_iald (pc := 27) F rfl dX11_isEnd_27 ?_
      refine k_icmp_ne (pc := 28) F 44 dX11_isEnd_28 (by decide) (fun _ => ?_) (fun _ => ?_)
      · refine k_aload_n (pc := 31) F 0 0 dX11_isEnd_31 rfl rfl ?_
        refine gf_48_44 (pc := 32) F w_4_214 dX11_isEnd_32 ?_
        refine k_iload_n (pc := 35) F 2 2 dX11_isEnd_35 rfl rfl ?_
        refine k_iald (pc := 36) F rfl dX11_isEnd_36 ?_
        refine k_if_ne (pc := 37) F 44 dX11_isEnd_37 (by decide) (fun _ => ?_) (fun _ => ?_)
        · refine k_iconst (pc := 40) F (v := (1 : Int32)) dX11_isEnd_40 ci_1 ?_
          refine k_goto (pc := 41) F 45 dX11_isEnd_41 (by decide) ?_
          exact k_sub [0, 2] rfl (t_X11_isEnd_45 B xq2 (1 : Int32)  L4 hL4  σ)
        · exact k_sub [0, 2] rfl (t_X11_isEnd_44 B xq2  L4 hL4  σ)
      · exact k_sub [0, 2] rfl (t_X11_isEnd_44 B xq2  L4 hL4  σ)
set_option maxHeartbeats 4000000 in
set_option maxRecDepth 100000 in
theorem t_X11_isEnd_L4 {E : En} {G : Cx} (B : Bx E G cX11_isEnd 3 RX11 H_X11_isEnd (some .boolean))    : ∀ (n : Nat) (xq1 : Int32) (xq2 : Int32)  (σ : Mm), KR E G 3 (ZI E G) (fx (fun _ _ _ => none) n (f_X11_isEnd_L4 ) xq1 xq2 σ) 4 [(0, .ref (ad E 48)), (1, .int xq1), (2, .int xq2)] [] σ :=
  fun n => fx_ind (P := fun f => ∀ (xq1 : Int32) (xq2 : Int32)  (σ : Mm), KR E G 3 (ZI E G) (f xq1 xq2 σ) 4 [(0, .ref (ad E 48)), (1, .int xq1), (2, .int xq2)] [] σ) (fun _ _ _ => k_none) (fun L4 hL4 xq1 xq2 σ => t_X11_isEnd_L4b B    L4 hL4 xq1 xq2 σ) n
set_option maxHeartbeats 4000000 in
set_option maxRecDepth 100000 in
theorem t_X11_isEnd {E : En} {G : Cx} (B : Bx E G cX11_isEnd 3 RX11 H_X11_isEnd (some .boolean))   (σ : Mm) : KR E G 3 (ZI E G) (f_X11_isEnd  σ) 0 [(0, .ref (ad E 48))] [] σ := by
  have F := B.1
  unfold f_X11_isEnd
  refine k_iconst (pc := 0) F (v := (1 : Int32)) dX11_isEnd_0 ci_1 ?_
  refine k_istore_n F (lv' := [(1, .int (1 : Int32)), (0, .ref (ad E 48))]) 1 dX11_isEnd_1 rfl (by decide) rfl ?_
  refine k_iconst (pc := 2) F (v := (0 : Int32)) dX11_isEnd_2 ci_0 ?_
  refine k_istore_n F (lv' := [(2, .int (0 : Int32)), (1, .int (1 : Int32)), (0, .ref (ad E 48))]) 2 dX11_isEnd_3 rfl (by decide) rfl ?_
  exact k_sub [2, 1, 0] rfl (t_X11_isEnd_L4 B    FU (1 : Int32) (0 : Int32)  σ)
set_option maxHeartbeats 4000000 in
set_option maxRecDepth 100000 in
theorem ct_X11_isEnd (E : En)   (σ : Mm) : CtI E yX11_isEnd cX11_isEnd 3 (some .boolean) H_X11_isEnd [.ref (ad E 48)] σ (f_X11_isEnd  σ) := ct_I (by decide) (Nat.le_of_ble_eq_true rfl) rfl (fun G B => t_X11_isEnd B   σ)
abbrev H_X11_resultNow : Nat := 0
set_option maxHeartbeats 4000000 in
set_option maxRecDepth 100000 in
theorem t_X11_resultNow_L28b {E : En} {G : Cx} (B : Bx E G cX11_resultNow 3 RX11 H_X11_resultNow (some .int))    (L28 : Int32 → Int32 → Mm → Option (Int32 × Mm)) (hL28 : ∀ (xq1 : Int32) (xq2 : Int32)  (σ : Mm), KR E G 3 (ZI E G) (L28 xq1 xq2 σ) 28 [(0, .ref (ad E 48)), (1, .int xq1), (2, .int xq2)] [] σ) (xq1 : Int32) (xq2 : Int32)  (σ : Mm) : KR E G 3 (ZI E G) (f_X11_resultNow_L28  L28 xq1 xq2 σ) 28 [(0, .ref (ad E 48)), (1, .int xq1), (2, .int xq2)] [] σ := by
  have F := B.1
  unfold f_X11_resultNow_L28
  refine k_iload_n (pc := 28) F 2 2 dX11_resultNow_28 rfl rfl ?_
  refine k_aload_n (pc := 29) F 0 0 dX11_resultNow_29 rfl rfl ?_
  refine gf_48_7 (pc := 30) F w_4_177 dX11_resultNow_30 ?_
  refine k_icmp_ge (pc := 33) F 63 dX11_resultNow_33 (by decide) (fun _ => ?_) (fun _ => ?_)
  · refine k_iload_n (pc := 63) F 1 1 dX11_resultNow_63 rfl rfl ?_
    exact k_iret (pc := 64) B dX11_resultNow_64
  · refine k_bipush (pc := 36) F (v := (16 : Int32)) dX11_resultNow_36 cb_16 ?_
    refine k_iload_n (pc := 38) F 1 1 dX11_resultNow_38 rfl rfl ?_
    refine k_imul (pc := 39) F dX11_resultNow_39 ?_
    refine k_iconst (pc := 40) F (v := (4 : Int32)) dX11_resultNow_40 ci_4 ?_
    refine k_aload_n (pc := 41) F 0 0 dX11_resultNow_41 rfl rfl ?_
    refine gf_48_42 (pc := 42) F w_4_212 dX11_resultNow_42 ?_
    refine k_iload_n (pc := 45) F 2 2 dX11_resultNow_45 rfl rfl ?_
    refine k_iald (pc := 46) F rfl dX11_resultNow_46 ?_
    refine k_imul (pc := 47) F dX11_resultNow_47 ?_
    refine k_iadd (pc := 48) F dX11_resultNow_48 ?_
    refine k_aload_n (pc := 49) F 0 0 dX11_resultNow_49 rfl rfl ?_
    refine gf_48_43 (pc := 50) F w_4_213 dX11_resultNow_50 ?_
    refine k_iload_n (pc := 53) F 2 2 dX11_resultNow_53 rfl rfl ?_
    refine k_iald (pc := 54) F rfl dX11_resultNow_54 ?_
    refine k_iadd (pc := 55) F dX11_resultNow_55 ?_
    refine k_nmI (fun vq2 => ?_)
    refine k_istore_n F (lv' := [(1, .int vq2), (0, .ref (ad E 48)), (2, .int xq2)]) 1 dX11_resultNow_56 rfl (by decide) rfl ?_
    refine k_iinc (pc := 57) F (c := (1 : Int32)) (lw := fun wq => [(2, .int wq), (1, .int vq2), (0, .ref (ad E 48))]) 2 2 dX11_resultNow_57 rfl ci_1 (by decide) (fun _ => rfl) (fun vq3 => ?_)
    refine k_goto (pc := 60) F 28 dX11_resultNow_60 (by decide) ?_
    exact k_sub [2, 1, 0] rfl (hL28 vq2 vq3 σ)
set_option maxHeartbeats 4000000 in
set_option maxRecDepth 100000 in
theorem t_X11_resultNow_L28 {E : En} {G : Cx} (B : Bx E G cX11_resultNow 3 RX11 H_X11_resultNow (some .int))    : ∀ (n : Nat) (xq1 : Int32) (xq2 : Int32)  (σ : Mm), KR E G 3 (ZI E G) (fx (fun _ _ _ => none) n (f_X11_resultNow_L28 ) xq1 xq2 σ) 28 [(0, .ref (ad E 48)), (1, .int xq1), (2, .int xq2)] [] σ :=
  fun n => fx_ind (P := fun f => ∀ (xq1 : Int32) (xq2 : Int32)  (σ : Mm), KR E G 3 (ZI E G) (f xq1 xq2 σ) 28 [(0, .ref (ad E 48)), (1, .int xq1), (2, .int xq2)] [] σ) (fun _ _ _ => k_none) (fun L28 hL28 xq1 xq2 σ => t_X11_resultNow_L28b B    L28 hL28 xq1 xq2 σ) n
set_option maxHeartbeats 4000000 in
set_option maxRecDepth 100000 in
theorem t_X11_resultNow {E : En} {G : Cx} (B : Bx E G cX11_resultNow 3 RX11 H_X11_resultNow (some .int))   (σ : Mm) : KR E G 3 (ZI E G) (f_X11_resultNow  σ) 0 [(0, .ref (ad E 48))] [] σ := by
  have F := B.1
  unfold f_X11_resultNow
  refine k_bipush (pc := 0) F (v := (16 : Int32)) dX11_resultNow_0 cb_16 ?_
  refine k_aload_n (pc := 2) F 0 0 dX11_resultNow_2 rfl rfl ?_
  refine gf_48_39 (pc := 3) F w_4_209 dX11_resultNow_3 ?_
  refine k_iconst (pc := 6) F (v := (0 : Int32)) dX11_resultNow_6 ci_0 ?_
  refine k_iald (pc := 7) F rfl dX11_resultNow_7 ?_
  refine k_imul (pc := 8) F dX11_resultNow_8 ?_
  refine k_iconst (pc := 9) F (v := (4 : Int32)) dX11_resultNow_9 ci_4 ?_
  refine k_aload_n (pc := 10) F 0 0 dX11_resultNow_10 rfl rfl ?_
  refine gf_48_39 (pc := 11) F w_4_209 dX11_resultNow_11 ?_
  refine k_iconst (pc := 14) F (v := (1 : Int32)) dX11_resultNow_14 ci_1 ?_
  refine k_iald (pc := 15) F rfl dX11_resultNow_15 ?_
  refine k_imul (pc := 16) F dX11_resultNow_16 ?_
  refine k_iadd (pc := 17) F dX11_resultNow_17 ?_
  refine k_aload_n (pc := 18) F 0 0 dX11_resultNow_18 rfl rfl ?_
  refine gf_48_39 (pc := 19) F w_4_209 dX11_resultNow_19 ?_
  refine k_iconst (pc := 22) F (v := (2 : Int32)) dX11_resultNow_22 ci_2 ?_
  refine k_iald (pc := 23) F rfl dX11_resultNow_23 ?_
  refine k_iadd (pc := 24) F dX11_resultNow_24 ?_
  refine k_nmI (fun vq1 => ?_)
  refine k_istore_n F (lv' := [(1, .int vq1), (0, .ref (ad E 48))]) 1 dX11_resultNow_25 rfl (by decide) rfl ?_
  refine k_iconst (pc := 26) F (v := (0 : Int32)) dX11_resultNow_26 ci_0 ?_
  refine k_istore_n F (lv' := [(2, .int (0 : Int32)), (1, .int vq1), (0, .ref (ad E 48))]) 2 dX11_resultNow_27 rfl (by decide) rfl ?_
  exact k_sub [2, 1, 0] rfl (t_X11_resultNow_L28 B    FU vq1 (0 : Int32)  σ)
set_option maxHeartbeats 4000000 in
set_option maxRecDepth 100000 in
theorem ct_X11_resultNow (E : En)   (σ : Mm) : CtI E yX11_resultNow cX11_resultNow 3 (some .int) H_X11_resultNow [.ref (ad E 48)] σ (f_X11_resultNow  σ) := ct_I (by decide) (Nat.le_of_ble_eq_true rfl) rfl (fun G B => t_X11_resultNow B   σ)
abbrev H_X11_stepNow : Nat := 0
set_option maxHeartbeats 4000000 in
set_option maxRecDepth 100000 in
theorem t_X11_stepNow {E : En} {G : Cx} (B : Bx E G cX11_stepNow 2 RX11 H_X11_stepNow (some .int)) (aq0 : Int32)  (σ : Mm) : KR E G 2 (ZI E G) (f_X11_stepNow aq0 σ) 0 [(0, .ref (ad E 48)), (1, .int aq0)] [] σ := by
  have F := B.1
  unfold f_X11_stepNow
  refine k_bipush (pc := 0) F (v := (14 : Int32)) dX11_stepNow_0 cb_14 ?_
  refine k_aload_n (pc := 2) F 0 0 dX11_stepNow_2 rfl rfl ?_
  refine gf_48_8 (pc := 3) F w_4_178 dX11_stepNow_3 ?_
  refine k_iconst (pc := 6) F (v := (2 : Int32)) dX11_stepNow_6 ci_2 ?_
  refine k_iload_n (pc := 7) F 1 1 dX11_stepNow_7 rfl rfl ?_
  refine k_imul (pc := 8) F dX11_stepNow_8 ?_
  refine k_aload_n (pc := 9) F 0 0 dX11_stepNow_9 rfl rfl ?_
  refine gf_48_40 (pc := 10) F w_4_210 dX11_stepNow_10 ?_
  refine k_iload_n (pc := 13) F 1 1 dX11_stepNow_13 rfl rfl ?_
  refine k_iald (pc := 14) F rfl dX11_stepNow_14 ?_
  refine k_iadd (pc := 15) F dX11_stepNow_15 ?_
  refine k_iald (pc := 16) F rfl dX11_stepNow_16 ?_
  refine k_imul (pc := 17) F dX11_stepNow_17 ?_
  refine k_aload_n (pc := 18) F 0 0 dX11_stepNow_18 rfl rfl ?_
  refine gf_48_41 (pc := 19) F w_4_211 dX11_stepNow_19 ?_
  refine k_iload_n (pc := 22) F 1 1 dX11_stepNow_22 rfl rfl ?_
  refine k_iald (pc := 23) F rfl dX11_stepNow_23 ?_
  refine k_iadd (pc := 24) F dX11_stepNow_24 ?_
  exact k_iret (pc := 25) B dX11_stepNow_25
set_option maxHeartbeats 4000000 in
set_option maxRecDepth 100000 in
theorem ct_X11_stepNow (E : En) (aq0 : Int32)  (σ : Mm) : CtI E yX11_stepNow cX11_stepNow 2 (some .int) H_X11_stepNow [.ref (ad E 48), .int aq0] σ (f_X11_stepNow aq0 σ) := ct_I (by decide) (Nat.le_of_ble_eq_true rfl) rfl (fun G B => t_X11_stepNow B aq0  σ)
abbrev H_X11_can : Nat := 1
theorem hR_X11_can_X11_stepNow : H_X11_stepNow + 1 ≤ H_X11_can ∧ 8 + (2 + 11) + 40 * H_X11_stepNow ≤ 40 * H_X11_can := by decide
set_option maxHeartbeats 4000000 in
set_option maxRecDepth 100000 in
theorem t_X11_can_115 {E : En} {G : Cx} (B : Bx E G cX11_can 4 RX11 H_X11_can (some .boolean)) (xq1 : Int32)   (σ : Mm) : KR E G 4 (ZI E G) (f_X11_can_115 xq1 σ) 115 [(0, .ref (ad E 48)), (1, .int xq1)] [] σ := by
  have F := B.1
  unfold f_X11_can_115
  refine k_aload_n (pc := 115) F 0 0 dX11_can_115 rfl rfl ?_
  refine gf_48_44 (pc := 116) F w_4_214 dX11_can_116 ?_
  refine k_iload_n (pc := 119) F 1 1 dX11_can_119 rfl rfl ?_
  refine k_iald (pc := 120) F rfl dX11_can_120 ?_
  refine k_if_ne (pc := 121) F 128 dX11_can_121 (by decide) (fun _ => ?_) (fun _ => ?_)
  · refine k_iconst (pc := 124) F (v := (1 : Int32)) dX11_can_124 ci_1 ?_
    refine k_goto (pc := 125) F 129 dX11_can_125 (by decide) ?_
    exact k_zret (pc := 129) B dX11_can_129
  · refine k_iconst (pc := 128) F (v := (0 : Int32)) dX11_can_128 ci_0 ?_
    exact k_zret (pc := 129) B dX11_can_129
set_option maxHeartbeats 4000000 in
set_option maxRecDepth 100000 in
theorem t_X11_can_33 {E : En} {G : Cx} (B : Bx E G cX11_can 4 RX11 H_X11_can (some .boolean))    (σ : Mm) : KR E G 4 (ZI E G) (f_X11_can_33  σ) 33 [] [] σ := by
  have F := B.1
  unfold f_X11_can_33
  refine k_iconst (pc := 33) F (v := (0 : Int32)) dX11_can_33 ci_0 ?_
  exact k_zret (pc := 34) B dX11_can_34
set_option maxHeartbeats 4000000 in
set_option maxRecDepth 100000 in
theorem t_X11_can {E : En} {G : Cx} (B : Bx E G cX11_can 4 RX11 H_X11_can (some .boolean)) (aq0 : Int32) (aq1 : Int32)  (σ : Mm) : KR E G 4 (ZI E G) (f_X11_can aq0 aq1 σ) 0 [(0, .ref (ad E 48)), (1, .int aq0), (2, .int aq1)] [] σ := by
  have F := B.1
  unfold f_X11_can
  refine k_iload_n (pc := 0) F 1 1 dX11_can_0 rfl rfl ?_
  refine k_bipush (pc := 1) F (v := (10 : Int32)) dX11_can_1 cb_10 ?_
  refine k_icmp_lt (pc := 3) F 35 dX11_can_3 (by decide) (fun _ => ?_) (fun _ => ?_)
  · refine k_iload_n (pc := 35) F 1 1 dX11_can_35 rfl rfl ?_
    refine k_if_lt (pc := 36) F 62 dX11_can_36 (by decide) (fun _ => ?_) (fun _ => ?_)
    · refine k_iconst (pc := 62) F (v := (0 : Int32)) dX11_can_62 ci_0 ?_
      exact k_zret (pc := 63) B dX11_can_63
    · refine k_iload_n (pc := 39) F 1 1 dX11_can_39 rfl rfl ?_
      refine k_aload_n (pc := 40) F 0 0 dX11_can_40 rfl rfl ?_
      refine gf_48_7 (pc := 41) F w_4_177 dX11_can_41 ?_
      refine k_icmp_ge (pc := 44) F 62 dX11_can_44 (by decide) (fun _ => ?_) (fun _ => ?_)
      · refine k_iconst (pc := 62) F (v := (0 : Int32)) dX11_can_62 ci_0 ?_
        exact k_zret (pc := 63) B dX11_can_63
      · refine k_aload_n (pc := 47) F 0 0 dX11_can_47 rfl rfl ?_
        refine gf_48_40 (pc := 48) F w_4_210 dX11_can_48 ?_
        refine k_iload_n (pc := 51) F 1 1 dX11_can_51 rfl rfl ?_
        refine k_iald (pc := 52) F rfl dX11_can_52 ?_
        refine k_aload_n (pc := 53) F 0 0 dX11_can_53 rfl rfl ?_
        refine gf_48_9 (pc := 54) F w_4_179 dX11_can_54 ?_
        refine k_iload_n (pc := 57) F 1 1 dX11_can_57 rfl rfl ?_
        refine k_iald (pc := 58) F rfl dX11_can_58 ?_
        refine k_icmp_ne (pc := 59) F 64 dX11_can_59 (by decide) (fun _ => ?_) (fun _ => ?_)
        · refine k_iconst (pc := 62) F (v := (0 : Int32)) dX11_can_62 ci_0 ?_
          exact k_zret (pc := 63) B dX11_can_63
        · refine k_aload_n (pc := 64) F 0 0 dX11_can_64 rfl rfl ?_
          refine gf_48_31 (pc := 65) F w_4_201 dX11_can_65 ?_
          refine k_aload_n (pc := 68) F 0 0 dX11_can_68 rfl rfl ?_
          refine k_iload_n (pc := 69) F 1 1 dX11_can_69 rfl rfl ?_
          refine k_callVI (pc := 70) B (k := 48) (As := [.int aq0]) (rest := [.ref (ad E 67)]) (ct_X11_stepNow E aq0  σ) rfl rfl mv_X11_stepNow w_6_58 rfl hR_X11_can_X11_stepNow rfl (Nat.le_of_ble_eq_true rfl) dX11_can_70 (fun rq2 σ1 hoq => ?_)
          refine k_iald (pc := 73) F rfl dX11_can_73 ?_
          refine k_nmI (fun vq3 => ?_)
          refine k_istore_n F (lv' := [(3, .int vq3), (0, .ref (ad E 48)), (1, .int aq0), (2, .int aq1)]) 3 dX11_can_74 rfl (by decide) rfl ?_
          refine k_iload_n (pc := 75) F 3 0 dX11_can_75 rfl rfl ?_
          refine k_iconst (pc := 76) F (v := (2 : Int32)) dX11_can_76 ci_2 ?_
          refine k_icmp_ne (pc := 77) F 100 dX11_can_77 (by decide) (fun _ => ?_) (fun _ => ?_)
          · refine k_iload_n (pc := 80) F 2 3 dX11_can_80 rfl rfl ?_
            refine k_if_eq (pc := 81) F 94 dX11_can_81 (by decide) (fun _ => ?_) (fun _ => ?_)
            · refine k_iconst (pc := 94) F (v := (1 : Int32)) dX11_can_94 ci_1 ?_
              refine k_goto (pc := 95) F 99 dX11_can_95 (by decide) ?_
              exact k_zret (pc := 99) B dX11_can_99
            · refine k_aload_n (pc := 84) F 0 1 dX11_can_84 rfl rfl ?_
              refine gf_48_44 (pc := 85) F w_4_214 dX11_can_85 ?_
              refine k_iload_n (pc := 88) F 1 2 dX11_can_88 rfl rfl ?_
              refine k_iald (pc := 89) F rfl dX11_can_89 ?_
              refine k_iconst (pc := 90) F (v := (2 : Int32)) dX11_can_90 ci_2 ?_
              refine k_icmp_ge (pc := 91) F 98 dX11_can_91 (by decide) (fun _ => ?_) (fun _ => ?_)
              · refine k_iconst (pc := 98) F (v := (0 : Int32)) dX11_can_98 ci_0 ?_
                exact k_zret (pc := 99) B dX11_can_99
              · refine k_iconst (pc := 94) F (v := (1 : Int32)) dX11_can_94 ci_1 ?_
                refine k_goto (pc := 95) F 99 dX11_can_95 (by decide) ?_
                exact k_zret (pc := 99) B dX11_can_99
          · refine k_iload_n (pc := 100) F 3 0 dX11_can_100 rfl rfl ?_
            refine k_iconst (pc := 101) F (v := (3 : Int32)) dX11_can_101 ci_3 ?_
            refine k_icmp_eq (pc := 102) F 115 dX11_can_102 (by decide) (fun _ => ?_) (fun _ => ?_)
            · exact k_sub [1, 2] rfl (t_X11_can_115 B aq0   σ1)
            · refine k_iload_n (pc := 105) F 3 0 dX11_can_105 rfl rfl ?_
              refine k_iconst (pc := 106) F (v := (4 : Int32)) dX11_can_106 ci_4 ?_
              refine k_icmp_eq (pc := 107) F 115 dX11_can_107 (by decide) (fun _ => ?_) (fun _ => ?_)
              · exact k_sub [1, 2] rfl (t_X11_can_115 B aq0   σ1)
              · refine k_iload_n (pc := 110) F 3 0 dX11_can_110 rfl rfl ?_
                refine k_iconst (pc := 111) F (v := (5 : Int32)) dX11_can_111 ci_5 ?_
                refine k_icmp_ne (pc := 112) F 124 dX11_can_112 (by decide) (fun _ => ?_) (fun _ => ?_)
                · exact k_sub [1, 2] rfl (t_X11_can_115 B aq0   σ1)
                · refine k_iconst (pc := 124) F (v := (1 : Int32)) dX11_can_124 ci_1 ?_
                  refine k_goto (pc := 125) F 129 dX11_can_125 (by decide) ?_
                  exact k_zret (pc := 129) B dX11_can_129
  · refine k_iload_n (pc := 6) F 1 1 dX11_can_6 rfl rfl ?_
    refine k_bipush (pc := 7) F (v := (10 : Int32)) dX11_can_7 cb_10 ?_
    refine k_isub (pc := 9) F dX11_can_9 ?_
    refine k_aload_n (pc := 10) F 0 0 dX11_can_10 rfl rfl ?_
    refine gf_48_7 (pc := 11) F w_4_177 dX11_can_11 ?_
    refine k_icmp_ge (pc := 14) F 33 dX11_can_14 (by decide) (fun _ => ?_) (fun _ => ?_)
    · exact k_sub [] rfl (t_X11_can_33 B    σ)
    · refine k_aload_n (pc := 17) F 0 0 dX11_can_17 rfl rfl ?_
      refine gf_48_44 (pc := 18) F w_4_214 dX11_can_18 ?_
      refine k_iload_n (pc := 21) F 1 1 dX11_can_21 rfl rfl ?_
      refine k_bipush (pc := 22) F (v := (10 : Int32)) dX11_can_22 cb_10 ?_
      refine k_isub (pc := 24) F dX11_can_24 ?_
      refine k_iald (pc := 25) F rfl dX11_can_25 ?_
      refine k_if_le (pc := 26) F 33 dX11_can_26 (by decide) (fun _ => ?_) (fun _ => ?_)
      · exact k_sub [] rfl (t_X11_can_33 B    σ)
      · refine k_iconst (pc := 29) F (v := (1 : Int32)) dX11_can_29 ci_1 ?_
        refine k_goto (pc := 30) F 34 dX11_can_30 (by decide) ?_
        exact k_zret (pc := 34) B dX11_can_34
set_option maxHeartbeats 4000000 in
set_option maxRecDepth 100000 in
theorem ct_X11_can (E : En) (aq0 : Int32) (aq1 : Int32)  (σ : Mm) : CtI E yX11_can cX11_can 4 (some .boolean) H_X11_can [.ref (ad E 48), .int aq0, .int aq1] σ (f_X11_can aq0 aq1 σ) := ct_I (by decide) (Nat.le_of_ble_eq_true rfl) rfl (fun G B => t_X11_can B aq0 aq1  σ)
abbrev H_X11_waiting : Nat := 0
set_option maxHeartbeats 4000000 in
set_option maxRecDepth 100000 in
theorem t_X11_waiting_46 {E : En} {G : Cx} (B : Bx E G cX11_waiting 5 RX11 H_X11_waiting (some .int)) (xq1 : Int32) (xq2 : Int32) (xq4 : Int32) (xqs0 : Int32)  (L5 : Int32 → Int32 → Mm → Option (Int32 × Mm)) (hL5 : ∀ (xq3 : Int32) (xq4 : Int32)  (σ : Mm), KR E G 5 (ZI E G) (L5 xq3 xq4 σ) 5 [(0, .ref (ad E 48)), (1, .int xq1), (2, .int xq2), (3, .int xq3), (4, .int xq4)] [] σ)  (σ : Mm) : KR E G 5 (ZI E G) (f_X11_waiting_46 L5 xq1 xq2 xq4 xqs0 σ) 46 [(0, .ref (ad E 48)), (1, .int xq1), (2, .int xq2), (4, .int xq4)] [.int xqs0] σ := by
  have F := B.1
  unfold f_X11_waiting_46
  refine k_istore_n F (lv' := [(3, .int xqs0), (0, .ref (ad E 48)), (1, .int xq1), (2, .int xq2), (4, .int xq4)]) 3 dX11_waiting_46 rfl (by decide) rfl ?_
  refine k_iinc (pc := 47) F (c := (1 : Int32)) (lw := fun wq => [(4, .int wq), (3, .int xqs0), (0, .ref (ad E 48)), (1, .int xq1), (2, .int xq2)]) 4 4 dX11_waiting_47 rfl ci_1 (by decide) (fun _ => rfl) (fun vq1 => ?_)
  refine k_goto (pc := 50) F 5 dX11_waiting_50 (by decide) ?_
  exact k_sub [2, 3, 4, 1, 0] rfl (hL5 xqs0 vq1 σ)
set_option maxHeartbeats 4000000 in
set_option maxRecDepth 100000 in
theorem t_X11_waiting_L5b {E : En} {G : Cx} (B : Bx E G cX11_waiting 5 RX11 H_X11_waiting (some .int)) (xq1 : Int32) (xq2 : Int32)   (L5 : Int32 → Int32 → Mm → Option (Int32 × Mm)) (hL5 : ∀ (xq3 : Int32) (xq4 : Int32)  (σ : Mm), KR E G 5 (ZI E G) (L5 xq3 xq4 σ) 5 [(0, .ref (ad E 48)), (1, .int xq1), (2, .int xq2), (3, .int xq3), (4, .int xq4)] [] σ) (xq3 : Int32) (xq4 : Int32)  (σ : Mm) : KR E G 5 (ZI E G) (f_X11_waiting_L5 xq1 xq2 L5 xq3 xq4 σ) 5 [(0, .ref (ad E 48)), (1, .int xq1), (2, .int xq2), (3, .int xq3), (4, .int xq4)] [] σ := by
  have F := B.1
  unfold f_X11_waiting_L5
  refine k_iload (pc := 5) F 4 4 dX11_waiting_5 rfl ?_
  refine k_aload_n (pc := 7) F 0 0 dX11_waiting_7 rfl rfl ?_
  refine gf_48_44 (pc := 8) F w_4_214 dX11_waiting_8 ?_
  refine k_iload_n (pc := 11) F 1 1 dX11_waiting_11 rfl rfl ?_
  refine k_iald (pc := 12) F rfl dX11_waiting_12 ?_
  refine k_icmp_ge (pc := 13) F 53 dX11_waiting_13 (by decide) (fun _ => ?_) (fun _ => ?_)
  · refine k_iload_n (pc := 53) F 3 3 dX11_waiting_53 rfl rfl ?_
    exact k_iret (pc := 54) B dX11_waiting_54
  · refine k_aload_n (pc := 16) F 0 0 dX11_waiting_16 rfl rfl ?_
    refine gf_48_45 (pc := 17) F w_4_215 dX11_waiting_17 ?_
    refine k_iconst (pc := 20) F (v := (2 : Int32)) dX11_waiting_20 ci_2 ?_
    refine k_iload_n (pc := 21) F 1 1 dX11_waiting_21 rfl rfl ?_
    refine k_imul (pc := 22) F dX11_waiting_22 ?_
    refine k_iload (pc := 23) F 4 4 dX11_waiting_23 rfl ?_
    refine k_iadd (pc := 25) F dX11_waiting_25 ?_
    refine k_iald (pc := 26) F rfl dX11_waiting_26 ?_
    refine k_iload_n (pc := 27) F 2 2 dX11_waiting_27 rfl rfl ?_
    refine k_icmp_ne (pc := 28) F 45 dX11_waiting_28 (by decide) (fun _ => ?_) (fun _ => ?_)
    · refine k_aload_n (pc := 31) F 0 0 dX11_waiting_31 rfl rfl ?_
      refine gf_48_46 (pc := 32) F w_4_216 dX11_waiting_32 ?_
      refine k_iconst (pc := 35) F (v := (2 : Int32)) dX11_waiting_35 ci_2 ?_
      refine k_iload_n (pc := 36) F 1 1 dX11_waiting_36 rfl rfl ?_
      refine k_imul (pc := 37) F dX11_waiting_37 ?_
      refine k_iload (pc := 38) F 4 4 dX11_waiting_38 rfl ?_
      refine k_iadd (pc := 40) F dX11_waiting_40 ?_
      refine k_iald (pc := 41) F rfl dX11_waiting_41 ?_
      refine k_goto (pc := 42) F 46 dX11_waiting_42 (by decide) ?_
      exact k_sub [0, 1, 2, 4] rfl (t_X11_waiting_46 B xq1 xq2 xq4 (σ.1 81 (ix (((2 : Int32) * xq1) + xq4)))  L5 hL5  σ)
    · refine k_iload_n (pc := 45) F 3 3 dX11_waiting_45 rfl rfl ?_
      exact k_sub [0, 1, 2, 4] rfl (t_X11_waiting_46 B xq1 xq2 xq4 xq3  L5 hL5  σ)
set_option maxHeartbeats 4000000 in
set_option maxRecDepth 100000 in
theorem t_X11_waiting_L5 {E : En} {G : Cx} (B : Bx E G cX11_waiting 5 RX11 H_X11_waiting (some .int)) (xq1 : Int32) (xq2 : Int32)   : ∀ (n : Nat) (xq3 : Int32) (xq4 : Int32)  (σ : Mm), KR E G 5 (ZI E G) (fx (fun _ _ _ => none) n (f_X11_waiting_L5 xq1 xq2) xq3 xq4 σ) 5 [(0, .ref (ad E 48)), (1, .int xq1), (2, .int xq2), (3, .int xq3), (4, .int xq4)] [] σ :=
  fun n => fx_ind (P := fun f => ∀ (xq3 : Int32) (xq4 : Int32)  (σ : Mm), KR E G 5 (ZI E G) (f xq3 xq4 σ) 5 [(0, .ref (ad E 48)), (1, .int xq1), (2, .int xq2), (3, .int xq3), (4, .int xq4)] [] σ) (fun _ _ _ => k_none) (fun L5 hL5 xq3 xq4 σ => t_X11_waiting_L5b B xq1 xq2   L5 hL5 xq3 xq4 σ) n
set_option maxHeartbeats 4000000 in
set_option maxRecDepth 100000 in
theorem t_X11_waiting {E : En} {G : Cx} (B : Bx E G cX11_waiting 5 RX11 H_X11_waiting (some .int)) (aq0 : Int32) (aq1 : Int32)  (σ : Mm) : KR E G 5 (ZI E G) (f_X11_waiting aq0 aq1 σ) 0 [(0, .ref (ad E 48)), (1, .int aq0), (2, .int aq1)] [] σ := by
  have F := B.1
  unfold f_X11_waiting
  refine k_iconst (pc := 0) F (v := (-1 : Int32)) dX11_waiting_0 ci_m1 ?_
  refine k_istore_n F (lv' := [(3, .int (-1 : Int32)), (0, .ref (ad E 48)), (1, .int aq0), (2, .int aq1)]) 3 dX11_waiting_1 rfl (by decide) rfl ?_
  refine k_iconst (pc := 2) F (v := (0 : Int32)) dX11_waiting_2 ci_0 ?_
  refine k_istore F (lv' := [(4, .int (0 : Int32)), (3, .int (-1 : Int32)), (0, .ref (ad E 48)), (1, .int aq0), (2, .int aq1)]) 4 dX11_waiting_3 (by decide) rfl ?_
  exact k_sub [2, 3, 4, 1, 0] rfl (t_X11_waiting_L5 B aq0 aq1   FU (-1 : Int32) (0 : Int32)  σ)
set_option maxHeartbeats 4000000 in
set_option maxRecDepth 100000 in
theorem ct_X11_waiting (E : En) (aq0 : Int32) (aq1 : Int32)  (σ : Mm) : CtI E yX11_waiting cX11_waiting 5 (some .int) H_X11_waiting [.ref (ad E 48), .int aq0, .int aq1] σ (f_X11_waiting aq0 aq1 σ) := ct_I (by decide) (Nat.le_of_ble_eq_true rfl) rfl (fun G B => t_X11_waiting B aq0 aq1  σ)
abbrev H_X11_writesTo : Nat := 0
set_option maxHeartbeats 4000000 in
set_option maxRecDepth 100000 in
theorem t_X11_writesTo {E : En} {G : Cx} (B : Bx E G cX11_writesTo 5 RX11 H_X11_writesTo none) (aq0 : Int32) (aq1 : Int32) (aq2 : Int32) (aq3 : Int32)  (σ : Mm) : KR E G 5 (ZV E G) (f_X11_writesTo aq0 aq1 aq2 aq3 σ) 0 [(0, .ref (ad E 48)), (1, .int aq0), (2, .int aq1), (3, .int aq2), (4, .int aq3)] [] σ := by
  have F := B.1
  unfold f_X11_writesTo
  refine k_iload (pc := 0) F 4 4 dX11_writesTo_0 rfl ?_
  refine k_if_ne (pc := 2) F 18 dX11_writesTo_2 (by decide) (fun _ => ?_) (fun _ => ?_)
  · refine k_aload_n (pc := 5) F 0 0 dX11_writesTo_5 rfl rfl ?_
    refine gf_48_39 (pc := 6) F w_4_209 dX11_writesTo_6 ?_
    refine k_iload_n (pc := 9) F 2 2 dX11_writesTo_9 rfl rfl ?_
    refine k_iload_n (pc := 10) F 3 3 dX11_writesTo_10 rfl rfl ?_
    refine k_iast (pc := 11) F rfl dX11_writesTo_11 (fun σ4 => ?_)
    refine k_aload_n (pc := 12) F 0 0 dX11_writesTo_12 rfl rfl ?_
    refine k_iload_n (pc := 13) F 2 2 dX11_writesTo_13 rfl rfl ?_
    refine pf_48_47 (pc := 14) F w_4_217 dX11_writesTo_14 (fun σ5 => ?_)
    exact k_vret (pc := 17) B dX11_writesTo_17
  · refine k_aload_n (pc := 18) F 0 0 dX11_writesTo_18 rfl rfl ?_
    refine gf_48_45 (pc := 19) F w_4_215 dX11_writesTo_19 ?_
    refine k_iconst (pc := 22) F (v := (2 : Int32)) dX11_writesTo_22 ci_2 ?_
    refine k_iload_n (pc := 23) F 1 1 dX11_writesTo_23 rfl rfl ?_
    refine k_imul (pc := 24) F dX11_writesTo_24 ?_
    refine k_aload_n (pc := 25) F 0 0 dX11_writesTo_25 rfl rfl ?_
    refine gf_48_44 (pc := 26) F w_4_214 dX11_writesTo_26 ?_
    refine k_iload_n (pc := 29) F 1 1 dX11_writesTo_29 rfl rfl ?_
    refine k_iald (pc := 30) F rfl dX11_writesTo_30 ?_
    refine k_iadd (pc := 31) F dX11_writesTo_31 ?_
    refine k_iload_n (pc := 32) F 2 2 dX11_writesTo_32 rfl rfl ?_
    refine k_iast (pc := 33) F rfl dX11_writesTo_33 (fun σ1 => ?_)
    refine k_aload_n (pc := 34) F 0 0 dX11_writesTo_34 rfl rfl ?_
    refine gf_48_46 (pc := 35) F w_4_216 dX11_writesTo_35 ?_
    refine k_iconst (pc := 38) F (v := (2 : Int32)) dX11_writesTo_38 ci_2 ?_
    refine k_iload_n (pc := 39) F 1 1 dX11_writesTo_39 rfl rfl ?_
    refine k_imul (pc := 40) F dX11_writesTo_40 ?_
    refine k_aload_n (pc := 41) F 0 0 dX11_writesTo_41 rfl rfl ?_
    refine gf_48_44 (pc := 42) F w_4_214 dX11_writesTo_42 ?_
    refine k_iload_n (pc := 45) F 1 1 dX11_writesTo_45 rfl rfl ?_
    refine k_iald (pc := 46) F rfl dX11_writesTo_46 ?_
    refine k_iadd (pc := 47) F dX11_writesTo_47 ?_
    refine k_iload_n (pc := 48) F 3 3 dX11_writesTo_48 rfl rfl ?_
    refine k_iast (pc := 49) F rfl dX11_writesTo_49 (fun σ2 => ?_)
    refine k_aload_n (pc := 50) F 0 0 dX11_writesTo_50 rfl rfl ?_
    refine gf_48_44 (pc := 51) F w_4_214 dX11_writesTo_51 ?_
    refine k_iload_n (pc := 54) F 1 1 dX11_writesTo_54 rfl rfl ?_
    refine k_dup2 (pc := 55) F dX11_writesTo_55 rfl rfl ?_
    refine k_iald (pc := 56) F rfl dX11_writesTo_56 ?_
    refine k_iconst (pc := 57) F (v := (1 : Int32)) dX11_writesTo_57 ci_1 ?_
    refine k_iadd (pc := 58) F dX11_writesTo_58 ?_
    refine k_iast (pc := 59) F rfl dX11_writesTo_59 (fun σ3 => ?_)
    exact k_vret (pc := 60) B dX11_writesTo_60
set_option maxHeartbeats 4000000 in
set_option maxRecDepth 100000 in
theorem ct_X11_writesTo (E : En) (aq0 : Int32) (aq1 : Int32) (aq2 : Int32) (aq3 : Int32)  (σ : Mm) : CtV E yX11_writesTo cX11_writesTo 5 none H_X11_writesTo [.ref (ad E 48), .int aq0, .int aq1, .int aq2, .int aq3] σ (f_X11_writesTo aq0 aq1 aq2 aq3 σ) := ct_V (by decide) (Nat.le_of_ble_eq_true rfl) rfl (fun G B => t_X11_writesTo B aq0 aq1 aq2 aq3  σ)
abbrev H_X11_goesOn : Nat := 0
set_option maxHeartbeats 4000000 in
set_option maxRecDepth 100000 in
theorem t_X11_goesOn {E : En} {G : Cx} (B : Bx E G cX11_goesOn 3 RX11 H_X11_goesOn none) (aq0 : Int32) (aq1 : Int32)  (σ : Mm) : KR E G 3 (ZV E G) (f_X11_goesOn aq0 aq1 σ) 0 [(0, .ref (ad E 48)), (1, .int aq0), (2, .int aq1)] [] σ := by
  have F := B.1
  unfold f_X11_goesOn
  refine k_aload_n (pc := 0) F 0 0 dX11_goesOn_0 rfl rfl ?_
  refine gf_48_41 (pc := 1) F w_4_211 dX11_goesOn_1 ?_
  refine k_iload_n (pc := 4) F 1 1 dX11_goesOn_4 rfl rfl ?_
  refine k_iload_n (pc := 5) F 2 2 dX11_goesOn_5 rfl rfl ?_
  refine k_iast (pc := 6) F rfl dX11_goesOn_6 (fun σ1 => ?_)
  refine k_iload_n (pc := 7) F 2 2 dX11_goesOn_7 rfl rfl ?_
  refine k_aload_n (pc := 8) F 0 0 dX11_goesOn_8 rfl rfl ?_
  refine gf_48_30 (pc := 9) F w_4_200 dX11_goesOn_9 ?_
  refine k_aload_n (pc := 12) F 0 0 dX11_goesOn_12 rfl rfl ?_
  refine gf_48_8 (pc := 13) F w_4_178 dX11_goesOn_13 ?_
  refine k_iconst (pc := 16) F (v := (2 : Int32)) dX11_goesOn_16 ci_2 ?_
  refine k_iload_n (pc := 17) F 1 1 dX11_goesOn_17 rfl rfl ?_
  refine k_imul (pc := 18) F dX11_goesOn_18 ?_
  refine k_aload_n (pc := 19) F 0 0 dX11_goesOn_19 rfl rfl ?_
  refine gf_48_40 (pc := 20) F w_4_210 dX11_goesOn_20 ?_
  refine k_iload_n (pc := 23) F 1 1 dX11_goesOn_23 rfl rfl ?_
  refine k_iald (pc := 24) F rfl dX11_goesOn_24 ?_
  refine k_iadd (pc := 25) F dX11_goesOn_25 ?_
  refine k_iald (pc := 26) F rfl dX11_goesOn_26 ?_
  refine k_iald (pc := 27) F rfl dX11_goesOn_27 ?_
  refine k_icmp_ne (pc := 28) F 48 dX11_goesOn_28 (by decide) (fun _ => ?_) (fun _ => ?_)
  · refine k_aload_n (pc := 31) F 0 0 dX11_goesOn_31 rfl rfl ?_
    refine gf_48_41 (pc := 32) F w_4_211 dX11_goesOn_32 ?_
    refine k_iload_n (pc := 35) F 1 1 dX11_goesOn_35 rfl rfl ?_
    refine k_iconst (pc := 36) F (v := (0 : Int32)) dX11_goesOn_36 ci_0 ?_
    refine k_iast (pc := 37) F rfl dX11_goesOn_37 (fun σ2 => ?_)
    refine k_aload_n (pc := 38) F 0 0 dX11_goesOn_38 rfl rfl ?_
    refine gf_48_40 (pc := 39) F w_4_210 dX11_goesOn_39 ?_
    refine k_iload_n (pc := 42) F 1 1 dX11_goesOn_42 rfl rfl ?_
    refine k_dup2 (pc := 43) F dX11_goesOn_43 rfl rfl ?_
    refine k_iald (pc := 44) F rfl dX11_goesOn_44 ?_
    refine k_iconst (pc := 45) F (v := (1 : Int32)) dX11_goesOn_45 ci_1 ?_
    refine k_iadd (pc := 46) F dX11_goesOn_46 ?_
    refine k_iast (pc := 47) F rfl dX11_goesOn_47 (fun σ3 => ?_)
    exact k_vret (pc := 48) B dX11_goesOn_48
  · exact k_vret (pc := 48) B dX11_goesOn_48
set_option maxHeartbeats 4000000 in
set_option maxRecDepth 100000 in
theorem ct_X11_goesOn (E : En) (aq0 : Int32) (aq1 : Int32)  (σ : Mm) : CtV E yX11_goesOn cX11_goesOn 3 none H_X11_goesOn [.ref (ad E 48), .int aq0, .int aq1] σ (f_X11_goesOn aq0 aq1 σ) := ct_V (by decide) (Nat.le_of_ble_eq_true rfl) rfl (fun G B => t_X11_goesOn B aq0 aq1  σ)
abbrev H_X11_stepsOn : Nat := 1
theorem hR_X11_stepsOn_X11_waiting : H_X11_waiting + 1 ≤ H_X11_stepsOn ∧ 8 + (5 + 11) + 40 * H_X11_waiting ≤ 40 * H_X11_stepsOn := by decide
theorem hR_X11_stepsOn_X11_stepNow : H_X11_stepNow + 1 ≤ H_X11_stepsOn ∧ 8 + (2 + 11) + 40 * H_X11_stepNow ≤ 40 * H_X11_stepsOn := by decide
theorem hR_X11_stepsOn_X11_writesTo : H_X11_writesTo + 1 ≤ H_X11_stepsOn ∧ 8 + (5 + 11) + 40 * H_X11_writesTo ≤ 40 * H_X11_stepsOn := by decide
theorem hR_X11_stepsOn_X11_goesOn : H_X11_goesOn + 1 ≤ H_X11_stepsOn ∧ 8 + (3 + 11) + 40 * H_X11_goesOn ≤ 40 * H_X11_stepsOn := by decide
set_option maxHeartbeats 4000000 in
set_option maxRecDepth 100000 in
theorem t_X11_stepsOn_112 {E : En} {G : Cx} (B : Bx E G cX11_stepsOn 7 RX11 H_X11_stepsOn none) (xq1 : Int32) (xq4 : Int32) (xq5 : Int32) (xq6 : Int32) (xqs1 : Int32)   (σ : Mm) : KR E G 7 (ZV E G) (f_X11_stepsOn_112 xq1 xq4 xq5 xq6 xqs1 σ) 112 [(0, .ref (ad E 48)), (1, .int xq1), (4, .int xq4), (5, .int xq5), (6, .int xq6)] [.int xqs1, .ref (ad E 48)] σ := by
  have F := B.1
  unfold f_X11_stepsOn_112
  refine pf_48_47 (pc := 112) F w_4_217 dX11_stepsOn_112 (fun σ13 => ?_)
  refine k_aload_n (pc := 115) F 0 0 dX11_stepsOn_115 rfl rfl ?_
  refine gf_48_42 (pc := 116) F w_4_212 dX11_stepsOn_116 ?_
  refine k_iload_n (pc := 119) F 1 1 dX11_stepsOn_119 rfl rfl ?_
  refine k_iload (pc := 120) F 6 4 dX11_stepsOn_120 rfl ?_
  refine k_if_ge (pc := 122) F 135 dX11_stepsOn_122 (by decide) (fun _ => ?_) (fun _ => ?_)
  · refine k_iload (pc := 135) F 6 4 dX11_stepsOn_135 rfl ?_
    refine k_iast (pc := 137) F rfl dX11_stepsOn_137 (fun σ14 => ?_)
    refine k_goto (pc := 138) F 330 dX11_stepsOn_138 (by decide) ?_
    refine k_aload_n (pc := 330) F 0 0 dX11_stepsOn_330 rfl rfl ?_
    refine k_iload_n (pc := 331) F 1 1 dX11_stepsOn_331 rfl rfl ?_
    refine k_iload (pc := 332) F 5 3 dX11_stepsOn_332 rfl ?_
    refine k_callVV (pc := 334) B (k := 48) (As := [.int xq1, .int xq5]) (rest := []) (ct_X11_goesOn E xq1 xq5  σ14) rfl rfl mv_X11_goesOn w_6_78 rfl hR_X11_stepsOn_X11_goesOn rfl (Nat.le_of_ble_eq_true rfl) dX11_stepsOn_334 (fun rq16 σ15 hoq => ?_)
    exact k_vret (pc := 337) B dX11_stepsOn_337
  · refine k_aload_n (pc := 125) F 0 0 dX11_stepsOn_125 rfl rfl ?_
    refine gf_48_39 (pc := 126) F w_4_209 dX11_stepsOn_126 ?_
    refine k_iload (pc := 129) F 4 2 dX11_stepsOn_129 rfl ?_
    refine k_iald (pc := 131) F rfl dX11_stepsOn_131 ?_
    refine k_goto (pc := 132) F 137 dX11_stepsOn_132 (by decide) ?_
    refine k_iast (pc := 137) F rfl dX11_stepsOn_137 (fun σ17 => ?_)
    refine k_goto (pc := 138) F 330 dX11_stepsOn_138 (by decide) ?_
    refine k_aload_n (pc := 330) F 0 0 dX11_stepsOn_330 rfl rfl ?_
    refine k_iload_n (pc := 331) F 1 1 dX11_stepsOn_331 rfl rfl ?_
    refine k_iload (pc := 332) F 5 3 dX11_stepsOn_332 rfl ?_
    refine k_callVV (pc := 334) B (k := 48) (As := [.int xq1, .int xq5]) (rest := []) (ct_X11_goesOn E xq1 xq5  σ17) rfl rfl mv_X11_goesOn w_6_78 rfl hR_X11_stepsOn_X11_goesOn rfl (Nat.le_of_ble_eq_true rfl) dX11_stepsOn_334 (fun rq19 σ18 hoq => ?_)
    exact k_vret (pc := 337) B dX11_stepsOn_337
set_option maxHeartbeats 4000000 in
set_option maxRecDepth 100000 in
theorem t_X11_stepsOn_208 {E : En} {G : Cx} (B : Bx E G cX11_stepsOn 7 RX11 H_X11_stepsOn none) (xq1 : Int32) (xq3 : Int32) (xq4 : Int32) (xq5 : Int32) (xqs1 : Int32) (xqs2 : Int32)   (σ : Mm) : KR E G 7 (ZV E G) (f_X11_stepsOn_208 xq1 xq3 xq4 xq5 xqs1 xqs2 σ) 208 [(0, .ref (ad E 48)), (1, .int xq1), (3, .int xq3), (4, .int xq4), (5, .int xq5)] [.int xqs2, .int xqs1, .ref (ad E 77)] σ := by
  have F := B.1
  unfold f_X11_stepsOn_208
  refine k_iast (pc := 208) F rfl dX11_stepsOn_208 (fun σ31 => ?_)
  refine k_aload_n (pc := 209) F 0 0 dX11_stepsOn_209 rfl rfl ?_
  refine gf_48_39 (pc := 210) F w_4_209 dX11_stepsOn_210 ?_
  refine k_iload (pc := 213) F 4 3 dX11_stepsOn_213 rfl ?_
  refine k_aload_n (pc := 215) F 0 0 dX11_stepsOn_215 rfl rfl ?_
  refine gf_48_42 (pc := 216) F w_4_212 dX11_stepsOn_216 ?_
  refine k_iload_n (pc := 219) F 1 1 dX11_stepsOn_219 rfl rfl ?_
  refine k_iald (pc := 220) F rfl dX11_stepsOn_220 ?_
  refine k_iconst (pc := 221) F (v := (1 : Int32)) dX11_stepsOn_221 ci_1 ?_
  refine k_icmp_ne (pc := 222) F 234 dX11_stepsOn_222 (by decide) (fun _ => ?_) (fun _ => ?_)
  · refine k_aload_n (pc := 225) F 0 0 dX11_stepsOn_225 rfl rfl ?_
    refine gf_48_34 (pc := 226) F w_4_204 dX11_stepsOn_226 ?_
    refine k_iload_n (pc := 229) F 3 2 dX11_stepsOn_229 rfl rfl ?_
    refine k_iald (pc := 230) F rfl dX11_stepsOn_230 ?_
    refine k_goto (pc := 231) F 241 dX11_stepsOn_231 (by decide) ?_
    refine k_iast (pc := 241) F rfl dX11_stepsOn_241 (fun σ35 => ?_)
    refine k_goto (pc := 242) F 330 dX11_stepsOn_242 (by decide) ?_
    refine k_aload_n (pc := 330) F 0 0 dX11_stepsOn_330 rfl rfl ?_
    refine k_iload_n (pc := 331) F 1 1 dX11_stepsOn_331 rfl rfl ?_
    refine k_iload (pc := 332) F 5 4 dX11_stepsOn_332 rfl ?_
    refine k_callVV (pc := 334) B (k := 48) (As := [.int xq1, .int xq5]) (rest := []) (ct_X11_goesOn E xq1 xq5  σ35) rfl rfl mv_X11_goesOn w_6_78 rfl hR_X11_stepsOn_X11_goesOn rfl (Nat.le_of_ble_eq_true rfl) dX11_stepsOn_334 (fun rq37 σ36 hoq => ?_)
    exact k_vret (pc := 337) B dX11_stepsOn_337
  · refine k_aload_n (pc := 234) F 0 0 dX11_stepsOn_234 rfl rfl ?_
    refine gf_48_39 (pc := 235) F w_4_209 dX11_stepsOn_235 ?_
    refine k_iload (pc := 238) F 4 3 dX11_stepsOn_238 rfl ?_
    refine k_iald (pc := 240) F rfl dX11_stepsOn_240 ?_
    refine k_iast (pc := 241) F rfl dX11_stepsOn_241 (fun σ32 => ?_)
    refine k_goto (pc := 242) F 330 dX11_stepsOn_242 (by decide) ?_
    refine k_aload_n (pc := 330) F 0 0 dX11_stepsOn_330 rfl rfl ?_
    refine k_iload_n (pc := 331) F 1 1 dX11_stepsOn_331 rfl rfl ?_
    refine k_iload (pc := 332) F 5 4 dX11_stepsOn_332 rfl ?_
    refine k_callVV (pc := 334) B (k := 48) (As := [.int xq1, .int xq5]) (rest := []) (ct_X11_goesOn E xq1 xq5  σ32) rfl rfl mv_X11_goesOn w_6_78 rfl hR_X11_stepsOn_X11_goesOn rfl (Nat.le_of_ble_eq_true rfl) dX11_stepsOn_334 (fun rq34 σ33 hoq => ?_)
    exact k_vret (pc := 337) B dX11_stepsOn_337
set_option maxHeartbeats 4000000 in
set_option maxRecDepth 100000 in
theorem t_X11_stepsOn {E : En} {G : Cx} (B : Bx E G cX11_stepsOn 7 RX11 H_X11_stepsOn none) (aq0 : Int32) (aq1 : Int32)  (σ : Mm) : KR E G 7 (ZV E G) (f_X11_stepsOn aq0 aq1 σ) 0 [(0, .ref (ad E 48)), (1, .int aq0), (2, .int aq1)] [] σ := by
  have F := B.1
  unfold f_X11_stepsOn
  refine k_aload_n (pc := 0) F 0 0 dX11_stepsOn_0 rfl rfl ?_
  refine k_iload_n (pc := 1) F 1 1 dX11_stepsOn_1 rfl rfl ?_
  refine k_callVI (pc := 2) B (k := 48) (As := [.int aq0]) (rest := []) (ct_X11_stepNow E aq0  σ) rfl rfl mv_X11_stepNow w_6_58 rfl hR_X11_stepsOn_X11_stepNow rfl (Nat.le_of_ble_eq_true rfl) dX11_stepsOn_2 (fun rq2 σ1 hoq => ?_)
  refine k_istore_n F (lv' := [(3, .int rq2), (0, .ref (ad E 48)), (1, .int aq0), (2, .int aq1)]) 3 dX11_stepsOn_5 rfl (by decide) rfl ?_
  refine k_aload_n (pc := 6) F 0 1 dX11_stepsOn_6 rfl rfl ?_
  refine gf_48_32 (pc := 7) F w_4_202 dX11_stepsOn_7 ?_
  refine k_iload_n (pc := 10) F 3 0 dX11_stepsOn_10 rfl rfl ?_
  refine k_iald (pc := 11) F rfl dX11_stepsOn_11 ?_
  refine k_nmI (fun vq3 => ?_)
  refine k_istore F (lv' := [(4, .int vq3), (3, .int rq2), (0, .ref (ad E 48)), (1, .int aq0), (2, .int aq1)]) 4 dX11_stepsOn_12 (by decide) rfl ?_
  refine k_aload_n (pc := 14) F 0 2 dX11_stepsOn_14 rfl rfl ?_
  refine gf_48_41 (pc := 15) F w_4_211 dX11_stepsOn_15 ?_
  refine k_iload_n (pc := 18) F 1 3 dX11_stepsOn_18 rfl rfl ?_
  refine k_iald (pc := 19) F rfl dX11_stepsOn_19 ?_
  refine k_iconst (pc := 20) F (v := (1 : Int32)) dX11_stepsOn_20 ci_1 ?_
  refine k_iadd (pc := 21) F dX11_stepsOn_21 ?_
  refine k_nmI (fun vq4 => ?_)
  refine k_istore F (lv' := [(5, .int vq4), (4, .int vq3), (3, .int rq2), (0, .ref (ad E 48)), (1, .int aq0), (2, .int aq1)]) 5 dX11_stepsOn_22 (by decide) rfl ?_
  refine k_aload_n (pc := 24) F 0 3 dX11_stepsOn_24 rfl rfl ?_
  refine gf_48_31 (pc := 25) F w_4_201 dX11_stepsOn_25 ?_
  refine k_iload_n (pc := 28) F 3 2 dX11_stepsOn_28 rfl rfl ?_
  refine k_iald (pc := 29) F rfl dX11_stepsOn_29 ?_
  refine k_nmI (fun vq5 => ?_)
  refine k_case (fun hwq6 => ?_) (fun hwq6 => ?_)
  · refine k_tin (pc := 30) F 76 dX11_stepsOn_30 (by rw [hwq6]; decide) (by rw [hwq6]; decide) (by rw [hwq6]; rfl) (by decide) ?_
    refine k_aload_n (pc := 76) F 0 3 dX11_stepsOn_76 rfl rfl ?_
    refine gf_48_43 (pc := 77) F w_4_213 dX11_stepsOn_77 ?_
    refine k_iload_n (pc := 80) F 1 4 dX11_stepsOn_80 rfl rfl ?_
    refine k_aload_n (pc := 81) F 0 3 dX11_stepsOn_81 rfl rfl ?_
    refine gf_48_42 (pc := 82) F w_4_212 dX11_stepsOn_82 ?_
    refine k_iload_n (pc := 85) F 1 4 dX11_stepsOn_85 rfl rfl ?_
    refine k_iald (pc := 86) F rfl dX11_stepsOn_86 ?_
    refine k_iast (pc := 87) F rfl dX11_stepsOn_87 (fun σ7 => ?_)
    refine k_goto (pc := 88) F 330 dX11_stepsOn_88 (by decide) ?_
    refine k_aload_n (pc := 330) F 0 3 dX11_stepsOn_330 rfl rfl ?_
    refine k_iload_n (pc := 331) F 1 4 dX11_stepsOn_331 rfl rfl ?_
    refine k_iload (pc := 332) F 5 0 dX11_stepsOn_332 rfl ?_
    refine k_callVV (pc := 334) B (k := 48) (As := [.int aq0, .int vq4]) (rest := []) (ct_X11_goesOn E aq0 vq4  σ7) rfl rfl mv_X11_goesOn w_6_78 rfl hR_X11_stepsOn_X11_goesOn rfl (Nat.le_of_ble_eq_true rfl) dX11_stepsOn_334 (fun rq9 σ8 hoq => ?_)
    exact k_vret (pc := 337) B dX11_stepsOn_337
  refine k_case (fun hwq10 => ?_) (fun hwq10 => ?_)
  · refine k_tin (pc := 30) F 91 dX11_stepsOn_30 (by rw [hwq10]; decide) (by rw [hwq10]; decide) (by rw [hwq10]; rfl) (by decide) ?_
    refine k_aload_n (pc := 91) F 0 3 dX11_stepsOn_91 rfl rfl ?_
    refine k_iload_n (pc := 92) F 1 4 dX11_stepsOn_92 rfl rfl ?_
    refine k_iload (pc := 93) F 4 1 dX11_stepsOn_93 rfl ?_
    refine k_callVI (pc := 95) B (k := 48) (As := [.int aq0, .int vq3]) (rest := []) (ct_X11_waiting E aq0 vq3  σ1) rfl rfl mv_X11_waiting w_6_70 rfl hR_X11_stepsOn_X11_waiting rfl (Nat.le_of_ble_eq_true rfl) dX11_stepsOn_95 (fun rq12 σ11 hoq => ?_)
    refine k_istore F (lv' := [(6, .int rq12), (5, .int vq4), (4, .int vq3), (3, .int rq2), (0, .ref (ad E 48)), (1, .int aq0), (2, .int aq1)]) 6 dX11_stepsOn_98 (by decide) rfl ?_
    refine k_aload_n (pc := 100) F 0 4 dX11_stepsOn_100 rfl rfl ?_
    refine k_iload (pc := 101) F 6 0 dX11_stepsOn_101 rfl ?_
    refine k_if_ge (pc := 103) F 111 dX11_stepsOn_103 (by decide) (fun _ => ?_) (fun _ => ?_)
    · refine k_iconst (pc := 111) F (v := (-1 : Int32)) dX11_stepsOn_111 ci_m1 ?_
      exact k_sub [4, 5, 2, 1, 0] rfl (t_X11_stepsOn_112 B aq0 vq3 vq4 rq12 (-1 : Int32)   σ11)
    · refine k_iload (pc := 106) F 4 2 dX11_stepsOn_106 rfl ?_
      refine k_goto (pc := 108) F 112 dX11_stepsOn_108 (by decide) ?_
      exact k_sub [4, 5, 2, 1, 0] rfl (t_X11_stepsOn_112 B aq0 vq3 vq4 rq12 vq3   σ11)
  refine k_case (fun hwq20 => ?_) (fun hwq20 => ?_)
  · refine k_tin (pc := 30) F 141 dX11_stepsOn_30 (by rw [hwq20]; decide) (by rw [hwq20]; decide) (by rw [hwq20]; rfl) (by decide) ?_
    refine k_aload_n (pc := 141) F 0 3 dX11_stepsOn_141 rfl rfl ?_
    refine k_iload_n (pc := 142) F 1 4 dX11_stepsOn_142 rfl rfl ?_
    refine k_iload (pc := 143) F 4 1 dX11_stepsOn_143 rfl ?_
    refine k_aload_n (pc := 145) F 0 3 dX11_stepsOn_145 rfl rfl ?_
    refine gf_48_33 (pc := 146) F w_4_203 dX11_stepsOn_146 ?_
    refine k_iload_n (pc := 149) F 3 2 dX11_stepsOn_149 rfl rfl ?_
    refine k_iald (pc := 150) F rfl dX11_stepsOn_150 ?_
    refine k_if_ge (pc := 151) F 163 dX11_stepsOn_151 (by decide) (fun _ => ?_) (fun _ => ?_)
    · refine k_aload_n (pc := 163) F 0 3 dX11_stepsOn_163 rfl rfl ?_
      refine gf_48_33 (pc := 164) F w_4_203 dX11_stepsOn_164 ?_
      refine k_iload_n (pc := 167) F 3 2 dX11_stepsOn_167 rfl rfl ?_
      refine k_iald (pc := 168) F rfl dX11_stepsOn_168 ?_
      refine k_iload_n (pc := 169) F 2 5 dX11_stepsOn_169 rfl rfl ?_
      refine k_callVV (pc := 170) B (k := 48) (As := [.int aq0, .int vq3, .int (σ1.1 69 (ix rq2)), .int aq1]) (rest := []) (ct_X11_writesTo E aq0 vq3 (σ1.1 69 (ix rq2)) aq1  σ1) rfl rfl mv_X11_writesTo w_6_74 rfl hR_X11_stepsOn_X11_writesTo rfl (Nat.le_of_ble_eq_true rfl) dX11_stepsOn_170 (fun rq22 σ21 hoq => ?_)
      refine k_goto (pc := 173) F 330 dX11_stepsOn_173 (by decide) ?_
      refine k_aload_n (pc := 330) F 0 3 dX11_stepsOn_330 rfl rfl ?_
      refine k_iload_n (pc := 331) F 1 4 dX11_stepsOn_331 rfl rfl ?_
      refine k_iload (pc := 332) F 5 0 dX11_stepsOn_332 rfl ?_
      refine k_callVV (pc := 334) B (k := 48) (As := [.int aq0, .int vq4]) (rest := []) (ct_X11_goesOn E aq0 vq4  σ21) rfl rfl mv_X11_goesOn w_6_78 rfl hR_X11_stepsOn_X11_goesOn rfl (Nat.le_of_ble_eq_true rfl) dX11_stepsOn_334 (fun rq24 σ23 hoq => ?_)
      exact k_vret (pc := 337) B dX11_stepsOn_337
    · refine k_aload_n (pc := 154) F 0 3 dX11_stepsOn_154 rfl rfl ?_
      refine gf_48_43 (pc := 155) F w_4_213 dX11_stepsOn_155 ?_
      refine k_iload_n (pc := 158) F 1 4 dX11_stepsOn_158 rfl rfl ?_
      refine k_iald (pc := 159) F rfl dX11_stepsOn_159 ?_
      refine k_goto (pc := 160) F 169 dX11_stepsOn_160 (by decide) ?_
      refine k_iload_n (pc := 169) F 2 5 dX11_stepsOn_169 rfl rfl ?_
      refine k_callVV (pc := 170) B (k := 48) (As := [.int aq0, .int vq3, .int (σ1.1 78 (ix aq0)), .int aq1]) (rest := []) (ct_X11_writesTo E aq0 vq3 (σ1.1 78 (ix aq0)) aq1  σ1) rfl rfl mv_X11_writesTo w_6_74 rfl hR_X11_stepsOn_X11_writesTo rfl (Nat.le_of_ble_eq_true rfl) dX11_stepsOn_170 (fun rq26 σ25 hoq => ?_)
      refine k_goto (pc := 173) F 330 dX11_stepsOn_173 (by decide) ?_
      refine k_aload_n (pc := 330) F 0 3 dX11_stepsOn_330 rfl rfl ?_
      refine k_iload_n (pc := 331) F 1 4 dX11_stepsOn_331 rfl rfl ?_
      refine k_iload (pc := 332) F 5 0 dX11_stepsOn_332 rfl ?_
      refine k_callVV (pc := 334) B (k := 48) (As := [.int aq0, .int vq4]) (rest := []) (ct_X11_goesOn E aq0 vq4  σ25) rfl rfl mv_X11_goesOn w_6_78 rfl hR_X11_stepsOn_X11_goesOn rfl (Nat.le_of_ble_eq_true rfl) dX11_stepsOn_334 (fun rq28 σ27 hoq => ?_)
      exact k_vret (pc := 337) B dX11_stepsOn_337
  refine k_case (fun hwq29 => ?_) (fun hwq29 => ?_)
  · refine k_tin (pc := 30) F 176 dX11_stepsOn_30 (by rw [hwq29]; decide) (by rw [hwq29]; decide) (by rw [hwq29]; rfl) (by decide) ?_
    refine k_aload_n (pc := 176) F 0 3 dX11_stepsOn_176 rfl rfl ?_
    refine k_iload (pc := 177) F 4 1 dX11_stepsOn_177 rfl ?_
    refine pf_48_47 (pc := 179) F w_4_217 dX11_stepsOn_179 (fun σ30 => ?_)
    refine k_aload_n (pc := 182) F 0 3 dX11_stepsOn_182 rfl rfl ?_
    refine gf_48_42 (pc := 183) F w_4_212 dX11_stepsOn_183 ?_
    refine k_iload_n (pc := 186) F 1 4 dX11_stepsOn_186 rfl rfl ?_
    refine k_aload_n (pc := 187) F 0 3 dX11_stepsOn_187 rfl rfl ?_
    refine gf_48_39 (pc := 188) F w_4_209 dX11_stepsOn_188 ?_
    refine k_iload (pc := 191) F 4 1 dX11_stepsOn_191 rfl ?_
    refine k_iald (pc := 193) F rfl dX11_stepsOn_193 ?_
    refine k_aload_n (pc := 194) F 0 3 dX11_stepsOn_194 rfl rfl ?_
    refine gf_48_33 (pc := 195) F w_4_203 dX11_stepsOn_195 ?_
    refine k_iload_n (pc := 198) F 3 2 dX11_stepsOn_198 rfl rfl ?_
    refine k_iald (pc := 199) F rfl dX11_stepsOn_199 ?_
    refine k_icmp_ne (pc := 200) F 207 dX11_stepsOn_200 (by decide) (fun _ => ?_) (fun _ => ?_)
    · refine k_iconst (pc := 203) F (v := (1 : Int32)) dX11_stepsOn_203 ci_1 ?_
      refine k_goto (pc := 204) F 208 dX11_stepsOn_204 (by decide) ?_
      exact k_sub [3, 4, 2, 1, 0] rfl (t_X11_stepsOn_208 B aq0 rq2 vq3 vq4 aq0 (1 : Int32)   σ30)
    · refine k_iconst (pc := 207) F (v := (0 : Int32)) dX11_stepsOn_207 ci_0 ?_
      exact k_sub [3, 4, 2, 1, 0] rfl (t_X11_stepsOn_208 B aq0 rq2 vq3 vq4 aq0 (0 : Int32)   σ30)
  refine k_case (fun hwq38 => ?_) (fun hwq38 => ?_)
  · refine k_tin (pc := 30) F 245 dX11_stepsOn_30 (by rw [hwq38]; decide) (by rw [hwq38]; decide) (by rw [hwq38]; rfl) (by decide) ?_
    refine k_aload_n (pc := 245) F 0 3 dX11_stepsOn_245 rfl rfl ?_
    refine k_iload (pc := 246) F 4 1 dX11_stepsOn_246 rfl ?_
    refine pf_48_47 (pc := 248) F w_4_217 dX11_stepsOn_248 (fun σ39 => ?_)
    refine k_aload_n (pc := 251) F 0 3 dX11_stepsOn_251 rfl rfl ?_
    refine gf_48_42 (pc := 252) F w_4_212 dX11_stepsOn_252 ?_
    refine k_iload_n (pc := 255) F 1 4 dX11_stepsOn_255 rfl rfl ?_
    refine k_aload_n (pc := 256) F 0 3 dX11_stepsOn_256 rfl rfl ?_
    refine gf_48_39 (pc := 257) F w_4_209 dX11_stepsOn_257 ?_
    refine k_iload (pc := 260) F 4 1 dX11_stepsOn_260 rfl ?_
    refine k_iald (pc := 262) F rfl dX11_stepsOn_262 ?_
    refine k_iast (pc := 263) F rfl dX11_stepsOn_263 (fun σ40 => ?_)
    refine k_aload_n (pc := 264) F 0 3 dX11_stepsOn_264 rfl rfl ?_
    refine gf_48_39 (pc := 265) F w_4_209 dX11_stepsOn_265 ?_
    refine k_iload (pc := 268) F 4 1 dX11_stepsOn_268 rfl ?_
    refine k_aload_n (pc := 270) F 0 3 dX11_stepsOn_270 rfl rfl ?_
    refine gf_48_39 (pc := 271) F w_4_209 dX11_stepsOn_271 ?_
    refine k_iload (pc := 274) F 4 1 dX11_stepsOn_274 rfl ?_
    refine k_iald (pc := 276) F rfl dX11_stepsOn_276 ?_
    refine k_aload_n (pc := 277) F 0 3 dX11_stepsOn_277 rfl rfl ?_
    refine gf_48_33 (pc := 278) F w_4_203 dX11_stepsOn_278 ?_
    refine k_iload_n (pc := 281) F 3 2 dX11_stepsOn_281 rfl rfl ?_
    refine k_iald (pc := 282) F rfl dX11_stepsOn_282 ?_
    refine k_iadd (pc := 283) F dX11_stepsOn_283 ?_
    refine k_iconst (pc := 284) F (v := (4 : Int32)) dX11_stepsOn_284 ci_4 ?_
    refine k_irem (pc := 285) F dX11_stepsOn_285 (by decide) ?_
    refine k_iast (pc := 286) F rfl dX11_stepsOn_286 (fun σ41 => ?_)
    refine k_goto (pc := 287) F 330 dX11_stepsOn_287 (by decide) ?_
    refine k_aload_n (pc := 330) F 0 3 dX11_stepsOn_330 rfl rfl ?_
    refine k_iload_n (pc := 331) F 1 4 dX11_stepsOn_331 rfl rfl ?_
    refine k_iload (pc := 332) F 5 0 dX11_stepsOn_332 rfl ?_
    refine k_callVV (pc := 334) B (k := 48) (As := [.int aq0, .int vq4]) (rest := []) (ct_X11_goesOn E aq0 vq4  σ41) rfl rfl mv_X11_goesOn w_6_78 rfl hR_X11_stepsOn_X11_goesOn rfl (Nat.le_of_ble_eq_true rfl) dX11_stepsOn_334 (fun rq43 σ42 hoq => ?_)
    exact k_vret (pc := 337) B dX11_stepsOn_337
  refine k_case (fun hwq44 => ?_) (fun hwq44 => ?_)
  · refine k_tin (pc := 30) F 330 dX11_stepsOn_30 (by rw [hwq44]; decide) (by rw [hwq44]; decide) (by rw [hwq44]; rfl) (by decide) ?_
    refine k_aload_n (pc := 330) F 0 3 dX11_stepsOn_330 rfl rfl ?_
    refine k_iload_n (pc := 331) F 1 4 dX11_stepsOn_331 rfl rfl ?_
    refine k_iload (pc := 332) F 5 0 dX11_stepsOn_332 rfl ?_
    refine k_callVV (pc := 334) B (k := 48) (As := [.int aq0, .int vq4]) (rest := []) (ct_X11_goesOn E aq0 vq4  σ1) rfl rfl mv_X11_goesOn w_6_78 rfl hR_X11_stepsOn_X11_goesOn rfl (Nat.le_of_ble_eq_true rfl) dX11_stepsOn_334 (fun rq46 σ45 hoq => ?_)
    exact k_vret (pc := 337) B dX11_stepsOn_337
  refine k_case (fun hwq47 => ?_) (fun hwq47 => ?_)
  · refine k_tin (pc := 30) F 290 dX11_stepsOn_30 (by rw [hwq47]; decide) (by rw [hwq47]; decide) (by rw [hwq47]; rfl) (by decide) ?_
    refine k_aload_n (pc := 290) F 0 3 dX11_stepsOn_290 rfl rfl ?_
    refine gf_48_42 (pc := 291) F w_4_212 dX11_stepsOn_291 ?_
    refine k_iload_n (pc := 294) F 1 4 dX11_stepsOn_294 rfl rfl ?_
    refine k_iald (pc := 295) F rfl dX11_stepsOn_295 ?_
    refine k_if_ne (pc := 296) F 308 dX11_stepsOn_296 (by decide) (fun _ => ?_) (fun _ => ?_)
    · refine k_aload_n (pc := 299) F 0 3 dX11_stepsOn_299 rfl rfl ?_
      refine gf_48_35 (pc := 300) F w_4_205 dX11_stepsOn_300 ?_
      refine k_iload_n (pc := 303) F 3 2 dX11_stepsOn_303 rfl rfl ?_
      refine k_iald (pc := 304) F rfl dX11_stepsOn_304 ?_
      refine k_goto (pc := 305) F 310 dX11_stepsOn_305 (by decide) ?_
      refine k_nmI (fun vq50 => ?_)
      refine k_istore F (lv' := [(5, .int vq50), (4, .int vq3), (3, .int rq2), (0, .ref (ad E 48)), (1, .int aq0), (2, .int aq1)]) 5 dX11_stepsOn_310 (by decide) rfl ?_
      refine k_goto (pc := 312) F 330 dX11_stepsOn_312 (by decide) ?_
      refine k_aload_n (pc := 330) F 0 3 dX11_stepsOn_330 rfl rfl ?_
      refine k_iload_n (pc := 331) F 1 4 dX11_stepsOn_331 rfl rfl ?_
      refine k_iload (pc := 332) F 5 0 dX11_stepsOn_332 rfl ?_
      refine k_callVV (pc := 334) B (k := 48) (As := [.int aq0, .int vq50]) (rest := []) (ct_X11_goesOn E aq0 vq50  σ1) rfl rfl mv_X11_goesOn w_6_78 rfl hR_X11_stepsOn_X11_goesOn rfl (Nat.le_of_ble_eq_true rfl) dX11_stepsOn_334 (fun rq52 σ51 hoq => ?_)
      exact k_vret (pc := 337) B dX11_stepsOn_337
    · refine k_iload (pc := 308) F 5 0 dX11_stepsOn_308 rfl ?_
      refine k_istore F (lv' := [(5, .int vq4), (4, .int vq3), (3, .int rq2), (0, .ref (ad E 48)), (1, .int aq0), (2, .int aq1)]) 5 dX11_stepsOn_310 (by decide) rfl ?_
      refine k_goto (pc := 312) F 330 dX11_stepsOn_312 (by decide) ?_
      refine k_aload_n (pc := 330) F 0 3 dX11_stepsOn_330 rfl rfl ?_
      refine k_iload_n (pc := 331) F 1 4 dX11_stepsOn_331 rfl rfl ?_
      refine k_iload (pc := 332) F 5 0 dX11_stepsOn_332 rfl ?_
      refine k_callVV (pc := 334) B (k := 48) (As := [.int aq0, .int vq4]) (rest := []) (ct_X11_goesOn E aq0 vq4  σ1) rfl rfl mv_X11_goesOn w_6_78 rfl hR_X11_stepsOn_X11_goesOn rfl (Nat.le_of_ble_eq_true rfl) dX11_stepsOn_334 (fun rq49 σ48 hoq => ?_)
      exact k_vret (pc := 337) B dX11_stepsOn_337
  refine k_case (fun hwq53 => ?_) (fun hwq53 => ?_)
  · refine k_tin (pc := 30) F 315 dX11_stepsOn_30 (by rw [hwq53]; decide) (by rw [hwq53]; decide) (by rw [hwq53]; rfl) (by decide) ?_
    refine k_aload_n (pc := 315) F 0 3 dX11_stepsOn_315 rfl rfl ?_
    refine gf_48_42 (pc := 316) F w_4_212 dX11_stepsOn_316 ?_
    refine k_iload_n (pc := 319) F 1 4 dX11_stepsOn_319 rfl rfl ?_
    refine k_aload_n (pc := 320) F 0 3 dX11_stepsOn_320 rfl rfl ?_
    refine gf_48_33 (pc := 321) F w_4_203 dX11_stepsOn_321 ?_
    refine k_iload_n (pc := 324) F 3 2 dX11_stepsOn_324 rfl rfl ?_
    refine k_iald (pc := 325) F rfl dX11_stepsOn_325 ?_
    refine k_iast (pc := 326) F rfl dX11_stepsOn_326 (fun σ54 => ?_)
    refine k_goto (pc := 327) F 330 dX11_stepsOn_327 (by decide) ?_
    refine k_aload_n (pc := 330) F 0 3 dX11_stepsOn_330 rfl rfl ?_
    refine k_iload_n (pc := 331) F 1 4 dX11_stepsOn_331 rfl rfl ?_
    refine k_iload (pc := 332) F 5 0 dX11_stepsOn_332 rfl ?_
    refine k_callVV (pc := 334) B (k := 48) (As := [.int aq0, .int vq4]) (rest := []) (ct_X11_goesOn E aq0 vq4  σ54) rfl rfl mv_X11_goesOn w_6_78 rfl hR_X11_stepsOn_X11_goesOn rfl (Nat.le_of_ble_eq_true rfl) dX11_stepsOn_334 (fun rq56 σ55 hoq => ?_)
    exact k_vret (pc := 337) B dX11_stepsOn_337
  · refine k_tout (pc := 30) F 330 dX11_stepsOn_30 (by have hwq6 := ne_i (z := 0) (by decide) hwq6; have hwq10 := ne_i (z := 1) (by decide) hwq10; have hwq20 := ne_i (z := 2) (by decide) hwq20; have hwq29 := ne_i (z := 3) (by decide) hwq29; have hwq38 := ne_i (z := 4) (by decide) hwq38; have hwq44 := ne_i (z := 5) (by decide) hwq44; have hwq47 := ne_i (z := 6) (by decide) hwq47; have hwq53 := ne_i (z := 7) (by decide) hwq53; omega) (by decide) ?_
    refine k_aload_n (pc := 330) F 0 3 dX11_stepsOn_330 rfl rfl ?_
    refine k_iload_n (pc := 331) F 1 4 dX11_stepsOn_331 rfl rfl ?_
    refine k_iload (pc := 332) F 5 0 dX11_stepsOn_332 rfl ?_
    refine k_callVV (pc := 334) B (k := 48) (As := [.int aq0, .int vq4]) (rest := []) (ct_X11_goesOn E aq0 vq4  σ1) rfl rfl mv_X11_goesOn w_6_78 rfl hR_X11_stepsOn_X11_goesOn rfl (Nat.le_of_ble_eq_true rfl) dX11_stepsOn_334 (fun rq58 σ57 hoq => ?_)
    exact k_vret (pc := 337) B dX11_stepsOn_337
set_option maxHeartbeats 4000000 in
set_option maxRecDepth 100000 in
theorem ct_X11_stepsOn (E : En) (aq0 : Int32) (aq1 : Int32)  (σ : Mm) : CtV E yX11_stepsOn cX11_stepsOn 7 none H_X11_stepsOn [.ref (ad E 48), .int aq0, .int aq1] σ (f_X11_stepsOn aq0 aq1 σ) := ct_V (by decide) (Nat.le_of_ble_eq_true rfl) rfl (fun G B => t_X11_stepsOn B aq0 aq1  σ)
