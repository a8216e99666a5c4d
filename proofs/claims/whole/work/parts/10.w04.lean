abbrev H_X9_takeAway : Nat := 0
set_option maxHeartbeats 4000000 in
set_option maxRecDepth 100000 in
theorem t_X9_takeAway_72 {E : En} {G : Cx} (B : Bx E G cX9_takeAway 6 RX9 H_X9_takeAway (some .int)) (xq1 : Int32) (xq3 : Int32) (xq4 : Int32)  (L8 : Int32 → Int32 → Mm → Option (Int32 × Mm)) (hL8 : ∀ (xq3 : Int32) (xq4 : Int32)  (σ : Mm), KR E G 6 (ZI E G) (L8 xq3 xq4 σ) 8 [(0, .ref (ad E 18)), (1, .int xq1), (3, .int xq3), (4, .int xq4)] [] σ)  (σ : Mm) : KR E G 6 (ZI E G) (f_X9_takeAway_72 L8 xq1 xq3 xq4 σ) 72 [(0, .ref (ad E 18)), (1, .int xq1), (3, .int xq3), (4, .int xq4)] [] σ := by
  have F := B.1
  unfold f_X9_takeAway_72
  refine k_iinc (pc := 72) F (c := (1 : Int32)) (lw := fun wq => [(4, .int wq), (0, .ref (ad E 18)), (1, .int xq1), (3, .int xq3)]) 4 3 dX9_takeAway_72 rfl ci_1 (by decide) (fun _ => rfl) (fun vq3 => ?_)
  refine k_goto (pc := 75) F 8 dX9_takeAway_75 (by decide) ?_
  exact k_sub [1, 2, 3, 0] rfl (hL8 xq3 vq3 σ)
set_option maxHeartbeats 4000000 in
set_option maxRecDepth 100000 in
theorem t_X9_takeAway_L8b {E : En} {G : Cx} (B : Bx E G cX9_takeAway 6 RX9 H_X9_takeAway (some .int)) (xq1 : Int32)   (L8 : Int32 → Int32 → Mm → Option (Int32 × Mm)) (hL8 : ∀ (xq3 : Int32) (xq4 : Int32)  (σ : Mm), KR E G 6 (ZI E G) (L8 xq3 xq4 σ) 8 [(0, .ref (ad E 18)), (1, .int xq1), (3, .int xq3), (4, .int xq4)] [] σ) (xq3 : Int32) (xq4 : Int32)  (σ : Mm) : KR E G 6 (ZI E G) (f_X9_takeAway_L8 xq1 L8 xq3 xq4 σ) 8 [(0, .ref (ad E 18)), (1, .int xq1), (3, .int xq3), (4, .int xq4)] [] σ := by
  have F := B.1
  unfold f_X9_takeAway_L8
  refine k_iload (pc := 8) F 4 3 dX9_takeAway_8 rfl ?_
  refine k_iload_n (pc := 10) F 1 1 dX9_takeAway_10 rfl rfl ?_
  refine k_iconst (pc := 11) F (v := (1 : Int32)) dX9_takeAway_11 ci_1 ?_
  refine k_iadd (pc := 12) F dX9_takeAway_12 ?_
  refine k_bipush (pc := 13) F (v := (6 : Int32)) dX9_takeAway_13 cb_6 ?_
  refine k_imul (pc := 15) F dX9_takeAway_15 ?_
  refine k_icmp_ge (pc := 16) F 78 dX9_takeAway_16 (by decide) (fun _ => ?_) (fun _ => ?_)
  · refine k_iload_n (pc := 78) F 3 2 dX9_takeAway_78 rfl rfl ?_
    exact k_iret (pc := 79) B dX9_takeAway_79
  · refine k_aload_n (pc := 19) F 0 0 dX9_takeAway_19 rfl rfl ?_
    refine gf_18_4 (pc := 20) F w_1_183 dX9_takeAway_20 ?_
    refine k_iload (pc := 23) F 4 3 dX9_takeAway_23 rfl ?_
    refine k_iald (pc := 25) F rfl dX9_takeAway_25 ?_
    refine k_nmI (fun vq2 => ?_)
    refine k_istore F (lv' := [(5, .int vq2), (0, .ref (ad E 18)), (1, .int xq1), (3, .int xq3), (4, .int xq4)]) 5 dX9_takeAway_26 (by decide) rfl ?_
    refine k_iload (pc := 28) F 5 0 dX9_takeAway_28 rfl ?_
    refine k_if_lt (pc := 30) F 72 dX9_takeAway_30 (by decide) (fun _ => ?_) (fun _ => ?_)
    · exact k_sub [1, 2, 3, 4] rfl (t_X9_takeAway_72 B xq1 xq3 xq4  L8 hL8  σ)
    · refine k_aload_n (pc := 33) F 0 1 dX9_takeAway_33 rfl rfl ?_
      refine gf_18_5 (pc := 34) F w_1_184 dX9_takeAway_34 ?_
      refine k_iload (pc := 37) F 5 0 dX9_takeAway_37 rfl ?_
      refine k_dup2 (pc := 39) F dX9_takeAway_39 rfl rfl ?_
      refine k_iald (pc := 40) F rfl dX9_takeAway_40 ?_
      refine k_iconst (pc := 41) F (v := (1 : Int32)) dX9_takeAway_41 ci_1 ?_
      refine k_isub (pc := 42) F dX9_takeAway_42 ?_
      refine k_iast (pc := 43) F rfl dX9_takeAway_43 (fun σ4 => ?_)
      refine k_aload_n (pc := 44) F 0 1 dX9_takeAway_44 rfl rfl ?_
      refine gf_18_5 (pc := 45) F w_1_184 dX9_takeAway_45 ?_
      refine k_iload (pc := 48) F 5 0 dX9_takeAway_48 rfl ?_
      refine k_iald (pc := 50) F rfl dX9_takeAway_50 ?_
      refine k_if_ne (pc := 51) F 72 dX9_takeAway_51 (by decide) (fun _ => ?_) (fun _ => ?_)
      · refine k_iload_n (pc := 54) F 3 3 dX9_takeAway_54 rfl rfl ?_
        refine k_sipush (pc := 55) F (v := (6000 : Int32)) dX9_takeAway_55 cs_6000 ?_
        refine k_icmp_ge (pc := 58) F 72 dX9_takeAway_58 (by decide) (fun _ => ?_) (fun _ => ?_)
        · exact k_sub [1, 2, 3, 4] rfl (t_X9_takeAway_72 B xq1 xq3 xq4  L8 hL8  σ4)
        · refine k_aload_n (pc := 61) F 0 1 dX9_takeAway_61 rfl rfl ?_
          refine gf_18_6 (pc := 62) F w_1_185 dX9_takeAway_62 ?_
          refine k_iload_n (pc := 65) F 3 3 dX9_takeAway_65 rfl rfl ?_
          refine k_iload (pc := 66) F 5 0 dX9_takeAway_66 rfl ?_
          refine k_iast (pc := 68) F rfl dX9_takeAway_68 (fun σ5 => ?_)
          refine k_iinc (pc := 69) F (c := (1 : Int32)) (lw := fun wq => [(3, .int wq), (5, .int vq2), (0, .ref (ad E 18)), (1, .int xq1), (4, .int xq4)]) 3 3 dX9_takeAway_69 rfl ci_1 (by decide) (fun _ => rfl) (fun vq6 => ?_)
          exact k_sub [2, 3, 0, 4] rfl (t_X9_takeAway_72 B xq1 vq6 xq4  L8 hL8  σ5)
      · exact k_sub [1, 2, 3, 4] rfl (t_X9_takeAway_72 B xq1 xq3 xq4  L8 hL8  σ4)
set_option maxHeartbeats 4000000 in
set_option maxRecDepth 100000 in
theorem t_X9_takeAway_L8 {E : En} {G : Cx} (B : Bx E G cX9_takeAway 6 RX9 H_X9_takeAway (some .int)) (xq1 : Int32)   : ∀ (n : Nat) (xq3 : Int32) (xq4 : Int32)  (σ : Mm), KR E G 6 (ZI E G) (fx (fun _ _ _ => none) n (f_X9_takeAway_L8 xq1) xq3 xq4 σ) 8 [(0, .ref (ad E 18)), (1, .int xq1), (3, .int xq3), (4, .int xq4)] [] σ :=
  fun n => fx_ind (P := fun f => ∀ (xq3 : Int32) (xq4 : Int32)  (σ : Mm), KR E G 6 (ZI E G) (f xq3 xq4 σ) 8 [(0, .ref (ad E 18)), (1, .int xq1), (3, .int xq3), (4, .int xq4)] [] σ) (fun _ _ _ => k_none) (fun L8 hL8 xq3 xq4 σ => t_X9_takeAway_L8b B xq1   L8 hL8 xq3 xq4 σ) n
set_option maxHeartbeats 4000000 in
set_option maxRecDepth 100000 in
theorem t_X9_takeAway {E : En} {G : Cx} (B : Bx E G cX9_takeAway 6 RX9 H_X9_takeAway (some .int)) (aq0 : Int32) (aq1 : Int32)  (σ : Mm) : KR E G 6 (ZI E G) (f_X9_takeAway aq0 aq1 σ) 0 [(0, .ref (ad E 18)), (1, .int aq0), (2, .int aq1)] [] σ := by
  have F := B.1
  unfold f_X9_takeAway
  refine k_iload_n (pc := 0) F 2 2 dX9_takeAway_0 rfl rfl ?_
  refine k_istore_n F (lv' := [(3, .int aq1), (0, .ref (ad E 18)), (1, .int aq0), (2, .int aq1)]) 3 dX9_takeAway_1 rfl (by decide) rfl ?_
  refine k_iload_n (pc := 2) F 1 2 dX9_takeAway_2 rfl rfl ?_
  refine k_bipush (pc := 3) F (v := (6 : Int32)) dX9_takeAway_3 cb_6 ?_
  refine k_imul (pc := 5) F dX9_takeAway_5 ?_
  refine k_nmI (fun vq1 => ?_)
  refine k_istore F (lv' := [(4, .int vq1), (3, .int aq1), (0, .ref (ad E 18)), (1, .int aq0), (2, .int aq1)]) 4 dX9_takeAway_6 (by decide) rfl ?_
  exact k_sub [2, 3, 1, 0] rfl (t_X9_takeAway_L8 B aq0   FU aq1 vq1  σ)
set_option maxHeartbeats 4000000 in
set_option maxRecDepth 100000 in
theorem ct_X9_takeAway (E : En) (aq0 : Int32) (aq1 : Int32)  (σ : Mm) : CtI E yX9_takeAway cX9_takeAway 6 (some .int) H_X9_takeAway [.ref (ad E 18), .int aq0, .int aq1] σ (f_X9_takeAway aq0 aq1 σ) := ct_I (by decide) (Nat.le_of_ble_eq_true rfl) rfl (fun G B => t_X9_takeAway B aq0 aq1  σ)
abbrev H_X9_hasRound : Nat := 2
theorem hR_X9_hasRound_J7_fill_fda19 : H_J7_fill_fda19 + 1 ≤ H_X9_hasRound ∧ 8 + (5 + 11) + 40 * H_J7_fill_fda19 ≤ 40 * H_X9_hasRound := by decide
theorem hR_X9_hasRound_X9_takeAway : H_X9_takeAway + 1 ≤ H_X9_hasRound ∧ 8 + (6 + 11) + 40 * H_X9_takeAway ≤ 40 * H_X9_hasRound := by decide
set_option maxHeartbeats 4000000 in
set_option maxRecDepth 100000 in
theorem t_X9_hasRound_50 {E : En} {G : Cx} (B : Bx E G cX9_hasRound 3 RX9 H_X9_hasRound (some .boolean)) (xq1 : Int32)  (L15 : Int32 → Mm → Option (Int32 × Mm)) (hL15 : ∀ (xq1 : Int32)  (σ : Mm), KR E G 3 (ZI E G) (L15 xq1 σ) 15 [(0, .ref (ad E 18)), (1, .int xq1)] [] σ)  (σ : Mm) : KR E G 3 (ZI E G) (f_X9_hasRound_50 L15 xq1 σ) 50 [(0, .ref (ad E 18)), (1, .int xq1)] [] σ := by
  have F := B.1
  unfold f_X9_hasRound_50
  refine k_iinc (pc := 50) F (c := (1 : Int32)) (lw := fun wq => [(1, .int wq), (0, .ref (ad E 18))]) 1 1 dX9_hasRound_50 rfl ci_1 (by decide) (fun _ => rfl) (fun vq3 => ?_)
  refine k_goto (pc := 53) F 15 dX9_hasRound_53 (by decide) ?_
  exact k_sub [1, 0] rfl (hL15 vq3 σ)
set_option maxHeartbeats 4000000 in
set_option maxRecDepth 100000 in
theorem t_X9_hasRound_L15b {E : En} {G : Cx} (B : Bx E G cX9_hasRound 3 RX9 H_X9_hasRound (some .boolean))   (K56 : Mm → Option (Int32 × Mm)) (hK56 : ∀   (σ : Mm), KR E G 3 (ZI E G) (K56  σ) 56 [(0, .ref (ad E 18))] [] σ)  (L15 : Int32 → Mm → Option (Int32 × Mm)) (hL15 : ∀ (xq1 : Int32)  (σ : Mm), KR E G 3 (ZI E G) (L15 xq1 σ) 15 [(0, .ref (ad E 18)), (1, .int xq1)] [] σ) (xq1 : Int32)  (σ : Mm) : KR E G 3 (ZI E G) (f_X9_hasRound_L15 K56  L15 xq1 σ) 15 [(0, .ref (ad E 18)), (1, .int xq1)] [] σ := by
  have F := B.1
  unfold f_X9_hasRound_L15
  refine k_iload_n (pc := 15) F 1 1 dX9_hasRound_15 rfl rfl ?_
  refine k_aload_n (pc := 16) F 0 0 dX9_hasRound_16 rfl rfl ?_
  refine gf_18_7 (pc := 17) F w_1_186 dX9_hasRound_17 ?_
  refine k_bipush (pc := 20) F (v := (6 : Int32)) dX9_hasRound_20 cb_6 ?_
  refine k_imul (pc := 22) F dX9_hasRound_22 ?_
  refine k_icmp_ge (pc := 23) F 56 dX9_hasRound_23 (by decide) (fun _ => ?_) (fun _ => ?_)
  · exact k_sub [0] rfl (hK56 σ)
  · refine k_aload_n (pc := 26) F 0 0 dX9_hasRound_26 rfl rfl ?_
    refine gf_18_4 (pc := 27) F w_1_183 dX9_hasRound_27 ?_
    refine k_iload_n (pc := 30) F 1 1 dX9_hasRound_30 rfl rfl ?_
    refine k_iald (pc := 31) F rfl dX9_hasRound_31 ?_
    refine k_if_lt (pc := 32) F 50 dX9_hasRound_32 (by decide) (fun _ => ?_) (fun _ => ?_)
    · exact k_sub [0, 1] rfl (t_X9_hasRound_50 B xq1  L15 hL15  σ)
    · refine k_aload_n (pc := 35) F 0 0 dX9_hasRound_35 rfl rfl ?_
      refine gf_18_5 (pc := 36) F w_1_184 dX9_hasRound_36 ?_
      refine k_aload_n (pc := 39) F 0 0 dX9_hasRound_39 rfl rfl ?_
      refine gf_18_4 (pc := 40) F w_1_183 dX9_hasRound_40 ?_
      refine k_iload_n (pc := 43) F 1 1 dX9_hasRound_43 rfl rfl ?_
      refine k_iald (pc := 44) F rfl dX9_hasRound_44 ?_
      refine k_nmI (fun vq4 => ?_)
      refine k_dup2 (pc := 45) F dX9_hasRound_45 rfl rfl ?_
      refine k_iald (pc := 46) F rfl dX9_hasRound_46 ?_
      refine k_iconst (pc := 47) F (v := (1 : Int32)) dX9_hasRound_47 ci_1 ?_
      refine k_iadd (pc := 48) F dX9_hasRound_48 ?_
      refine k_iast (pc := 49) F rfl dX9_hasRound_49 (fun σ5 => ?_)
      exact k_sub [0, 1] rfl (t_X9_hasRound_50 B xq1  L15 hL15  σ5)
set_option maxHeartbeats 4000000 in
set_option maxRecDepth 100000 in
theorem t_X9_hasRound_L15 {E : En} {G : Cx} (B : Bx E G cX9_hasRound 3 RX9 H_X9_hasRound (some .boolean))   (K56 : Mm → Option (Int32 × Mm)) (hK56 : ∀   (σ : Mm), KR E G 3 (ZI E G) (K56  σ) 56 [(0, .ref (ad E 18))] [] σ)  : ∀ (n : Nat) (xq1 : Int32)  (σ : Mm), KR E G 3 (ZI E G) (fx (fun _ _ => none) n (f_X9_hasRound_L15 K56 ) xq1 σ) 15 [(0, .ref (ad E 18)), (1, .int xq1)] [] σ :=
  fun n => fx_ind (P := fun f => ∀ (xq1 : Int32)  (σ : Mm), KR E G 3 (ZI E G) (f xq1 σ) 15 [(0, .ref (ad E 18)), (1, .int xq1)] [] σ) (fun _ _ => k_none) (fun L15 hL15 xq1 σ => t_X9_hasRound_L15b B   K56 hK56  L15 hL15 xq1 σ) n
set_option maxHeartbeats 4000000 in
set_option maxRecDepth 100000 in
theorem t_X9_hasRound_L85b {E : En} {G : Cx} (B : Bx E G cX9_hasRound 3 RX9 H_X9_hasRound (some .boolean))   (K108 : Int32 → Mm → Option (Int32 × Mm)) (hK108 : ∀ (xq1 : Int32)  (σ : Mm), KR E G 3 (ZI E G) (K108 xq1 σ) 108 [(0, .ref (ad E 18)), (1, .int xq1)] [] σ)  (L85 : Int32 → Int32 → Mm → Option (Int32 × Mm)) (hL85 : ∀ (xq1 : Int32) (xq2 : Int32)  (σ : Mm), KR E G 3 (ZI E G) (L85 xq1 xq2 σ) 85 [(0, .ref (ad E 18)), (1, .int xq1), (2, .int xq2)] [] σ) (xq1 : Int32) (xq2 : Int32)  (σ : Mm) : KR E G 3 (ZI E G) (f_X9_hasRound_L85 K108  L85 xq1 xq2 σ) 85 [(0, .ref (ad E 18)), (1, .int xq1), (2, .int xq2)] [] σ := by
  have F := B.1
  unfold f_X9_hasRound_L85
  refine k_iload_n (pc := 85) F 2 2 dX9_hasRound_85 rfl rfl ?_
  refine k_iload_n (pc := 86) F 1 1 dX9_hasRound_86 rfl rfl ?_
  refine k_icmp_ge (pc := 87) F 108 dX9_hasRound_87 (by decide) (fun _ => ?_) (fun _ => ?_)
  · exact k_sub [0, 1] rfl (hK108 xq1 σ)
  · refine k_aload_n (pc := 90) F 0 0 dX9_hasRound_90 rfl rfl ?_
    refine k_aload_n (pc := 91) F 0 0 dX9_hasRound_91 rfl rfl ?_
    refine gf_18_6 (pc := 92) F w_1_185 dX9_hasRound_92 ?_
    refine k_iload_n (pc := 95) F 2 2 dX9_hasRound_95 rfl rfl ?_
    refine k_iald (pc := 96) F rfl dX9_hasRound_96 ?_
    refine k_iload_n (pc := 97) F 1 1 dX9_hasRound_97 rfl rfl ?_
    refine k_callVI (pc := 98) B (k := 18) (As := [.int (σ.1 25 (ix xq2)), .int xq1]) (rest := []) (ct_X9_takeAway E (σ.1 25 (ix xq2)) xq1  σ) rfl rfl mv_X9_takeAway w_3_237 rfl hR_X9_hasRound_X9_takeAway rfl (Nat.le_of_ble_eq_true rfl) dX9_hasRound_98 (fun rq7 σ6 _ => ?_)
    refine k_istore_n F (lv' := [(1, .int rq7), (0, .ref (ad E 18)), (2, .int xq2)]) 1 dX9_hasRound_101 rfl (by decide) rfl ?_
    refine k_iinc (pc := 102) F (c := (1 : Int32)) (lw := fun wq => [(2, .int wq), (1, .int rq7), (0, .ref (ad E 18))]) 2 2 dX9_hasRound_102 rfl ci_1 (by decide) (fun _ => rfl) (fun vq8 => ?_)
    refine k_goto (pc := 105) F 85 dX9_hasRound_105 (by decide) ?_
    exact k_sub [2, 1, 0] rfl (hL85 rq7 vq8 σ6)
set_option maxHeartbeats 4000000 in
set_option maxRecDepth 100000 in
theorem t_X9_hasRound_L85 {E : En} {G : Cx} (B : Bx E G cX9_hasRound 3 RX9 H_X9_hasRound (some .boolean))   (K108 : Int32 → Mm → Option (Int32 × Mm)) (hK108 : ∀ (xq1 : Int32)  (σ : Mm), KR E G 3 (ZI E G) (K108 xq1 σ) 108 [(0, .ref (ad E 18)), (1, .int xq1)] [] σ)  : ∀ (n : Nat) (xq1 : Int32) (xq2 : Int32)  (σ : Mm), KR E G 3 (ZI E G) (fx (fun _ _ _ => none) n (f_X9_hasRound_L85 K108 ) xq1 xq2 σ) 85 [(0, .ref (ad E 18)), (1, .int xq1), (2, .int xq2)] [] σ :=
  fun n => fx_ind (P := fun f => ∀ (xq1 : Int32) (xq2 : Int32)  (σ : Mm), KR E G 3 (ZI E G) (f xq1 xq2 σ) 85 [(0, .ref (ad E 18)), (1, .int xq1), (2, .int xq2)] [] σ) (fun _ _ _ => k_none) (fun L85 hL85 xq1 xq2 σ => t_X9_hasRound_L85b B   K108 hK108  L85 hL85 xq1 xq2 σ) n
set_option maxHeartbeats 4000000 in
set_option maxRecDepth 100000 in
theorem t_X9_hasRound_108 {E : En} {G : Cx} (B : Bx E G cX9_hasRound 3 RX9 H_X9_hasRound (some .boolean)) (xq1 : Int32)   (σ : Mm) : KR E G 3 (ZI E G) (f_X9_hasRound_108 xq1 σ) 108 [(0, .ref (ad E 18)), (1, .int xq1)] [] σ := by
  have F := B.1
  unfold f_X9_hasRound_108
  refine k_iload_n (pc := 108) F 1 1 dX9_hasRound_108 rfl rfl ?_
  refine k_aload_n (pc := 109) F 0 0 dX9_hasRound_109 rfl rfl ?_
  refine gf_18_7 (pc := 110) F w_1_186 dX9_hasRound_110 ?_
  refine k_icmp_ge (pc := 113) F 120 dX9_hasRound_113 (by decide) (fun _ => ?_) (fun _ => ?_)
  · refine k_iconst (pc := 120) F (v := (0 : Int32)) dX9_hasRound_120 ci_0 ?_
    exact k_zret (pc := 121) B dX9_hasRound_121
  · refine k_iconst (pc := 116) F (v := (1 : Int32)) dX9_hasRound_116 ci_1 ?_
    refine k_goto (pc := 117) F 121 dX9_hasRound_117 (by decide) ?_
    exact k_zret (pc := 121) B dX9_hasRound_121
set_option maxHeartbeats 4000000 in
set_option maxRecDepth 100000 in
theorem t_X9_hasRound_83 {E : En} {G : Cx} (B : Bx E G cX9_hasRound 3 RX9 H_X9_hasRound (some .boolean)) (xq1 : Int32)   (σ : Mm) : KR E G 3 (ZI E G) (f_X9_hasRound_83 xq1 σ) 83 [(0, .ref (ad E 18)), (1, .int xq1)] [] σ := by
  have F := B.1
  unfold f_X9_hasRound_83
  refine k_iconst (pc := 83) F (v := (0 : Int32)) dX9_hasRound_83 ci_0 ?_
  refine k_istore_n F (lv' := [(2, .int (0 : Int32)), (0, .ref (ad E 18)), (1, .int xq1)]) 2 dX9_hasRound_84 rfl (by decide) rfl ?_
  exact k_sub [1, 2, 0] rfl (t_X9_hasRound_L85 B   _ (fun xq1  σ => by
        exact k_sub [0, 1] rfl (t_X9_hasRound_108 B xq1   σ)) FU xq1 (0 : Int32)  σ)
set_option maxHeartbeats 4000000 in
set_option maxRecDepth 100000 in
theorem t_X9_hasRound_56 {E : En} {G : Cx} (B : Bx E G cX9_hasRound 3 RX9 H_X9_hasRound (some .boolean))    (σ : Mm) : KR E G 3 (ZI E G) (f_X9_hasRound_56  σ) 56 [(0, .ref (ad E 18))] [] σ := by
  have F := B.1
  unfold f_X9_hasRound_56
  refine k_iconst (pc := 56) F (v := (0 : Int32)) dX9_hasRound_56 ci_0 ?_
  refine k_istore_n F (lv' := [(1, .int (0 : Int32)), (0, .ref (ad E 18))]) 1 dX9_hasRound_57 rfl (by decide) rfl ?_
  refine k_aload_n (pc := 58) F 0 1 dX9_hasRound_58 rfl rfl ?_
  refine gf_18_7 (pc := 59) F w_1_186 dX9_hasRound_59 ?_
  refine k_if_le (pc := 62) F 83 dX9_hasRound_62 (by decide) (fun _ => ?_) (fun _ => ?_)
  · exact k_sub [1, 0] rfl (t_X9_hasRound_83 B (0 : Int32)   σ)
  · refine k_aload_n (pc := 65) F 0 1 dX9_hasRound_65 rfl rfl ?_
    refine gf_18_5 (pc := 66) F w_1_184 dX9_hasRound_66 ?_
    refine k_iconst (pc := 69) F (v := (0 : Int32)) dX9_hasRound_69 ci_0 ?_
    refine k_iald (pc := 70) F rfl dX9_hasRound_70 ?_
    refine k_if_ne (pc := 71) F 83 dX9_hasRound_71 (by decide) (fun _ => ?_) (fun _ => ?_)
    · refine k_aload_n (pc := 74) F 0 1 dX9_hasRound_74 rfl rfl ?_
      refine gf_18_6 (pc := 75) F w_1_185 dX9_hasRound_75 ?_
      refine k_iconst (pc := 78) F (v := (0 : Int32)) dX9_hasRound_78 ci_0 ?_
      refine k_iconst (pc := 79) F (v := (0 : Int32)) dX9_hasRound_79 ci_0 ?_
      refine k_iast (pc := 80) F rfl dX9_hasRound_80 (fun σ9 => ?_)
      refine k_iconst (pc := 81) F (v := (1 : Int32)) dX9_hasRound_81 ci_1 ?_
      refine k_istore_n F (lv' := [(1, .int (1 : Int32)), (0, .ref (ad E 18))]) 1 dX9_hasRound_82 rfl (by decide) rfl ?_
      exact k_sub [1, 0] rfl (t_X9_hasRound_83 B (1 : Int32)   σ9)
    · exact k_sub [1, 0] rfl (t_X9_hasRound_83 B (0 : Int32)   σ)
set_option maxHeartbeats 4000000 in
set_option maxRecDepth 100000 in
theorem t_X9_hasRound {E : En} {G : Cx} (B : Bx E G cX9_hasRound 3 RX9 H_X9_hasRound (some .boolean))   (σ : Mm) : KR E G 3 (ZI E G) (f_X9_hasRound  σ) 0 [(0, .ref (ad E 18))] [] σ := by
  have F := B.1
  unfold f_X9_hasRound
  refine k_aload_n (pc := 0) F 0 0 dX9_hasRound_0 rfl rfl ?_
  refine gf_18_5 (pc := 1) F w_1_184 dX9_hasRound_1 ?_
  refine k_iconst (pc := 4) F (v := (0 : Int32)) dX9_hasRound_4 ci_0 ?_
  refine k_aload_n (pc := 5) F 0 0 dX9_hasRound_5 rfl rfl ?_
  refine gf_18_7 (pc := 6) F w_1_186 dX9_hasRound_6 ?_
  refine k_iconst (pc := 9) F (v := (0 : Int32)) dX9_hasRound_9 ci_0 ?_
  refine k_callSV (pc := 10) B (As := [.ref (ad E 24), .int (0 : Int32), .int (σ.1 18 7), .int (0 : Int32)]) (rest := []) (ct_J7_fill_fda19 E (0 : Int32) (σ.1 18 7) (0 : Int32)  σ) ms_J7_fill_fda19 w_3_219 rfl hR_X9_hasRound_J7_fill_fda19 rfl (Nat.le_of_ble_eq_true rfl) dX9_hasRound_10 (fun rq2 σ1 _ => ?_)
  refine k_iconst (pc := 13) F (v := (0 : Int32)) dX9_hasRound_13 ci_0 ?_
  refine k_istore_n F (lv' := [(1, .int (0 : Int32)), (0, .ref (ad E 18))]) 1 dX9_hasRound_14 rfl (by decide) rfl ?_
  exact k_sub [1, 0] rfl (t_X9_hasRound_L15 B   _ (fun   σ => by
        exact k_sub [0] rfl (t_X9_hasRound_56 B    σ)) FU (0 : Int32)  σ1)
set_option maxHeartbeats 4000000 in
set_option maxRecDepth 100000 in
theorem ct_X9_hasRound (E : En)   (σ : Mm) : CtI E yX9_hasRound cX9_hasRound 3 (some .boolean) H_X9_hasRound [.ref (ad E 18)] σ (f_X9_hasRound  σ) := ct_I (by decide) (Nat.le_of_ble_eq_true rfl) rfl (fun G B => t_X9_hasRound B   σ)
abbrev H_X10_feed : Nat := 1
theorem hR_X10_feed_X8_append : H_X8_append + 1 ≤ H_X10_feed ∧ 8 + (4 + 11) + 40 * H_X8_append ≤ 40 * H_X10_feed := by decide
theorem hR_X10_feed_X0_tell : H_X0_tell + 1 ≤ H_X10_feed ∧ 8 + (2 + 11) + 40 * H_X0_tell ≤ 40 * H_X10_feed := by decide
set_option maxHeartbeats 4000000 in
set_option maxRecDepth 100000 in
theorem t_X10_feed {E : En} {G : Cx} (B : Bx E G cX10_feed 3 RX10 H_X10_feed (some .int)) (aq0 : Int32) (aq1 : Int32)  (σ : Mm) : KR E G 3 (ZI E G) (f_X10_feed aq0 aq1 σ) 0 [(0, .ref (ad E 0)), (1, .int aq0), (2, .int aq1)] [] σ := by
  have F := B.1
  unfold f_X10_feed
  refine k_iload_n (pc := 0) F 2 2 dX10_feed_0 rfl rfl ?_
  refine k_iconst (pc := 1) F (v := (1 : Int32)) dX10_feed_1 ci_1 ?_
  refine k_icmp_lt (pc := 2) F 10 dX10_feed_2 (by decide) (fun _ => ?_) (fun _ => ?_)
  · refine k_aload_n (pc := 10) F 0 0 dX10_feed_10 rfl rfl ?_
    refine gf_0_0 (pc := 11) F w_2_66 dX10_feed_11 ?_
    refine k_iconst (pc := 14) F (v := (0 : Int32)) dX10_feed_14 ci_0 ?_
    refine k_callVI (pc := 15) B (k := 1) (As := [.int (0 : Int32)]) (rest := []) (ct_X0_tell E (0 : Int32)  σ) rfl rfl mv_X0_tell w_2_98 rfl hR_X10_feed_X0_tell rfl (Nat.le_of_ble_eq_true rfl) dX10_feed_15 (fun rq2 σ1 _ => ?_)
    exact k_iret (pc := 18) B dX10_feed_18
  · refine k_iload_n (pc := 5) F 2 2 dX10_feed_5 rfl rfl ?_
    refine k_iconst (pc := 6) F (v := (4 : Int32)) dX10_feed_6 ci_4 ?_
    refine k_icmp_le (pc := 7) F 19 dX10_feed_7 (by decide) (fun _ => ?_) (fun _ => ?_)
    · refine k_aload_n (pc := 19) F 0 0 dX10_feed_19 rfl rfl ?_
      refine gf_0_2 (pc := 20) F w_2_68 dX10_feed_20 ?_
      refine gf_4_1 (pc := 23) F w_1_60 dX10_feed_23 ?_
      refine k_iload_n (pc := 26) F 2 2 dX10_feed_26 rfl rfl ?_
      refine k_iadd (pc := 27) F dX10_feed_27 ?_
      refine k_bipush (pc := 28) F (v := (120 : Int32)) dX10_feed_28 cb_120 ?_
      refine k_icmp_le (pc := 30) F 42 dX10_feed_30 (by decide) (fun _ => ?_) (fun _ => ?_)
      · refine k_aload_n (pc := 42) F 0 0 dX10_feed_42 rfl rfl ?_
        refine gf_0_2 (pc := 43) F w_2_68 dX10_feed_43 ?_
        refine k_iload_n (pc := 46) F 1 1 dX10_feed_46 rfl rfl ?_
        refine k_iload_n (pc := 47) F 2 2 dX10_feed_47 rfl rfl ?_
        refine k_callVV (pc := 48) B (k := 4) (As := [.int aq0, .int aq1]) (rest := []) (ct_X8_append E aq0 aq1  σ) rfl rfl mv_X8_append w_2_103 rfl hR_X10_feed_X8_append rfl (Nat.le_of_ble_eq_true rfl) dX10_feed_48 (fun rq4 σ3 _ => ?_)
        refine k_aload_n (pc := 51) F 0 0 dX10_feed_51 rfl rfl ?_
        refine gf_0_2 (pc := 52) F w_2_68 dX10_feed_52 ?_
        refine gf_4_1 (pc := 55) F w_1_60 dX10_feed_55 ?_
        exact k_iret (pc := 58) B dX10_feed_58
      · refine k_aload_n (pc := 33) F 0 0 dX10_feed_33 rfl rfl ?_
        refine gf_0_0 (pc := 34) F w_2_66 dX10_feed_34 ?_
        refine k_iconst (pc := 37) F (v := (1 : Int32)) dX10_feed_37 ci_1 ?_
        refine k_callVI (pc := 38) B (k := 1) (As := [.int (1 : Int32)]) (rest := []) (ct_X0_tell E (1 : Int32)  σ) rfl rfl mv_X0_tell w_2_98 rfl hR_X10_feed_X0_tell rfl (Nat.le_of_ble_eq_true rfl) dX10_feed_38 (fun rq6 σ5 _ => ?_)
        exact k_iret (pc := 41) B dX10_feed_41
    · refine k_aload_n (pc := 10) F 0 0 dX10_feed_10 rfl rfl ?_
      refine gf_0_0 (pc := 11) F w_2_66 dX10_feed_11 ?_
      refine k_iconst (pc := 14) F (v := (0 : Int32)) dX10_feed_14 ci_0 ?_
      refine k_callVI (pc := 15) B (k := 1) (As := [.int (0 : Int32)]) (rest := []) (ct_X0_tell E (0 : Int32)  σ) rfl rfl mv_X0_tell w_2_98 rfl hR_X10_feed_X0_tell rfl (Nat.le_of_ble_eq_true rfl) dX10_feed_15 (fun rq8 σ7 _ => ?_)
      exact k_iret (pc := 18) B dX10_feed_18
set_option maxHeartbeats 4000000 in
set_option maxRecDepth 100000 in
theorem ct_X10_feed (E : En) (aq0 : Int32) (aq1 : Int32)  (σ : Mm) : CtI E yX10_feed cX10_feed 3 (some .int) H_X10_feed [.ref (ad E 0), .int aq0, .int aq1] σ (f_X10_feed aq0 aq1 σ) := ct_I (by decide) (Nat.le_of_ble_eq_true rfl) rfl (fun G B => t_X10_feed B aq0 aq1  σ)
abbrev H_X10_wipe : Nat := 0
set_option maxHeartbeats 4000000 in
set_option maxRecDepth 100000 in
theorem t_X10_wipe {E : En} {G : Cx} (B : Bx E G cX10_wipe 2 RX10 H_X10_wipe (some .int))   (σ : Mm) : KR E G 2 (ZI E G) (f_X10_wipe  σ) 0 [(0, .ref (ad E 0))] [] σ := by
  have F := B.1
  unfold f_X10_wipe
  refine k_aload_n (pc := 0) F 0 0 dX10_wipe_0 rfl rfl ?_
  refine gf_0_2 (pc := 1) F w_2_68 dX10_wipe_1 ?_
  refine gf_4_1 (pc := 4) F w_1_60 dX10_wipe_4 ?_
  refine k_nmI (fun vq1 => ?_)
  refine k_istore_n F (lv' := [(1, .int vq1), (0, .ref (ad E 0))]) 1 dX10_wipe_7 rfl (by decide) rfl ?_
  refine k_aload_n (pc := 8) F 0 1 dX10_wipe_8 rfl rfl ?_
  refine gf_0_2 (pc := 9) F w_2_68 dX10_wipe_9 ?_
  refine k_iconst (pc := 12) F (v := (0 : Int32)) dX10_wipe_12 ci_0 ?_
  refine pf_4_1 (pc := 13) F w_1_60 dX10_wipe_13 (fun σ2 => ?_)
  refine k_iload_n (pc := 16) F 1 0 dX10_wipe_16 rfl rfl ?_
  exact k_iret (pc := 17) B dX10_wipe_17
set_option maxHeartbeats 4000000 in
set_option maxRecDepth 100000 in
theorem ct_X10_wipe (E : En)   (σ : Mm) : CtI E yX10_wipe cX10_wipe 2 (some .int) H_X10_wipe [.ref (ad E 0)] σ (f_X10_wipe  σ) := ct_I (by decide) (Nat.le_of_ble_eq_true rfl) rfl (fun G B => t_X10_wipe B   σ)
abbrev H_X10_steps : Nat := 1
theorem hR_X10_steps_X5_hasCall : H_X5_hasCall + 1 ≤ H_X10_steps ∧ 8 + (2 + 11) + 40 * H_X5_hasCall ≤ 40 * H_X10_steps := by decide
theorem hR_X10_steps_X0_tell : H_X0_tell + 1 ≤ H_X10_steps ∧ 8 + (2 + 11) + 40 * H_X0_tell ≤ 40 * H_X10_steps := by decide
set_option maxHeartbeats 4000000 in
set_option maxRecDepth 100000 in
theorem t_X10_steps {E : En} {G : Cx} (B : Bx E G cX10_steps 2 RX10 H_X10_steps (some .int)) (aq0 : Int32)  (σ : Mm) : KR E G 2 (ZI E G) (f_X10_steps aq0 σ) 0 [(0, .ref (ad E 0)), (1, .int aq0)] [] σ := by
  have F := B.1
  unfold f_X10_steps
  refine k_aload_n (pc := 0) F 0 0 dX10_steps_0 rfl rfl ?_
  refine gf_0_4 (pc := 1) F w_2_70 dX10_steps_1 ?_
  refine k_iload_n (pc := 4) F 1 1 dX10_steps_4 rfl rfl ?_
  refine k_callVI (pc := 5) B (k := 7) (As := [.int aq0]) (rest := []) (ct_X5_hasCall E aq0  σ) rfl rfl mv_X5_hasCall w_2_221 rfl hR_X10_steps_X5_hasCall rfl (Nat.le_of_ble_eq_true rfl) dX10_steps_5 (fun rq2 σ1 _ => ?_)
  refine k_if_eq (pc := 8) F 23 dX10_steps_8 (by decide) (fun _ => ?_) (fun _ => ?_)
  · refine k_aload_n (pc := 23) F 0 0 dX10_steps_23 rfl rfl ?_
    refine gf_0_0 (pc := 24) F w_2_66 dX10_steps_24 ?_
    refine k_iconst (pc := 27) F (v := (0 : Int32)) dX10_steps_27 ci_0 ?_
    refine k_callVI (pc := 28) B (k := 1) (As := [.int (0 : Int32)]) (rest := []) (ct_X0_tell E (0 : Int32)  σ1) rfl rfl mv_X0_tell w_2_98 rfl hR_X10_steps_X0_tell rfl (Nat.le_of_ble_eq_true rfl) dX10_steps_28 (fun rq4 σ3 _ => ?_)
    exact k_iret (pc := 31) B dX10_steps_31
  · refine k_aload_n (pc := 11) F 0 0 dX10_steps_11 rfl rfl ?_
    refine gf_0_4 (pc := 12) F w_2_70 dX10_steps_12 ?_
    refine gf_7_1 (pc := 15) F w_1_103 dX10_steps_15 ?_
    refine k_iload_n (pc := 18) F 1 1 dX10_steps_18 rfl rfl ?_
    refine k_iald (pc := 19) F rfl dX10_steps_19 ?_
    refine k_goto (pc := 20) F 31 dX10_steps_20 (by decide) ?_
    exact k_iret (pc := 31) B dX10_steps_31
set_option maxHeartbeats 4000000 in
set_option maxRecDepth 100000 in
theorem ct_X10_steps (E : En) (aq0 : Int32)  (σ : Mm) : CtI E yX10_steps cX10_steps 2 (some .int) H_X10_steps [.ref (ad E 0), .int aq0] σ (f_X10_steps aq0 σ) := ct_I (by decide) (Nat.le_of_ble_eq_true rfl) rfl (fun G B => t_X10_steps B aq0  σ)
abbrev H_X10_step : Nat := 2
theorem hR_X10_step_X5_partOf : H_X5_partOf + 1 ≤ H_X10_step ∧ 8 + (4 + 11) + 40 * H_X5_partOf ≤ 40 * H_X10_step := by decide
theorem hR_X10_step_X0_tell : H_X0_tell + 1 ≤ H_X10_step ∧ 8 + (2 + 11) + 40 * H_X0_tell ≤ 40 * H_X10_step := by decide
theorem hR_X10_step_X5_hasStep : H_X5_hasStep + 1 ≤ H_X10_step ∧ 8 + (3 + 11) + 40 * H_X5_hasStep ≤ 40 * H_X10_step := by decide
set_option maxHeartbeats 4000000 in
set_option maxRecDepth 100000 in
theorem t_X10_step {E : En} {G : Cx} (B : Bx E G cX10_step 5 RX10 H_X10_step (some .int)) (aq0 : Int32) (aq1 : Int32) (aq2 : Int32)  (σ : Mm) : KR E G 5 (ZI E G) (f_X10_step aq0 aq1 aq2 σ) 0 [(0, .ref (ad E 0)), (1, .int aq0), (2, .int aq1), (3, .int aq2)] [] σ := by
  have F := B.1
  unfold f_X10_step
  refine k_aload_n (pc := 0) F 0 0 dX10_step_0 rfl rfl ?_
  refine gf_0_4 (pc := 1) F w_2_70 dX10_step_1 ?_
  refine k_iload_n (pc := 4) F 1 1 dX10_step_4 rfl rfl ?_
  refine k_iload_n (pc := 5) F 2 2 dX10_step_5 rfl rfl ?_
  refine k_callVI (pc := 6) B (k := 7) (As := [.int aq0, .int aq1]) (rest := []) (ct_X5_hasStep E aq0 aq1  σ) rfl rfl mv_X5_hasStep w_2_229 rfl hR_X10_step_X5_hasStep rfl (Nat.le_of_ble_eq_true rfl) dX10_step_6 (fun rq2 σ1 _ => ?_)
  refine k_if_eq (pc := 9) F 21 dX10_step_9 (by decide) (fun _ => ?_) (fun _ => ?_)
  · refine k_aload_n (pc := 21) F 0 0 dX10_step_21 rfl rfl ?_
    refine gf_0_0 (pc := 22) F w_2_66 dX10_step_22 ?_
    refine k_iconst (pc := 25) F (v := (0 : Int32)) dX10_step_25 ci_0 ?_
    refine k_callVI (pc := 26) B (k := 1) (As := [.int (0 : Int32)]) (rest := []) (ct_X0_tell E (0 : Int32)  σ1) rfl rfl mv_X0_tell w_2_98 rfl hR_X10_step_X0_tell rfl (Nat.le_of_ble_eq_true rfl) dX10_step_26 (fun rq4 σ3 _ => ?_)
    exact k_iret (pc := 29) B dX10_step_29
  · refine k_iload_n (pc := 12) F 3 3 dX10_step_12 rfl rfl ?_
    refine k_if_lt (pc := 13) F 21 dX10_step_13 (by decide) (fun _ => ?_) (fun _ => ?_)
    · refine k_aload_n (pc := 21) F 0 0 dX10_step_21 rfl rfl ?_
      refine gf_0_0 (pc := 22) F w_2_66 dX10_step_22 ?_
      refine k_iconst (pc := 25) F (v := (0 : Int32)) dX10_step_25 ci_0 ?_
      refine k_callVI (pc := 26) B (k := 1) (As := [.int (0 : Int32)]) (rest := []) (ct_X0_tell E (0 : Int32)  σ1) rfl rfl mv_X0_tell w_2_98 rfl hR_X10_step_X0_tell rfl (Nat.le_of_ble_eq_true rfl) dX10_step_26 (fun rq6 σ5 _ => ?_)
      exact k_iret (pc := 29) B dX10_step_29
    · refine k_iload_n (pc := 16) F 3 3 dX10_step_16 rfl rfl ?_
      refine k_iconst (pc := 17) F (v := (5 : Int32)) dX10_step_17 ci_5 ?_
      refine k_icmp_lt (pc := 18) F 30 dX10_step_18 (by decide) (fun _ => ?_) (fun _ => ?_)
      · refine k_sget (pc := 30) F 1 (q := stQ1) rfl w_2_234 dX10_step_30 ?_
        refine k_aload_n (pc := 33) F 0 0 dX10_step_33 rfl rfl ?_
        refine gf_0_4 (pc := 34) F w_2_70 dX10_step_34 ?_
        refine k_iload_n (pc := 37) F 1 1 dX10_step_37 rfl rfl ?_
        refine k_iload_n (pc := 38) F 2 2 dX10_step_38 rfl rfl ?_
        refine k_iconst (pc := 39) F (v := (0 : Int32)) dX10_step_39 ci_0 ?_
        refine k_callVI (pc := 40) B (k := 7) (As := [.int aq0, .int aq1, .int (0 : Int32)]) (rest := [.ref (zA E 1)]) (ct_X5_partOf E aq0 aq1 (0 : Int32)  σ1) rfl rfl mv_X5_partOf w_2_236 rfl hR_X10_step_X5_partOf rfl (Nat.le_of_ble_eq_true rfl) dX10_step_40 (fun rq8 σ7 _ => ?_)
        refine k_sld (pc := 43) F 1 (q := stQ1) rfl dX10_step_43 ?_
        refine k_nmI (fun vq9 => ?_)
        refine k_istore F (lv' := [(4, .int vq9), (0, .ref (ad E 0)), (1, .int aq0), (2, .int aq1), (3, .int aq2)]) 4 dX10_step_44 (by decide) rfl ?_
        refine k_iload (pc := 46) F 4 0 dX10_step_46 rfl ?_
        refine k_iload_n (pc := 48) F 3 4 dX10_step_48 rfl rfl ?_
        refine k_ishr (pc := 49) F dX10_step_49 ?_
        refine k_iconst (pc := 50) F (v := (1 : Int32)) dX10_step_50 ci_1 ?_
        refine k_iand (pc := 51) F dX10_step_51 ?_
        refine k_if_ne (pc := 52) F 64 dX10_step_52 (by decide) (fun _ => ?_) (fun _ => ?_)
        · refine k_aload_n (pc := 55) F 0 1 dX10_step_55 rfl rfl ?_
          refine gf_0_0 (pc := 56) F w_2_66 dX10_step_56 ?_
          refine k_iconst (pc := 59) F (v := (2 : Int32)) dX10_step_59 ci_2 ?_
          refine k_callVI (pc := 60) B (k := 1) (As := [.int (2 : Int32)]) (rest := []) (ct_X0_tell E (2 : Int32)  σ7) rfl rfl mv_X0_tell w_2_98 rfl hR_X10_step_X0_tell rfl (Nat.le_of_ble_eq_true rfl) dX10_step_60 (fun rq13 σ12 _ => ?_)
          exact k_iret (pc := 63) B dX10_step_63
        · refine k_aload_n (pc := 64) F 0 1 dX10_step_64 rfl rfl ?_
          refine gf_0_4 (pc := 65) F w_2_70 dX10_step_65 ?_
          refine k_iload_n (pc := 68) F 1 2 dX10_step_68 rfl rfl ?_
          refine k_iload_n (pc := 69) F 2 3 dX10_step_69 rfl rfl ?_
          refine k_iload_n (pc := 70) F 3 4 dX10_step_70 rfl rfl ?_
          refine k_callVI (pc := 71) B (k := 7) (As := [.int aq0, .int aq1, .int aq2]) (rest := []) (ct_X5_partOf E aq0 aq1 aq2  σ7) rfl rfl mv_X5_partOf w_2_236 rfl hR_X10_step_X5_partOf rfl (Nat.le_of_ble_eq_true rfl) dX10_step_71 (fun rq11 σ10 _ => ?_)
          exact k_iret (pc := 74) B dX10_step_74
      · refine k_aload_n (pc := 21) F 0 0 dX10_step_21 rfl rfl ?_
        refine gf_0_0 (pc := 22) F w_2_66 dX10_step_22 ?_
        refine k_iconst (pc := 25) F (v := (0 : Int32)) dX10_step_25 ci_0 ?_
        refine k_callVI (pc := 26) B (k := 1) (As := [.int (0 : Int32)]) (rest := []) (ct_X0_tell E (0 : Int32)  σ1) rfl rfl mv_X0_tell w_2_98 rfl hR_X10_step_X0_tell rfl (Nat.le_of_ble_eq_true rfl) dX10_step_26 (fun rq15 σ14 _ => ?_)
        exact k_iret (pc := 29) B dX10_step_29
set_option maxHeartbeats 4000000 in
set_option maxRecDepth 100000 in
theorem ct_X10_step (E : En) (aq0 : Int32) (aq1 : Int32) (aq2 : Int32)  (σ : Mm) : CtI E yX10_step cX10_step 5 (some .int) H_X10_step [.ref (ad E 0), .int aq0, .int aq1, .int aq2] σ (f_X10_step aq0 aq1 aq2 σ) := ct_I (by decide) (Nat.le_of_ble_eq_true rfl) rfl (fun G B => t_X10_step B aq0 aq1 aq2  σ)
abbrev H_X10_isUnder : Nat := 0
set_option maxHeartbeats 4000000 in
set_option maxRecDepth 100000 in
theorem t_X10_isUnder_L4b {E : En} {G : Cx} (B : Bx E G cX10_isUnder 4 RX10 H_X10_isUnder (some .boolean)) (xq1 : Int32)   (L4 : Int32 → Int32 → Mm → Option (Int32 × Mm)) (hL4 : ∀ (xq2 : Int32) (xq3 : Int32)  (σ : Mm), KR E G 4 (ZI E G) (L4 xq2 xq3 σ) 4 [(1, .int xq1), (2, .int xq2), (3, .int xq3)] [] σ) (xq2 : Int32) (xq3 : Int32)  (σ : Mm) : KR E G 4 (ZI E G) (f_X10_isUnder_L4 xq1 L4 xq2 xq3 σ) 4 [(1, .int xq1), (2, .int xq2), (3, .int xq3)] [] σ := by
  have F := B.1
  unfold f_X10_isUnder_L4
  refine k_iload_n (pc := 4) F 3 2 dX10_isUnder_4 rfl rfl ?_
  refine k_sget (pc := 5) F 0 (q := stQ0) rfl w_3_4 dX10_isUnder_5 ?_
  refine k_slen (pc := 8) F 0 (q := stQ0) rfl (v := (8 : Int32)) cn_8 dX10_isUnder_8 ?_
  refine k_icmp_ge (pc := 9) F 35 dX10_isUnder_9 (by decide) (fun _ => ?_) (fun _ => ?_)
  · refine k_iconst (pc := 35) F (v := (0 : Int32)) dX10_isUnder_35 ci_0 ?_
    exact k_zret (pc := 36) B dX10_isUnder_36
  · refine k_iload_n (pc := 12) F 2 1 dX10_isUnder_12 rfl rfl ?_
    refine k_if_lt (pc := 13) F 35 dX10_isUnder_13 (by decide) (fun _ => ?_) (fun _ => ?_)
    · refine k_iconst (pc := 35) F (v := (0 : Int32)) dX10_isUnder_35 ci_0 ?_
      exact k_zret (pc := 36) B dX10_isUnder_36
    · refine k_iload_n (pc := 16) F 2 1 dX10_isUnder_16 rfl rfl ?_
      refine k_iload_n (pc := 17) F 1 0 dX10_isUnder_17 rfl rfl ?_
      refine k_icmp_ne (pc := 18) F 23 dX10_isUnder_18 (by decide) (fun _ => ?_) (fun _ => ?_)
      · refine k_iconst (pc := 21) F (v := (1 : Int32)) dX10_isUnder_21 ci_1 ?_
        exact k_zret (pc := 22) B dX10_isUnder_22
      · refine k_sget (pc := 23) F 0 (q := stQ0) rfl w_3_4 dX10_isUnder_23 ?_
        refine k_iload_n (pc := 26) F 2 1 dX10_isUnder_26 rfl rfl ?_
        refine k_sld (pc := 27) F 0 (q := stQ0) rfl dX10_isUnder_27 ?_
        refine k_nmI (fun vq1 => ?_)
        refine k_istore_n F (lv' := [(2, .int vq1), (1, .int xq1), (3, .int xq3)]) 2 dX10_isUnder_28 rfl (by decide) rfl ?_
        refine k_iinc (pc := 29) F (c := (1 : Int32)) (lw := fun wq => [(3, .int wq), (2, .int vq1), (1, .int xq1)]) 3 2 dX10_isUnder_29 rfl ci_1 (by decide) (fun _ => rfl) (fun vq2 => ?_)
        refine k_goto (pc := 32) F 4 dX10_isUnder_32 (by decide) ?_
        exact k_sub [2, 1, 0] rfl (hL4 vq1 vq2 σ)
set_option maxHeartbeats 4000000 in
set_option maxRecDepth 100000 in
theorem t_X10_isUnder_L4 {E : En} {G : Cx} (B : Bx E G cX10_isUnder 4 RX10 H_X10_isUnder (some .boolean)) (xq1 : Int32)   : ∀ (n : Nat) (xq2 : Int32) (xq3 : Int32)  (σ : Mm), KR E G 4 (ZI E G) (fx (fun _ _ _ => none) n (f_X10_isUnder_L4 xq1) xq2 xq3 σ) 4 [(1, .int xq1), (2, .int xq2), (3, .int xq3)] [] σ :=
  fun n => fx_ind (P := fun f => ∀ (xq2 : Int32) (xq3 : Int32)  (σ : Mm), KR E G 4 (ZI E G) (f xq2 xq3 σ) 4 [(1, .int xq1), (2, .int xq2), (3, .int xq3)] [] σ) (fun _ _ _ => k_none) (fun L4 hL4 xq2 xq3 σ => t_X10_isUnder_L4b B xq1   L4 hL4 xq2 xq3 σ) n
set_option maxHeartbeats 4000000 in
set_option maxRecDepth 100000 in
theorem t_X10_isUnder {E : En} {G : Cx} (B : Bx E G cX10_isUnder 4 RX10 H_X10_isUnder (some .boolean)) (aq0 : Int32) (aq1 : Int32)  (σ : Mm) : KR E G 4 (ZI E G) (f_X10_isUnder aq0 aq1 σ) 0 [(0, .int aq0), (1, .int aq1)] [] σ := by
  have F := B.1
  unfold f_X10_isUnder
  refine k_iload_n (pc := 0) F 0 0 dX10_isUnder_0 rfl rfl ?_
  refine k_istore_n F (lv' := [(2, .int aq0), (0, .int aq0), (1, .int aq1)]) 2 dX10_isUnder_1 rfl (by decide) rfl ?_
  refine k_iconst (pc := 2) F (v := (0 : Int32)) dX10_isUnder_2 ci_0 ?_
  refine k_istore_n F (lv' := [(3, .int (0 : Int32)), (2, .int aq0), (0, .int aq0), (1, .int aq1)]) 3 dX10_isUnder_3 rfl (by decide) rfl ?_
  exact k_sub [3, 1, 0] rfl (t_X10_isUnder_L4 B aq1   FU aq0 (0 : Int32)  σ)
set_option maxHeartbeats 4000000 in
set_option maxRecDepth 100000 in
theorem ct_X10_isUnder (E : En) (aq0 : Int32) (aq1 : Int32)  (σ : Mm) : CtI E yX10_isUnder cX10_isUnder 4 (some .boolean) H_X10_isUnder [.int aq0, .int aq1] σ (f_X10_isUnder aq0 aq1 σ) := ct_I (by decide) (Nat.le_of_ble_eq_true rfl) rfl (fun G B => t_X10_isUnder B aq0 aq1  σ)
abbrev H_X10_as : Nat := 2
theorem hR_X10_as_X10_isUnder : H_X10_isUnder + 1 ≤ H_X10_as ∧ 8 + (4 + 11) + 40 * H_X10_isUnder ≤ 40 * H_X10_as := by decide
theorem hR_X10_as_X5_partOf : H_X5_partOf + 1 ≤ H_X10_as ∧ 8 + (4 + 11) + 40 * H_X5_partOf ≤ 40 * H_X10_as := by decide
theorem hR_X10_as_X0_tell : H_X0_tell + 1 ≤ H_X10_as ∧ 8 + (2 + 11) + 40 * H_X0_tell ≤ 40 * H_X10_as := by decide
theorem hR_X10_as_X5_hasStep : H_X5_hasStep + 1 ≤ H_X10_as ∧ 8 + (3 + 11) + 40 * H_X5_hasStep ≤ 40 * H_X10_as := by decide
set_option maxHeartbeats 4000000 in
set_option maxRecDepth 100000 in
theorem t_X10_as {E : En} {G : Cx} (B : Bx E G cX10_as 5 RX10 H_X10_as (some .int)) (aq0 : Int32) (aq1 : Int32) (aq2 : Int32)  (σ : Mm) : KR E G 5 (ZI E G) (f_X10_as aq0 aq1 aq2 σ) 0 [(0, .ref (ad E 0)), (1, .int aq0), (2, .int aq1), (3, .int aq2)] [] σ := by
  have F := B.1
  unfold f_X10_as
  refine k_aload_n (pc := 0) F 0 0 dX10_as_0 rfl rfl ?_
  refine gf_0_4 (pc := 1) F w_2_70 dX10_as_1 ?_
  refine k_iload_n (pc := 4) F 1 1 dX10_as_4 rfl rfl ?_
  refine k_iload_n (pc := 5) F 2 2 dX10_as_5 rfl rfl ?_
  refine k_callVI (pc := 6) B (k := 7) (As := [.int aq0, .int aq1]) (rest := []) (ct_X5_hasStep E aq0 aq1  σ) rfl rfl mv_X5_hasStep w_2_229 rfl hR_X10_as_X5_hasStep rfl (Nat.le_of_ble_eq_true rfl) dX10_as_6 (fun rq2 σ1 _ => ?_)
  refine k_if_eq (pc := 9) F 24 dX10_as_9 (by decide) (fun _ => ?_) (fun _ => ?_)
  · refine k_aload_n (pc := 24) F 0 0 dX10_as_24 rfl rfl ?_
    refine gf_0_0 (pc := 25) F w_2_66 dX10_as_25 ?_
    refine k_iconst (pc := 28) F (v := (0 : Int32)) dX10_as_28 ci_0 ?_
    refine k_callVI (pc := 29) B (k := 1) (As := [.int (0 : Int32)]) (rest := []) (ct_X0_tell E (0 : Int32)  σ1) rfl rfl mv_X0_tell w_2_98 rfl hR_X10_as_X0_tell rfl (Nat.le_of_ble_eq_true rfl) dX10_as_29 (fun rq4 σ3 _ => ?_)
    exact k_iret (pc := 32) B dX10_as_32
  · refine k_iload_n (pc := 12) F 3 3 dX10_as_12 rfl rfl ?_
    refine k_if_lt (pc := 13) F 24 dX10_as_13 (by decide) (fun _ => ?_) (fun _ => ?_)
    · refine k_aload_n (pc := 24) F 0 0 dX10_as_24 rfl rfl ?_
      refine gf_0_0 (pc := 25) F w_2_66 dX10_as_25 ?_
      refine k_iconst (pc := 28) F (v := (0 : Int32)) dX10_as_28 ci_0 ?_
      refine k_callVI (pc := 29) B (k := 1) (As := [.int (0 : Int32)]) (rest := []) (ct_X0_tell E (0 : Int32)  σ1) rfl rfl mv_X0_tell w_2_98 rfl hR_X10_as_X0_tell rfl (Nat.le_of_ble_eq_true rfl) dX10_as_29 (fun rq6 σ5 _ => ?_)
      exact k_iret (pc := 32) B dX10_as_32
    · refine k_iload_n (pc := 16) F 3 3 dX10_as_16 rfl rfl ?_
      refine k_sget (pc := 17) F 0 (q := stQ0) rfl w_3_4 dX10_as_17 ?_
      refine k_slen (pc := 20) F 0 (q := stQ0) rfl (v := (8 : Int32)) cn_8 dX10_as_20 ?_
      refine k_icmp_lt (pc := 21) F 33 dX10_as_21 (by decide) (fun _ => ?_) (fun _ => ?_)
      · refine k_aload_n (pc := 33) F 0 0 dX10_as_33 rfl rfl ?_
        refine gf_0_4 (pc := 34) F w_2_70 dX10_as_34 ?_
        refine k_iload_n (pc := 37) F 1 1 dX10_as_37 rfl rfl ?_
        refine k_iload_n (pc := 38) F 2 2 dX10_as_38 rfl rfl ?_
        refine k_iconst (pc := 39) F (v := (0 : Int32)) dX10_as_39 ci_0 ?_
        refine k_callVI (pc := 40) B (k := 7) (As := [.int aq0, .int aq1, .int (0 : Int32)]) (rest := []) (ct_X5_partOf E aq0 aq1 (0 : Int32)  σ1) rfl rfl mv_X5_partOf w_2_236 rfl hR_X10_as_X5_partOf rfl (Nat.le_of_ble_eq_true rfl) dX10_as_40 (fun rq8 σ7 _ => ?_)
        refine k_istore F (lv' := [(4, .int rq8), (0, .ref (ad E 0)), (1, .int aq0), (2, .int aq1), (3, .int aq2)]) 4 dX10_as_43 (by decide) rfl ?_
        refine k_iload (pc := 45) F 4 0 dX10_as_45 rfl ?_
        refine k_iload_n (pc := 47) F 3 4 dX10_as_47 rfl rfl ?_
        refine k_callSI (pc := 48) B (As := [.int rq8, .int aq2]) (rest := []) (ct_X10_isUnder E rq8 aq2  σ7) ms_X10_isUnder w_3_6 rfl hR_X10_as_X10_isUnder rfl (Nat.le_of_ble_eq_true rfl) dX10_as_48 (fun rq10 σ9 _ => ?_)
        refine k_if_eq (pc := 51) F 59 dX10_as_51 (by decide) (fun _ => ?_) (fun _ => ?_)
        · refine k_aload_n (pc := 59) F 0 1 dX10_as_59 rfl rfl ?_
          refine gf_0_0 (pc := 60) F w_2_66 dX10_as_60 ?_
          refine k_iconst (pc := 63) F (v := (2 : Int32)) dX10_as_63 ci_2 ?_
          refine k_callVI (pc := 64) B (k := 1) (As := [.int (2 : Int32)]) (rest := []) (ct_X0_tell E (2 : Int32)  σ9) rfl rfl mv_X0_tell w_2_98 rfl hR_X10_as_X0_tell rfl (Nat.le_of_ble_eq_true rfl) dX10_as_64 (fun rq12 σ11 _ => ?_)
          exact k_iret (pc := 67) B dX10_as_67
        · refine k_iload (pc := 54) F 4 0 dX10_as_54 rfl ?_
          refine k_goto (pc := 56) F 67 dX10_as_56 (by decide) ?_
          exact k_iret (pc := 67) B dX10_as_67
      · refine k_aload_n (pc := 24) F 0 0 dX10_as_24 rfl rfl ?_
        refine gf_0_0 (pc := 25) F w_2_66 dX10_as_25 ?_
        refine k_iconst (pc := 28) F (v := (0 : Int32)) dX10_as_28 ci_0 ?_
        refine k_callVI (pc := 29) B (k := 1) (As := [.int (0 : Int32)]) (rest := []) (ct_X0_tell E (0 : Int32)  σ1) rfl rfl mv_X0_tell w_2_98 rfl hR_X10_as_X0_tell rfl (Nat.le_of_ble_eq_true rfl) dX10_as_29 (fun rq14 σ13 _ => ?_)
        exact k_iret (pc := 32) B dX10_as_32
set_option maxHeartbeats 4000000 in
set_option maxRecDepth 100000 in
theorem ct_X10_as (E : En) (aq0 : Int32) (aq1 : Int32) (aq2 : Int32)  (σ : Mm) : CtI E yX10_as cX10_as 5 (some .int) H_X10_as [.ref (ad E 0), .int aq0, .int aq1, .int aq2] σ (f_X10_as aq0 aq1 aq2 σ) := ct_I (by decide) (Nat.le_of_ble_eq_true rfl) rfl (fun G B => t_X10_as B aq0 aq1 aq2  σ)
abbrev H_X10_isValue : Nat := 0
set_option maxHeartbeats 4000000 in
set_option maxRecDepth 100000 in
theorem t_X10_isValue_13 {E : En} {G : Cx} (B : Bx E G cX10_isValue 1 RX10 H_X10_isValue (some .boolean))    (σ : Mm) : KR E G 1 (ZI E G) (f_X10_isValue_13  σ) 13 [] [] σ := by
  have F := B.1
  unfold f_X10_isValue_13
  refine k_iconst (pc := 13) F (v := (0 : Int32)) dX10_isValue_13 ci_0 ?_
  exact k_zret (pc := 14) B dX10_isValue_14
set_option maxHeartbeats 4000000 in
set_option maxRecDepth 100000 in
theorem t_X10_isValue {E : En} {G : Cx} (B : Bx E G cX10_isValue 1 RX10 H_X10_isValue (some .boolean)) (aq0 : Int32)  (σ : Mm) : KR E G 1 (ZI E G) (f_X10_isValue aq0 σ) 0 [(0, .int aq0)] [] σ := by
  have F := B.1
  unfold f_X10_isValue
  refine k_iload_n (pc := 0) F 0 0 dX10_isValue_0 rfl rfl ?_
  refine k_if_lt (pc := 1) F 13 dX10_isValue_1 (by decide) (fun _ => ?_) (fun _ => ?_)
  · exact k_sub [] rfl (t_X10_isValue_13 B    σ)
  · refine k_iload_n (pc := 4) F 0 0 dX10_isValue_4 rfl rfl ?_
    refine k_iconst (pc := 5) F (v := (4 : Int32)) dX10_isValue_5 ci_4 ?_
    refine k_icmp_ge (pc := 6) F 13 dX10_isValue_6 (by decide) (fun _ => ?_) (fun _ => ?_)
    · exact k_sub [] rfl (t_X10_isValue_13 B    σ)
    · refine k_iconst (pc := 9) F (v := (1 : Int32)) dX10_isValue_9 ci_1 ?_
      refine k_goto (pc := 10) F 14 dX10_isValue_10 (by decide) ?_
      exact k_zret (pc := 14) B dX10_isValue_14
set_option maxHeartbeats 4000000 in
set_option maxRecDepth 100000 in
theorem ct_X10_isValue (E : En) (aq0 : Int32)  (σ : Mm) : CtI E yX10_isValue cX10_isValue 1 (some .boolean) H_X10_isValue [.int aq0] σ (f_X10_isValue aq0 σ) := ct_I (by decide) (Nat.le_of_ble_eq_true rfl) rfl (fun G B => t_X10_isValue B aq0  σ)
abbrev H_X10_change : Nat := 2
theorem hR_X10_change_X5_hasStep : H_X5_hasStep + 1 ≤ H_X10_change ∧ 8 + (3 + 11) + 40 * H_X5_hasStep ≤ 40 * H_X10_change := by decide
theorem hR_X10_change_X5_changeablePart : H_X5_changeablePart + 1 ≤ H_X10_change ∧ 8 + (3 + 11) + 40 * H_X5_changeablePart ≤ 40 * H_X10_change := by decide
theorem hR_X10_change_X7_forget : H_X7_forget + 1 ≤ H_X10_change ∧ 8 + (1 + 11) + 40 * H_X7_forget ≤ 40 * H_X10_change := by decide
theorem hR_X10_change_X10_isValue : H_X10_isValue + 1 ≤ H_X10_change ∧ 8 + (1 + 11) + 40 * H_X10_isValue ≤ 40 * H_X10_change := by decide
theorem hR_X10_change_X0_tell : H_X0_tell + 1 ≤ H_X10_change ∧ 8 + (2 + 11) + 40 * H_X0_tell ≤ 40 * H_X10_change := by decide
theorem hR_X10_change_X5_putPart : H_X5_putPart + 1 ≤ H_X10_change ∧ 8 + (5 + 11) + 40 * H_X5_putPart ≤ 40 * H_X10_change := by decide
theorem hR_X10_change_X5_partOf : H_X5_partOf + 1 ≤ H_X10_change ∧ 8 + (4 + 11) + 40 * H_X5_partOf ≤ 40 * H_X10_change := by decide
set_option maxHeartbeats 4000000 in
set_option maxRecDepth 100000 in
theorem t_X10_change {E : En} {G : Cx} (B : Bx E G cX10_change 6 RX10 H_X10_change (some .int)) (aq0 : Int32) (aq1 : Int32) (aq2 : Int32)  (σ : Mm) : KR E G 6 (ZI E G) (f_X10_change aq0 aq1 aq2 σ) 0 [(0, .ref (ad E 0)), (1, .int aq0), (2, .int aq1), (3, .int aq2)] [] σ := by
  have F := B.1
  unfold f_X10_change
  refine k_aload_n (pc := 0) F 0 0 dX10_change_0 rfl rfl ?_
  refine gf_0_4 (pc := 1) F w_2_70 dX10_change_1 ?_
  refine k_iload_n (pc := 4) F 1 1 dX10_change_4 rfl rfl ?_
  refine k_iload_n (pc := 5) F 2 2 dX10_change_5 rfl rfl ?_
  refine k_callVI (pc := 6) B (k := 7) (As := [.int aq0, .int aq1]) (rest := []) (ct_X5_hasStep E aq0 aq1  σ) rfl rfl mv_X5_hasStep w_2_229 rfl hR_X10_change_X5_hasStep rfl (Nat.le_of_ble_eq_true rfl) dX10_change_6 (fun rq2 σ1 _ => ?_)
  refine k_if_eq (pc := 9) F 19 dX10_change_9 (by decide) (fun _ => ?_) (fun _ => ?_)
  · refine k_aload_n (pc := 19) F 0 0 dX10_change_19 rfl rfl ?_
    refine gf_0_0 (pc := 20) F w_2_66 dX10_change_20 ?_
    refine k_iconst (pc := 23) F (v := (0 : Int32)) dX10_change_23 ci_0 ?_
    refine k_callVI (pc := 24) B (k := 1) (As := [.int (0 : Int32)]) (rest := []) (ct_X0_tell E (0 : Int32)  σ1) rfl rfl mv_X0_tell w_2_98 rfl hR_X10_change_X0_tell rfl (Nat.le_of_ble_eq_true rfl) dX10_change_24 (fun rq4 σ3 _ => ?_)
    exact k_iret (pc := 27) B dX10_change_27
  · refine k_iload_n (pc := 12) F 3 3 dX10_change_12 rfl rfl ?_
    refine k_callSI (pc := 13) B (As := [.int aq2]) (rest := []) (ct_X10_isValue E aq2  σ1) ms_X10_isValue w_3_13 rfl hR_X10_change_X10_isValue rfl (Nat.le_of_ble_eq_true rfl) dX10_change_13 (fun rq6 σ5 _ => ?_)
    refine k_if_ne (pc := 16) F 28 dX10_change_16 (by decide) (fun _ => ?_) (fun _ => ?_)
    · refine k_aload_n (pc := 19) F 0 0 dX10_change_19 rfl rfl ?_
      refine gf_0_0 (pc := 20) F w_2_66 dX10_change_20 ?_
      refine k_iconst (pc := 23) F (v := (0 : Int32)) dX10_change_23 ci_0 ?_
      refine k_callVI (pc := 24) B (k := 1) (As := [.int (0 : Int32)]) (rest := []) (ct_X0_tell E (0 : Int32)  σ5) rfl rfl mv_X0_tell w_2_98 rfl hR_X10_change_X0_tell rfl (Nat.le_of_ble_eq_true rfl) dX10_change_24 (fun rq18 σ17 _ => ?_)
      exact k_iret (pc := 27) B dX10_change_27
    · refine k_aload_n (pc := 28) F 0 0 dX10_change_28 rfl rfl ?_
      refine gf_0_4 (pc := 29) F w_2_70 dX10_change_29 ?_
      refine k_iload_n (pc := 32) F 1 1 dX10_change_32 rfl rfl ?_
      refine k_iload_n (pc := 33) F 2 2 dX10_change_33 rfl rfl ?_
      refine k_callVI (pc := 34) B (k := 7) (As := [.int aq0, .int aq1]) (rest := []) (ct_X5_changeablePart E aq0 aq1  σ5) rfl rfl mv_X5_changeablePart w_3_16 rfl hR_X10_change_X5_changeablePart rfl (Nat.le_of_ble_eq_true rfl) dX10_change_34 (fun rq8 σ7 _ => ?_)
      refine k_istore F (lv' := [(4, .int rq8), (0, .ref (ad E 0)), (1, .int aq0), (2, .int aq1), (3, .int aq2)]) 4 dX10_change_37 (by decide) rfl ?_
      refine k_iload (pc := 39) F 4 0 dX10_change_39 rfl ?_
      refine k_if_ge (pc := 41) F 53 dX10_change_41 (by decide) (fun _ => ?_) (fun _ => ?_)
      · refine k_aload_n (pc := 53) F 0 1 dX10_change_53 rfl rfl ?_
        refine gf_0_4 (pc := 54) F w_2_70 dX10_change_54 ?_
        refine k_iload_n (pc := 57) F 1 2 dX10_change_57 rfl rfl ?_
        refine k_iload_n (pc := 58) F 2 3 dX10_change_58 rfl rfl ?_
        refine k_iload (pc := 59) F 4 0 dX10_change_59 rfl ?_
        refine k_callVI (pc := 61) B (k := 7) (As := [.int aq0, .int aq1, .int rq8]) (rest := []) (ct_X5_partOf E aq0 aq1 rq8  σ7) rfl rfl mv_X5_partOf w_2_236 rfl hR_X10_change_X5_partOf rfl (Nat.le_of_ble_eq_true rfl) dX10_change_61 (fun rq10 σ9 _ => ?_)
        refine k_istore F (lv' := [(5, .int rq10), (4, .int rq8), (0, .ref (ad E 0)), (1, .int aq0), (2, .int aq1), (3, .int aq2)]) 5 dX10_change_64 (by decide) rfl ?_
        refine k_aload_n (pc := 66) F 0 2 dX10_change_66 rfl rfl ?_
        refine gf_0_4 (pc := 67) F w_2_70 dX10_change_67 ?_
        refine k_iload_n (pc := 70) F 1 3 dX10_change_70 rfl rfl ?_
        refine k_iload_n (pc := 71) F 2 4 dX10_change_71 rfl rfl ?_
        refine k_iload (pc := 72) F 4 1 dX10_change_72 rfl ?_
        refine k_iload_n (pc := 74) F 3 5 dX10_change_74 rfl rfl ?_
        refine k_callVV (pc := 75) B (k := 7) (As := [.int aq0, .int aq1, .int rq8, .int aq2]) (rest := []) (ct_X5_putPart E aq0 aq1 rq8 aq2  σ9) rfl rfl mv_X5_putPart w_3_21 rfl hR_X10_change_X5_putPart rfl (Nat.le_of_ble_eq_true rfl) dX10_change_75 (fun rq12 σ11 _ => ?_)
        refine k_aload_n (pc := 78) F 0 2 dX10_change_78 rfl rfl ?_
        refine gf_0_3 (pc := 79) F w_2_69 dX10_change_79 ?_
        refine k_callVV (pc := 82) B (k := 6) (As := []) (rest := []) (ct_X7_forget E   σ11) rfl rfl mv_X7_forget w_2_212 rfl hR_X10_change_X7_forget rfl (Nat.le_of_ble_eq_true rfl) dX10_change_82 (fun rq14 σ13 _ => ?_)
        refine k_iload (pc := 85) F 5 0 dX10_change_85 rfl ?_
        exact k_iret (pc := 87) B dX10_change_87
      · refine k_aload_n (pc := 44) F 0 1 dX10_change_44 rfl rfl ?_
        refine gf_0_0 (pc := 45) F w_2_66 dX10_change_45 ?_
        refine k_iconst (pc := 48) F (v := (2 : Int32)) dX10_change_48 ci_2 ?_
        refine k_callVI (pc := 49) B (k := 1) (As := [.int (2 : Int32)]) (rest := []) (ct_X0_tell E (2 : Int32)  σ7) rfl rfl mv_X0_tell w_2_98 rfl hR_X10_change_X0_tell rfl (Nat.le_of_ble_eq_true rfl) dX10_change_49 (fun rq16 σ15 _ => ?_)
        exact k_iret (pc := 52) B dX10_change_52
set_option maxHeartbeats 4000000 in
set_option maxRecDepth 100000 in
theorem ct_X10_change (E : En) (aq0 : Int32) (aq1 : Int32) (aq2 : Int32)  (σ : Mm) : CtI E yX10_change cX10_change 6 (some .int) H_X10_change [.ref (ad E 0), .int aq0, .int aq1, .int aq2] σ (f_X10_change aq0 aq1 aq2 σ) := ct_I (by decide) (Nat.le_of_ble_eq_true rfl) rfl (fun G B => t_X10_change B aq0 aq1 aq2  σ)
abbrev H_X10_cell : Nat := 1
theorem hR_X10_cell_X10_isValue : H_X10_isValue + 1 ≤ H_X10_cell ∧ 8 + (1 + 11) + 40 * H_X10_isValue ≤ 40 * H_X10_cell := by decide
theorem hR_X10_cell_X0_tell : H_X0_tell + 1 ≤ H_X10_cell ∧ 8 + (2 + 11) + 40 * H_X0_tell ≤ 40 * H_X10_cell := by decide
theorem hR_X10_cell_X7_forget : H_X7_forget + 1 ≤ H_X10_cell ∧ 8 + (1 + 11) + 40 * H_X7_forget ≤ 40 * H_X10_cell := by decide
set_option maxHeartbeats 4000000 in
set_option maxRecDepth 100000 in
theorem t_X10_cell {E : En} {G : Cx} (B : Bx E G cX10_cell 4 RX10 H_X10_cell (some .int)) (aq0 : Int32) (aq1 : Int32)  (σ : Mm) : KR E G 4 (ZI E G) (f_X10_cell aq0 aq1 σ) 0 [(0, .ref (ad E 0)), (1, .int aq0), (2, .int aq1)] [] σ := by
  have F := B.1
  unfold f_X10_cell
  refine k_iload_n (pc := 0) F 1 1 dX10_cell_0 rfl rfl ?_
  refine k_if_lt (pc := 1) F 16 dX10_cell_1 (by decide) (fun _ => ?_) (fun _ => ?_)
  · refine k_aload_n (pc := 16) F 0 0 dX10_cell_16 rfl rfl ?_
    refine gf_0_0 (pc := 17) F w_2_66 dX10_cell_17 ?_
    refine k_iconst (pc := 20) F (v := (0 : Int32)) dX10_cell_20 ci_0 ?_
    refine k_callVI (pc := 21) B (k := 1) (As := [.int (0 : Int32)]) (rest := []) (ct_X0_tell E (0 : Int32)  σ) rfl rfl mv_X0_tell w_2_98 rfl hR_X10_cell_X0_tell rfl (Nat.le_of_ble_eq_true rfl) dX10_cell_21 (fun rq2 σ1 _ => ?_)
    exact k_iret (pc := 24) B dX10_cell_24
  · refine k_iload_n (pc := 4) F 1 1 dX10_cell_4 rfl rfl ?_
    refine k_iconst (pc := 5) F (v := (3 : Int32)) dX10_cell_5 ci_3 ?_
    refine k_icmp_ge (pc := 6) F 16 dX10_cell_6 (by decide) (fun _ => ?_) (fun _ => ?_)
    · refine k_aload_n (pc := 16) F 0 0 dX10_cell_16 rfl rfl ?_
      refine gf_0_0 (pc := 17) F w_2_66 dX10_cell_17 ?_
      refine k_iconst (pc := 20) F (v := (0 : Int32)) dX10_cell_20 ci_0 ?_
      refine k_callVI (pc := 21) B (k := 1) (As := [.int (0 : Int32)]) (rest := []) (ct_X0_tell E (0 : Int32)  σ) rfl rfl mv_X0_tell w_2_98 rfl hR_X10_cell_X0_tell rfl (Nat.le_of_ble_eq_true rfl) dX10_cell_21 (fun rq4 σ3 _ => ?_)
      exact k_iret (pc := 24) B dX10_cell_24
    · refine k_iload_n (pc := 9) F 2 2 dX10_cell_9 rfl rfl ?_
      refine k_callSI (pc := 10) B (As := [.int aq1]) (rest := []) (ct_X10_isValue E aq1  σ) ms_X10_isValue w_3_13 rfl hR_X10_cell_X10_isValue rfl (Nat.le_of_ble_eq_true rfl) dX10_cell_10 (fun rq6 σ5 _ => ?_)
      refine k_if_ne (pc := 13) F 25 dX10_cell_13 (by decide) (fun _ => ?_) (fun _ => ?_)
      · refine k_aload_n (pc := 16) F 0 0 dX10_cell_16 rfl rfl ?_
        refine gf_0_0 (pc := 17) F w_2_66 dX10_cell_17 ?_
        refine k_iconst (pc := 20) F (v := (0 : Int32)) dX10_cell_20 ci_0 ?_
        refine k_callVI (pc := 21) B (k := 1) (As := [.int (0 : Int32)]) (rest := []) (ct_X0_tell E (0 : Int32)  σ5) rfl rfl mv_X0_tell w_2_98 rfl hR_X10_cell_X0_tell rfl (Nat.le_of_ble_eq_true rfl) dX10_cell_21 (fun rq12 σ11 _ => ?_)
        exact k_iret (pc := 24) B dX10_cell_24
      · refine k_aload_n (pc := 25) F 0 0 dX10_cell_25 rfl rfl ?_
        refine gf_0_4 (pc := 26) F w_2_70 dX10_cell_26 ?_
        refine gf_7_6 (pc := 29) F w_1_117 dX10_cell_29 ?_
        refine k_iload_n (pc := 32) F 1 1 dX10_cell_32 rfl rfl ?_
        refine k_iald (pc := 33) F rfl dX10_cell_33 ?_
        refine k_nmI (fun vq7 => ?_)
        refine k_istore_n F (lv' := [(3, .int vq7), (0, .ref (ad E 0)), (1, .int aq0), (2, .int aq1)]) 3 dX10_cell_34 rfl (by decide) rfl ?_
        refine k_aload_n (pc := 35) F 0 1 dX10_cell_35 rfl rfl ?_
        refine gf_0_4 (pc := 36) F w_2_70 dX10_cell_36 ?_
        refine gf_7_6 (pc := 39) F w_1_117 dX10_cell_39 ?_
        refine k_iload_n (pc := 42) F 1 2 dX10_cell_42 rfl rfl ?_
        refine k_iload_n (pc := 43) F 2 3 dX10_cell_43 rfl rfl ?_
        refine k_iast (pc := 44) F rfl dX10_cell_44 (fun σ8 => ?_)
        refine k_aload_n (pc := 45) F 0 1 dX10_cell_45 rfl rfl ?_
        refine gf_0_3 (pc := 46) F w_2_69 dX10_cell_46 ?_
        refine k_callVV (pc := 49) B (k := 6) (As := []) (rest := []) (ct_X7_forget E   σ8) rfl rfl mv_X7_forget w_2_212 rfl hR_X10_cell_X7_forget rfl (Nat.le_of_ble_eq_true rfl) dX10_cell_49 (fun rq10 σ9 _ => ?_)
        refine k_iload_n (pc := 52) F 3 0 dX10_cell_52 rfl rfl ?_
        exact k_iret (pc := 53) B dX10_cell_53
set_option maxHeartbeats 4000000 in
set_option maxRecDepth 100000 in
theorem ct_X10_cell (E : En) (aq0 : Int32) (aq1 : Int32)  (σ : Mm) : CtI E yX10_cell cX10_cell 4 (some .int) H_X10_cell [.ref (ad E 0), .int aq0, .int aq1] σ (f_X10_cell aq0 aq1 σ) := ct_I (by decide) (Nat.le_of_ble_eq_true rfl) rfl (fun G B => t_X10_cell B aq0 aq1  σ)
abbrev H_X10_machine : Nat := 1
theorem hR_X10_machine_X0_tell : H_X0_tell + 1 ≤ H_X10_machine ∧ 8 + (2 + 11) + 40 * H_X0_tell ≤ 40 * H_X10_machine := by decide
theorem hR_X10_machine_X7_forget : H_X7_forget + 1 ≤ H_X10_machine ∧ 8 + (1 + 11) + 40 * H_X7_forget ≤ 40 * H_X10_machine := by decide
set_option maxHeartbeats 4000000 in
set_option maxRecDepth 100000 in
theorem t_X10_machine {E : En} {G : Cx} (B : Bx E G cX10_machine 3 RX10 H_X10_machine (some .int)) (aq0 : Int32)  (σ : Mm) : KR E G 3 (ZI E G) (f_X10_machine aq0 σ) 0 [(0, .ref (ad E 0)), (1, .int aq0)] [] σ := by
  have F := B.1
  unfold f_X10_machine
  refine k_iload_n (pc := 0) F 1 1 dX10_machine_0 rfl rfl ?_
  refine k_if_lt (pc := 1) F 9 dX10_machine_1 (by decide) (fun _ => ?_) (fun _ => ?_)
  · refine k_aload_n (pc := 9) F 0 0 dX10_machine_9 rfl rfl ?_
    refine gf_0_0 (pc := 10) F w_2_66 dX10_machine_10 ?_
    refine k_iconst (pc := 13) F (v := (0 : Int32)) dX10_machine_13 ci_0 ?_
    refine k_callVI (pc := 14) B (k := 1) (As := [.int (0 : Int32)]) (rest := []) (ct_X0_tell E (0 : Int32)  σ) rfl rfl mv_X0_tell w_2_98 rfl hR_X10_machine_X0_tell rfl (Nat.le_of_ble_eq_true rfl) dX10_machine_14 (fun rq2 σ1 _ => ?_)
    exact k_iret (pc := 17) B dX10_machine_17
  · refine k_iload_n (pc := 4) F 1 1 dX10_machine_4 rfl rfl ?_
    refine k_iconst (pc := 5) F (v := (1 : Int32)) dX10_machine_5 ci_1 ?_
    refine k_icmp_le (pc := 6) F 18 dX10_machine_6 (by decide) (fun _ => ?_) (fun _ => ?_)
    · refine k_aload_n (pc := 18) F 0 0 dX10_machine_18 rfl rfl ?_
      refine gf_0_4 (pc := 19) F w_2_70 dX10_machine_19 ?_
      refine gf_7_7 (pc := 22) F w_1_120 dX10_machine_22 ?_
      refine k_nmI (fun vq3 => ?_)
      refine k_istore_n F (lv' := [(2, .int vq3), (0, .ref (ad E 0)), (1, .int aq0)]) 2 dX10_machine_25 rfl (by decide) rfl ?_
      refine k_aload_n (pc := 26) F 0 1 dX10_machine_26 rfl rfl ?_
      refine gf_0_4 (pc := 27) F w_2_70 dX10_machine_27 ?_
      refine k_iload_n (pc := 30) F 1 2 dX10_machine_30 rfl rfl ?_
      refine pf_7_7 (pc := 31) F w_1_120 dX10_machine_31 (fun σ4 => ?_)
      refine k_aload_n (pc := 34) F 0 1 dX10_machine_34 rfl rfl ?_
      refine gf_0_3 (pc := 35) F w_2_69 dX10_machine_35 ?_
      refine k_callVV (pc := 38) B (k := 6) (As := []) (rest := []) (ct_X7_forget E   σ4) rfl rfl mv_X7_forget w_2_212 rfl hR_X10_machine_X7_forget rfl (Nat.le_of_ble_eq_true rfl) dX10_machine_38 (fun rq6 σ5 _ => ?_)
      refine k_iload_n (pc := 41) F 2 0 dX10_machine_41 rfl rfl ?_
      exact k_iret (pc := 42) B dX10_machine_42
    · refine k_aload_n (pc := 9) F 0 0 dX10_machine_9 rfl rfl ?_
      refine gf_0_0 (pc := 10) F w_2_66 dX10_machine_10 ?_
      refine k_iconst (pc := 13) F (v := (0 : Int32)) dX10_machine_13 ci_0 ?_
      refine k_callVI (pc := 14) B (k := 1) (As := [.int (0 : Int32)]) (rest := []) (ct_X0_tell E (0 : Int32)  σ) rfl rfl mv_X0_tell w_2_98 rfl hR_X10_machine_X0_tell rfl (Nat.le_of_ble_eq_true rfl) dX10_machine_14 (fun rq8 σ7 _ => ?_)
      exact k_iret (pc := 17) B dX10_machine_17
set_option maxHeartbeats 4000000 in
set_option maxRecDepth 100000 in
theorem ct_X10_machine (E : En) (aq0 : Int32)  (σ : Mm) : CtI E yX10_machine cX10_machine 3 (some .int) H_X10_machine [.ref (ad E 0), .int aq0] σ (f_X10_machine aq0 σ) := ct_I (by decide) (Nat.le_of_ble_eq_true rfl) rfl (fun G B => t_X10_machine B aq0  σ)
abbrev H_X10_hand : Nat := 1
theorem hR_X10_hand_X5_hasCall : H_X5_hasCall + 1 ≤ H_X10_hand ∧ 8 + (2 + 11) + 40 * H_X5_hasCall ≤ 40 * H_X10_hand := by decide
theorem hR_X10_hand_X0_tell : H_X0_tell + 1 ≤ H_X10_hand ∧ 8 + (2 + 11) + 40 * H_X0_tell ≤ 40 * H_X10_hand := by decide
theorem hR_X10_hand_X7_forget : H_X7_forget + 1 ≤ H_X10_hand ∧ 8 + (1 + 11) + 40 * H_X7_forget ≤ 40 * H_X10_hand := by decide
set_option maxHeartbeats 4000000 in
set_option maxRecDepth 100000 in
theorem t_X10_hand_36 {E : En} {G : Cx} (B : Bx E G cX10_hand 3 RX10 H_X10_hand (some .int)) (xq1 : Int32) (xq2 : Int32)   (σ : Mm) : KR E G 3 (ZI E G) (f_X10_hand_36 xq1 xq2 σ) 36 [(0, .ref (ad E 0)), (1, .int xq1), (2, .int xq2)] [] σ := by
  have F := B.1
  unfold f_X10_hand_36
  refine k_aload_n (pc := 36) F 0 0 dX10_hand_36 rfl rfl ?_
  refine gf_0_4 (pc := 37) F w_2_70 dX10_hand_37 ?_
  refine gf_7_3 (pc := 40) F w_1_108 dX10_hand_40 ?_
  refine k_iconst (pc := 43) F (v := (3 : Int32)) dX10_hand_43 ci_3 ?_
  refine k_icmp_lt (pc := 44) F 56 dX10_hand_44 (by decide) (fun _ => ?_) (fun _ => ?_)
  · refine k_aload_n (pc := 56) F 0 0 dX10_hand_56 rfl rfl ?_
    refine gf_0_4 (pc := 57) F w_2_70 dX10_hand_57 ?_
    refine gf_7_4 (pc := 60) F w_1_111 dX10_hand_60 ?_
    refine k_aload_n (pc := 63) F 0 0 dX10_hand_63 rfl rfl ?_
    refine gf_0_4 (pc := 64) F w_2_70 dX10_hand_64 ?_
    refine gf_7_3 (pc := 67) F w_1_108 dX10_hand_67 ?_
    refine k_iload_n (pc := 70) F 1 1 dX10_hand_70 rfl rfl ?_
    refine k_iast (pc := 71) F rfl dX10_hand_71 (fun σ5 => ?_)
    refine k_aload_n (pc := 72) F 0 0 dX10_hand_72 rfl rfl ?_
    refine gf_0_4 (pc := 73) F w_2_70 dX10_hand_73 ?_
    refine gf_7_5 (pc := 76) F w_1_114 dX10_hand_76 ?_
    refine k_aload_n (pc := 79) F 0 0 dX10_hand_79 rfl rfl ?_
    refine gf_0_4 (pc := 80) F w_2_70 dX10_hand_80 ?_
    refine gf_7_3 (pc := 83) F w_1_108 dX10_hand_83 ?_
    refine k_iload_n (pc := 86) F 2 2 dX10_hand_86 rfl rfl ?_
    refine k_iast (pc := 87) F rfl dX10_hand_87 (fun σ6 => ?_)
    refine k_aload_n (pc := 88) F 0 0 dX10_hand_88 rfl rfl ?_
    refine gf_0_4 (pc := 89) F w_2_70 dX10_hand_89 ?_
    refine k_dup (pc := 92) F dX10_hand_92 rfl ?_
    refine gf_7_3 (pc := 93) F w_1_108 dX10_hand_93 ?_
    refine k_iconst (pc := 96) F (v := (1 : Int32)) dX10_hand_96 ci_1 ?_
    refine k_iadd (pc := 97) F dX10_hand_97 ?_
    refine pf_7_3 (pc := 98) F w_1_108 dX10_hand_98 (fun σ7 => ?_)
    refine k_aload_n (pc := 101) F 0 0 dX10_hand_101 rfl rfl ?_
    refine gf_0_3 (pc := 102) F w_2_69 dX10_hand_102 ?_
    refine k_callVV (pc := 105) B (k := 6) (As := []) (rest := []) (ct_X7_forget E   σ7) rfl rfl mv_X7_forget w_2_212 rfl hR_X10_hand_X7_forget rfl (Nat.le_of_ble_eq_true rfl) dX10_hand_105 (fun rq9 σ8 _ => ?_)
    refine k_aload_n (pc := 108) F 0 0 dX10_hand_108 rfl rfl ?_
    refine gf_0_4 (pc := 109) F w_2_70 dX10_hand_109 ?_
    refine gf_7_3 (pc := 112) F w_1_108 dX10_hand_112 ?_
    refine k_iconst (pc := 115) F (v := (1 : Int32)) dX10_hand_115 ci_1 ?_
    refine k_isub (pc := 116) F dX10_hand_116 ?_
    exact k_iret (pc := 117) B dX10_hand_117
  · refine k_aload_n (pc := 47) F 0 0 dX10_hand_47 rfl rfl ?_
    refine gf_0_0 (pc := 48) F w_2_66 dX10_hand_48 ?_
    refine k_iconst (pc := 51) F (v := (1 : Int32)) dX10_hand_51 ci_1 ?_
    refine k_callVI (pc := 52) B (k := 1) (As := [.int (1 : Int32)]) (rest := []) (ct_X0_tell E (1 : Int32)  σ) rfl rfl mv_X0_tell w_2_98 rfl hR_X10_hand_X0_tell rfl (Nat.le_of_ble_eq_true rfl) dX10_hand_52 (fun rq11 σ10 _ => ?_)
    exact k_iret (pc := 55) B dX10_hand_55
set_option maxHeartbeats 4000000 in
set_option maxRecDepth 100000 in
theorem t_X10_hand {E : En} {G : Cx} (B : Bx E G cX10_hand 3 RX10 H_X10_hand (some .int)) (aq0 : Int32) (aq1 : Int32)  (σ : Mm) : KR E G 3 (ZI E G) (f_X10_hand aq0 aq1 σ) 0 [(0, .ref (ad E 0)), (1, .int aq0), (2, .int aq1)] [] σ := by
  have F := B.1
  unfold f_X10_hand
  refine k_aload_n (pc := 0) F 0 0 dX10_hand_0 rfl rfl ?_
  refine gf_0_4 (pc := 1) F w_2_70 dX10_hand_1 ?_
  refine k_iload_n (pc := 4) F 1 1 dX10_hand_4 rfl rfl ?_
  refine k_callVI (pc := 5) B (k := 7) (As := [.int aq0]) (rest := []) (ct_X5_hasCall E aq0  σ) rfl rfl mv_X5_hasCall w_2_221 rfl hR_X10_hand_X5_hasCall rfl (Nat.le_of_ble_eq_true rfl) dX10_hand_5 (fun rq2 σ1 _ => ?_)
  refine k_if_eq (pc := 8) F 27 dX10_hand_8 (by decide) (fun _ => ?_) (fun _ => ?_)
  · refine k_aload_n (pc := 27) F 0 0 dX10_hand_27 rfl rfl ?_
    refine gf_0_0 (pc := 28) F w_2_66 dX10_hand_28 ?_
    refine k_iconst (pc := 31) F (v := (0 : Int32)) dX10_hand_31 ci_0 ?_
    refine k_callVI (pc := 32) B (k := 1) (As := [.int (0 : Int32)]) (rest := []) (ct_X0_tell E (0 : Int32)  σ1) rfl rfl mv_X0_tell w_2_98 rfl hR_X10_hand_X0_tell rfl (Nat.le_of_ble_eq_true rfl) dX10_hand_32 (fun rq4 σ3 _ => ?_)
    exact k_iret (pc := 35) B dX10_hand_35
  · refine k_iload_n (pc := 11) F 2 2 dX10_hand_11 rfl rfl ?_
    refine k_iconst (pc := 12) F (v := (-1 : Int32)) dX10_hand_12 ci_m1 ?_
    refine k_icmp_eq (pc := 13) F 36 dX10_hand_13 (by decide) (fun _ => ?_) (fun _ => ?_)
    · exact k_sub [0, 1, 2] rfl (t_X10_hand_36 B aq0 aq1   σ1)
    · refine k_aload_n (pc := 16) F 0 0 dX10_hand_16 rfl rfl ?_
      refine gf_0_4 (pc := 17) F w_2_70 dX10_hand_17 ?_
      refine k_iload_n (pc := 20) F 2 2 dX10_hand_20 rfl rfl ?_
      refine k_callVI (pc := 21) B (k := 7) (As := [.int aq1]) (rest := []) (ct_X5_hasCall E aq1  σ1) rfl rfl mv_X5_hasCall w_2_221 rfl hR_X10_hand_X5_hasCall rfl (Nat.le_of_ble_eq_true rfl) dX10_hand_21 (fun rq13 σ12 _ => ?_)
      refine k_if_ne (pc := 24) F 36 dX10_hand_24 (by decide) (fun _ => ?_) (fun _ => ?_)
      · refine k_aload_n (pc := 27) F 0 0 dX10_hand_27 rfl rfl ?_
        refine gf_0_0 (pc := 28) F w_2_66 dX10_hand_28 ?_
        refine k_iconst (pc := 31) F (v := (0 : Int32)) dX10_hand_31 ci_0 ?_
        refine k_callVI (pc := 32) B (k := 1) (As := [.int (0 : Int32)]) (rest := []) (ct_X0_tell E (0 : Int32)  σ12) rfl rfl mv_X0_tell w_2_98 rfl hR_X10_hand_X0_tell rfl (Nat.le_of_ble_eq_true rfl) dX10_hand_32 (fun rq15 σ14 _ => ?_)
        exact k_iret (pc := 35) B dX10_hand_35
      · exact k_sub [0, 1, 2] rfl (t_X10_hand_36 B aq0 aq1   σ12)
set_option maxHeartbeats 4000000 in
set_option maxRecDepth 100000 in
theorem ct_X10_hand (E : En) (aq0 : Int32) (aq1 : Int32)  (σ : Mm) : CtI E yX10_hand cX10_hand 3 (some .int) H_X10_hand [.ref (ad E 0), .int aq0, .int aq1] σ (f_X10_hand aq0 aq1 σ) := ct_I (by decide) (Nat.le_of_ble_eq_true rfl) rfl (fun G B => t_X10_hand B aq0 aq1  σ)
abbrev H_X10_clear : Nat := 1
theorem hR_X10_clear_X7_forget : H_X7_forget + 1 ≤ H_X10_clear ∧ 8 + (1 + 11) + 40 * H_X7_forget ≤ 40 * H_X10_clear := by decide
set_option maxHeartbeats 4000000 in
set_option maxRecDepth 100000 in
theorem t_X10_clear {E : En} {G : Cx} (B : Bx E G cX10_clear 2 RX10 H_X10_clear (some .int))   (σ : Mm) : KR E G 2 (ZI E G) (f_X10_clear  σ) 0 [(0, .ref (ad E 0))] [] σ := by
  have F := B.1
  unfold f_X10_clear
  refine k_aload_n (pc := 0) F 0 0 dX10_clear_0 rfl rfl ?_
  refine gf_0_4 (pc := 1) F w_2_70 dX10_clear_1 ?_
  refine gf_7_3 (pc := 4) F w_1_108 dX10_clear_4 ?_
  refine k_nmI (fun vq1 => ?_)
  refine k_istore_n F (lv' := [(1, .int vq1), (0, .ref (ad E 0))]) 1 dX10_clear_7 rfl (by decide) rfl ?_
  refine k_aload_n (pc := 8) F 0 1 dX10_clear_8 rfl rfl ?_
  refine gf_0_4 (pc := 9) F w_2_70 dX10_clear_9 ?_
  refine k_iconst (pc := 12) F (v := (0 : Int32)) dX10_clear_12 ci_0 ?_
  refine pf_7_3 (pc := 13) F w_1_108 dX10_clear_13 (fun σ2 => ?_)
  refine k_aload_n (pc := 16) F 0 1 dX10_clear_16 rfl rfl ?_
  refine gf_0_3 (pc := 17) F w_2_69 dX10_clear_17 ?_
  refine k_callVV (pc := 20) B (k := 6) (As := []) (rest := []) (ct_X7_forget E   σ2) rfl rfl mv_X7_forget w_2_212 rfl hR_X10_clear_X7_forget rfl (Nat.le_of_ble_eq_true rfl) dX10_clear_20 (fun rq4 σ3 _ => ?_)
  refine k_iload_n (pc := 23) F 1 0 dX10_clear_23 rfl rfl ?_
  exact k_iret (pc := 24) B dX10_clear_24
set_option maxHeartbeats 4000000 in
set_option maxRecDepth 100000 in
theorem ct_X10_clear (E : En)   (σ : Mm) : CtI E yX10_clear cX10_clear 2 (some .int) H_X10_clear [.ref (ad E 0)] σ (f_X10_clear  σ) := ct_I (by decide) (Nat.le_of_ble_eq_true rfl) rfl (fun G B => t_X10_clear B   σ)
abbrev H_X10_states : Nat := 6
theorem hR_X10_states_X7_isTooLarge : H_X7_isTooLarge + 1 ≤ H_X10_states ∧ 8 + (1 + 11) + 40 * H_X7_isTooLarge ≤ 40 * H_X10_states := by decide
theorem hR_X10_states_X0_tell : H_X0_tell + 1 ≤ H_X10_states ∧ 8 + (2 + 11) + 40 * H_X0_tell ≤ 40 * H_X10_states := by decide
set_option maxHeartbeats 4000000 in
set_option maxRecDepth 100000 in
theorem t_X10_states {E : En} {G : Cx} (B : Bx E G cX10_states 1 RX10 H_X10_states (some .int))   (σ : Mm) : KR E G 1 (ZI E G) (f_X10_states  σ) 0 [(0, .ref (ad E 0))] [] σ := by
  have F := B.1
  unfold f_X10_states
  refine k_aload_n (pc := 0) F 0 0 dX10_states_0 rfl rfl ?_
  refine gf_0_3 (pc := 1) F w_2_69 dX10_states_1 ?_
  refine k_callVI (pc := 4) B (k := 6) (As := []) (rest := []) (ct_X7_isTooLarge E   σ) rfl rfl mv_X7_isTooLarge w_3_42 rfl hR_X10_states_X7_isTooLarge rfl (Nat.le_of_ble_eq_true rfl) dX10_states_4 (fun rq2 σ1 _ => ?_)
  refine k_if_eq (pc := 7) F 22 dX10_states_7 (by decide) (fun _ => ?_) (fun _ => ?_)
  · refine k_aload_n (pc := 22) F 0 0 dX10_states_22 rfl rfl ?_
    refine gf_0_3 (pc := 23) F w_2_69 dX10_states_23 ?_
    refine gf_6_2 (pc := 26) F w_1_236 dX10_states_26 ?_
    refine gf_18_7 (pc := 29) F w_1_187 dX10_states_29 ?_
    exact k_iret (pc := 32) B dX10_states_32
  · refine k_aload_n (pc := 10) F 0 0 dX10_states_10 rfl rfl ?_
    refine gf_0_0 (pc := 11) F w_2_66 dX10_states_11 ?_
    refine k_bipush (pc := 14) F (v := (6 : Int32)) dX10_states_14 cb_6 ?_
    refine k_callVI (pc := 16) B (k := 1) (As := [.int (6 : Int32)]) (rest := []) (ct_X0_tell E (6 : Int32)  σ1) rfl rfl mv_X0_tell w_2_98 rfl hR_X10_states_X0_tell rfl (Nat.le_of_ble_eq_true rfl) dX10_states_16 (fun rq4 σ3 _ => ?_)
    refine k_goto (pc := 19) F 32 dX10_states_19 (by decide) ?_
    exact k_iret (pc := 32) B dX10_states_32
set_option maxHeartbeats 4000000 in
set_option maxRecDepth 100000 in
theorem ct_X10_states (E : En)   (σ : Mm) : CtI E yX10_states cX10_states 1 (some .int) H_X10_states [.ref (ad E 0)] σ (f_X10_states  σ) := ct_I (by decide) (Nat.le_of_ble_eq_true rfl) rfl (fun G B => t_X10_states B   σ)
abbrev H_X10_ends : Nat := 6
theorem hR_X10_ends_X7_isTooLarge : H_X7_isTooLarge + 1 ≤ H_X10_ends ∧ 8 + (1 + 11) + 40 * H_X7_isTooLarge ≤ 40 * H_X10_ends := by decide
theorem hR_X10_ends_X0_tell : H_X0_tell + 1 ≤ H_X10_ends ∧ 8 + (2 + 11) + 40 * H_X0_tell ≤ 40 * H_X10_ends := by decide
set_option maxHeartbeats 4000000 in
set_option maxRecDepth 100000 in
theorem t_X10_ends {E : En} {G : Cx} (B : Bx E G cX10_ends 1 RX10 H_X10_ends (some .int))   (σ : Mm) : KR E G 1 (ZI E G) (f_X10_ends  σ) 0 [(0, .ref (ad E 0))] [] σ := by
  have F := B.1
  unfold f_X10_ends
  refine k_aload_n (pc := 0) F 0 0 dX10_ends_0 rfl rfl ?_
  refine gf_0_3 (pc := 1) F w_2_69 dX10_ends_1 ?_
  refine k_callVI (pc := 4) B (k := 6) (As := []) (rest := []) (ct_X7_isTooLarge E   σ) rfl rfl mv_X7_isTooLarge w_3_42 rfl hR_X10_ends_X7_isTooLarge rfl (Nat.le_of_ble_eq_true rfl) dX10_ends_4 (fun rq2 σ1 _ => ?_)
  refine k_if_eq (pc := 7) F 22 dX10_ends_7 (by decide) (fun _ => ?_) (fun _ => ?_)
  · refine k_aload_n (pc := 22) F 0 0 dX10_ends_22 rfl rfl ?_
    refine gf_0_3 (pc := 23) F w_2_69 dX10_ends_23 ?_
    refine gf_6_3 (pc := 26) F w_1_238 dX10_ends_26 ?_
    refine gf_isRow_1 (pc := 29) F isRow_26 w_1_225 dX10_ends_29 ?_
    exact k_iret (pc := 32) B dX10_ends_32
  · refine k_aload_n (pc := 10) F 0 0 dX10_ends_10 rfl rfl ?_
    refine gf_0_0 (pc := 11) F w_2_66 dX10_ends_11 ?_
    refine k_bipush (pc := 14) F (v := (6 : Int32)) dX10_ends_14 cb_6 ?_
    refine k_callVI (pc := 16) B (k := 1) (As := [.int (6 : Int32)]) (rest := []) (ct_X0_tell E (6 : Int32)  σ1) rfl rfl mv_X0_tell w_2_98 rfl hR_X10_ends_X0_tell rfl (Nat.le_of_ble_eq_true rfl) dX10_ends_16 (fun rq4 σ3 _ => ?_)
    refine k_goto (pc := 19) F 32 dX10_ends_19 (by decide) ?_
    exact k_iret (pc := 32) B dX10_ends_32
set_option maxHeartbeats 4000000 in
set_option maxRecDepth 100000 in
theorem ct_X10_ends (E : En)   (σ : Mm) : CtI E yX10_ends cX10_ends 1 (some .int) H_X10_ends [.ref (ad E 0)] σ (f_X10_ends  σ) := ct_I (by decide) (Nat.le_of_ble_eq_true rfl) rfl (fun G B => t_X10_ends B   σ)
abbrev H_X10_result : Nat := 6
theorem hR_X10_result_X7_isTooLarge : H_X7_isTooLarge + 1 ≤ H_X10_result ∧ 8 + (1 + 11) + 40 * H_X7_isTooLarge ≤ 40 * H_X10_result := by decide
theorem hR_X10_result_X0_tell : H_X0_tell + 1 ≤ H_X10_result ∧ 8 + (2 + 11) + 40 * H_X0_tell ≤ 40 * H_X10_result := by decide
set_option maxHeartbeats 4000000 in
set_option maxRecDepth 100000 in
theorem t_X10_result {E : En} {G : Cx} (B : Bx E G cX10_result 2 RX10 H_X10_result (some .int)) (aq0 : Int32)  (σ : Mm) : KR E G 2 (ZI E G) (f_X10_result aq0 σ) 0 [(0, .ref (ad E 0)), (1, .int aq0)] [] σ := by
  have F := B.1
  unfold f_X10_result
  refine k_iload_n (pc := 0) F 1 1 dX10_result_0 rfl rfl ?_
  refine k_if_ge (pc := 1) F 13 dX10_result_1 (by decide) (fun _ => ?_) (fun _ => ?_)
  · refine k_aload_n (pc := 13) F 0 0 dX10_result_13 rfl rfl ?_
    refine gf_0_3 (pc := 14) F w_2_69 dX10_result_14 ?_
    refine k_callVI (pc := 17) B (k := 6) (As := []) (rest := []) (ct_X7_isTooLarge E   σ) rfl rfl mv_X7_isTooLarge w_3_42 rfl hR_X10_result_X7_isTooLarge rfl (Nat.le_of_ble_eq_true rfl) dX10_result_17 (fun rq2 σ1 _ => ?_)
    refine k_if_eq (pc := 20) F 33 dX10_result_20 (by decide) (fun _ => ?_) (fun _ => ?_)
    · refine k_iload_n (pc := 33) F 1 1 dX10_result_33 rfl rfl ?_
      refine k_aload_n (pc := 34) F 0 0 dX10_result_34 rfl rfl ?_
      refine gf_0_3 (pc := 35) F w_2_69 dX10_result_35 ?_
      refine gf_6_3 (pc := 38) F w_1_238 dX10_result_38 ?_
      refine gf_isRow_1 (pc := 41) F isRow_26 w_1_225 dX10_result_41 ?_
      refine k_icmp_ge (pc := 44) F 62 dX10_result_44 (by decide) (fun _ => ?_) (fun _ => ?_)
      · refine k_aload_n (pc := 62) F 0 0 dX10_result_62 rfl rfl ?_
        refine gf_0_0 (pc := 63) F w_2_66 dX10_result_63 ?_
        refine k_iconst (pc := 66) F (v := (3 : Int32)) dX10_result_66 ci_3 ?_
        refine k_callVI (pc := 67) B (k := 1) (As := [.int (3 : Int32)]) (rest := []) (ct_X0_tell E (3 : Int32)  σ1) rfl rfl mv_X0_tell w_2_98 rfl hR_X10_result_X0_tell rfl (Nat.le_of_ble_eq_true rfl) dX10_result_67 (fun rq4 σ3 _ => ?_)
        exact k_iret (pc := 70) B dX10_result_70
      · refine k_aload_n (pc := 47) F 0 0 dX10_result_47 rfl rfl ?_
        refine gf_0_3 (pc := 48) F w_2_69 dX10_result_48 ?_
        refine gf_6_3 (pc := 51) F w_1_238 dX10_result_51 ?_
        refine gf_isRow_0 (pc := 54) F isRow_26 w_1_221 dX10_result_54 ?_
        refine k_iload_n (pc := 57) F 1 1 dX10_result_57 rfl rfl ?_
        refine k_iald (pc := 58) F rfl dX10_result_58 ?_
        refine k_goto (pc := 59) F 70 dX10_result_59 (by decide) ?_
        exact k_iret (pc := 70) B dX10_result_70
    · refine k_aload_n (pc := 23) F 0 0 dX10_result_23 rfl rfl ?_
      refine gf_0_0 (pc := 24) F w_2_66 dX10_result_24 ?_
      refine k_bipush (pc := 27) F (v := (6 : Int32)) dX10_result_27 cb_6 ?_
      refine k_callVI (pc := 29) B (k := 1) (As := [.int (6 : Int32)]) (rest := []) (ct_X0_tell E (6 : Int32)  σ1) rfl rfl mv_X0_tell w_2_98 rfl hR_X10_result_X0_tell rfl (Nat.le_of_ble_eq_true rfl) dX10_result_29 (fun rq6 σ5 _ => ?_)
      exact k_iret (pc := 32) B dX10_result_32
  · refine k_aload_n (pc := 4) F 0 0 dX10_result_4 rfl rfl ?_
    refine gf_0_0 (pc := 5) F w_2_66 dX10_result_5 ?_
    refine k_iconst (pc := 8) F (v := (0 : Int32)) dX10_result_8 ci_0 ?_
    refine k_callVI (pc := 9) B (k := 1) (As := [.int (0 : Int32)]) (rest := []) (ct_X0_tell E (0 : Int32)  σ) rfl rfl mv_X0_tell w_2_98 rfl hR_X10_result_X0_tell rfl (Nat.le_of_ble_eq_true rfl) dX10_result_9 (fun rq8 σ7 _ => ?_)
    exact k_iret (pc := 12) B dX10_result_12
set_option maxHeartbeats 4000000 in
set_option maxRecDepth 100000 in
theorem ct_X10_result (E : En) (aq0 : Int32)  (σ : Mm) : CtI E yX10_result cX10_result 2 (some .int) H_X10_result [.ref (ad E 0), .int aq0] σ (f_X10_result aq0 σ) := ct_I (by decide) (Nat.le_of_ble_eq_true rfl) rfl (fun G B => t_X10_result B aq0  σ)
abbrev H_X10_orders : Nat := 14
theorem hR_X10_orders_X7_orderedResults : H_X7_orderedResults + 1 ≤ H_X10_orders ∧ 8 + (1 + 11) + 40 * H_X7_orderedResults ≤ 40 * H_X10_orders := by decide
set_option maxHeartbeats 4000000 in
set_option maxRecDepth 100000 in
theorem t_X10_orders {E : En} {G : Cx} (B : Bx E G cX10_orders 1 RX10 H_X10_orders (some .int))   (σ : Mm) : KR E G 1 (ZI E G) (f_X10_orders  σ) 0 [(0, .ref (ad E 0))] [] σ := by
  have F := B.1
  unfold f_X10_orders
  refine k_aload_n (pc := 0) F 0 0 dX10_orders_0 rfl rfl ?_
  refine gf_0_3 (pc := 1) F w_2_69 dX10_orders_1 ?_
  refine k_callVU (pc := 4) B (k := 6) (As := []) (rest := []) (ct_X7_orderedResults E   σ) rfl rfl mv_X7_orderedResults w_3_153 rfl hR_X10_orders_X7_orderedResults rfl (Nat.le_of_ble_eq_true rfl) dX10_orders_4 (fun rq2 σ1 _ => ?_)
  refine gf_isRow_1 (pc := 7) F isRow_28 w_1_225 dX10_orders_7 ?_
  exact k_iret (pc := 10) B dX10_orders_10
set_option maxHeartbeats 4000000 in
set_option maxRecDepth 100000 in
theorem ct_X10_orders (E : En)   (σ : Mm) : CtI E yX10_orders cX10_orders 1 (some .int) H_X10_orders [.ref (ad E 0)] σ (f_X10_orders  σ) := ct_I (by decide) (Nat.le_of_ble_eq_true rfl) rfl (fun G B => t_X10_orders B   σ)
abbrev H_X10_inOrder : Nat := 14
theorem hR_X10_inOrder_X0_tell : H_X0_tell + 1 ≤ H_X10_inOrder ∧ 8 + (2 + 11) + 40 * H_X0_tell ≤ 40 * H_X10_inOrder := by decide
theorem hR_X10_inOrder_X7_orderedResults : H_X7_orderedResults + 1 ≤ H_X10_inOrder ∧ 8 + (1 + 11) + 40 * H_X7_orderedResults ≤ 40 * H_X10_inOrder := by decide
set_option maxHeartbeats 4000000 in
set_option maxRecDepth 100000 in
theorem t_X10_inOrder {E : En} {G : Cx} (B : Bx E G cX10_inOrder 3 RX10 H_X10_inOrder (some .int)) (aq0 : Int32)  (σ : Mm) : KR E G 3 (ZI E G) (f_X10_inOrder aq0 σ) 0 [(0, .ref (ad E 0)), (1, .int aq0)] [] σ := by
  have F := B.1
  unfold f_X10_inOrder
  refine k_iload_n (pc := 0) F 1 1 dX10_inOrder_0 rfl rfl ?_
  refine k_if_ge (pc := 1) F 13 dX10_inOrder_1 (by decide) (fun _ => ?_) (fun _ => ?_)
  · refine k_aload_n (pc := 13) F 0 0 dX10_inOrder_13 rfl rfl ?_
    refine gf_0_3 (pc := 14) F w_2_69 dX10_inOrder_14 ?_
    refine k_callVU (pc := 17) B (k := 6) (As := []) (rest := []) (ct_X7_orderedResults E   σ) rfl rfl mv_X7_orderedResults w_3_153 rfl hR_X10_inOrder_X7_orderedResults rfl (Nat.le_of_ble_eq_true rfl) dX10_inOrder_17 (fun rq2 σ1 _ => ?_)
    refine k_astore_n F (lv' := [(2, .ref (ad E 28)), (0, .ref (ad E 0)), (1, .int aq0)]) 2 dX10_inOrder_20 rfl (by decide) rfl ?_
    refine k_iload_n (pc := 21) F 1 2 dX10_inOrder_21 rfl rfl ?_
    refine k_aload_n (pc := 22) F 2 0 dX10_inOrder_22 rfl rfl ?_
    refine gf_isRow_1 (pc := 23) F isRow_28 w_1_225 dX10_inOrder_23 ?_
    refine k_icmp_ge (pc := 26) F 38 dX10_inOrder_26 (by decide) (fun _ => ?_) (fun _ => ?_)
    · refine k_aload_n (pc := 38) F 0 1 dX10_inOrder_38 rfl rfl ?_
      refine gf_0_0 (pc := 39) F w_2_66 dX10_inOrder_39 ?_
      refine k_iconst (pc := 42) F (v := (3 : Int32)) dX10_inOrder_42 ci_3 ?_
      refine k_callVI (pc := 43) B (k := 1) (As := [.int (3 : Int32)]) (rest := []) (ct_X0_tell E (3 : Int32)  σ1) rfl rfl mv_X0_tell w_2_98 rfl hR_X10_inOrder_X0_tell rfl (Nat.le_of_ble_eq_true rfl) dX10_inOrder_43 (fun rq4 σ3 _ => ?_)
      exact k_iret (pc := 46) B dX10_inOrder_46
    · refine k_aload_n (pc := 29) F 2 0 dX10_inOrder_29 rfl rfl ?_
      refine gf_isRow_0 (pc := 30) F isRow_28 w_1_221 dX10_inOrder_30 ?_
      refine k_iload_n (pc := 33) F 1 2 dX10_inOrder_33 rfl rfl ?_
      refine k_iald (pc := 34) F rfl dX10_inOrder_34 ?_
      refine k_goto (pc := 35) F 46 dX10_inOrder_35 (by decide) ?_
      exact k_iret (pc := 46) B dX10_inOrder_46
  · refine k_aload_n (pc := 4) F 0 0 dX10_inOrder_4 rfl rfl ?_
    refine gf_0_0 (pc := 5) F w_2_66 dX10_inOrder_5 ?_
    refine k_iconst (pc := 8) F (v := (0 : Int32)) dX10_inOrder_8 ci_0 ?_
    refine k_callVI (pc := 9) B (k := 1) (As := [.int (0 : Int32)]) (rest := []) (ct_X0_tell E (0 : Int32)  σ) rfl rfl mv_X0_tell w_2_98 rfl hR_X10_inOrder_X0_tell rfl (Nat.le_of_ble_eq_true rfl) dX10_inOrder_9 (fun rq6 σ5 _ => ?_)
    exact k_iret (pc := 12) B dX10_inOrder_12
set_option maxHeartbeats 4000000 in
set_option maxRecDepth 100000 in
theorem ct_X10_inOrder (E : En) (aq0 : Int32)  (σ : Mm) : CtI E yX10_inOrder cX10_inOrder 3 (some .int) H_X10_inOrder [.ref (ad E 0), .int aq0] σ (f_X10_inOrder aq0 σ) := ct_I (by decide) (Nat.le_of_ble_eq_true rfl) rfl (fun G B => t_X10_inOrder B aq0  σ)
abbrev H_X10_bad : Nat := 14
theorem hR_X10_bad_X7_countBad : H_X7_countBad + 1 ≤ H_X10_bad ∧ 8 + (4 + 11) + 40 * H_X7_countBad ≤ 40 * H_X10_bad := by decide
theorem hR_X10_bad_X7_isTooLarge : H_X7_isTooLarge + 1 ≤ H_X10_bad ∧ 8 + (1 + 11) + 40 * H_X7_isTooLarge ≤ 40 * H_X10_bad := by decide
theorem hR_X10_bad_X0_tell : H_X0_tell + 1 ≤ H_X10_bad ∧ 8 + (2 + 11) + 40 * H_X0_tell ≤ 40 * H_X10_bad := by decide
theorem hR_X10_bad_X7_orderedResults : H_X7_orderedResults + 1 ≤ H_X10_bad ∧ 8 + (1 + 11) + 40 * H_X7_orderedResults ≤ 40 * H_X10_bad := by decide
set_option maxHeartbeats 4000000 in
set_option maxRecDepth 100000 in
theorem t_X10_bad {E : En} {G : Cx} (B : Bx E G cX10_bad 1 RX10 H_X10_bad (some .int))   (σ : Mm) : KR E G 1 (ZI E G) (f_X10_bad  σ) 0 [(0, .ref (ad E 0))] [] σ := by
  have F := B.1
  unfold f_X10_bad
  refine k_aload_n (pc := 0) F 0 0 dX10_bad_0 rfl rfl ?_
  refine gf_0_3 (pc := 1) F w_2_69 dX10_bad_1 ?_
  refine k_callVI (pc := 4) B (k := 6) (As := []) (rest := []) (ct_X7_isTooLarge E   σ) rfl rfl mv_X7_isTooLarge w_3_42 rfl hR_X10_bad_X7_isTooLarge rfl (Nat.le_of_ble_eq_true rfl) dX10_bad_4 (fun rq2 σ1 _ => ?_)
  refine k_if_eq (pc := 7) F 22 dX10_bad_7 (by decide) (fun _ => ?_) (fun _ => ?_)
  · refine k_aload_n (pc := 22) F 0 0 dX10_bad_22 rfl rfl ?_
    refine gf_0_3 (pc := 23) F w_2_69 dX10_bad_23 ?_
    refine k_aload_n (pc := 26) F 0 0 dX10_bad_26 rfl rfl ?_
    refine gf_0_3 (pc := 27) F w_2_69 dX10_bad_27 ?_
    refine k_callVU (pc := 30) B (k := 6) (As := []) (rest := [.ref (ad E 6)]) (ct_X7_orderedResults E   σ1) rfl rfl mv_X7_orderedResults w_3_153 rfl hR_X10_bad_X7_orderedResults rfl (Nat.le_of_ble_eq_true rfl) dX10_bad_30 (fun rq4 σ3 _ => ?_)
    refine k_callVI (pc := 33) B (k := 6) (As := [.ref (ad E 28)]) (rest := []) (ct_X7_countBad E   σ3) rfl rfl mv_X7_countBad w_3_177 rfl hR_X10_bad_X7_countBad rfl (Nat.le_of_ble_eq_true rfl) dX10_bad_33 (fun rq6 σ5 _ => ?_)
    exact k_iret (pc := 36) B dX10_bad_36
  · refine k_aload_n (pc := 10) F 0 0 dX10_bad_10 rfl rfl ?_
    refine gf_0_0 (pc := 11) F w_2_66 dX10_bad_11 ?_
    refine k_bipush (pc := 14) F (v := (6 : Int32)) dX10_bad_14 cb_6 ?_
    refine k_callVI (pc := 16) B (k := 1) (As := [.int (6 : Int32)]) (rest := []) (ct_X0_tell E (6 : Int32)  σ1) rfl rfl mv_X0_tell w_2_98 rfl hR_X10_bad_X0_tell rfl (Nat.le_of_ble_eq_true rfl) dX10_bad_16 (fun rq8 σ7 _ => ?_)
    refine k_goto (pc := 19) F 36 dX10_bad_19 (by decide) ?_
    exact k_iret (pc := 36) B dX10_bad_36
set_option maxHeartbeats 4000000 in
set_option maxRecDepth 100000 in
theorem ct_X10_bad (E : En)   (σ : Mm) : CtI E yX10_bad cX10_bad 1 (some .int) H_X10_bad [.ref (ad E 0)] σ (f_X10_bad  σ) := ct_I (by decide) (Nat.le_of_ble_eq_true rfl) rfl (fun G B => t_X10_bad B   σ)
abbrev H_X10_worst : Nat := 14
theorem hR_X10_worst_X7_leastBad : H_X7_leastBad + 1 ≤ H_X10_worst ∧ 8 + (3 + 11) + 40 * H_X7_leastBad ≤ 40 * H_X10_worst := by decide
theorem hR_X10_worst_X7_isTooLarge : H_X7_isTooLarge + 1 ≤ H_X10_worst ∧ 8 + (1 + 11) + 40 * H_X7_isTooLarge ≤ 40 * H_X10_worst := by decide
theorem hR_X10_worst_X0_tell : H_X0_tell + 1 ≤ H_X10_worst ∧ 8 + (2 + 11) + 40 * H_X0_tell ≤ 40 * H_X10_worst := by decide
theorem hR_X10_worst_X7_orderedResults : H_X7_orderedResults + 1 ≤ H_X10_worst ∧ 8 + (1 + 11) + 40 * H_X7_orderedResults ≤ 40 * H_X10_worst := by decide
set_option maxHeartbeats 4000000 in
set_option maxRecDepth 100000 in
theorem t_X10_worst {E : En} {G : Cx} (B : Bx E G cX10_worst 2 RX10 H_X10_worst (some .int))   (σ : Mm) : KR E G 2 (ZI E G) (f_X10_worst  σ) 0 [(0, .ref (ad E 0))] [] σ := by
  have F := B.1
  unfold f_X10_worst
  refine k_aload_n (pc := 0) F 0 0 dX10_worst_0 rfl rfl ?_
  refine gf_0_3 (pc := 1) F w_2_69 dX10_worst_1 ?_
  refine k_callVI (pc := 4) B (k := 6) (As := []) (rest := []) (ct_X7_isTooLarge E   σ) rfl rfl mv_X7_isTooLarge w_3_42 rfl hR_X10_worst_X7_isTooLarge rfl (Nat.le_of_ble_eq_true rfl) dX10_worst_4 (fun rq2 σ1 _ => ?_)
  refine k_if_eq (pc := 7) F 20 dX10_worst_7 (by decide) (fun _ => ?_) (fun _ => ?_)
  · refine k_aload_n (pc := 20) F 0 0 dX10_worst_20 rfl rfl ?_
    refine gf_0_3 (pc := 21) F w_2_69 dX10_worst_21 ?_
    refine k_aload_n (pc := 24) F 0 0 dX10_worst_24 rfl rfl ?_
    refine gf_0_3 (pc := 25) F w_2_69 dX10_worst_25 ?_
    refine k_callVU (pc := 28) B (k := 6) (As := []) (rest := [.ref (ad E 6)]) (ct_X7_orderedResults E   σ1) rfl rfl mv_X7_orderedResults w_3_153 rfl hR_X10_worst_X7_orderedResults rfl (Nat.le_of_ble_eq_true rfl) dX10_worst_28 (fun rq4 σ3 _ => ?_)
    refine k_callVI (pc := 31) B (k := 6) (As := [.ref (ad E 28)]) (rest := []) (ct_X7_leastBad E   σ3) rfl rfl mv_X7_leastBad w_3_189 rfl hR_X10_worst_X7_leastBad rfl (Nat.le_of_ble_eq_true rfl) dX10_worst_31 (fun rq6 σ5 _ => ?_)
    refine k_istore_n F (lv' := [(1, .int rq6), (0, .ref (ad E 0))]) 1 dX10_worst_34 rfl (by decide) rfl ?_
    refine k_iload_n (pc := 35) F 1 0 dX10_worst_35 rfl rfl ?_
    refine k_if_lt (pc := 36) F 43 dX10_worst_36 (by decide) (fun _ => ?_) (fun _ => ?_)
    · refine k_aload_n (pc := 43) F 0 1 dX10_worst_43 rfl rfl ?_
      refine gf_0_0 (pc := 44) F w_2_66 dX10_worst_44 ?_
      refine k_iconst (pc := 47) F (v := (3 : Int32)) dX10_worst_47 ci_3 ?_
      refine k_callVI (pc := 48) B (k := 1) (As := [.int (3 : Int32)]) (rest := []) (ct_X0_tell E (3 : Int32)  σ5) rfl rfl mv_X0_tell w_2_98 rfl hR_X10_worst_X0_tell rfl (Nat.le_of_ble_eq_true rfl) dX10_worst_48 (fun rq8 σ7 _ => ?_)
      exact k_iret (pc := 51) B dX10_worst_51
    · refine k_iload_n (pc := 39) F 1 0 dX10_worst_39 rfl rfl ?_
      refine k_goto (pc := 40) F 51 dX10_worst_40 (by decide) ?_
      exact k_iret (pc := 51) B dX10_worst_51
  · refine k_aload_n (pc := 10) F 0 0 dX10_worst_10 rfl rfl ?_
    refine gf_0_0 (pc := 11) F w_2_66 dX10_worst_11 ?_
    refine k_bipush (pc := 14) F (v := (6 : Int32)) dX10_worst_14 cb_6 ?_
    refine k_callVI (pc := 16) B (k := 1) (As := [.int (6 : Int32)]) (rest := []) (ct_X0_tell E (6 : Int32)  σ1) rfl rfl mv_X0_tell w_2_98 rfl hR_X10_worst_X0_tell rfl (Nat.le_of_ble_eq_true rfl) dX10_worst_16 (fun rq10 σ9 _ => ?_)
    exact k_iret (pc := 19) B dX10_worst_19
set_option maxHeartbeats 4000000 in
set_option maxRecDepth 100000 in
theorem ct_X10_worst (E : En)   (σ : Mm) : CtI E yX10_worst cX10_worst 2 (some .int) H_X10_worst [.ref (ad E 0)] σ (f_X10_worst  σ) := ct_I (by decide) (Nat.le_of_ble_eq_true rfl) rfl (fun G B => t_X10_worst B   σ)
abbrev H_X10_turn : Nat := 15
theorem hR_X10_turn_X9_moveOnPath : H_X9_moveOnPath + 1 ≤ H_X10_turn ∧ 8 + (2 + 11) + 40 * H_X9_moveOnPath ≤ 40 * H_X10_turn := by decide
theorem hR_X10_turn_X7_isTooLarge : H_X7_isTooLarge + 1 ≤ H_X10_turn ∧ 8 + (1 + 11) + 40 * H_X7_isTooLarge ≤ 40 * H_X10_turn := by decide
theorem hR_X10_turn_X0_tell : H_X0_tell + 1 ≤ H_X10_turn ∧ 8 + (2 + 11) + 40 * H_X0_tell ≤ 40 * H_X10_turn := by decide
theorem hR_X10_turn_X7_walkToWorst : H_X7_walkToWorst + 1 ≤ H_X10_turn ∧ 8 + (2 + 11) + 40 * H_X7_walkToWorst ≤ 40 * H_X10_turn := by decide
set_option maxHeartbeats 4000000 in
set_option maxRecDepth 100000 in
theorem t_X10_turn {E : En} {G : Cx} (B : Bx E G cX10_turn 3 RX10 H_X10_turn (some .int)) (aq0 : Int32)  (σ : Mm) : KR E G 3 (ZI E G) (f_X10_turn aq0 σ) 0 [(0, .ref (ad E 0)), (1, .int aq0)] [] σ := by
  have F := B.1
  unfold f_X10_turn
  refine k_iload_n (pc := 0) F 1 1 dX10_turn_0 rfl rfl ?_
  refine k_iconst (pc := 1) F (v := (-1 : Int32)) dX10_turn_1 ci_m1 ?_
  refine k_icmp_ge (pc := 2) F 14 dX10_turn_2 (by decide) (fun _ => ?_) (fun _ => ?_)
  · refine k_aload_n (pc := 14) F 0 0 dX10_turn_14 rfl rfl ?_
    refine gf_0_3 (pc := 15) F w_2_69 dX10_turn_15 ?_
    refine k_callVI (pc := 18) B (k := 6) (As := []) (rest := []) (ct_X7_isTooLarge E   σ) rfl rfl mv_X7_isTooLarge w_3_42 rfl hR_X10_turn_X7_isTooLarge rfl (Nat.le_of_ble_eq_true rfl) dX10_turn_18 (fun rq2 σ1 _ => ?_)
    refine k_if_eq (pc := 21) F 34 dX10_turn_21 (by decide) (fun _ => ?_) (fun _ => ?_)
    · refine k_aload_n (pc := 34) F 0 0 dX10_turn_34 rfl rfl ?_
      refine gf_0_3 (pc := 35) F w_2_69 dX10_turn_35 ?_
      refine k_callVI (pc := 38) B (k := 6) (As := []) (rest := []) (ct_X7_walkToWorst E   σ1) rfl rfl mv_X7_walkToWorst w_3_197 rfl hR_X10_turn_X7_walkToWorst rfl (Nat.le_of_ble_eq_true rfl) dX10_turn_38 (fun rq4 σ3 _ => ?_)
      refine k_istore_n F (lv' := [(2, .int rq4), (0, .ref (ad E 0)), (1, .int aq0)]) 2 dX10_turn_41 rfl (by decide) rfl ?_
      refine k_iload_n (pc := 42) F 2 0 dX10_turn_42 rfl rfl ?_
      refine k_if_lt (pc := 43) F 51 dX10_turn_43 (by decide) (fun _ => ?_) (fun _ => ?_)
      · refine k_aload_n (pc := 51) F 0 1 dX10_turn_51 rfl rfl ?_
        refine gf_0_0 (pc := 52) F w_2_66 dX10_turn_52 ?_
        refine k_iconst (pc := 55) F (v := (3 : Int32)) dX10_turn_55 ci_3 ?_
        refine k_callVI (pc := 56) B (k := 1) (As := [.int (3 : Int32)]) (rest := []) (ct_X0_tell E (3 : Int32)  σ3) rfl rfl mv_X0_tell w_2_98 rfl hR_X10_turn_X0_tell rfl (Nat.le_of_ble_eq_true rfl) dX10_turn_56 (fun rq6 σ5 _ => ?_)
        exact k_iret (pc := 59) B dX10_turn_59
      · refine k_iload_n (pc := 46) F 1 2 dX10_turn_46 rfl rfl ?_
        refine k_iload_n (pc := 47) F 2 0 dX10_turn_47 rfl rfl ?_
        refine k_icmp_lt (pc := 48) F 60 dX10_turn_48 (by decide) (fun _ => ?_) (fun _ => ?_)
        · refine k_iload_n (pc := 60) F 1 2 dX10_turn_60 rfl rfl ?_
          refine k_iconst (pc := 61) F (v := (-1 : Int32)) dX10_turn_61 ci_m1 ?_
          refine k_icmp_ne (pc := 62) F 69 dX10_turn_62 (by decide) (fun _ => ?_) (fun _ => ?_)
          · refine k_iload_n (pc := 65) F 2 0 dX10_turn_65 rfl rfl ?_
            refine k_goto (pc := 66) F 80 dX10_turn_66 (by decide) ?_
            exact k_iret (pc := 80) B dX10_turn_80
          · refine k_aload_n (pc := 69) F 0 1 dX10_turn_69 rfl rfl ?_
            refine gf_0_3 (pc := 70) F w_2_69 dX10_turn_70 ?_
            refine gf_6_2 (pc := 73) F w_1_236 dX10_turn_73 ?_
            refine k_iload_n (pc := 76) F 1 2 dX10_turn_76 rfl rfl ?_
            refine k_callVI (pc := 77) B (k := 18) (As := [.int aq0]) (rest := []) (ct_X9_moveOnPath E aq0  σ3) rfl rfl mv_X9_moveOnPath w_3_207 rfl hR_X10_turn_X9_moveOnPath rfl (Nat.le_of_ble_eq_true rfl) dX10_turn_77 (fun rq8 σ7 _ => ?_)
            exact k_iret (pc := 80) B dX10_turn_80
        · refine k_aload_n (pc := 51) F 0 1 dX10_turn_51 rfl rfl ?_
          refine gf_0_0 (pc := 52) F w_2_66 dX10_turn_52 ?_
          refine k_iconst (pc := 55) F (v := (3 : Int32)) dX10_turn_55 ci_3 ?_
          refine k_callVI (pc := 56) B (k := 1) (As := [.int (3 : Int32)]) (rest := []) (ct_X0_tell E (3 : Int32)  σ3) rfl rfl mv_X0_tell w_2_98 rfl hR_X10_turn_X0_tell rfl (Nat.le_of_ble_eq_true rfl) dX10_turn_56 (fun rq10 σ9 _ => ?_)
          exact k_iret (pc := 59) B dX10_turn_59
    · refine k_aload_n (pc := 24) F 0 0 dX10_turn_24 rfl rfl ?_
      refine gf_0_0 (pc := 25) F w_2_66 dX10_turn_25 ?_
      refine k_bipush (pc := 28) F (v := (6 : Int32)) dX10_turn_28 cb_6 ?_
      refine k_callVI (pc := 30) B (k := 1) (As := [.int (6 : Int32)]) (rest := []) (ct_X0_tell E (6 : Int32)  σ1) rfl rfl mv_X0_tell w_2_98 rfl hR_X10_turn_X0_tell rfl (Nat.le_of_ble_eq_true rfl) dX10_turn_30 (fun rq12 σ11 _ => ?_)
      exact k_iret (pc := 33) B dX10_turn_33
  · refine k_aload_n (pc := 5) F 0 0 dX10_turn_5 rfl rfl ?_
    refine gf_0_0 (pc := 6) F w_2_66 dX10_turn_6 ?_
    refine k_iconst (pc := 9) F (v := (0 : Int32)) dX10_turn_9 ci_0 ?_
    refine k_callVI (pc := 10) B (k := 1) (As := [.int (0 : Int32)]) (rest := []) (ct_X0_tell E (0 : Int32)  σ) rfl rfl mv_X0_tell w_2_98 rfl hR_X10_turn_X0_tell rfl (Nat.le_of_ble_eq_true rfl) dX10_turn_10 (fun rq14 σ13 _ => ?_)
    exact k_iret (pc := 13) B dX10_turn_13
set_option maxHeartbeats 4000000 in
set_option maxRecDepth 100000 in
theorem ct_X10_turn (E : En) (aq0 : Int32)  (σ : Mm) : CtI E yX10_turn cX10_turn 3 (some .int) H_X10_turn [.ref (ad E 0), .int aq0] σ (f_X10_turn aq0 σ) := ct_I (by decide) (Nat.le_of_ble_eq_true rfl) rfl (fun G B => t_X10_turn B aq0  σ)
