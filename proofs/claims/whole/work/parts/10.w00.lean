abbrev H_X0_tell : Nat := 0
set_option maxHeartbeats 4000000 in
set_option maxRecDepth 100000 in
theorem t_X0_tell {E : En} {G : Cx} (B : Bx E G cX0_tell 2 RX0 H_X0_tell (some .int)) (aq0 : Int32)  (σ : Mm) : KR E G 2 (ZI E G) (f_X0_tell aq0 σ) 0 [(0, .ref (ad E 1)), (1, .int aq0)] [] σ := by
  have F := B.1
  unfold f_X0_tell
  refine k_aload_n (pc := 0) F 0 0 dX0_tell_0 rfl rfl ?_
  refine gf_1_0 (pc := 1) F w_1_35 dX0_tell_1 ?_
  refine k_iload_n (pc := 4) F 1 1 dX0_tell_4 rfl rfl ?_
  refine k_dup2 (pc := 5) F dX0_tell_5 rfl rfl ?_
  refine k_iald (pc := 6) F rfl dX0_tell_6 ?_
  refine k_iconst (pc := 7) F (v := (1 : Int32)) dX0_tell_7 ci_1 ?_
  refine k_iadd (pc := 8) F dX0_tell_8 ?_
  refine k_iast (pc := 9) F rfl dX0_tell_9 (fun σ1 => ?_)
  refine k_aload_n (pc := 10) F 0 0 dX0_tell_10 rfl rfl ?_
  refine k_dup (pc := 11) F dX0_tell_11 rfl ?_
  refine gf_1_1 (pc := 12) F w_1_37 dX0_tell_12 ?_
  refine k_iconst (pc := 15) F (v := (1 : Int32)) dX0_tell_15 ci_1 ?_
  refine k_iadd (pc := 16) F dX0_tell_16 ?_
  refine pf_1_1 (pc := 17) F w_1_37 dX0_tell_17 (fun σ2 => ?_)
  refine k_ldc (pc := 20) F (v := (-1000000001 : Int32)) w_2_102 dX0_tell_20 ?_
  refine k_iload_n (pc := 22) F 1 1 dX0_tell_22 rfl rfl ?_
  refine k_isub (pc := 23) F dX0_tell_23 ?_
  exact k_iret (pc := 24) B dX0_tell_24
set_option maxHeartbeats 4000000 in
set_option maxRecDepth 100000 in
theorem ct_X0_tell (E : En) (aq0 : Int32)  (σ : Mm) : CtI E yX0_tell cX0_tell 2 (some .int) H_X0_tell [.ref (ad E 1), .int aq0] σ (f_X0_tell aq0 σ) := ct_I (by decide) (Nat.le_of_ble_eq_true rfl) rfl (fun G B => t_X0_tell B aq0  σ)
abbrev H_X5_partOf : Nat := 0
set_option maxHeartbeats 4000000 in
set_option maxRecDepth 100000 in
theorem t_X5_partOf {E : En} {G : Cx} (B : Bx E G cX5_partOf 4 RX5 H_X5_partOf (some .int)) (aq0 : Int32) (aq1 : Int32) (aq2 : Int32)  (σ : Mm) : KR E G 4 (ZI E G) (f_X5_partOf aq0 aq1 aq2 σ) 0 [(0, .ref (ad E 7)), (1, .int aq0), (2, .int aq1), (3, .int aq2)] [] σ := by
  have F := B.1
  unfold f_X5_partOf
  refine k_aload_n (pc := 0) F 0 0 dX5_partOf_0 rfl rfl ?_
  refine gf_7_2 (pc := 1) F w_1_105 dX5_partOf_1 ?_
  refine k_iload_n (pc := 4) F 1 1 dX5_partOf_4 rfl rfl ?_
  refine k_bipush (pc := 5) F (v := (7 : Int32)) dX5_partOf_5 cb_7 ?_
  refine k_imul (pc := 7) F dX5_partOf_7 ?_
  refine k_iload_n (pc := 8) F 2 2 dX5_partOf_8 rfl rfl ?_
  refine k_iadd (pc := 9) F dX5_partOf_9 ?_
  refine k_iconst (pc := 10) F (v := (5 : Int32)) dX5_partOf_10 ci_5 ?_
  refine k_imul (pc := 11) F dX5_partOf_11 ?_
  refine k_iload_n (pc := 12) F 3 3 dX5_partOf_12 rfl rfl ?_
  refine k_iadd (pc := 13) F dX5_partOf_13 ?_
  refine k_iald (pc := 14) F rfl dX5_partOf_14 ?_
  exact k_iret (pc := 15) B dX5_partOf_15
set_option maxHeartbeats 4000000 in
set_option maxRecDepth 100000 in
theorem ct_X5_partOf (E : En) (aq0 : Int32) (aq1 : Int32) (aq2 : Int32)  (σ : Mm) : CtI E yX5_partOf cX5_partOf 4 (some .int) H_X5_partOf [.ref (ad E 7), .int aq0, .int aq1, .int aq2] σ (f_X5_partOf aq0 aq1 aq2 σ) := ct_I (by decide) (Nat.le_of_ble_eq_true rfl) rfl (fun G B => t_X5_partOf B aq0 aq1 aq2  σ)
abbrev H_X1_layCall : Nat := 1
theorem hR_X1_layCall_X5_partOf : H_X5_partOf + 1 ≤ H_X1_layCall ∧ 8 + (4 + 11) + 40 * H_X5_partOf ≤ 40 * H_X1_layCall := by decide
set_option maxHeartbeats 4000000 in
set_option maxRecDepth 100000 in
theorem t_X1_layCall_L48b {E : En} {G : Cx} (B : Bx E G cX1_layCall 11 RX1 H_X1_layCall (some .int)) (xq2 : Int32) (xq3 : Int32) (xq5 : Int64) (xq7 : Int32) (xq8 : Int32) (xq9 : Int32)  (K79 : Mm → Option (Int32 × Mm)) (hK79 : ∀   (σ : Mm), KR E G 11 (ZI E G) (K79  σ) 79 [(0, .ref (ad E 13)), (1, .ref (ad E 7)), (2, .int xq2), (3, .int xq3), (5, .long xq5), (7, .int xq7), (8, .int xq8), (9, .int xq9)] [] σ)  (L48 : Int32 → Mm → Option (Int32 × Mm)) (hL48 : ∀ (xq10 : Int32)  (σ : Mm), KR E G 11 (ZI E G) (L48 xq10 σ) 48 [(0, .ref (ad E 13)), (1, .ref (ad E 7)), (2, .int xq2), (3, .int xq3), (5, .long xq5), (7, .int xq7), (8, .int xq8), (9, .int xq9), (10, .int xq10)] [] σ) (xq10 : Int32)  (σ : Mm) : KR E G 11 (ZI E G) (f_X1_layCall_L48 K79 xq2 xq3 xq5 xq7 xq8 xq9 L48 xq10 σ) 48 [(0, .ref (ad E 13)), (1, .ref (ad E 7)), (2, .int xq2), (3, .int xq3), (5, .long xq5), (7, .int xq7), (8, .int xq8), (9, .int xq9), (10, .int xq10)] [] σ := by
  have F := B.1
  unfold f_X1_layCall_L48
  refine k_iload (pc := 48) F 10 8 dX1_layCall_48 rfl ?_
  refine k_iconst (pc := 50) F (v := (5 : Int32)) dX1_layCall_50 ci_5 ?_
  refine k_icmp_ge (pc := 51) F 79 dX1_layCall_51 (by decide) (fun _ => ?_) (fun _ => ?_)
  · exact k_sub [0, 1, 2, 3, 4, 5, 6, 7] rfl (hK79 σ)
  · refine k_aload_n (pc := 54) F 0 0 dX1_layCall_54 rfl rfl ?_
    refine gf_13_3 (pc := 55) F w_1_153 dX1_layCall_55 ?_
    refine k_iload (pc := 58) F 9 7 dX1_layCall_58 rfl ?_
    refine k_iload (pc := 60) F 10 8 dX1_layCall_60 rfl ?_
    refine k_iadd (pc := 62) F dX1_layCall_62 ?_
    refine k_aload_n (pc := 63) F 1 1 dX1_layCall_63 rfl rfl ?_
    refine k_iload_n (pc := 64) F 2 2 dX1_layCall_64 rfl rfl ?_
    refine k_iload (pc := 65) F 8 6 dX1_layCall_65 rfl ?_
    refine k_iload (pc := 67) F 10 8 dX1_layCall_67 rfl ?_
    refine k_callVI (pc := 69) B (k := 7) (As := [.int xq2, .int xq8, .int xq10]) (rest := [.int (xq9 + xq10), .ref (ad E 14)]) (ct_X5_partOf E xq2 xq8 xq10  σ) rfl rfl mv_X5_partOf w_3_58 rfl hR_X1_layCall_X5_partOf rfl (Nat.le_of_ble_eq_true rfl) dX1_layCall_69 (fun rq4 σ3 hoq => ?_)
    refine k_iast (pc := 72) F rfl dX1_layCall_72 (fun σ5 => ?_)
    refine k_iinc (pc := 73) F (c := (1 : Int32)) (lw := fun wq => [(10, .int wq), (0, .ref (ad E 13)), (1, .ref (ad E 7)), (2, .int xq2), (3, .int xq3), (5, .long xq5), (7, .int xq7), (8, .int xq8), (9, .int xq9)]) 10 8 dX1_layCall_73 rfl ci_1 (by decide) (fun _ => rfl) (fun vq6 => ?_)
    refine k_goto (pc := 76) F 48 dX1_layCall_76 (by decide) ?_
    exact k_sub [1, 2, 3, 4, 5, 6, 7, 8, 0] rfl (hL48 vq6 σ5)
set_option maxHeartbeats 4000000 in
set_option maxRecDepth 100000 in
theorem t_X1_layCall_L48 {E : En} {G : Cx} (B : Bx E G cX1_layCall 11 RX1 H_X1_layCall (some .int)) (xq2 : Int32) (xq3 : Int32) (xq5 : Int64) (xq7 : Int32) (xq8 : Int32) (xq9 : Int32)  (K79 : Mm → Option (Int32 × Mm)) (hK79 : ∀   (σ : Mm), KR E G 11 (ZI E G) (K79  σ) 79 [(0, .ref (ad E 13)), (1, .ref (ad E 7)), (2, .int xq2), (3, .int xq3), (5, .long xq5), (7, .int xq7), (8, .int xq8), (9, .int xq9)] [] σ)  : ∀ (n : Nat) (xq10 : Int32)  (σ : Mm), KR E G 11 (ZI E G) (fx (fun _ _ => none) n (f_X1_layCall_L48 K79 xq2 xq3 xq5 xq7 xq8 xq9) xq10 σ) 48 [(0, .ref (ad E 13)), (1, .ref (ad E 7)), (2, .int xq2), (3, .int xq3), (5, .long xq5), (7, .int xq7), (8, .int xq8), (9, .int xq9), (10, .int xq10)] [] σ :=
  fun n => fx_ind (P := fun f => ∀ (xq10 : Int32)  (σ : Mm), KR E G 11 (ZI E G) (f xq10 σ) 48 [(0, .ref (ad E 13)), (1, .ref (ad E 7)), (2, .int xq2), (3, .int xq3), (5, .long xq5), (7, .int xq7), (8, .int xq8), (9, .int xq9), (10, .int xq10)] [] σ) (fun _ _ => k_none) (fun L48 hL48 xq10 σ => t_X1_layCall_L48b B xq2 xq3 xq5 xq7 xq8 xq9  K79 hK79  L48 hL48 xq10 σ) n
set_option maxHeartbeats 4000000 in
set_option maxRecDepth 100000 in
theorem t_X1_layCall_158 {E : En} {G : Cx} (B : Bx E G cX1_layCall 11 RX1 H_X1_layCall (some .int)) (xq2 : Int32) (xq3 : Int32) (xq5 : Int64) (xq7 : Int32) (xq8 : Int32)  (L7 : Int32 → Int32 → Mm → Option (Int32 × Mm)) (hL7 : ∀ (xq7 : Int32) (xq8 : Int32)  (σ : Mm), KR E G 11 (ZI E G) (L7 xq7 xq8 σ) 7 [(0, .ref (ad E 13)), (1, .ref (ad E 7)), (2, .int xq2), (3, .int xq3), (5, .long xq5), (7, .int xq7), (8, .int xq8)] [] σ)  (σ : Mm) : KR E G 11 (ZI E G) (f_X1_layCall_158 L7 xq2 xq3 xq5 xq7 xq8 σ) 158 [(0, .ref (ad E 13)), (1, .ref (ad E 7)), (2, .int xq2), (3, .int xq3), (5, .long xq5), (7, .int xq7), (8, .int xq8)] [] σ := by
  have F := B.1
  unfold f_X1_layCall_158
  refine k_iinc (pc := 158) F (c := (1 : Int32)) (lw := fun wq => [(8, .int wq), (0, .ref (ad E 13)), (1, .ref (ad E 7)), (2, .int xq2), (3, .int xq3), (5, .long xq5), (7, .int xq7)]) 8 6 dX1_layCall_158 rfl ci_1 (by decide) (fun _ => rfl) (fun vq8 => ?_)
  refine k_goto (pc := 161) F 7 dX1_layCall_161 (by decide) ?_
  exact k_sub [1, 2, 3, 4, 5, 6, 0] rfl (hL7 xq7 vq8 σ)
set_option maxHeartbeats 4000000 in
set_option maxRecDepth 100000 in
theorem t_X1_layCall_113 {E : En} {G : Cx} (B : Bx E G cX1_layCall 11 RX1 H_X1_layCall (some .int)) (xq2 : Int32) (xq3 : Int32) (xq5 : Int64) (xq7 : Int32) (xq8 : Int32)  (L7 : Int32 → Int32 → Mm → Option (Int32 × Mm)) (hL7 : ∀ (xq7 : Int32) (xq8 : Int32)  (σ : Mm), KR E G 11 (ZI E G) (L7 xq7 xq8 σ) 7 [(0, .ref (ad E 13)), (1, .ref (ad E 7)), (2, .int xq2), (3, .int xq3), (5, .long xq5), (7, .int xq7), (8, .int xq8)] [] σ)  (σ : Mm) : KR E G 11 (ZI E G) (f_X1_layCall_113 L7 xq2 xq3 xq5 xq7 xq8 σ) 113 [(0, .ref (ad E 13)), (1, .ref (ad E 7)), (2, .int xq2), (3, .int xq3), (5, .long xq5), (7, .int xq7), (8, .int xq8)] [] σ := by
  have F := B.1
  unfold f_X1_layCall_113
  refine k_iinc (pc := 113) F (c := (1 : Int32)) (lw := fun wq => [(7, .int wq), (0, .ref (ad E 13)), (1, .ref (ad E 7)), (2, .int xq2), (3, .int xq3), (5, .long xq5), (8, .int xq8)]) 7 5 dX1_layCall_113 rfl ci_1 (by decide) (fun _ => rfl) (fun vq7 => ?_)
  refine k_lload (pc := 116) F 5 5 dX1_layCall_116 rfl ?_
  refine k_iload_n (pc := 118) F 2 3 dX1_layCall_118 rfl rfl ?_
  refine k_bipush (pc := 119) F (v := (7 : Int32)) dX1_layCall_119 cb_7 ?_
  refine k_imul (pc := 121) F dX1_layCall_121 ?_
  refine k_iload (pc := 122) F 8 6 dX1_layCall_122 rfl ?_
  refine k_iadd (pc := 124) F dX1_layCall_124 ?_
  refine k_lushr (pc := 125) F dX1_layCall_125 ?_
  refine k_lconst (pc := 126) F (v := (1 : Int64)) dX1_layCall_126 cl_1 ?_
  refine k_land (pc := 127) F dX1_layCall_127 ?_
  refine k_lconst (pc := 128) F (v := (1 : Int64)) dX1_layCall_128 cl_1 ?_
  refine k_lcmp (pc := 129) F dX1_layCall_129 ?_
  refine k_if_ne (pc := 130) F 158 dX1_layCall_130 (by decide) (fun _ => ?_) (fun _ => ?_)
  · refine k_iload (pc := 133) F 7 0 dX1_layCall_133 rfl ?_
    refine k_bipush (pc := 135) F (v := (26 : Int32)) dX1_layCall_135 cb_26 ?_
    refine k_icmp_ge (pc := 137) F 158 dX1_layCall_137 (by decide) (fun _ => ?_) (fun _ => ?_)
    · exact k_sub [1, 2, 3, 4, 5, 0, 6] rfl (t_X1_layCall_158 B xq2 xq3 xq5 vq7 xq8  L7 hL7  σ)
    · refine k_aload_n (pc := 140) F 0 1 dX1_layCall_140 rfl rfl ?_
      refine gf_13_3 (pc := 141) F w_1_153 dX1_layCall_141 ?_
      refine k_iload_n (pc := 144) F 3 4 dX1_layCall_144 rfl rfl ?_
      refine k_bipush (pc := 145) F (v := (26 : Int32)) dX1_layCall_145 cb_26 ?_
      refine k_imul (pc := 147) F dX1_layCall_147 ?_
      refine k_iload (pc := 148) F 7 0 dX1_layCall_148 rfl ?_
      refine k_iadd (pc := 150) F dX1_layCall_150 ?_
      refine k_iconst (pc := 151) F (v := (5 : Int32)) dX1_layCall_151 ci_5 ?_
      refine k_imul (pc := 152) F dX1_layCall_152 ?_
      refine k_iconst (pc := 153) F (v := (5 : Int32)) dX1_layCall_153 ci_5 ?_
      refine k_iast (pc := 154) F rfl dX1_layCall_154 (fun σ9 => ?_)
      refine k_iinc (pc := 155) F (c := (1 : Int32)) (lw := fun wq => [(7, .int wq), (0, .ref (ad E 13)), (1, .ref (ad E 7)), (2, .int xq2), (3, .int xq3), (5, .long xq5), (8, .int xq8)]) 7 0 dX1_layCall_155 rfl ci_1 (by decide) (fun _ => rfl) (fun vq10 => ?_)
      exact k_sub [1, 2, 3, 4, 5, 0, 6] rfl (t_X1_layCall_158 B xq2 xq3 xq5 vq10 xq8  L7 hL7  σ9)
  · exact k_sub [1, 2, 3, 4, 5, 0, 6] rfl (t_X1_layCall_158 B xq2 xq3 xq5 vq7 xq8  L7 hL7  σ)
set_option maxHeartbeats 4000000 in
set_option maxRecDepth 100000 in
theorem t_X1_layCall_79 {E : En} {G : Cx} (B : Bx E G cX1_layCall 11 RX1 H_X1_layCall (some .int)) (xq2 : Int32) (xq3 : Int32) (xq5 : Int64) (xq7 : Int32) (xq8 : Int32) (xq9 : Int32)  (L7 : Int32 → Int32 → Mm → Option (Int32 × Mm)) (hL7 : ∀ (xq7 : Int32) (xq8 : Int32)  (σ : Mm), KR E G 11 (ZI E G) (L7 xq7 xq8 σ) 7 [(0, .ref (ad E 13)), (1, .ref (ad E 7)), (2, .int xq2), (3, .int xq3), (5, .long xq5), (7, .int xq7), (8, .int xq8)] [] σ)  (σ : Mm) : KR E G 11 (ZI E G) (f_X1_layCall_79 L7 xq2 xq3 xq5 xq7 xq8 xq9 σ) 79 [(0, .ref (ad E 13)), (1, .ref (ad E 7)), (2, .int xq2), (3, .int xq3), (5, .long xq5), (7, .int xq7), (8, .int xq8), (9, .int xq9)] [] σ := by
  have F := B.1
  unfold f_X1_layCall_79
  refine k_aload_n (pc := 79) F 0 0 dX1_layCall_79 rfl rfl ?_
  refine gf_13_3 (pc := 80) F w_1_153 dX1_layCall_80 ?_
  refine k_iload (pc := 83) F 9 7 dX1_layCall_83 rfl ?_
  refine k_iald (pc := 85) F rfl dX1_layCall_85 ?_
  refine k_bipush (pc := 86) F (v := (6 : Int32)) dX1_layCall_86 cb_6 ?_
  refine k_icmp_ne (pc := 88) F 113 dX1_layCall_88 (by decide) (fun _ => ?_) (fun _ => ?_)
  · refine k_aload_n (pc := 91) F 0 0 dX1_layCall_91 rfl rfl ?_
    refine gf_13_3 (pc := 92) F w_1_153 dX1_layCall_92 ?_
    refine k_iload (pc := 95) F 9 7 dX1_layCall_95 rfl ?_
    refine k_iconst (pc := 97) F (v := (4 : Int32)) dX1_layCall_97 ci_4 ?_
    refine k_iadd (pc := 98) F dX1_layCall_98 ?_
    refine k_aload_n (pc := 99) F 0 0 dX1_layCall_99 rfl rfl ?_
    refine gf_13_4 (pc := 100) F w_1_154 dX1_layCall_100 ?_
    refine k_aload_n (pc := 103) F 1 1 dX1_layCall_103 rfl rfl ?_
    refine k_iload_n (pc := 104) F 2 2 dX1_layCall_104 rfl rfl ?_
    refine k_iload (pc := 105) F 8 6 dX1_layCall_105 rfl ?_
    refine k_iconst (pc := 107) F (v := (4 : Int32)) dX1_layCall_107 ci_4 ?_
    refine k_callVI (pc := 108) B (k := 7) (As := [.int xq2, .int xq8, .int (4 : Int32)]) (rest := [.ref (ad E 15), .int (xq9 + (4 : Int32)), .ref (ad E 14)]) (ct_X5_partOf E xq2 xq8 (4 : Int32)  σ) rfl rfl mv_X5_partOf w_3_58 rfl hR_X1_layCall_X5_partOf rfl (Nat.le_of_ble_eq_true rfl) dX1_layCall_108 (fun rq12 σ11 hoq => ?_)
    refine k_iald (pc := 111) F rfl dX1_layCall_111 ?_
    refine k_iast (pc := 112) F rfl dX1_layCall_112 (fun σ13 => ?_)
    exact k_sub [0, 1, 2, 3, 4, 5, 6] rfl (t_X1_layCall_113 B xq2 xq3 xq5 xq7 xq8  L7 hL7  σ13)
  · exact k_sub [0, 1, 2, 3, 4, 5, 6] rfl (t_X1_layCall_113 B xq2 xq3 xq5 xq7 xq8  L7 hL7  σ)
set_option maxHeartbeats 4000000 in
set_option maxRecDepth 100000 in
theorem t_X1_layCall_L7b {E : En} {G : Cx} (B : Bx E G cX1_layCall 11 RX1 H_X1_layCall (some .int)) (xq2 : Int32) (xq3 : Int32) (xq5 : Int64)   (L7 : Int32 → Int32 → Mm → Option (Int32 × Mm)) (hL7 : ∀ (xq7 : Int32) (xq8 : Int32)  (σ : Mm), KR E G 11 (ZI E G) (L7 xq7 xq8 σ) 7 [(0, .ref (ad E 13)), (1, .ref (ad E 7)), (2, .int xq2), (3, .int xq3), (5, .long xq5), (7, .int xq7), (8, .int xq8)] [] σ) (xq7 : Int32) (xq8 : Int32)  (σ : Mm) : KR E G 11 (ZI E G) (f_X1_layCall_L7 xq2 xq3 xq5 L7 xq7 xq8 σ) 7 [(0, .ref (ad E 13)), (1, .ref (ad E 7)), (2, .int xq2), (3, .int xq3), (5, .long xq5), (7, .int xq7), (8, .int xq8)] [] σ := by
  have F := B.1
  unfold f_X1_layCall_L7
  refine k_iload (pc := 7) F 8 6 dX1_layCall_7 rfl ?_
  refine k_aload_n (pc := 9) F 1 1 dX1_layCall_9 rfl rfl ?_
  refine gf_7_1 (pc := 10) F w_1_102 dX1_layCall_10 ?_
  refine k_iload_n (pc := 13) F 2 2 dX1_layCall_13 rfl rfl ?_
  refine k_iald (pc := 14) F rfl dX1_layCall_14 ?_
  refine k_icmp_ge (pc := 15) F 164 dX1_layCall_15 (by decide) (fun _ => ?_) (fun _ => ?_)
  · refine k_iload (pc := 164) F 7 5 dX1_layCall_164 rfl ?_
    exact k_iret (pc := 166) B dX1_layCall_166
  · refine k_iload (pc := 18) F 7 5 dX1_layCall_18 rfl ?_
    refine k_bipush (pc := 20) F (v := (26 : Int32)) dX1_layCall_20 cb_26 ?_
    refine k_icmp_ge (pc := 22) F 164 dX1_layCall_22 (by decide) (fun _ => ?_) (fun _ => ?_)
    · refine k_iload (pc := 164) F 7 5 dX1_layCall_164 rfl ?_
      exact k_iret (pc := 166) B dX1_layCall_166
    · refine k_aload_n (pc := 25) F 0 0 dX1_layCall_25 rfl rfl ?_
      refine gf_13_4 (pc := 26) F w_1_154 dX1_layCall_26 ?_
      refine k_iload (pc := 29) F 8 6 dX1_layCall_29 rfl ?_
      refine k_iload (pc := 31) F 7 5 dX1_layCall_31 rfl ?_
      refine k_iast (pc := 33) F rfl dX1_layCall_33 (fun σ1 => ?_)
      refine k_iload_n (pc := 34) F 3 3 dX1_layCall_34 rfl rfl ?_
      refine k_bipush (pc := 35) F (v := (26 : Int32)) dX1_layCall_35 cb_26 ?_
      refine k_imul (pc := 37) F dX1_layCall_37 ?_
      refine k_iload (pc := 38) F 7 5 dX1_layCall_38 rfl ?_
      refine k_iadd (pc := 40) F dX1_layCall_40 ?_
      refine k_iconst (pc := 41) F (v := (5 : Int32)) dX1_layCall_41 ci_5 ?_
      refine k_imul (pc := 42) F dX1_layCall_42 ?_
      refine k_nmI (fun vq2 => ?_)
      refine k_istore F (lv' := [(9, .int vq2), (0, .ref (ad E 13)), (1, .ref (ad E 7)), (2, .int xq2), (3, .int xq3), (5, .long xq5), (7, .int xq7), (8, .int xq8)]) 9 dX1_layCall_43 (by decide) rfl ?_
      refine k_iconst (pc := 45) F (v := (0 : Int32)) dX1_layCall_45 ci_0 ?_
      refine k_istore F (lv' := [(10, .int (0 : Int32)), (9, .int vq2), (0, .ref (ad E 13)), (1, .ref (ad E 7)), (2, .int xq2), (3, .int xq3), (5, .long xq5), (7, .int xq7), (8, .int xq8)]) 10 dX1_layCall_46 (by decide) rfl ?_
      exact k_sub [2, 3, 4, 5, 6, 7, 8, 1, 0] rfl (t_X1_layCall_L48 B xq2 xq3 xq5 xq7 xq8 vq2  _ (fun   σ => by
            exact k_sub [0, 1, 2, 3, 4, 5, 6, 7] rfl (t_X1_layCall_79 B xq2 xq3 xq5 xq7 xq8 vq2  L7 hL7  σ)) FU (0 : Int32)  σ1)
set_option maxHeartbeats 4000000 in
set_option maxRecDepth 100000 in
theorem t_X1_layCall_L7 {E : En} {G : Cx} (B : Bx E G cX1_layCall 11 RX1 H_X1_layCall (some .int)) (xq2 : Int32) (xq3 : Int32) (xq5 : Int64)   : ∀ (n : Nat) (xq7 : Int32) (xq8 : Int32)  (σ : Mm), KR E G 11 (ZI E G) (fx (fun _ _ _ => none) n (f_X1_layCall_L7 xq2 xq3 xq5) xq7 xq8 σ) 7 [(0, .ref (ad E 13)), (1, .ref (ad E 7)), (2, .int xq2), (3, .int xq3), (5, .long xq5), (7, .int xq7), (8, .int xq8)] [] σ :=
  fun n => fx_ind (P := fun f => ∀ (xq7 : Int32) (xq8 : Int32)  (σ : Mm), KR E G 11 (ZI E G) (f xq7 xq8 σ) 7 [(0, .ref (ad E 13)), (1, .ref (ad E 7)), (2, .int xq2), (3, .int xq3), (5, .long xq5), (7, .int xq7), (8, .int xq8)] [] σ) (fun _ _ _ => k_none) (fun L7 hL7 xq7 xq8 σ => t_X1_layCall_L7b B xq2 xq3 xq5   L7 hL7 xq7 xq8 σ) n
set_option maxHeartbeats 4000000 in
set_option maxRecDepth 100000 in
theorem t_X1_layCall {E : En} {G : Cx} (B : Bx E G cX1_layCall 11 RX1 H_X1_layCall (some .int)) (aq1 : Int32) (aq2 : Int32) (aq3 : Int32) (aq4 : Int64)  (σ : Mm) : KR E G 11 (ZI E G) (f_X1_layCall aq1 aq2 aq3 aq4 σ) 0 [(0, .ref (ad E 13)), (1, .ref (ad E 7)), (2, .int aq1), (3, .int aq2), (4, .int aq3), (5, .long aq4)] [] σ := by
  have F := B.1
  unfold f_X1_layCall
  refine k_iload (pc := 0) F 4 4 dX1_layCall_0 rfl ?_
  refine k_istore F (lv' := [(7, .int aq3), (0, .ref (ad E 13)), (1, .ref (ad E 7)), (2, .int aq1), (3, .int aq2), (4, .int aq3), (5, .long aq4)]) 7 dX1_layCall_2 (by decide) rfl ?_
  refine k_iconst (pc := 4) F (v := (0 : Int32)) dX1_layCall_4 ci_0 ?_
  refine k_istore F (lv' := [(8, .int (0 : Int32)), (7, .int aq3), (0, .ref (ad E 13)), (1, .ref (ad E 7)), (2, .int aq1), (3, .int aq2), (4, .int aq3), (5, .long aq4)]) 8 dX1_layCall_5 (by decide) rfl ?_
  exact k_sub [2, 3, 4, 5, 7, 1, 0] rfl (t_X1_layCall_L7 B aq1 aq2 aq4   FU aq3 (0 : Int32)  σ)
set_option maxHeartbeats 4000000 in
set_option maxRecDepth 100000 in
theorem ct_X1_layCall (E : En) (aq1 : Int32) (aq2 : Int32) (aq3 : Int32) (aq4 : Int64)  (σ : Mm) : CtI E yX1_layCall cX1_layCall 11 (some .int) H_X1_layCall [.ref (ad E 13), .ref (ad E 7), .int aq1, .int aq2, .int aq3, .long aq4] σ (f_X1_layCall aq1 aq2 aq3 aq4 σ) := ct_I (by decide) (Nat.le_of_ble_eq_true rfl) rfl (fun G B => t_X1_layCall B aq1 aq2 aq3 aq4  σ)
abbrev H_X1_load : Nat := 2
theorem hR_X1_load_X1_layCall : H_X1_layCall + 1 ≤ H_X1_load ∧ 8 + (11 + 11) + 40 * H_X1_layCall ≤ 40 * H_X1_load := by decide
set_option maxHeartbeats 4000000 in
set_option maxRecDepth 100000 in
theorem t_X1_load_L33b {E : En} {G : Cx} (B : Bx E G cX1_load 5 RX1 H_X1_load none) (xq2 : Int64)  (K67 : Mm → Option (Unit × Mm)) (hK67 : ∀   (σ : Mm), KR E G 5 (ZV E G) (K67  σ) 67 [(0, .ref (ad E 13)), (1, .ref (ad E 7)), (2, .long xq2)] [] σ)  (L33 : Int32 → Mm → Option (Unit × Mm)) (hL33 : ∀ (xq4 : Int32)  (σ : Mm), KR E G 5 (ZV E G) (L33 xq4 σ) 33 [(0, .ref (ad E 13)), (1, .ref (ad E 7)), (2, .long xq2), (4, .int xq4)] [] σ) (xq4 : Int32)  (σ : Mm) : KR E G 5 (ZV E G) (f_X1_load_L33 K67 xq2 L33 xq4 σ) 33 [(0, .ref (ad E 13)), (1, .ref (ad E 7)), (2, .long xq2), (4, .int xq4)] [] σ := by
  have F := B.1
  unfold f_X1_load_L33
  refine k_iload (pc := 33) F 4 3 dX1_load_33 rfl ?_
  refine k_iconst (pc := 35) F (v := (3 : Int32)) dX1_load_35 ci_3 ?_
  refine k_icmp_ge (pc := 36) F 67 dX1_load_36 (by decide) (fun _ => ?_) (fun _ => ?_)
  · exact k_sub [0, 1, 2] rfl (hK67 σ)
  · refine k_aload_n (pc := 39) F 0 0 dX1_load_39 rfl rfl ?_
    refine k_dup (pc := 40) F dX1_load_40 rfl ?_
    refine gf_13_2 (pc := 41) F w_1_151 dX1_load_41 ?_
    refine k_aload_n (pc := 44) F 1 1 dX1_load_44 rfl rfl ?_
    refine gf_7_6 (pc := 45) F w_1_116 dX1_load_45 ?_
    refine k_iload (pc := 48) F 4 3 dX1_load_48 rfl ?_
    refine k_iald (pc := 50) F rfl dX1_load_50 ?_
    refine k_i2l (pc := 51) F dX1_load_51 ?_
    refine k_iconst (pc := 52) F (v := (2 : Int32)) dX1_load_52 ci_2 ?_
    refine k_iload (pc := 53) F 4 3 dX1_load_53 rfl ?_
    refine k_imul (pc := 55) F dX1_load_55 ?_
    refine k_lshl (pc := 56) F dX1_load_56 ?_
    refine k_lor (pc := 57) F dX1_load_57 ?_
    refine pf_13_2 (pc := 58) F w_1_151 dX1_load_58 (fun σ4 => ?_)
    refine k_iinc (pc := 61) F (c := (1 : Int32)) (lw := fun wq => [(4, .int wq), (0, .ref (ad E 13)), (1, .ref (ad E 7)), (2, .long xq2)]) 4 3 dX1_load_61 rfl ci_1 (by decide) (fun _ => rfl) (fun vq5 => ?_)
    refine k_goto (pc := 64) F 33 dX1_load_64 (by decide) ?_
    exact k_sub [1, 2, 3, 0] rfl (hL33 vq5 σ4)
set_option maxHeartbeats 4000000 in
set_option maxRecDepth 100000 in
theorem t_X1_load_L33 {E : En} {G : Cx} (B : Bx E G cX1_load 5 RX1 H_X1_load none) (xq2 : Int64)  (K67 : Mm → Option (Unit × Mm)) (hK67 : ∀   (σ : Mm), KR E G 5 (ZV E G) (K67  σ) 67 [(0, .ref (ad E 13)), (1, .ref (ad E 7)), (2, .long xq2)] [] σ)  : ∀ (n : Nat) (xq4 : Int32)  (σ : Mm), KR E G 5 (ZV E G) (fx (fun _ _ => none) n (f_X1_load_L33 K67 xq2) xq4 σ) 33 [(0, .ref (ad E 13)), (1, .ref (ad E 7)), (2, .long xq2), (4, .int xq4)] [] σ :=
  fun n => fx_ind (P := fun f => ∀ (xq4 : Int32)  (σ : Mm), KR E G 5 (ZV E G) (f xq4 σ) 33 [(0, .ref (ad E 13)), (1, .ref (ad E 7)), (2, .long xq2), (4, .int xq4)] [] σ) (fun _ _ => k_none) (fun L33 hL33 xq4 σ => t_X1_load_L33b B xq2  K67 hK67  L33 hL33 xq4 σ) n
set_option maxHeartbeats 4000000 in
set_option maxRecDepth 100000 in
theorem t_X1_load_174 {E : En} {G : Cx} (B : Bx E G cX1_load 5 RX1 H_X1_load none) (xq2 : Int64) (xq4 : Int32)  (L70 : Int32 → Mm → Option (Unit × Mm)) (hL70 : ∀ (xq4 : Int32)  (σ : Mm), KR E G 5 (ZV E G) (L70 xq4 σ) 70 [(0, .ref (ad E 13)), (1, .ref (ad E 7)), (2, .long xq2), (4, .int xq4)] [] σ)  (σ : Mm) : KR E G 5 (ZV E G) (f_X1_load_174 L70 xq2 xq4 σ) 174 [(0, .ref (ad E 13)), (1, .ref (ad E 7)), (2, .long xq2), (4, .int xq4)] [] σ := by
  have F := B.1
  unfold f_X1_load_174
  refine k_iinc (pc := 174) F (c := (1 : Int32)) (lw := fun wq => [(4, .int wq), (0, .ref (ad E 13)), (1, .ref (ad E 7)), (2, .long xq2)]) 4 3 dX1_load_174 rfl ci_1 (by decide) (fun _ => rfl) (fun vq8 => ?_)
  refine k_goto (pc := 177) F 70 dX1_load_177 (by decide) ?_
  exact k_sub [1, 2, 3, 0] rfl (hL70 vq8 σ)
set_option maxHeartbeats 4000000 in
set_option maxRecDepth 100000 in
theorem t_X1_load_111 {E : En} {G : Cx} (B : Bx E G cX1_load 5 RX1 H_X1_load none) (xq2 : Int64) (xq4 : Int32) (xqs1 : Int32) (xqs2 : Int32)  (L70 : Int32 → Mm → Option (Unit × Mm)) (hL70 : ∀ (xq4 : Int32)  (σ : Mm), KR E G 5 (ZV E G) (L70 xq4 σ) 70 [(0, .ref (ad E 13)), (1, .ref (ad E 7)), (2, .long xq2), (4, .int xq4)] [] σ)  (σ : Mm) : KR E G 5 (ZV E G) (f_X1_load_111 L70 xq2 xq4 xqs1 xqs2 σ) 111 [(0, .ref (ad E 13)), (1, .ref (ad E 7)), (2, .long xq2), (4, .int xq4)] [.int xqs2, .int xqs1, .ref (ad E 16)] σ := by
  have F := B.1
  unfold f_X1_load_111
  refine k_iast (pc := 111) F rfl dX1_load_111 (fun σ6 => ?_)
  refine k_aload_n (pc := 112) F 0 0 dX1_load_112 rfl rfl ?_
  refine gf_13_6 (pc := 113) F w_1_156 dX1_load_113 ?_
  refine k_iload (pc := 116) F 4 3 dX1_load_116 rfl ?_
  refine k_aload_n (pc := 118) F 0 0 dX1_load_118 rfl rfl ?_
  refine gf_13_5 (pc := 119) F w_1_155 dX1_load_119 ?_
  refine k_iload (pc := 122) F 4 3 dX1_load_122 rfl ?_
  refine k_iald (pc := 124) F rfl dX1_load_124 ?_
  refine k_iast (pc := 125) F rfl dX1_load_125 (fun σ7 => ?_)
  refine k_iload (pc := 126) F 4 3 dX1_load_126 rfl ?_
  refine k_aload_n (pc := 128) F 0 0 dX1_load_128 rfl rfl ?_
  refine gf_13_0 (pc := 129) F w_1_144 dX1_load_129 ?_
  refine k_icmp_ge (pc := 132) F 174 dX1_load_132 (by decide) (fun _ => ?_) (fun _ => ?_)
  · exact k_sub [0, 1, 2, 3] rfl (t_X1_load_174 B xq2 xq4  L70 hL70  σ7)
  · refine k_aload_n (pc := 135) F 1 1 dX1_load_135 rfl rfl ?_
    refine gf_7_5 (pc := 136) F w_1_113 dX1_load_136 ?_
    refine k_iload (pc := 139) F 4 3 dX1_load_139 rfl ?_
    refine k_iald (pc := 141) F rfl dX1_load_141 ?_
    refine k_if_lt (pc := 142) F 174 dX1_load_142 (by decide) (fun _ => ?_) (fun _ => ?_)
    · exact k_sub [0, 1, 2, 3] rfl (t_X1_load_174 B xq2 xq4  L70 hL70  σ7)
    · refine k_aload_n (pc := 145) F 0 0 dX1_load_145 rfl rfl ?_
      refine gf_13_6 (pc := 146) F w_1_156 dX1_load_146 ?_
      refine k_iload (pc := 149) F 4 3 dX1_load_149 rfl ?_
      refine k_aload_n (pc := 151) F 0 0 dX1_load_151 rfl rfl ?_
      refine k_aload_n (pc := 152) F 1 1 dX1_load_152 rfl rfl ?_
      refine k_aload_n (pc := 153) F 1 1 dX1_load_153 rfl rfl ?_
      refine gf_7_5 (pc := 154) F w_1_113 dX1_load_154 ?_
      refine k_iload (pc := 157) F 4 3 dX1_load_157 rfl ?_
      refine k_iald (pc := 159) F rfl dX1_load_159 ?_
      refine k_iload (pc := 160) F 4 3 dX1_load_160 rfl ?_
      refine k_aload_n (pc := 162) F 0 0 dX1_load_162 rfl rfl ?_
      refine gf_13_5 (pc := 163) F w_1_155 dX1_load_163 ?_
      refine k_iload (pc := 166) F 4 3 dX1_load_166 rfl ?_
      refine k_iald (pc := 168) F rfl dX1_load_168 ?_
      refine k_lload_n (pc := 169) F 2 2 dX1_load_169 rfl rfl ?_
      refine k_callVI (pc := 170) B (k := 13) (As := [.ref (ad E 7), .int (σ7.1 11 (ix xq4)), .int xq4, .int (σ7.1 16 (ix xq4)), .long xq2]) (rest := [.int xq4, .ref (ad E 17)]) (ct_X1_layCall E (σ7.1 11 (ix xq4)) xq4 (σ7.1 16 (ix xq4)) xq2  σ7) rfl rfl mv_X1_layCall w_3_54 rfl hR_X1_load_X1_layCall rfl (Nat.le_of_ble_eq_true rfl) dX1_load_170 (fun rq10 σ9 hoq => ?_)
      refine k_iast (pc := 173) F rfl dX1_load_173 (fun σ11 => ?_)
      exact k_sub [0, 1, 2, 3] rfl (t_X1_load_174 B xq2 xq4  L70 hL70  σ11)
set_option maxHeartbeats 4000000 in
set_option maxRecDepth 100000 in
theorem t_X1_load_L70b {E : En} {G : Cx} (B : Bx E G cX1_load 5 RX1 H_X1_load none) (xq2 : Int64)   (L70 : Int32 → Mm → Option (Unit × Mm)) (hL70 : ∀ (xq4 : Int32)  (σ : Mm), KR E G 5 (ZV E G) (L70 xq4 σ) 70 [(0, .ref (ad E 13)), (1, .ref (ad E 7)), (2, .long xq2), (4, .int xq4)] [] σ) (xq4 : Int32)  (σ : Mm) : KR E G 5 (ZV E G) (f_X1_load_L70 xq2 L70 xq4 σ) 70 [(0, .ref (ad E 13)), (1, .ref (ad E 7)), (2, .long xq2), (4, .int xq4)] [] σ := by
  have F := B.1
  unfold f_X1_load_L70
  refine k_iload (pc := 70) F 4 3 dX1_load_70 rfl ?_
  refine k_iconst (pc := 72) F (v := (3 : Int32)) dX1_load_72 ci_3 ?_
  refine k_icmp_ge (pc := 73) F 180 dX1_load_73 (by decide) (fun _ => ?_) (fun _ => ?_)
  · exact k_vret (pc := 180) B dX1_load_180
  · refine k_aload_n (pc := 76) F 0 0 dX1_load_76 rfl rfl ?_
    refine gf_13_5 (pc := 77) F w_1_155 dX1_load_77 ?_
    refine k_iload (pc := 80) F 4 3 dX1_load_80 rfl ?_
    refine k_iload (pc := 82) F 4 3 dX1_load_82 rfl ?_
    refine k_aload_n (pc := 84) F 0 0 dX1_load_84 rfl rfl ?_
    refine gf_13_0 (pc := 85) F w_1_144 dX1_load_85 ?_
    refine k_icmp_ge (pc := 88) F 110 dX1_load_88 (by decide) (fun _ => ?_) (fun _ => ?_)
    · refine k_iconst (pc := 110) F (v := (0 : Int32)) dX1_load_110 ci_0 ?_
      exact k_sub [0, 1, 2, 3] rfl (t_X1_load_111 B xq2 xq4 xq4 (0 : Int32)  L70 hL70  σ)
    · refine k_aload_n (pc := 91) F 0 0 dX1_load_91 rfl rfl ?_
      refine k_aload_n (pc := 92) F 1 1 dX1_load_92 rfl rfl ?_
      refine k_aload_n (pc := 93) F 1 1 dX1_load_93 rfl rfl ?_
      refine gf_7_4 (pc := 94) F w_1_110 dX1_load_94 ?_
      refine k_iload (pc := 97) F 4 3 dX1_load_97 rfl ?_
      refine k_iald (pc := 99) F rfl dX1_load_99 ?_
      refine k_iload (pc := 100) F 4 3 dX1_load_100 rfl ?_
      refine k_iconst (pc := 102) F (v := (0 : Int32)) dX1_load_102 ci_0 ?_
      refine k_lload_n (pc := 103) F 2 2 dX1_load_103 rfl rfl ?_
      refine k_callVI (pc := 104) B (k := 13) (As := [.ref (ad E 7), .int (σ.1 10 (ix xq4)), .int xq4, .int (0 : Int32), .long xq2]) (rest := [.int xq4, .ref (ad E 16)]) (ct_X1_layCall E (σ.1 10 (ix xq4)) xq4 (0 : Int32) xq2  σ) rfl rfl mv_X1_layCall w_3_54 rfl hR_X1_load_X1_layCall rfl (Nat.le_of_ble_eq_true rfl) dX1_load_104 (fun rq13 σ12 hoq => ?_)
      refine k_goto (pc := 107) F 111 dX1_load_107 (by decide) ?_
      exact k_sub [0, 1, 2, 3] rfl (t_X1_load_111 B xq2 xq4 xq4 rq13  L70 hL70  σ12)
set_option maxHeartbeats 4000000 in
set_option maxRecDepth 100000 in
theorem t_X1_load_L70 {E : En} {G : Cx} (B : Bx E G cX1_load 5 RX1 H_X1_load none) (xq2 : Int64)   : ∀ (n : Nat) (xq4 : Int32)  (σ : Mm), KR E G 5 (ZV E G) (fx (fun _ _ => none) n (f_X1_load_L70 xq2) xq4 σ) 70 [(0, .ref (ad E 13)), (1, .ref (ad E 7)), (2, .long xq2), (4, .int xq4)] [] σ :=
  fun n => fx_ind (P := fun f => ∀ (xq4 : Int32)  (σ : Mm), KR E G 5 (ZV E G) (f xq4 σ) 70 [(0, .ref (ad E 13)), (1, .ref (ad E 7)), (2, .long xq2), (4, .int xq4)] [] σ) (fun _ _ => k_none) (fun L70 hL70 xq4 σ => t_X1_load_L70b B xq2   L70 hL70 xq4 σ) n
set_option maxHeartbeats 4000000 in
set_option maxRecDepth 100000 in
theorem t_X1_load_67 {E : En} {G : Cx} (B : Bx E G cX1_load 5 RX1 H_X1_load none) (xq2 : Int64)   (σ : Mm) : KR E G 5 (ZV E G) (f_X1_load_67 xq2 σ) 67 [(0, .ref (ad E 13)), (1, .ref (ad E 7)), (2, .long xq2)] [] σ := by
  have F := B.1
  unfold f_X1_load_67
  refine k_iconst (pc := 67) F (v := (0 : Int32)) dX1_load_67 ci_0 ?_
  refine k_istore F (lv' := [(4, .int (0 : Int32)), (0, .ref (ad E 13)), (1, .ref (ad E 7)), (2, .long xq2)]) 4 dX1_load_68 (by decide) rfl ?_
  exact k_sub [1, 2, 3, 0] rfl (t_X1_load_L70 B xq2   FU (0 : Int32)  σ)
set_option maxHeartbeats 4000000 in
set_option maxRecDepth 100000 in
theorem t_X1_load_22 {E : En} {G : Cx} (B : Bx E G cX1_load 5 RX1 H_X1_load none) (xq2 : Int64) (xqs1 : Int32)   (σ : Mm) : KR E G 5 (ZV E G) (f_X1_load_22 xq2 xqs1 σ) 22 [(0, .ref (ad E 13)), (1, .ref (ad E 7)), (2, .long xq2)] [.int xqs1, .ref (ad E 13)] σ := by
  have F := B.1
  unfold f_X1_load_22
  refine pf_13_1 (pc := 22) F w_1_146 dX1_load_22 (fun σ2 => ?_)
  refine k_aload_n (pc := 25) F 0 0 dX1_load_25 rfl rfl ?_
  refine k_lconst (pc := 26) F (v := (0 : Int64)) dX1_load_26 cl_0 ?_
  refine pf_13_2 (pc := 27) F w_1_151 dX1_load_27 (fun σ3 => ?_)
  refine k_iconst (pc := 30) F (v := (0 : Int32)) dX1_load_30 ci_0 ?_
  refine k_istore F (lv' := [(4, .int (0 : Int32)), (0, .ref (ad E 13)), (1, .ref (ad E 7)), (2, .long xq2)]) 4 dX1_load_31 (by decide) rfl ?_
  exact k_sub [1, 2, 3, 0] rfl (t_X1_load_L33 B xq2  _ (fun   σ => by
        exact k_sub [0, 1, 2] rfl (t_X1_load_67 B xq2   σ)) FU (0 : Int32)  σ3)
set_option maxHeartbeats 4000000 in
set_option maxRecDepth 100000 in
theorem t_X1_load {E : En} {G : Cx} (B : Bx E G cX1_load 5 RX1 H_X1_load none) (aq1 : Int64)  (σ : Mm) : KR E G 5 (ZV E G) (f_X1_load aq1 σ) 0 [(0, .ref (ad E 13)), (1, .ref (ad E 7)), (2, .long aq1)] [] σ := by
  have F := B.1
  unfold f_X1_load
  refine k_aload_n (pc := 0) F 0 0 dX1_load_0 rfl rfl ?_
  refine k_aload_n (pc := 1) F 1 1 dX1_load_1 rfl rfl ?_
  refine gf_7_3 (pc := 2) F w_1_106 dX1_load_2 ?_
  refine pf_13_0 (pc := 5) F w_1_144 dX1_load_5 (fun σ1 => ?_)
  refine k_aload_n (pc := 8) F 0 0 dX1_load_8 rfl rfl ?_
  refine k_aload_n (pc := 9) F 1 1 dX1_load_9 rfl rfl ?_
  refine gf_7_7 (pc := 10) F w_1_118 dX1_load_10 ?_
  refine k_iconst (pc := 13) F (v := (1 : Int32)) dX1_load_13 ci_1 ?_
  refine k_icmp_ne (pc := 14) F 21 dX1_load_14 (by decide) (fun _ => ?_) (fun _ => ?_)
  · refine k_iconst (pc := 17) F (v := (1 : Int32)) dX1_load_17 ci_1 ?_
    refine k_goto (pc := 18) F 22 dX1_load_18 (by decide) ?_
    exact k_sub [0, 1, 2] rfl (t_X1_load_22 B aq1 (1 : Int32)   σ1)
  · refine k_iconst (pc := 21) F (v := (0 : Int32)) dX1_load_21 ci_0 ?_
    exact k_sub [0, 1, 2] rfl (t_X1_load_22 B aq1 (0 : Int32)   σ1)
set_option maxHeartbeats 4000000 in
set_option maxRecDepth 100000 in
theorem ct_X1_load (E : En) (aq1 : Int64)  (σ : Mm) : CtV E yX1_load cX1_load 5 none H_X1_load [.ref (ad E 13), .ref (ad E 7), .long aq1] σ (f_X1_load aq1 σ) := ct_V (by decide) (Nat.le_of_ble_eq_true rfl) rfl (fun G B => t_X1_load B aq1  σ)
abbrev H_X1_valueIn : Nat := 0
set_option maxHeartbeats 4000000 in
set_option maxRecDepth 100000 in
theorem t_X1_valueIn {E : En} {G : Cx} (B : Bx E G cX1_valueIn 3 RX1 H_X1_valueIn (some .int)) (aq0 : Int64) (aq1 : Int32)  (σ : Mm) : KR E G 3 (ZI E G) (f_X1_valueIn aq0 aq1 σ) 0 [(0, .long aq0), (2, .int aq1)] [] σ := by
  have F := B.1
  unfold f_X1_valueIn
  refine k_lload_n (pc := 0) F 0 0 dX1_valueIn_0 rfl rfl ?_
  refine k_iconst (pc := 1) F (v := (2 : Int32)) dX1_valueIn_1 ci_2 ?_
  refine k_iload_n (pc := 2) F 2 1 dX1_valueIn_2 rfl rfl ?_
  refine k_imul (pc := 3) F dX1_valueIn_3 ?_
  refine k_lushr (pc := 4) F dX1_valueIn_4 ?_
  refine k_l2i (pc := 5) F dX1_valueIn_5 ?_
  refine k_iconst (pc := 6) F (v := (3 : Int32)) dX1_valueIn_6 ci_3 ?_
  refine k_iand (pc := 7) F dX1_valueIn_7 ?_
  exact k_iret (pc := 8) B dX1_valueIn_8
set_option maxHeartbeats 4000000 in
set_option maxRecDepth 100000 in
theorem ct_X1_valueIn (E : En) (aq0 : Int64) (aq1 : Int32)  (σ : Mm) : CtI E yX1_valueIn cX1_valueIn 3 (some .int) H_X1_valueIn [.long aq0, .int aq1] σ (f_X1_valueIn aq0 aq1 σ) := ct_I (by decide) (Nat.le_of_ble_eq_true rfl) rfl (fun G B => t_X1_valueIn B aq0 aq1  σ)
abbrev H_X1_handIn : Nat := 0
set_option maxHeartbeats 4000000 in
set_option maxRecDepth 100000 in
theorem t_X1_handIn {E : En} {G : Cx} (B : Bx E G cX1_handIn 3 RX1 H_X1_handIn (some .int)) (aq0 : Int64) (aq1 : Int32)  (σ : Mm) : KR E G 3 (ZI E G) (f_X1_handIn aq0 aq1 σ) 0 [(0, .long aq0), (2, .int aq1)] [] σ := by
  have F := B.1
  unfold f_X1_handIn
  refine k_lload_n (pc := 0) F 0 0 dX1_handIn_0 rfl rfl ?_
  refine k_bipush (pc := 1) F (v := (6 : Int32)) dX1_handIn_1 cb_6 ?_
  refine k_bipush (pc := 3) F (v := (19 : Int32)) dX1_handIn_3 cb_19 ?_
  refine k_iload_n (pc := 5) F 2 1 dX1_handIn_5 rfl rfl ?_
  refine k_imul (pc := 6) F dX1_handIn_6 ?_
  refine k_iadd (pc := 7) F dX1_handIn_7 ?_
  refine k_lushr (pc := 8) F dX1_handIn_8 ?_
  refine k_l2i (pc := 9) F dX1_handIn_9 ?_
  refine k_ldc (pc := 10) F (v := (524287 : Int32)) w_3_83 dX1_handIn_10 ?_
  refine k_iand (pc := 12) F dX1_handIn_12 ?_
  exact k_iret (pc := 13) B dX1_handIn_13
set_option maxHeartbeats 4000000 in
set_option maxRecDepth 100000 in
theorem ct_X1_handIn (E : En) (aq0 : Int64) (aq1 : Int32)  (σ : Mm) : CtI E yX1_handIn cX1_handIn 3 (some .int) H_X1_handIn [.long aq0, .int aq1] σ (f_X1_handIn aq0 aq1 σ) := ct_I (by decide) (Nat.le_of_ble_eq_true rfl) rfl (fun G B => t_X1_handIn B aq0 aq1  σ)
abbrev H_X1_withValue : Nat := 0
set_option maxHeartbeats 4000000 in
set_option maxRecDepth 100000 in
theorem t_X1_withValue {E : En} {G : Cx} (B : Bx E G cX1_withValue 4 RX1 H_X1_withValue (some .long)) (aq0 : Int64) (aq1 : Int32) (aq2 : Int32)  (σ : Mm) : KR E G 4 (ZL E G) (f_X1_withValue aq0 aq1 aq2 σ) 0 [(0, .long aq0), (2, .int aq1), (3, .int aq2)] [] σ := by
  have F := B.1
  unfold f_X1_withValue
  refine k_lload_n (pc := 0) F 0 0 dX1_withValue_0 rfl rfl ?_
  refine k_ldc2 (pc := 1) F (v := (3 : Int64)) w_3_88 dX1_withValue_1 ?_
  refine k_iconst (pc := 4) F (v := (2 : Int32)) dX1_withValue_4 ci_2 ?_
  refine k_iload_n (pc := 5) F 2 1 dX1_withValue_5 rfl rfl ?_
  refine k_imul (pc := 6) F dX1_withValue_6 ?_
  refine k_lshl (pc := 7) F dX1_withValue_7 ?_
  refine k_ldc2 (pc := 8) F (v := (-1 : Int64)) w_3_84 dX1_withValue_8 ?_
  refine k_lxor (pc := 11) F dX1_withValue_11 ?_
  refine k_land (pc := 12) F dX1_withValue_12 ?_
  refine k_iload_n (pc := 13) F 3 2 dX1_withValue_13 rfl rfl ?_
  refine k_iconst (pc := 14) F (v := (3 : Int32)) dX1_withValue_14 ci_3 ?_
  refine k_iand (pc := 15) F dX1_withValue_15 ?_
  refine k_i2l (pc := 16) F dX1_withValue_16 ?_
  refine k_iconst (pc := 17) F (v := (2 : Int32)) dX1_withValue_17 ci_2 ?_
  refine k_iload_n (pc := 18) F 2 1 dX1_withValue_18 rfl rfl ?_
  refine k_imul (pc := 19) F dX1_withValue_19 ?_
  refine k_lshl (pc := 20) F dX1_withValue_20 ?_
  refine k_lor (pc := 21) F dX1_withValue_21 ?_
  exact k_lret (pc := 22) B dX1_withValue_22
set_option maxHeartbeats 4000000 in
set_option maxRecDepth 100000 in
theorem ct_X1_withValue (E : En) (aq0 : Int64) (aq1 : Int32) (aq2 : Int32)  (σ : Mm) : CtL E yX1_withValue cX1_withValue 4 (some .long) H_X1_withValue [.long aq0, .int aq1, .int aq2] σ (f_X1_withValue aq0 aq1 aq2 σ) := ct_L (by decide) (Nat.le_of_ble_eq_true rfl) rfl (fun G B => t_X1_withValue B aq0 aq1 aq2  σ)
abbrev H_X1_withHand : Nat := 0
set_option maxHeartbeats 4000000 in
set_option maxRecDepth 100000 in
theorem t_X1_withHand {E : En} {G : Cx} (B : Bx E G cX1_withHand 5 RX1 H_X1_withHand (some .long)) (aq0 : Int64) (aq1 : Int32) (aq2 : Int32)  (σ : Mm) : KR E G 5 (ZL E G) (f_X1_withHand aq0 aq1 aq2 σ) 0 [(0, .long aq0), (2, .int aq1), (3, .int aq2)] [] σ := by
  have F := B.1
  unfold f_X1_withHand
  refine k_bipush (pc := 0) F (v := (6 : Int32)) dX1_withHand_0 cb_6 ?_
  refine k_bipush (pc := 2) F (v := (19 : Int32)) dX1_withHand_2 cb_19 ?_
  refine k_iload_n (pc := 4) F 2 1 dX1_withHand_4 rfl rfl ?_
  refine k_imul (pc := 5) F dX1_withHand_5 ?_
  refine k_iadd (pc := 6) F dX1_withHand_6 ?_
  refine k_nmI (fun vq1 => ?_)
  refine k_istore F (lv' := [(4, .int vq1), (0, .long aq0), (2, .int aq1), (3, .int aq2)]) 4 dX1_withHand_7 (by decide) rfl ?_
  refine k_lload_n (pc := 9) F 0 1 dX1_withHand_9 rfl rfl ?_
  refine k_ldc2 (pc := 10) F (v := (524287 : Int64)) w_3_92 dX1_withHand_10 ?_
  refine k_iload (pc := 13) F 4 0 dX1_withHand_13 rfl ?_
  refine k_lshl (pc := 15) F dX1_withHand_15 ?_
  refine k_ldc2 (pc := 16) F (v := (-1 : Int64)) w_3_84 dX1_withHand_16 ?_
  refine k_lxor (pc := 19) F dX1_withHand_19 ?_
  refine k_land (pc := 20) F dX1_withHand_20 ?_
  refine k_iload_n (pc := 21) F 3 3 dX1_withHand_21 rfl rfl ?_
  refine k_i2l (pc := 22) F dX1_withHand_22 ?_
  refine k_iload (pc := 23) F 4 0 dX1_withHand_23 rfl ?_
  refine k_lshl (pc := 25) F dX1_withHand_25 ?_
  refine k_lor (pc := 26) F dX1_withHand_26 ?_
  exact k_lret (pc := 27) B dX1_withHand_27
set_option maxHeartbeats 4000000 in
set_option maxRecDepth 100000 in
theorem ct_X1_withHand (E : En) (aq0 : Int64) (aq1 : Int32) (aq2 : Int32)  (σ : Mm) : CtL E yX1_withHand cX1_withHand 5 (some .long) H_X1_withHand [.long aq0, .int aq1, .int aq2] σ (f_X1_withHand aq0 aq1 aq2 σ) := ct_L (by decide) (Nat.le_of_ble_eq_true rfl) rfl (fun G B => t_X1_withHand B aq0 aq1 aq2  σ)
abbrev H_X1_withA : Nat := 0
set_option maxHeartbeats 4000000 in
set_option maxRecDepth 100000 in
theorem t_X1_withA {E : En} {G : Cx} (B : Bx E G cX1_withA 2 RX1 H_X1_withA (some .int)) (aq0 : Int32) (aq1 : Int32)  (σ : Mm) : KR E G 2 (ZI E G) (f_X1_withA aq0 aq1 σ) 0 [(0, .int aq0), (1, .int aq1)] [] σ := by
  have F := B.1
  unfold f_X1_withA
  refine k_iload_n (pc := 0) F 0 0 dX1_withA_0 rfl rfl ?_
  refine k_bipush (pc := 1) F (v := (-97 : Int32)) dX1_withA_1 cb_m97 ?_
  refine k_iand (pc := 3) F dX1_withA_3 ?_
  refine k_iload_n (pc := 4) F 1 1 dX1_withA_4 rfl rfl ?_
  refine k_iconst (pc := 5) F (v := (5 : Int32)) dX1_withA_5 ci_5 ?_
  refine k_ishl (pc := 6) F dX1_withA_6 ?_
  refine k_ior (pc := 7) F dX1_withA_7 ?_
  exact k_iret (pc := 8) B dX1_withA_8
set_option maxHeartbeats 4000000 in
set_option maxRecDepth 100000 in
theorem ct_X1_withA (E : En) (aq0 : Int32) (aq1 : Int32)  (σ : Mm) : CtI E yX1_withA cX1_withA 2 (some .int) H_X1_withA [.int aq0, .int aq1] σ (f_X1_withA aq0 aq1 σ) := ct_I (by decide) (Nat.le_of_ble_eq_true rfl) rfl (fun G B => t_X1_withA B aq0 aq1  σ)
abbrev H_X1_withB : Nat := 0
set_option maxHeartbeats 4000000 in
set_option maxRecDepth 100000 in
theorem t_X1_withB {E : En} {G : Cx} (B : Bx E G cX1_withB 2 RX1 H_X1_withB (some .int)) (aq0 : Int32) (aq1 : Int32)  (σ : Mm) : KR E G 2 (ZI E G) (f_X1_withB aq0 aq1 σ) 0 [(0, .int aq0), (1, .int aq1)] [] σ := by
  have F := B.1
  unfold f_X1_withB
  refine k_iload_n (pc := 0) F 0 0 dX1_withB_0 rfl rfl ?_
  refine k_sipush (pc := 1) F (v := (-385 : Int32)) dX1_withB_1 cs_m385 ?_
  refine k_iand (pc := 4) F dX1_withB_4 ?_
  refine k_iload_n (pc := 5) F 1 1 dX1_withB_5 rfl rfl ?_
  refine k_bipush (pc := 6) F (v := (7 : Int32)) dX1_withB_6 cb_7 ?_
  refine k_ishl (pc := 8) F dX1_withB_8 ?_
  refine k_ior (pc := 9) F dX1_withB_9 ?_
  exact k_iret (pc := 10) B dX1_withB_10
set_option maxHeartbeats 4000000 in
set_option maxRecDepth 100000 in
theorem ct_X1_withB (E : En) (aq0 : Int32) (aq1 : Int32)  (σ : Mm) : CtI E yX1_withB cX1_withB 2 (some .int) H_X1_withB [.int aq0, .int aq1] σ (f_X1_withB aq0 aq1 σ) := ct_I (by decide) (Nat.le_of_ble_eq_true rfl) rfl (fun G B => t_X1_withB B aq0 aq1  σ)
abbrev H_X1_waitingFor : Nat := 0
set_option maxHeartbeats 4000000 in
set_option maxRecDepth 100000 in
theorem t_X1_waitingFor_60 {E : En} {G : Cx} (B : Bx E G cX1_waitingFor 5 RX1 H_X1_waitingFor (some .int))    (σ : Mm) : KR E G 5 (ZI E G) (f_X1_waitingFor_60  σ) 60 [] [] σ := by
  have F := B.1
  unfold f_X1_waitingFor_60
  refine k_iconst (pc := 60) F (v := (-1 : Int32)) dX1_waitingFor_60 ci_m1 ?_
  exact k_iret (pc := 61) B dX1_waitingFor_61
set_option maxHeartbeats 4000000 in
set_option maxRecDepth 100000 in
theorem t_X1_waitingFor_31 {E : En} {G : Cx} (B : Bx E G cX1_waitingFor 5 RX1 H_X1_waitingFor (some .int)) (xq0 : Int32) (xq1 : Int32) (xq2 : Int32)   (σ : Mm) : KR E G 5 (ZI E G) (f_X1_waitingFor_31 xq0 xq1 xq2 σ) 31 [(0, .int xq0), (1, .int xq1), (2, .int xq2)] [] σ := by
  have F := B.1
  unfold f_X1_waitingFor_31
  refine k_iload_n (pc := 31) F 0 0 dX1_waitingFor_31 rfl rfl ?_
  refine k_bipush (pc := 32) F (v := (11 : Int32)) dX1_waitingFor_32 cb_11 ?_
  refine k_ishr (pc := 34) F dX1_waitingFor_34 ?_
  refine k_bipush (pc := 35) F (v := (15 : Int32)) dX1_waitingFor_35 cb_15 ?_
  refine k_iand (pc := 37) F dX1_waitingFor_37 ?_
  refine k_nmI (fun vq3 => ?_)
  refine k_istore F (lv' := [(4, .int vq3), (0, .int xq0), (1, .int xq1), (2, .int xq2)]) 4 dX1_waitingFor_38 (by decide) rfl ?_
  refine k_iload_n (pc := 40) F 2 3 dX1_waitingFor_40 rfl rfl ?_
  refine k_iconst (pc := 41) F (v := (1 : Int32)) dX1_waitingFor_41 ci_1 ?_
  refine k_icmp_lt (pc := 42) F 60 dX1_waitingFor_42 (by decide) (fun _ => ?_) (fun _ => ?_)
  · exact k_sub [] rfl (t_X1_waitingFor_60 B    σ)
  · refine k_iload (pc := 45) F 4 0 dX1_waitingFor_45 rfl ?_
    refine k_iconst (pc := 47) F (v := (2 : Int32)) dX1_waitingFor_47 ci_2 ?_
    refine k_ishr (pc := 48) F dX1_waitingFor_48 ?_
    refine k_iload_n (pc := 49) F 1 2 dX1_waitingFor_49 rfl rfl ?_
    refine k_icmp_ne (pc := 50) F 60 dX1_waitingFor_50 (by decide) (fun _ => ?_) (fun _ => ?_)
    · refine k_iload (pc := 53) F 4 0 dX1_waitingFor_53 rfl ?_
      refine k_iconst (pc := 55) F (v := (3 : Int32)) dX1_waitingFor_55 ci_3 ?_
      refine k_iand (pc := 56) F dX1_waitingFor_56 ?_
      refine k_goto (pc := 57) F 61 dX1_waitingFor_57 (by decide) ?_
      exact k_iret (pc := 61) B dX1_waitingFor_61
    · exact k_sub [] rfl (t_X1_waitingFor_60 B    σ)
set_option maxHeartbeats 4000000 in
set_option maxRecDepth 100000 in
theorem t_X1_waitingFor {E : En} {G : Cx} (B : Bx E G cX1_waitingFor 5 RX1 H_X1_waitingFor (some .int)) (aq0 : Int32) (aq1 : Int32)  (σ : Mm) : KR E G 5 (ZI E G) (f_X1_waitingFor aq0 aq1 σ) 0 [(0, .int aq0), (1, .int aq1)] [] σ := by
  have F := B.1
  unfold f_X1_waitingFor
  refine k_iload_n (pc := 0) F 0 0 dX1_waitingFor_0 rfl rfl ?_
  refine k_bipush (pc := 1) F (v := (9 : Int32)) dX1_waitingFor_1 cb_9 ?_
  refine k_ishr (pc := 3) F dX1_waitingFor_3 ?_
  refine k_iconst (pc := 4) F (v := (3 : Int32)) dX1_waitingFor_4 ci_3 ?_
  refine k_iand (pc := 5) F dX1_waitingFor_5 ?_
  refine k_nmI (fun vq1 => ?_)
  refine k_istore_n F (lv' := [(2, .int vq1), (0, .int aq0), (1, .int aq1)]) 2 dX1_waitingFor_6 rfl (by decide) rfl ?_
  refine k_iload_n (pc := 7) F 0 1 dX1_waitingFor_7 rfl rfl ?_
  refine k_bipush (pc := 8) F (v := (15 : Int32)) dX1_waitingFor_8 cb_15 ?_
  refine k_ishr (pc := 10) F dX1_waitingFor_10 ?_
  refine k_bipush (pc := 11) F (v := (15 : Int32)) dX1_waitingFor_11 cb_15 ?_
  refine k_iand (pc := 13) F dX1_waitingFor_13 ?_
  refine k_nmI (fun vq2 => ?_)
  refine k_istore_n F (lv' := [(3, .int vq2), (2, .int vq1), (0, .int aq0), (1, .int aq1)]) 3 dX1_waitingFor_14 rfl (by decide) rfl ?_
  refine k_iload_n (pc := 15) F 2 1 dX1_waitingFor_15 rfl rfl ?_
  refine k_iconst (pc := 16) F (v := (2 : Int32)) dX1_waitingFor_16 ci_2 ?_
  refine k_icmp_ne (pc := 17) F 31 dX1_waitingFor_17 (by decide) (fun _ => ?_) (fun _ => ?_)
  · refine k_iload_n (pc := 20) F 3 0 dX1_waitingFor_20 rfl rfl ?_
    refine k_iconst (pc := 21) F (v := (2 : Int32)) dX1_waitingFor_21 ci_2 ?_
    refine k_ishr (pc := 22) F dX1_waitingFor_22 ?_
    refine k_iload_n (pc := 23) F 1 3 dX1_waitingFor_23 rfl rfl ?_
    refine k_icmp_ne (pc := 24) F 31 dX1_waitingFor_24 (by decide) (fun _ => ?_) (fun _ => ?_)
    · refine k_iload_n (pc := 27) F 3 0 dX1_waitingFor_27 rfl rfl ?_
      refine k_iconst (pc := 28) F (v := (3 : Int32)) dX1_waitingFor_28 ci_3 ?_
      refine k_iand (pc := 29) F dX1_waitingFor_29 ?_
      exact k_iret (pc := 30) B dX1_waitingFor_30
    · exact k_sub [2, 3, 1] rfl (t_X1_waitingFor_31 B aq0 aq1 vq1   σ)
  · exact k_sub [2, 3, 1] rfl (t_X1_waitingFor_31 B aq0 aq1 vq1   σ)
set_option maxHeartbeats 4000000 in
set_option maxRecDepth 100000 in
theorem ct_X1_waitingFor (E : En) (aq0 : Int32) (aq1 : Int32)  (σ : Mm) : CtI E yX1_waitingFor cX1_waitingFor 5 (some .int) H_X1_waitingFor [.int aq0, .int aq1] σ (f_X1_waitingFor aq0 aq1 σ) := ct_I (by decide) (Nat.le_of_ble_eq_true rfl) rfl (fun G B => t_X1_waitingFor B aq0 aq1  σ)
abbrev H_X1_arrived : Nat := 1
theorem hR_X1_arrived_X1_withValue : H_X1_withValue + 1 ≤ H_X1_arrived ∧ 8 + (4 + 11) + 40 * H_X1_withValue ≤ 40 * H_X1_arrived := by decide
theorem hR_X1_arrived_X1_withHand : H_X1_withHand + 1 ≤ H_X1_arrived ∧ 8 + (5 + 11) + 40 * H_X1_withHand ≤ 40 * H_X1_arrived := by decide
theorem hR_X1_arrived_X1_handIn : H_X1_handIn + 1 ≤ H_X1_arrived ∧ 8 + (3 + 11) + 40 * H_X1_handIn ≤ 40 * H_X1_arrived := by decide
set_option maxHeartbeats 4000000 in
set_option maxRecDepth 100000 in
theorem t_X1_arrived {E : En} {G : Cx} (B : Bx E G cX1_arrived 9 RX1 H_X1_arrived (some .long)) (aq0 : Int64) (aq1 : Int32)  (σ : Mm) : KR E G 9 (ZL E G) (f_X1_arrived aq0 aq1 σ) 0 [(0, .ref (ad E 13)), (1, .long aq0), (3, .int aq1)] [] σ := by
  have F := B.1
  unfold f_X1_arrived
  refine k_lload_n (pc := 0) F 1 1 dX1_arrived_0 rfl rfl ?_
  refine k_iload_n (pc := 1) F 3 2 dX1_arrived_1 rfl rfl ?_
  refine k_callSI (pc := 2) B (As := [.long aq0, .int aq1]) (rest := []) (ct_X1_handIn E aq0 aq1  σ) ms_X1_handIn w_3_80 rfl hR_X1_arrived_X1_handIn rfl (Nat.le_of_ble_eq_true rfl) dX1_arrived_2 (fun rq2 σ1 hoq => ?_)
  refine k_istore F (lv' := [(4, .int rq2), (0, .ref (ad E 13)), (1, .long aq0), (3, .int aq1)]) 4 dX1_arrived_5 (by decide) rfl ?_
  refine k_iload (pc := 7) F 4 0 dX1_arrived_7 rfl ?_
  refine k_bipush (pc := 9) F (v := (9 : Int32)) dX1_arrived_9 cb_9 ?_
  refine k_ishr (pc := 11) F dX1_arrived_11 ?_
  refine k_iconst (pc := 12) F (v := (3 : Int32)) dX1_arrived_12 ci_3 ?_
  refine k_iand (pc := 13) F dX1_arrived_13 ?_
  refine k_nmI (fun vq3 => ?_)
  refine k_istore F (lv' := [(5, .int vq3), (4, .int rq2), (0, .ref (ad E 13)), (1, .long aq0), (3, .int aq1)]) 5 dX1_arrived_14 (by decide) rfl ?_
  refine k_iload (pc := 16) F 5 0 dX1_arrived_16 rfl ?_
  refine k_if_ne (pc := 18) F 25 dX1_arrived_18 (by decide) (fun _ => ?_) (fun _ => ?_)
  · refine k_ldc2 (pc := 21) F (v := (-1 : Int64)) w_3_84 dX1_arrived_21 ?_
    exact k_lret (pc := 24) B dX1_arrived_24
  · refine k_iload (pc := 25) F 4 1 dX1_arrived_25 rfl ?_
    refine k_bipush (pc := 27) F (v := (11 : Int32)) dX1_arrived_27 cb_11 ?_
    refine k_ishr (pc := 29) F dX1_arrived_29 ?_
    refine k_bipush (pc := 30) F (v := (15 : Int32)) dX1_arrived_30 cb_15 ?_
    refine k_iand (pc := 32) F dX1_arrived_32 ?_
    refine k_nmI (fun vq4 => ?_)
    refine k_istore F (lv' := [(6, .int vq4), (5, .int vq3), (4, .int rq2), (0, .ref (ad E 13)), (1, .long aq0), (3, .int aq1)]) 6 dX1_arrived_33 (by decide) rfl ?_
    refine k_iload (pc := 35) F 4 2 dX1_arrived_35 rfl ?_
    refine k_bipush (pc := 37) F (v := (15 : Int32)) dX1_arrived_37 cb_15 ?_
    refine k_ishr (pc := 39) F dX1_arrived_39 ?_
    refine k_bipush (pc := 40) F (v := (15 : Int32)) dX1_arrived_40 cb_15 ?_
    refine k_iand (pc := 42) F dX1_arrived_42 ?_
    refine k_nmI (fun vq5 => ?_)
    refine k_istore F (lv' := [(7, .int vq5), (6, .int vq4), (5, .int vq3), (4, .int rq2), (0, .ref (ad E 13)), (1, .long aq0), (3, .int aq1)]) 7 dX1_arrived_43 (by decide) rfl ?_
    refine k_iload (pc := 45) F 4 3 dX1_arrived_45 rfl ?_
    refine k_sipush (pc := 47) F (v := (511 : Int32)) dX1_arrived_47 cs_511 ?_
    refine k_iand (pc := 50) F dX1_arrived_50 ?_
    refine k_iload (pc := 51) F 5 2 dX1_arrived_51 rfl ?_
    refine k_iconst (pc := 53) F (v := (1 : Int32)) dX1_arrived_53 ci_1 ?_
    refine k_isub (pc := 54) F dX1_arrived_54 ?_
    refine k_bipush (pc := 55) F (v := (9 : Int32)) dX1_arrived_55 cb_9 ?_
    refine k_ishl (pc := 57) F dX1_arrived_57 ?_
    refine k_ior (pc := 58) F dX1_arrived_58 ?_
    refine k_iload (pc := 59) F 7 0 dX1_arrived_59 rfl ?_
    refine k_bipush (pc := 61) F (v := (11 : Int32)) dX1_arrived_61 cb_11 ?_
    refine k_ishl (pc := 63) F dX1_arrived_63 ?_
    refine k_ior (pc := 64) F dX1_arrived_64 ?_
    refine k_nmI (fun vq6 => ?_)
    refine k_istore F (lv' := [(8, .int vq6), (7, .int vq5), (6, .int vq4), (5, .int vq3), (4, .int rq2), (0, .ref (ad E 13)), (1, .long aq0), (3, .int aq1)]) 8 dX1_arrived_65 (by decide) rfl ?_
    refine k_lload_n (pc := 67) F 1 6 dX1_arrived_67 rfl rfl ?_
    refine k_iload (pc := 68) F 6 2 dX1_arrived_68 rfl ?_
    refine k_iconst (pc := 70) F (v := (2 : Int32)) dX1_arrived_70 ci_2 ?_
    refine k_ishr (pc := 71) F dX1_arrived_71 ?_
    refine k_iload (pc := 72) F 6 2 dX1_arrived_72 rfl ?_
    refine k_iconst (pc := 74) F (v := (3 : Int32)) dX1_arrived_74 ci_3 ?_
    refine k_iand (pc := 75) F dX1_arrived_75 ?_
    refine k_callSL (pc := 76) B (As := [.long aq0, .int (vq4 >>> ((2 : Int32) &&& 31)), .int (vq4 &&& (3 : Int32))]) (rest := []) (ct_X1_withValue E aq0 (vq4 >>> ((2 : Int32) &&& 31)) (vq4 &&& (3 : Int32))  σ1) ms_X1_withValue w_3_85 rfl hR_X1_arrived_X1_withValue rfl (Nat.le_of_ble_eq_true rfl) dX1_arrived_76 (fun rq8 σ7 hoq => ?_)
    refine k_iload_n (pc := 79) F 3 7 dX1_arrived_79 rfl rfl ?_
    refine k_iload (pc := 80) F 8 0 dX1_arrived_80 rfl ?_
    refine k_callSL (pc := 82) B (As := [.long rq8, .int aq1, .int vq6]) (rest := []) (ct_X1_withHand E rq8 aq1 vq6  σ7) ms_X1_withHand w_3_89 rfl hR_X1_arrived_X1_withHand rfl (Nat.le_of_ble_eq_true rfl) dX1_arrived_82 (fun rq10 σ9 hoq => ?_)
    exact k_lret (pc := 85) B dX1_arrived_85
set_option maxHeartbeats 4000000 in
set_option maxRecDepth 100000 in
theorem ct_X1_arrived (E : En) (aq0 : Int64) (aq1 : Int32)  (σ : Mm) : CtL E yX1_arrived cX1_arrived 9 (some .long) H_X1_arrived [.ref (ad E 13), .long aq0, .int aq1] σ (f_X1_arrived aq0 aq1 σ) := ct_L (by decide) (Nat.le_of_ble_eq_true rfl) rfl (fun G B => t_X1_arrived B aq0 aq1  σ)
abbrev H_X1_swapped : Nat := 1
theorem hR_X1_swapped_X1_withA : H_X1_withA + 1 ≤ H_X1_swapped ∧ 8 + (2 + 11) + 40 * H_X1_withA ≤ 40 * H_X1_swapped := by decide
theorem hR_X1_swapped_X1_handIn : H_X1_handIn + 1 ≤ H_X1_swapped ∧ 8 + (3 + 11) + 40 * H_X1_handIn ≤ 40 * H_X1_swapped := by decide
theorem hR_X1_swapped_X1_valueIn : H_X1_valueIn + 1 ≤ H_X1_swapped ∧ 8 + (3 + 11) + 40 * H_X1_valueIn ≤ 40 * H_X1_swapped := by decide
theorem hR_X1_swapped_X1_withValue : H_X1_withValue + 1 ≤ H_X1_swapped ∧ 8 + (4 + 11) + 40 * H_X1_withValue ≤ 40 * H_X1_swapped := by decide
theorem hR_X1_swapped_X1_withHand : H_X1_withHand + 1 ≤ H_X1_swapped ∧ 8 + (5 + 11) + 40 * H_X1_withHand ≤ 40 * H_X1_swapped := by decide
set_option maxHeartbeats 4000000 in
set_option maxRecDepth 100000 in
theorem t_X1_swapped {E : En} {G : Cx} (B : Bx E G cX1_swapped 9 RX1 H_X1_swapped (some .long)) (aq0 : Int64) (aq1 : Int32) (aq2 : Int32)  (σ : Mm) : KR E G 9 (ZL E G) (f_X1_swapped aq0 aq1 aq2 σ) 0 [(0, .ref (ad E 13)), (1, .long aq0), (3, .int aq1), (4, .int aq2)] [] σ := by
  have F := B.1
  unfold f_X1_swapped
  refine k_lload_n (pc := 0) F 1 1 dX1_swapped_0 rfl rfl ?_
  refine k_iload_n (pc := 1) F 3 2 dX1_swapped_1 rfl rfl ?_
  refine k_callSI (pc := 2) B (As := [.long aq0, .int aq1]) (rest := []) (ct_X1_handIn E aq0 aq1  σ) ms_X1_handIn w_3_80 rfl hR_X1_swapped_X1_handIn rfl (Nat.le_of_ble_eq_true rfl) dX1_swapped_2 (fun rq2 σ1 hoq => ?_)
  refine k_istore F (lv' := [(5, .int rq2), (0, .ref (ad E 13)), (1, .long aq0), (3, .int aq1), (4, .int aq2)]) 5 dX1_swapped_5 (by decide) rfl ?_
  refine k_iload (pc := 7) F 5 0 dX1_swapped_7 rfl ?_
  refine k_sipush (pc := 9) F (v := (-512 : Int32)) dX1_swapped_9 cs_m512 ?_
  refine k_iand (pc := 12) F dX1_swapped_12 ?_
  refine k_if_eq (pc := 13) F 20 dX1_swapped_13 (by decide) (fun _ => ?_) (fun _ => ?_)
  · refine k_aload_n (pc := 20) F 0 1 dX1_swapped_20 rfl rfl ?_
    refine gf_13_3 (pc := 21) F w_1_153 dX1_swapped_21 ?_
    refine k_iload (pc := 24) F 4 4 dX1_swapped_24 rfl ?_
    refine k_iconst (pc := 26) F (v := (1 : Int32)) dX1_swapped_26 ci_1 ?_
    refine k_iadd (pc := 27) F dX1_swapped_27 ?_
    refine k_iald (pc := 28) F rfl dX1_swapped_28 ?_
    refine k_nmI (fun vq3 => ?_)
    refine k_istore F (lv' := [(6, .int vq3), (5, .int rq2), (0, .ref (ad E 13)), (1, .long aq0), (3, .int aq1), (4, .int aq2)]) 6 dX1_swapped_29 (by decide) rfl ?_
    refine k_lload_n (pc := 31) F 1 3 dX1_swapped_31 rfl rfl ?_
    refine k_iload (pc := 32) F 6 0 dX1_swapped_32 rfl ?_
    refine k_callSI (pc := 34) B (As := [.long aq0, .int vq3]) (rest := []) (ct_X1_valueIn E aq0 vq3  σ1) ms_X1_valueIn w_3_96 rfl hR_X1_swapped_X1_valueIn rfl (Nat.le_of_ble_eq_true rfl) dX1_swapped_34 (fun rq5 σ4 hoq => ?_)
    refine k_istore F (lv' := [(7, .int rq5), (6, .int vq3), (5, .int rq2), (0, .ref (ad E 13)), (1, .long aq0), (3, .int aq1), (4, .int aq2)]) 7 dX1_swapped_37 (by decide) rfl ?_
    refine k_aload_n (pc := 39) F 0 3 dX1_swapped_39 rfl rfl ?_
    refine gf_13_3 (pc := 40) F w_1_153 dX1_swapped_40 ?_
    refine k_iload (pc := 43) F 4 6 dX1_swapped_43 rfl ?_
    refine k_iconst (pc := 45) F (v := (2 : Int32)) dX1_swapped_45 ci_2 ?_
    refine k_iadd (pc := 46) F dX1_swapped_46 ?_
    refine k_iald (pc := 47) F rfl dX1_swapped_47 ?_
    refine k_nmI (fun vq6 => ?_)
    refine k_istore F (lv' := [(8, .int vq6), (7, .int rq5), (6, .int vq3), (5, .int rq2), (0, .ref (ad E 13)), (1, .long aq0), (3, .int aq1), (4, .int aq2)]) 8 dX1_swapped_48 (by decide) rfl ?_
    refine k_aload_n (pc := 50) F 0 4 dX1_swapped_50 rfl rfl ?_
    refine gf_13_3 (pc := 51) F w_1_153 dX1_swapped_51 ?_
    refine k_iload (pc := 54) F 4 7 dX1_swapped_54 rfl ?_
    refine k_iald (pc := 56) F rfl dX1_swapped_56 ?_
    refine k_iconst (pc := 57) F (v := (4 : Int32)) dX1_swapped_57 ci_4 ?_
    refine k_icmp_ne (pc := 58) F 86 dX1_swapped_58 (by decide) (fun _ => ?_) (fun _ => ?_)
    · refine k_lload_n (pc := 61) F 1 5 dX1_swapped_61 rfl rfl ?_
      refine k_iload (pc := 62) F 6 2 dX1_swapped_62 rfl ?_
      refine k_iload (pc := 64) F 7 1 dX1_swapped_64 rfl ?_
      refine k_iload (pc := 66) F 8 0 dX1_swapped_66 rfl ?_
      refine k_iadd (pc := 68) F dX1_swapped_68 ?_
      refine k_callSL (pc := 69) B (As := [.long aq0, .int vq3, .int (rq5 + vq6)]) (rest := []) (ct_X1_withValue E aq0 vq3 (rq5 + vq6)  σ4) ms_X1_withValue w_3_85 rfl hR_X1_swapped_X1_withValue rfl (Nat.le_of_ble_eq_true rfl) dX1_swapped_69 (fun rq18 σ17 hoq => ?_)
      refine k_iload_n (pc := 72) F 3 6 dX1_swapped_72 rfl rfl ?_
      refine k_iload (pc := 73) F 5 3 dX1_swapped_73 rfl ?_
      refine k_iconst (pc := 75) F (v := (1 : Int32)) dX1_swapped_75 ci_1 ?_
      refine k_iadd (pc := 76) F dX1_swapped_76 ?_
      refine k_iload (pc := 77) F 7 1 dX1_swapped_77 rfl ?_
      refine k_callSI (pc := 79) B (As := [.int (rq2 + (1 : Int32)), .int rq5]) (rest := [.int aq1, .long rq18]) (ct_X1_withA E (rq2 + (1 : Int32)) rq5  σ17) ms_X1_withA w_3_99 rfl hR_X1_swapped_X1_withA rfl (Nat.le_of_ble_eq_true rfl) dX1_swapped_79 (fun rq20 σ19 hoq => ?_)
      refine k_callSL (pc := 82) B (As := [.long rq18, .int aq1, .int rq20]) (rest := []) (ct_X1_withHand E rq18 aq1 rq20  σ19) ms_X1_withHand w_3_89 rfl hR_X1_swapped_X1_withHand rfl (Nat.le_of_ble_eq_true rfl) dX1_swapped_82 (fun rq22 σ21 hoq => ?_)
      exact k_lret (pc := 85) B dX1_swapped_85
    · refine k_iload (pc := 86) F 7 1 dX1_swapped_86 rfl ?_
      refine k_iload (pc := 88) F 8 0 dX1_swapped_88 rfl ?_
      refine k_icmp_eq (pc := 90) F 107 dX1_swapped_90 (by decide) (fun _ => ?_) (fun _ => ?_)
      · refine k_lload_n (pc := 107) F 1 5 dX1_swapped_107 rfl rfl ?_
        refine k_iload (pc := 108) F 6 2 dX1_swapped_108 rfl ?_
        refine k_aload_n (pc := 110) F 0 4 dX1_swapped_110 rfl rfl ?_
        refine gf_13_3 (pc := 111) F w_1_153 dX1_swapped_111 ?_
        refine k_iload (pc := 114) F 4 7 dX1_swapped_114 rfl ?_
        refine k_iconst (pc := 116) F (v := (3 : Int32)) dX1_swapped_116 ci_3 ?_
        refine k_iadd (pc := 117) F dX1_swapped_117 ?_
        refine k_iald (pc := 118) F rfl dX1_swapped_118 ?_
        refine k_callSL (pc := 119) B (As := [.long aq0, .int vq3, .int (σ4.1 14 (ix (aq2 + (3 : Int32))))]) (rest := []) (ct_X1_withValue E aq0 vq3 (σ4.1 14 (ix (aq2 + (3 : Int32))))  σ4) ms_X1_withValue w_3_85 rfl hR_X1_swapped_X1_withValue rfl (Nat.le_of_ble_eq_true rfl) dX1_swapped_119 (fun rq8 σ7 hoq => ?_)
        refine k_iload_n (pc := 122) F 3 6 dX1_swapped_122 rfl rfl ?_
        refine k_iload (pc := 123) F 5 3 dX1_swapped_123 rfl ?_
        refine k_iconst (pc := 125) F (v := (1 : Int32)) dX1_swapped_125 ci_1 ?_
        refine k_iadd (pc := 126) F dX1_swapped_126 ?_
        refine k_iconst (pc := 127) F (v := (1 : Int32)) dX1_swapped_127 ci_1 ?_
        refine k_callSI (pc := 128) B (As := [.int (rq2 + (1 : Int32)), .int (1 : Int32)]) (rest := [.int aq1, .long rq8]) (ct_X1_withA E (rq2 + (1 : Int32)) (1 : Int32)  σ7) ms_X1_withA w_3_99 rfl hR_X1_swapped_X1_withA rfl (Nat.le_of_ble_eq_true rfl) dX1_swapped_128 (fun rq10 σ9 hoq => ?_)
        refine k_callSL (pc := 131) B (As := [.long rq8, .int aq1, .int rq10]) (rest := []) (ct_X1_withHand E rq8 aq1 rq10  σ9) ms_X1_withHand w_3_89 rfl hR_X1_swapped_X1_withHand rfl (Nat.le_of_ble_eq_true rfl) dX1_swapped_131 (fun rq12 σ11 hoq => ?_)
        exact k_lret (pc := 134) B dX1_swapped_134
      · refine k_lload_n (pc := 93) F 1 5 dX1_swapped_93 rfl rfl ?_
        refine k_iload_n (pc := 94) F 3 6 dX1_swapped_94 rfl rfl ?_
        refine k_iload (pc := 95) F 5 3 dX1_swapped_95 rfl ?_
        refine k_iconst (pc := 97) F (v := (1 : Int32)) dX1_swapped_97 ci_1 ?_
        refine k_iadd (pc := 98) F dX1_swapped_98 ?_
        refine k_iconst (pc := 99) F (v := (0 : Int32)) dX1_swapped_99 ci_0 ?_
        refine k_callSI (pc := 100) B (As := [.int (rq2 + (1 : Int32)), .int (0 : Int32)]) (rest := [.int aq1, .long aq0]) (ct_X1_withA E (rq2 + (1 : Int32)) (0 : Int32)  σ4) ms_X1_withA w_3_99 rfl hR_X1_swapped_X1_withA rfl (Nat.le_of_ble_eq_true rfl) dX1_swapped_100 (fun rq14 σ13 hoq => ?_)
        refine k_callSL (pc := 103) B (As := [.long aq0, .int aq1, .int rq14]) (rest := []) (ct_X1_withHand E aq0 aq1 rq14  σ13) ms_X1_withHand w_3_89 rfl hR_X1_swapped_X1_withHand rfl (Nat.le_of_ble_eq_true rfl) dX1_swapped_103 (fun rq16 σ15 hoq => ?_)
        exact k_lret (pc := 106) B dX1_swapped_106
  · refine k_ldc2 (pc := 16) F (v := (-1 : Int64)) w_3_84 dX1_swapped_16 ?_
    exact k_lret (pc := 19) B dX1_swapped_19
set_option maxHeartbeats 4000000 in
set_option maxRecDepth 100000 in
theorem ct_X1_swapped (E : En) (aq0 : Int64) (aq1 : Int32) (aq2 : Int32)  (σ : Mm) : CtL E yX1_swapped cX1_swapped 9 (some .long) H_X1_swapped [.ref (ad E 13), .long aq0, .int aq1, .int aq2] σ (f_X1_swapped aq0 aq1 aq2 σ) := ct_L (by decide) (Nat.le_of_ble_eq_true rfl) rfl (fun G B => t_X1_swapped B aq0 aq1 aq2  σ)
abbrev H_X1_written : Nat := 1
theorem hR_X1_written_X1_withValue : H_X1_withValue + 1 ≤ H_X1_written ∧ 8 + (4 + 11) + 40 * H_X1_withValue ≤ 40 * H_X1_written := by decide
theorem hR_X1_written_X1_withHand : H_X1_withHand + 1 ≤ H_X1_written ∧ 8 + (5 + 11) + 40 * H_X1_withHand ≤ 40 * H_X1_written := by decide
theorem hR_X1_written_X1_handIn : H_X1_handIn + 1 ≤ H_X1_written ∧ 8 + (3 + 11) + 40 * H_X1_handIn ≤ 40 * H_X1_written := by decide
set_option maxHeartbeats 4000000 in
set_option maxRecDepth 100000 in
theorem t_X1_written_101 {E : En} {G : Cx} (B : Bx E G cX1_written 12 RX1 H_X1_written (some .long)) (xq1 : Int64) (xq3 : Int32) (xq6 : Int32) (xq7 : Int32) (xq9 : Int32) (xqs0 : Int32)   (σ : Mm) : KR E G 12 (ZL E G) (f_X1_written_101 xq1 xq3 xq6 xq7 xq9 xqs0 σ) 101 [(1, .long xq1), (3, .int xq3), (6, .int xq6), (7, .int xq7), (9, .int xq9)] [.int xqs0] σ := by
  have F := B.1
  unfold f_X1_written_101
  refine k_istore F (lv' := [(11, .int xqs0), (1, .long xq1), (3, .int xq3), (6, .int xq6), (7, .int xq7), (9, .int xq9)]) 11 dX1_written_101 (by decide) rfl ?_
  refine k_lload_n (pc := 103) F 1 1 dX1_written_103 rfl rfl ?_
  refine k_iload_n (pc := 104) F 3 2 dX1_written_104 rfl rfl ?_
  refine k_iload (pc := 105) F 6 3 dX1_written_105 rfl ?_
  refine k_iconst (pc := 107) F (v := (1 : Int32)) dX1_written_107 ci_1 ?_
  refine k_iadd (pc := 108) F dX1_written_108 ?_
  refine k_sipush (pc := 109) F (v := (512 : Int32)) dX1_written_109 cs_512 ?_
  refine k_iadd (pc := 112) F dX1_written_112 ?_
  refine k_iload (pc := 113) F 7 4 dX1_written_113 rfl ?_
  refine k_iconst (pc := 115) F (v := (2 : Int32)) dX1_written_115 ci_2 ?_
  refine k_ishl (pc := 116) F dX1_written_116 ?_
  refine k_iload (pc := 117) F 9 5 dX1_written_117 rfl ?_
  refine k_ior (pc := 119) F dX1_written_119 ?_
  refine k_iload (pc := 120) F 11 0 dX1_written_120 rfl ?_
  refine k_ishl (pc := 122) F dX1_written_122 ?_
  refine k_iadd (pc := 123) F dX1_written_123 ?_
  refine k_callSL (pc := 124) B (As := [.long xq1, .int xq3, .int (((xq6 + (1 : Int32)) + (512 : Int32)) + (((xq7 <<< ((2 : Int32) &&& 31)) ||| xq9) <<< (xqs0 &&& 31)))]) (rest := []) (ct_X1_withHand E xq1 xq3 (((xq6 + (1 : Int32)) + (512 : Int32)) + (((xq7 <<< ((2 : Int32) &&& 31)) ||| xq9) <<< (xqs0 &&& 31)))  σ) ms_X1_withHand w_3_89 rfl hR_X1_written_X1_withHand rfl (Nat.le_of_ble_eq_true rfl) dX1_written_124 (fun rq7 σ6 hoq => ?_)
  exact k_lret (pc := 127) B dX1_written_127
set_option maxHeartbeats 4000000 in
set_option maxRecDepth 100000 in
theorem t_X1_written_46 {E : En} {G : Cx} (B : Bx E G cX1_written 12 RX1 H_X1_written (some .long)) (xq1 : Int64) (xq3 : Int32) (xq5 : Int32) (xq6 : Int32) (xq7 : Int32) (xqs0 : Int32)   (σ : Mm) : KR E G 12 (ZL E G) (f_X1_written_46 xq1 xq3 xq5 xq6 xq7 xqs0 σ) 46 [(1, .long xq1), (3, .int xq3), (5, .int xq5), (6, .int xq6), (7, .int xq7)] [.int xqs0] σ := by
  have F := B.1
  unfold f_X1_written_46
  refine k_istore F (lv' := [(9, .int xqs0), (1, .long xq1), (3, .int xq3), (5, .int xq5), (6, .int xq6), (7, .int xq7)]) 9 dX1_written_46 (by decide) rfl ?_
  refine k_iload (pc := 48) F 5 3 dX1_written_48 rfl ?_
  refine k_if_ne (pc := 50) F 70 dX1_written_50 (by decide) (fun _ => ?_) (fun _ => ?_)
  · refine k_lload_n (pc := 53) F 1 1 dX1_written_53 rfl rfl ?_
    refine k_iload (pc := 54) F 7 5 dX1_written_54 rfl ?_
    refine k_iload (pc := 56) F 9 0 dX1_written_56 rfl ?_
    refine k_callSL (pc := 58) B (As := [.long xq1, .int xq7, .int xqs0]) (rest := []) (ct_X1_withValue E xq1 xq7 xqs0  σ) ms_X1_withValue w_3_85 rfl hR_X1_written_X1_withValue rfl (Nat.le_of_ble_eq_true rfl) dX1_written_58 (fun rq9 σ8 hoq => ?_)
    refine k_iload_n (pc := 61) F 3 2 dX1_written_61 rfl rfl ?_
    refine k_iload (pc := 62) F 6 4 dX1_written_62 rfl ?_
    refine k_iconst (pc := 64) F (v := (1 : Int32)) dX1_written_64 ci_1 ?_
    refine k_iadd (pc := 65) F dX1_written_65 ?_
    refine k_callSL (pc := 66) B (As := [.long rq9, .int xq3, .int (xq6 + (1 : Int32))]) (rest := []) (ct_X1_withHand E rq9 xq3 (xq6 + (1 : Int32))  σ8) ms_X1_withHand w_3_89 rfl hR_X1_written_X1_withHand rfl (Nat.le_of_ble_eq_true rfl) dX1_written_66 (fun rq11 σ10 hoq => ?_)
    exact k_lret (pc := 69) B dX1_written_69
  · refine k_iload (pc := 70) F 6 4 dX1_written_70 rfl ?_
    refine k_bipush (pc := 72) F (v := (9 : Int32)) dX1_written_72 cb_9 ?_
    refine k_ishr (pc := 74) F dX1_written_74 ?_
    refine k_iconst (pc := 75) F (v := (3 : Int32)) dX1_written_75 ci_3 ?_
    refine k_iand (pc := 76) F dX1_written_76 ?_
    refine k_nmI (fun vq5 => ?_)
    refine k_istore F (lv' := [(10, .int vq5), (9, .int xqs0), (1, .long xq1), (3, .int xq3), (5, .int xq5), (6, .int xq6), (7, .int xq7)]) 10 dX1_written_77 (by decide) rfl ?_
    refine k_iload (pc := 79) F 10 0 dX1_written_79 rfl ?_
    refine k_iconst (pc := 81) F (v := (2 : Int32)) dX1_written_81 ci_2 ?_
    refine k_icmp_lt (pc := 82) F 89 dX1_written_82 (by decide) (fun _ => ?_) (fun _ => ?_)
    · refine k_iload (pc := 89) F 10 0 dX1_written_89 rfl ?_
      refine k_if_ne (pc := 91) F 99 dX1_written_91 (by decide) (fun _ => ?_) (fun _ => ?_)
      · refine k_bipush (pc := 94) F (v := (11 : Int32)) dX1_written_94 cb_11 ?_
        refine k_goto (pc := 96) F 101 dX1_written_96 (by decide) ?_
        exact k_sub [2, 3, 5, 6, 1] rfl (t_X1_written_101 B xq1 xq3 xq6 xq7 xqs0 (11 : Int32)   σ)
      · refine k_bipush (pc := 99) F (v := (15 : Int32)) dX1_written_99 cb_15 ?_
        exact k_sub [2, 3, 5, 6, 1] rfl (t_X1_written_101 B xq1 xq3 xq6 xq7 xqs0 (15 : Int32)   σ)
    · refine k_ldc2 (pc := 85) F (v := (-1 : Int64)) w_3_84 dX1_written_85 ?_
      exact k_lret (pc := 88) B dX1_written_88
set_option maxHeartbeats 4000000 in
set_option maxRecDepth 100000 in
theorem t_X1_written {E : En} {G : Cx} (B : Bx E G cX1_written 12 RX1 H_X1_written (some .long)) (aq0 : Int64) (aq1 : Int32) (aq2 : Int32) (aq3 : Int32)  (σ : Mm) : KR E G 12 (ZL E G) (f_X1_written aq0 aq1 aq2 aq3 σ) 0 [(0, .ref (ad E 13)), (1, .long aq0), (3, .int aq1), (4, .int aq2), (5, .int aq3)] [] σ := by
  have F := B.1
  unfold f_X1_written
  refine k_lload_n (pc := 0) F 1 1 dX1_written_0 rfl rfl ?_
  refine k_iload_n (pc := 1) F 3 2 dX1_written_1 rfl rfl ?_
  refine k_callSI (pc := 2) B (As := [.long aq0, .int aq1]) (rest := []) (ct_X1_handIn E aq0 aq1  σ) ms_X1_handIn w_3_80 rfl hR_X1_written_X1_handIn rfl (Nat.le_of_ble_eq_true rfl) dX1_written_2 (fun rq2 σ1 hoq => ?_)
  refine k_istore F (lv' := [(6, .int rq2), (0, .ref (ad E 13)), (1, .long aq0), (3, .int aq1), (4, .int aq2), (5, .int aq3)]) 6 dX1_written_5 (by decide) rfl ?_
  refine k_aload_n (pc := 7) F 0 1 dX1_written_7 rfl rfl ?_
  refine gf_13_3 (pc := 8) F w_1_153 dX1_written_8 ?_
  refine k_iload (pc := 11) F 4 4 dX1_written_11 rfl ?_
  refine k_iconst (pc := 13) F (v := (1 : Int32)) dX1_written_13 ci_1 ?_
  refine k_iadd (pc := 14) F dX1_written_14 ?_
  refine k_iald (pc := 15) F rfl dX1_written_15 ?_
  refine k_nmI (fun vq3 => ?_)
  refine k_istore F (lv' := [(7, .int vq3), (6, .int rq2), (0, .ref (ad E 13)), (1, .long aq0), (3, .int aq1), (4, .int aq2), (5, .int aq3)]) 7 dX1_written_16 (by decide) rfl ?_
  refine k_aload_n (pc := 18) F 0 2 dX1_written_18 rfl rfl ?_
  refine gf_13_3 (pc := 19) F w_1_153 dX1_written_19 ?_
  refine k_iload (pc := 22) F 4 5 dX1_written_22 rfl ?_
  refine k_iconst (pc := 24) F (v := (2 : Int32)) dX1_written_24 ci_2 ?_
  refine k_iadd (pc := 25) F dX1_written_25 ?_
  refine k_iald (pc := 26) F rfl dX1_written_26 ?_
  refine k_nmI (fun vq4 => ?_)
  refine k_istore F (lv' := [(8, .int vq4), (7, .int vq3), (6, .int rq2), (0, .ref (ad E 13)), (1, .long aq0), (3, .int aq1), (4, .int aq2), (5, .int aq3)]) 8 dX1_written_27 (by decide) rfl ?_
  refine k_iload (pc := 29) F 8 0 dX1_written_29 rfl ?_
  refine k_if_ge (pc := 31) F 44 dX1_written_31 (by decide) (fun _ => ?_) (fun _ => ?_)
  · refine k_iload (pc := 44) F 8 0 dX1_written_44 rfl ?_
    exact k_sub [4, 5, 7, 2, 1] rfl (t_X1_written_46 B aq0 aq1 aq3 rq2 vq3 vq4   σ1)
  · refine k_iload (pc := 34) F 6 2 dX1_written_34 rfl ?_
    refine k_bipush (pc := 36) F (v := (7 : Int32)) dX1_written_36 cb_7 ?_
    refine k_ishr (pc := 38) F dX1_written_38 ?_
    refine k_iconst (pc := 39) F (v := (3 : Int32)) dX1_written_39 ci_3 ?_
    refine k_iand (pc := 40) F dX1_written_40 ?_
    refine k_goto (pc := 41) F 46 dX1_written_41 (by decide) ?_
    exact k_sub [4, 5, 7, 2, 1] rfl (t_X1_written_46 B aq0 aq1 aq3 rq2 vq3 ((rq2 >>> ((7 : Int32) &&& 31)) &&& (3 : Int32))   σ1)
set_option maxHeartbeats 4000000 in
set_option maxRecDepth 100000 in
theorem ct_X1_written (E : En) (aq0 : Int64) (aq1 : Int32) (aq2 : Int32) (aq3 : Int32)  (σ : Mm) : CtL E yX1_written cX1_written 12 (some .long) H_X1_written [.ref (ad E 13), .long aq0, .int aq1, .int aq2, .int aq3] σ (f_X1_written aq0 aq1 aq2 aq3 σ) := ct_L (by decide) (Nat.le_of_ble_eq_true rfl) rfl (fun G B => t_X1_written B aq0 aq1 aq2 aq3  σ)
abbrev H_X1_moved : Nat := 2
theorem hR_X1_moved_X1_withB : H_X1_withB + 1 ≤ H_X1_moved ∧ 8 + (2 + 11) + 40 * H_X1_withB ≤ 40 * H_X1_moved := by decide
theorem hR_X1_moved_X1_withA : H_X1_withA + 1 ≤ H_X1_moved ∧ 8 + (2 + 11) + 40 * H_X1_withA ≤ 40 * H_X1_moved := by decide
theorem hR_X1_moved_X1_handIn : H_X1_handIn + 1 ≤ H_X1_moved ∧ 8 + (3 + 11) + 40 * H_X1_handIn ≤ 40 * H_X1_moved := by decide
theorem hR_X1_moved_X1_valueIn : H_X1_valueIn + 1 ≤ H_X1_moved ∧ 8 + (3 + 11) + 40 * H_X1_valueIn ≤ 40 * H_X1_moved := by decide
theorem hR_X1_moved_X1_written : H_X1_written + 1 ≤ H_X1_moved ∧ 8 + (12 + 11) + 40 * H_X1_written ≤ 40 * H_X1_moved := by decide
theorem hR_X1_moved_X1_arrived : H_X1_arrived + 1 ≤ H_X1_moved ∧ 8 + (9 + 11) + 40 * H_X1_arrived ≤ 40 * H_X1_moved := by decide
theorem hR_X1_moved_X1_withHand : H_X1_withHand + 1 ≤ H_X1_moved ∧ 8 + (5 + 11) + 40 * H_X1_withHand ≤ 40 * H_X1_moved := by decide
theorem hR_X1_moved_X1_waitingFor : H_X1_waitingFor + 1 ≤ H_X1_moved ∧ 8 + (5 + 11) + 40 * H_X1_waitingFor ≤ 40 * H_X1_moved := by decide
theorem hR_X1_moved_X1_swapped : H_X1_swapped + 1 ≤ H_X1_moved ∧ 8 + (9 + 11) + 40 * H_X1_swapped ≤ 40 * H_X1_moved := by decide
set_option maxHeartbeats 4000000 in
set_option maxRecDepth 100000 in
theorem t_X1_moved {E : En} {G : Cx} (B : Bx E G cX1_moved 13 RX1 H_X1_moved (some .long)) (aq0 : Int64) (aq1 : Int32) (aq2 : Int32)  (σ : Mm) : KR E G 13 (ZL E G) (f_X1_moved aq0 aq1 aq2 σ) 0 [(0, .ref (ad E 13)), (1, .long aq0), (3, .int aq1), (4, .int aq2)] [] σ := by
  have F := B.1
  unfold f_X1_moved
  refine k_iload_n (pc := 0) F 3 2 dX1_moved_0 rfl rfl ?_
  refine k_iconst (pc := 1) F (v := (3 : Int32)) dX1_moved_1 ci_3 ?_
  refine k_icmp_lt (pc := 2) F 14 dX1_moved_2 (by decide) (fun _ => ?_) (fun _ => ?_)
  · refine k_iload_n (pc := 14) F 3 2 dX1_moved_14 rfl rfl ?_
    refine k_istore F (lv' := [(5, .int aq1), (0, .ref (ad E 13)), (1, .long aq0), (3, .int aq1), (4, .int aq2)]) 5 dX1_moved_15 (by decide) rfl ?_
    refine k_lload_n (pc := 17) F 1 2 dX1_moved_17 rfl rfl ?_
    refine k_iload (pc := 18) F 5 0 dX1_moved_18 rfl ?_
    refine k_callSI (pc := 20) B (As := [.long aq0, .int aq1]) (rest := []) (ct_X1_handIn E aq0 aq1  σ) ms_X1_handIn w_3_80 rfl hR_X1_moved_X1_handIn rfl (Nat.le_of_ble_eq_true rfl) dX1_moved_20 (fun rq2 σ1 hoq => ?_)
    refine k_istore F (lv' := [(6, .int rq2), (5, .int aq1), (0, .ref (ad E 13)), (1, .long aq0), (3, .int aq1), (4, .int aq2)]) 6 dX1_moved_23 (by decide) rfl ?_
    refine k_iload (pc := 25) F 6 0 dX1_moved_25 rfl ?_
    refine k_bipush (pc := 27) F (v := (31 : Int32)) dX1_moved_27 cb_31 ?_
    refine k_iand (pc := 29) F dX1_moved_29 ?_
    refine k_nmI (fun vq3 => ?_)
    refine k_istore F (lv' := [(7, .int vq3), (6, .int rq2), (5, .int aq1), (0, .ref (ad E 13)), (1, .long aq0), (3, .int aq1), (4, .int aq2)]) 7 dX1_moved_30 (by decide) rfl ?_
    refine k_iload (pc := 32) F 7 0 dX1_moved_32 rfl ?_
    refine k_aload_n (pc := 34) F 0 3 dX1_moved_34 rfl rfl ?_
    refine gf_13_6 (pc := 35) F w_1_156 dX1_moved_35 ?_
    refine k_iload (pc := 38) F 5 2 dX1_moved_38 rfl ?_
    refine k_iald (pc := 40) F rfl dX1_moved_40 ?_
    refine k_icmp_lt (pc := 41) F 48 dX1_moved_41 (by decide) (fun _ => ?_) (fun _ => ?_)
    · refine k_iload (pc := 48) F 5 2 dX1_moved_48 rfl ?_
      refine k_bipush (pc := 50) F (v := (26 : Int32)) dX1_moved_50 cb_26 ?_
      refine k_imul (pc := 52) F dX1_moved_52 ?_
      refine k_iload (pc := 53) F 7 0 dX1_moved_53 rfl ?_
      refine k_iadd (pc := 55) F dX1_moved_55 ?_
      refine k_iconst (pc := 56) F (v := (5 : Int32)) dX1_moved_56 ci_5 ?_
      refine k_imul (pc := 57) F dX1_moved_57 ?_
      refine k_nmI (fun vq4 => ?_)
      refine k_istore F (lv' := [(8, .int vq4), (7, .int vq3), (6, .int rq2), (5, .int aq1), (0, .ref (ad E 13)), (1, .long aq0), (3, .int aq1), (4, .int aq2)]) 8 dX1_moved_58 (by decide) rfl ?_
      refine k_iload (pc := 60) F 6 2 dX1_moved_60 rfl ?_
      refine k_iconst (pc := 62) F (v := (5 : Int32)) dX1_moved_62 ci_5 ?_
      refine k_ishr (pc := 63) F dX1_moved_63 ?_
      refine k_iconst (pc := 64) F (v := (3 : Int32)) dX1_moved_64 ci_3 ?_
      refine k_iand (pc := 65) F dX1_moved_65 ?_
      refine k_nmI (fun vq5 => ?_)
      refine k_istore F (lv' := [(9, .int vq5), (8, .int vq4), (7, .int vq3), (6, .int rq2), (5, .int aq1), (0, .ref (ad E 13)), (1, .long aq0), (3, .int aq1), (4, .int aq2)]) 9 dX1_moved_66 (by decide) rfl ?_
      refine k_iload (pc := 68) F 6 3 dX1_moved_68 rfl ?_
      refine k_iconst (pc := 70) F (v := (1 : Int32)) dX1_moved_70 ci_1 ?_
      refine k_iadd (pc := 71) F dX1_moved_71 ?_
      refine k_nmI (fun vq6 => ?_)
      refine k_istore F (lv' := [(10, .int vq6), (9, .int vq5), (8, .int vq4), (7, .int vq3), (6, .int rq2), (5, .int aq1), (0, .ref (ad E 13)), (1, .long aq0), (3, .int aq1), (4, .int aq2)]) 10 dX1_moved_72 (by decide) rfl ?_
      refine k_aload_n (pc := 74) F 0 6 dX1_moved_74 rfl rfl ?_
      refine gf_13_3 (pc := 75) F w_1_153 dX1_moved_75 ?_
      refine k_iload (pc := 78) F 8 2 dX1_moved_78 rfl ?_
      refine k_iald (pc := 80) F rfl dX1_moved_80 ?_
      refine k_nmI (fun vq7 => ?_)
      refine k_case (fun hwq8 => ?_) (fun hwq8 => ?_)
      · refine k_tin (pc := 81) F 124 dX1_moved_81 (by rw [hwq8]; decide) (by rw [hwq8]; decide) (by rw [hwq8]; rfl) (by decide) ?_
        refine k_aload_n (pc := 124) F 0 6 dX1_moved_124 rfl rfl ?_
        refine gf_13_3 (pc := 125) F w_1_153 dX1_moved_125 ?_
        refine k_iload (pc := 128) F 8 2 dX1_moved_128 rfl ?_
        refine k_iconst (pc := 130) F (v := (1 : Int32)) dX1_moved_130 ci_1 ?_
        refine k_iadd (pc := 131) F dX1_moved_131 ?_
        refine k_iald (pc := 132) F rfl dX1_moved_132 ?_
        refine k_nmI (fun vq9 => ?_)
        refine k_istore F (lv' := [(11, .int vq9), (10, .int vq6), (9, .int vq5), (8, .int vq4), (7, .int vq3), (6, .int rq2), (5, .int aq1), (0, .ref (ad E 13)), (1, .long aq0), (3, .int aq1), (4, .int aq2)]) 11 dX1_moved_133 (by decide) rfl ?_
        refine k_iload (pc := 135) F 6 5 dX1_moved_135 rfl ?_
        refine k_iload (pc := 137) F 11 0 dX1_moved_137 rfl ?_
        refine k_callSI (pc := 139) B (As := [.int rq2, .int vq9]) (rest := []) (ct_X1_waitingFor E rq2 vq9  σ1) ms_X1_waitingFor w_3_93 rfl hR_X1_moved_X1_waitingFor rfl (Nat.le_of_ble_eq_true rfl) dX1_moved_139 (fun rq11 σ10 hoq => ?_)
        refine k_istore F (lv' := [(12, .int rq11), (11, .int vq9), (10, .int vq6), (9, .int vq5), (8, .int vq4), (7, .int vq3), (6, .int rq2), (5, .int aq1), (0, .ref (ad E 13)), (1, .long aq0), (3, .int aq1), (4, .int aq2)]) 12 dX1_moved_142 (by decide) rfl ?_
        refine k_lload_n (pc := 144) F 1 9 dX1_moved_144 rfl rfl ?_
        refine k_iload (pc := 145) F 5 7 dX1_moved_145 rfl ?_
        refine k_iload (pc := 147) F 10 2 dX1_moved_147 rfl ?_
        refine k_iload (pc := 149) F 12 0 dX1_moved_149 rfl ?_
        refine k_if_lt (pc := 151) F 159 dX1_moved_151 (by decide) (fun _ => ?_) (fun _ => ?_)
        · refine k_lload_n (pc := 159) F 1 9 dX1_moved_159 rfl rfl ?_
          refine k_iload (pc := 160) F 11 1 dX1_moved_160 rfl ?_
          refine k_callSI (pc := 162) B (As := [.long aq0, .int vq9]) (rest := [.int vq6, .int aq1, .long aq0]) (ct_X1_valueIn E aq0 vq9  σ10) ms_X1_valueIn w_3_96 rfl hR_X1_moved_X1_valueIn rfl (Nat.le_of_ble_eq_true rfl) dX1_moved_162 (fun rq13 σ12 hoq => ?_)
          refine k_callSI (pc := 165) B (As := [.int vq6, .int rq13]) (rest := [.int aq1, .long aq0]) (ct_X1_withA E vq6 rq13  σ12) ms_X1_withA w_3_99 rfl hR_X1_moved_X1_withA rfl (Nat.le_of_ble_eq_true rfl) dX1_moved_165 (fun rq15 σ14 hoq => ?_)
          refine k_callSL (pc := 168) B (As := [.long aq0, .int aq1, .int rq15]) (rest := []) (ct_X1_withHand E aq0 aq1 rq15  σ14) ms_X1_withHand w_3_89 rfl hR_X1_moved_X1_withHand rfl (Nat.le_of_ble_eq_true rfl) dX1_moved_168 (fun rq17 σ16 hoq => ?_)
          exact k_lret (pc := 171) B dX1_moved_171
        · refine k_iload (pc := 154) F 12 0 dX1_moved_154 rfl ?_
          refine k_goto (pc := 156) F 165 dX1_moved_156 (by decide) ?_
          refine k_callSI (pc := 165) B (As := [.int vq6, .int rq11]) (rest := [.int aq1, .long aq0]) (ct_X1_withA E vq6 rq11  σ10) ms_X1_withA w_3_99 rfl hR_X1_moved_X1_withA rfl (Nat.le_of_ble_eq_true rfl) dX1_moved_165 (fun rq19 σ18 hoq => ?_)
          refine k_callSL (pc := 168) B (As := [.long aq0, .int aq1, .int rq19]) (rest := []) (ct_X1_withHand E aq0 aq1 rq19  σ18) ms_X1_withHand w_3_89 rfl hR_X1_moved_X1_withHand rfl (Nat.le_of_ble_eq_true rfl) dX1_moved_168 (fun rq21 σ20 hoq => ?_)
          exact k_lret (pc := 171) B dX1_moved_171
      refine k_case (fun hwq22 => ?_) (fun hwq22 => ?_)
      · refine k_tin (pc := 81) F 172 dX1_moved_81 (by rw [hwq22]; decide) (by rw [hwq22]; decide) (by rw [hwq22]; rfl) (by decide) ?_
        refine k_aload_n (pc := 172) F 0 6 dX1_moved_172 rfl rfl ?_
        refine k_lload_n (pc := 173) F 1 7 dX1_moved_173 rfl rfl ?_
        refine k_iload (pc := 174) F 5 5 dX1_moved_174 rfl ?_
        refine k_iload (pc := 176) F 8 2 dX1_moved_176 rfl ?_
        refine k_iload (pc := 178) F 4 9 dX1_moved_178 rfl ?_
        refine k_callVL (pc := 180) B (k := 13) (As := [.long aq0, .int aq1, .int vq4, .int aq2]) (rest := []) (ct_X1_written E aq0 aq1 vq4 aq2  σ1) rfl rfl mv_X1_written w_3_102 rfl hR_X1_moved_X1_written rfl (Nat.le_of_ble_eq_true rfl) dX1_moved_180 (fun rq24 σ23 hoq => ?_)
        exact k_lret (pc := 183) B dX1_moved_183
      refine k_case (fun hwq25 => ?_) (fun hwq25 => ?_)
      · refine k_tin (pc := 81) F 184 dX1_moved_81 (by rw [hwq25]; decide) (by rw [hwq25]; decide) (by rw [hwq25]; rfl) (by decide) ?_
        refine k_aload_n (pc := 184) F 0 6 dX1_moved_184 rfl rfl ?_
        refine k_lload_n (pc := 185) F 1 7 dX1_moved_185 rfl rfl ?_
        refine k_iload (pc := 186) F 5 5 dX1_moved_186 rfl ?_
        refine k_iload (pc := 188) F 8 2 dX1_moved_188 rfl ?_
        refine k_callVL (pc := 190) B (k := 13) (As := [.long aq0, .int aq1, .int vq4]) (rest := []) (ct_X1_swapped E aq0 aq1 vq4  σ1) rfl rfl mv_X1_swapped w_3_106 rfl hR_X1_moved_X1_swapped rfl (Nat.le_of_ble_eq_true rfl) dX1_moved_190 (fun rq27 σ26 hoq => ?_)
        exact k_lret (pc := 193) B dX1_moved_193
      refine k_case (fun hwq28 => ?_) (fun hwq28 => ?_)
      · refine k_tin (pc := 81) F 184 dX1_moved_81 (by rw [hwq28]; decide) (by rw [hwq28]; decide) (by rw [hwq28]; rfl) (by decide) ?_
        refine k_aload_n (pc := 184) F 0 6 dX1_moved_184 rfl rfl ?_
        refine k_lload_n (pc := 185) F 1 7 dX1_moved_185 rfl rfl ?_
        refine k_iload (pc := 186) F 5 5 dX1_moved_186 rfl ?_
        refine k_iload (pc := 188) F 8 2 dX1_moved_188 rfl ?_
        refine k_callVL (pc := 190) B (k := 13) (As := [.long aq0, .int aq1, .int vq4]) (rest := []) (ct_X1_swapped E aq0 aq1 vq4  σ1) rfl rfl mv_X1_swapped w_3_106 rfl hR_X1_moved_X1_swapped rfl (Nat.le_of_ble_eq_true rfl) dX1_moved_190 (fun rq30 σ29 hoq => ?_)
        exact k_lret (pc := 193) B dX1_moved_193
      refine k_case (fun hwq31 => ?_) (fun hwq31 => ?_)
      · refine k_tin (pc := 81) F 194 dX1_moved_81 (by rw [hwq31]; decide) (by rw [hwq31]; decide) (by rw [hwq31]; rfl) (by decide) ?_
        refine k_iload (pc := 194) F 6 4 dX1_moved_194 rfl ?_
        refine k_sipush (pc := 196) F (v := (-512 : Int32)) dX1_moved_196 cs_m512 ?_
        refine k_iand (pc := 199) F dX1_moved_199 ?_
        refine k_if_eq (pc := 200) F 209 dX1_moved_200 (by decide) (fun _ => ?_) (fun _ => ?_)
        · refine k_lload_n (pc := 209) F 1 7 dX1_moved_209 rfl rfl ?_
          refine k_iload (pc := 210) F 5 5 dX1_moved_210 rfl ?_
          refine k_iload (pc := 212) F 10 0 dX1_moved_212 rfl ?_
          refine k_callSL (pc := 214) B (As := [.long aq0, .int aq1, .int vq6]) (rest := []) (ct_X1_withHand E aq0 aq1 vq6  σ1) ms_X1_withHand w_3_89 rfl hR_X1_moved_X1_withHand rfl (Nat.le_of_ble_eq_true rfl) dX1_moved_214 (fun rq33 σ32 hoq => ?_)
          exact k_lret (pc := 217) B dX1_moved_217
        · refine k_ldc2 (pc := 203) F (v := (-1 : Int64)) w_3_84 dX1_moved_203 ?_
          refine k_goto (pc := 206) F 217 dX1_moved_206 (by decide) ?_
          exact k_lret (pc := 217) B dX1_moved_217
      refine k_case (fun hwq34 => ?_) (fun hwq34 => ?_)
      · refine k_tin (pc := 81) F 218 dX1_moved_81 (by rw [hwq34]; decide) (by rw [hwq34]; decide) (by rw [hwq34]; rfl) (by decide) ?_
        refine k_lload_n (pc := 218) F 1 7 dX1_moved_218 rfl rfl ?_
        refine k_iload (pc := 219) F 5 5 dX1_moved_219 rfl ?_
        refine k_iload (pc := 221) F 9 1 dX1_moved_221 rfl ?_
        refine k_if_ne (pc := 223) F 244 dX1_moved_223 (by decide) (fun _ => ?_) (fun _ => ?_)
        · refine k_iload (pc := 226) F 6 4 dX1_moved_226 rfl ?_
          refine k_iload (pc := 228) F 7 3 dX1_moved_228 rfl ?_
          refine k_isub (pc := 230) F dX1_moved_230 ?_
          refine k_aload_n (pc := 231) F 0 6 dX1_moved_231 rfl rfl ?_
          refine gf_13_3 (pc := 232) F w_1_153 dX1_moved_232 ?_
          refine k_iload (pc := 235) F 8 2 dX1_moved_235 rfl ?_
          refine k_iconst (pc := 237) F (v := (4 : Int32)) dX1_moved_237 ci_4 ?_
          refine k_iadd (pc := 238) F dX1_moved_238 ?_
          refine k_iald (pc := 239) F rfl dX1_moved_239 ?_
          refine k_iadd (pc := 240) F dX1_moved_240 ?_
          refine k_goto (pc := 241) F 246 dX1_moved_241 (by decide) ?_
          refine k_callSL (pc := 246) B (As := [.long aq0, .int aq1, .int ((rq2 - vq3) + (σ1.1 14 (ix (vq4 + (4 : Int32)))))]) (rest := []) (ct_X1_withHand E aq0 aq1 ((rq2 - vq3) + (σ1.1 14 (ix (vq4 + (4 : Int32)))))  σ1) ms_X1_withHand w_3_89 rfl hR_X1_moved_X1_withHand rfl (Nat.le_of_ble_eq_true rfl) dX1_moved_246 (fun rq38 σ37 hoq => ?_)
          exact k_lret (pc := 249) B dX1_moved_249
        · refine k_iload (pc := 244) F 10 0 dX1_moved_244 rfl ?_
          refine k_callSL (pc := 246) B (As := [.long aq0, .int aq1, .int vq6]) (rest := []) (ct_X1_withHand E aq0 aq1 vq6  σ1) ms_X1_withHand w_3_89 rfl hR_X1_moved_X1_withHand rfl (Nat.le_of_ble_eq_true rfl) dX1_moved_246 (fun rq36 σ35 hoq => ?_)
          exact k_lret (pc := 249) B dX1_moved_249
      refine k_case (fun hwq39 => ?_) (fun hwq39 => ?_)
      · refine k_tin (pc := 81) F 250 dX1_moved_81 (by rw [hwq39]; decide) (by rw [hwq39]; decide) (by rw [hwq39]; rfl) (by decide) ?_
        refine k_lload_n (pc := 250) F 1 7 dX1_moved_250 rfl rfl ?_
        refine k_iload (pc := 251) F 5 5 dX1_moved_251 rfl ?_
        refine k_iload (pc := 253) F 10 0 dX1_moved_253 rfl ?_
        refine k_aload_n (pc := 255) F 0 6 dX1_moved_255 rfl rfl ?_
        refine gf_13_3 (pc := 256) F w_1_153 dX1_moved_256 ?_
        refine k_iload (pc := 259) F 8 2 dX1_moved_259 rfl ?_
        refine k_iconst (pc := 261) F (v := (2 : Int32)) dX1_moved_261 ci_2 ?_
        refine k_iadd (pc := 262) F dX1_moved_262 ?_
        refine k_iald (pc := 263) F rfl dX1_moved_263 ?_
        refine k_callSI (pc := 264) B (As := [.int vq6, .int (σ1.1 14 (ix (vq4 + (2 : Int32))))]) (rest := [.int aq1, .long aq0]) (ct_X1_withA E vq6 (σ1.1 14 (ix (vq4 + (2 : Int32))))  σ1) ms_X1_withA w_3_99 rfl hR_X1_moved_X1_withA rfl (Nat.le_of_ble_eq_true rfl) dX1_moved_264 (fun rq41 σ40 hoq => ?_)
        refine k_callSL (pc := 267) B (As := [.long aq0, .int aq1, .int rq41]) (rest := []) (ct_X1_withHand E aq0 aq1 rq41  σ40) ms_X1_withHand w_3_89 rfl hR_X1_moved_X1_withHand rfl (Nat.le_of_ble_eq_true rfl) dX1_moved_267 (fun rq43 σ42 hoq => ?_)
        exact k_lret (pc := 270) B dX1_moved_270
      · refine k_tout (pc := 81) F 271 dX1_moved_81 (by have hwq8 := ne_i (z := 1) (by decide) hwq8; have hwq22 := ne_i (z := 2) (by decide) hwq22; have hwq25 := ne_i (z := 3) (by decide) hwq25; have hwq28 := ne_i (z := 4) (by decide) hwq28; have hwq31 := ne_i (z := 5) (by decide) hwq31; have hwq34 := ne_i (z := 6) (by decide) hwq34; have hwq39 := ne_i (z := 7) (by decide) hwq39; omega) (by decide) ?_
        refine k_lload_n (pc := 271) F 1 7 dX1_moved_271 rfl rfl ?_
        refine k_iload (pc := 272) F 5 5 dX1_moved_272 rfl ?_
        refine k_iload (pc := 274) F 10 0 dX1_moved_274 rfl ?_
        refine k_iload (pc := 276) F 9 1 dX1_moved_276 rfl ?_
        refine k_callSI (pc := 278) B (As := [.int vq6, .int vq5]) (rest := [.int aq1, .long aq0]) (ct_X1_withB E vq6 vq5  σ1) ms_X1_withB w_3_110 rfl hR_X1_moved_X1_withB rfl (Nat.le_of_ble_eq_true rfl) dX1_moved_278 (fun rq45 σ44 hoq => ?_)
        refine k_callSL (pc := 281) B (As := [.long aq0, .int aq1, .int rq45]) (rest := []) (ct_X1_withHand E aq0 aq1 rq45  σ44) ms_X1_withHand w_3_89 rfl hR_X1_moved_X1_withHand rfl (Nat.le_of_ble_eq_true rfl) dX1_moved_281 (fun rq47 σ46 hoq => ?_)
        exact k_lret (pc := 284) B dX1_moved_284
    · refine k_ldc2 (pc := 44) F (v := (-1 : Int64)) w_3_84 dX1_moved_44 ?_
      exact k_lret (pc := 47) B dX1_moved_47
  · refine k_aload_n (pc := 5) F 0 0 dX1_moved_5 rfl rfl ?_
    refine k_lload_n (pc := 6) F 1 1 dX1_moved_6 rfl rfl ?_
    refine k_iload_n (pc := 7) F 3 2 dX1_moved_7 rfl rfl ?_
    refine k_iconst (pc := 8) F (v := (3 : Int32)) dX1_moved_8 ci_3 ?_
    refine k_isub (pc := 9) F dX1_moved_9 ?_
    refine k_callVL (pc := 10) B (k := 13) (As := [.long aq0, .int (aq1 - (3 : Int32))]) (rest := []) (ct_X1_arrived E aq0 (aq1 - (3 : Int32))  σ) rfl rfl mv_X1_arrived w_3_76 rfl hR_X1_moved_X1_arrived rfl (Nat.le_of_ble_eq_true rfl) dX1_moved_10 (fun rq49 σ48 hoq => ?_)
    exact k_lret (pc := 13) B dX1_moved_13
set_option maxHeartbeats 4000000 in
set_option maxRecDepth 100000 in
theorem ct_X1_moved (E : En) (aq0 : Int64) (aq1 : Int32) (aq2 : Int32)  (σ : Mm) : CtL E yX1_moved cX1_moved 13 (some .long) H_X1_moved [.ref (ad E 13), .long aq0, .int aq1, .int aq2] σ (f_X1_moved aq0 aq1 aq2 σ) := ct_L (by decide) (Nat.le_of_ble_eq_true rfl) rfl (fun G B => t_X1_moved B aq0 aq1 aq2  σ)
abbrev H_X1_withCallDone : Nat := 3
theorem hR_X1_withCallDone_X1_moved : H_X1_moved + 1 ≤ H_X1_withCallDone ∧ 8 + (13 + 11) + 40 * H_X1_moved ≤ 40 * H_X1_withCallDone := by decide
theorem hR_X1_withCallDone_X1_handIn : H_X1_handIn + 1 ≤ H_X1_withCallDone ∧ 8 + (3 + 11) + 40 * H_X1_handIn ≤ 40 * H_X1_withCallDone := by decide
set_option maxHeartbeats 4000000 in
set_option maxRecDepth 100000 in
theorem t_X1_withCallDone_119 {E : En} {G : Cx} (B : Bx E G cX1_withCallDone 11 RX1 H_X1_withCallDone (some .long)) (xq3 : Int32) (xq4 : Int32) (xq5 : Int64) (xq7 : Int64) (xq9 : Int32) (xq10 : Int32)  (L46 : Int64 → Int64 → Int32 → Int32 → Mm → Option (Int64 × Mm)) (hL46 : ∀ (xq5 : Int64) (xq7 : Int64) (xq9 : Int32) (xq10 : Int32)  (σ : Mm), KR E G 11 (ZL E G) (L46 xq5 xq7 xq9 xq10 σ) 46 [(0, .ref (ad E 13)), (3, .int xq3), (4, .int xq4), (5, .long xq5), (7, .long xq7), (9, .int xq9), (10, .int xq10)] [] σ)  (σ : Mm) : KR E G 11 (ZL E G) (f_X1_withCallDone_119 L46 xq3 xq4 xq5 xq7 xq9 xq10 σ) 119 [(0, .ref (ad E 13)), (3, .int xq3), (4, .int xq4), (5, .long xq5), (7, .long xq7), (9, .int xq9), (10, .int xq10)] [] σ := by
  have F := B.1
  unfold f_X1_withCallDone_119
  refine k_iinc (pc := 119) F (c := (1 : Int32)) (lw := fun wq => [(10, .int wq), (0, .ref (ad E 13)), (3, .int xq3), (4, .int xq4), (5, .long xq5), (7, .long xq7), (9, .int xq9)]) 10 6 dX1_withCallDone_119 rfl ci_1 (by decide) (fun _ => rfl) (fun vq7 => ?_)
  refine k_goto (pc := 122) F 46 dX1_withCallDone_122 (by decide) ?_
  exact k_sub [1, 2, 3, 4, 5, 6, 0] rfl (hL46 xq5 xq7 xq9 vq7 σ)
set_option maxHeartbeats 4000000 in
set_option maxRecDepth 100000 in
theorem t_X1_withCallDone_L46b {E : En} {G : Cx} (B : Bx E G cX1_withCallDone 11 RX1 H_X1_withCallDone (some .long)) (xq3 : Int32) (xq4 : Int32)   (L46 : Int64 → Int64 → Int32 → Int32 → Mm → Option (Int64 × Mm)) (hL46 : ∀ (xq5 : Int64) (xq7 : Int64) (xq9 : Int32) (xq10 : Int32)  (σ : Mm), KR E G 11 (ZL E G) (L46 xq5 xq7 xq9 xq10 σ) 46 [(0, .ref (ad E 13)), (3, .int xq3), (4, .int xq4), (5, .long xq5), (7, .long xq7), (9, .int xq9), (10, .int xq10)] [] σ) (xq5 : Int64) (xq7 : Int64) (xq9 : Int32) (xq10 : Int32)  (σ : Mm) : KR E G 11 (ZL E G) (f_X1_withCallDone_L46 xq3 xq4 L46 xq5 xq7 xq9 xq10 σ) 46 [(0, .ref (ad E 13)), (3, .int xq3), (4, .int xq4), (5, .long xq5), (7, .long xq7), (9, .int xq9), (10, .int xq10)] [] σ := by
  have F := B.1
  unfold f_X1_withCallDone_L46
  refine k_iload (pc := 46) F 10 6 dX1_withCallDone_46 rfl ?_
  refine k_sipush (pc := 48) F (v := (13312 : Int32)) dX1_withCallDone_48 cs_13312 ?_
  refine k_icmp_gt (pc := 51) F 125 dX1_withCallDone_51 (by decide) (fun _ => ?_) (fun _ => ?_)
  · refine k_ldc2 (pc := 125) F (v := (-1 : Int64)) w_3_84 dX1_withCallDone_125 ?_
    exact k_lret (pc := 128) B dX1_withCallDone_128
  · refine k_aload_n (pc := 54) F 0 0 dX1_withCallDone_54 rfl rfl ?_
    refine k_lload (pc := 55) F 5 3 dX1_withCallDone_55 rfl ?_
    refine k_iload_n (pc := 57) F 3 1 dX1_withCallDone_57 rfl rfl ?_
    refine k_iconst (pc := 58) F (v := (0 : Int32)) dX1_withCallDone_58 ci_0 ?_
    refine k_callVL (pc := 59) B (k := 13) (As := [.long xq5, .int xq3, .int (0 : Int32)]) (rest := []) (ct_X1_moved E xq5 xq3 (0 : Int32)  σ) rfl rfl mv_X1_moved w_3_165 rfl hR_X1_withCallDone_X1_moved rfl (Nat.le_of_ble_eq_true rfl) dX1_withCallDone_59 (fun rq4 σ3 hoq => ?_)
    refine k_lstore F (lv' := [(5, .long rq4), (0, .ref (ad E 13)), (3, .int xq3), (4, .int xq4), (7, .long xq7), (9, .int xq9), (10, .int xq10)]) 5 dX1_withCallDone_62 (by decide) rfl ?_
    refine k_lload (pc := 64) F 5 0 dX1_withCallDone_64 rfl ?_
    refine k_ldc2 (pc := 66) F (v := (-1 : Int64)) w_3_84 dX1_withCallDone_66 ?_
    refine k_lcmp (pc := 69) F dX1_withCallDone_69 ?_
    refine k_if_eq (pc := 70) F 81 dX1_withCallDone_70 (by decide) (fun _ => ?_) (fun _ => ?_)
    · refine k_ldc2 (pc := 81) F (v := (-1 : Int64)) w_3_84 dX1_withCallDone_81 ?_
      exact k_lret (pc := 84) B dX1_withCallDone_84
    · refine k_lload (pc := 73) F 5 0 dX1_withCallDone_73 rfl ?_
      refine k_lload (pc := 75) F 7 4 dX1_withCallDone_75 rfl ?_
      refine k_lcmp (pc := 77) F dX1_withCallDone_77 ?_
      refine k_if_ne (pc := 78) F 85 dX1_withCallDone_78 (by decide) (fun _ => ?_) (fun _ => ?_)
      · refine k_ldc2 (pc := 81) F (v := (-1 : Int64)) w_3_84 dX1_withCallDone_81 ?_
        exact k_lret (pc := 84) B dX1_withCallDone_84
      · refine k_lload (pc := 85) F 5 0 dX1_withCallDone_85 rfl ?_
        refine k_iload_n (pc := 87) F 3 2 dX1_withCallDone_87 rfl rfl ?_
        refine k_callSI (pc := 88) B (As := [.long rq4, .int xq3]) (rest := []) (ct_X1_handIn E rq4 xq3  σ3) ms_X1_handIn w_3_80 rfl hR_X1_withCallDone_X1_handIn rfl (Nat.le_of_ble_eq_true rfl) dX1_withCallDone_88 (fun rq6 σ5 hoq => ?_)
        refine k_bipush (pc := 91) F (v := (31 : Int32)) dX1_withCallDone_91 cb_31 ?_
        refine k_iand (pc := 93) F dX1_withCallDone_93 ?_
        refine k_iload (pc := 94) F 4 3 dX1_withCallDone_94 rfl ?_
        refine k_icmp_lt (pc := 96) F 102 dX1_withCallDone_96 (by decide) (fun _ => ?_) (fun _ => ?_)
        · refine k_iload (pc := 102) F 10 6 dX1_withCallDone_102 rfl ?_
          refine k_iload (pc := 104) F 9 5 dX1_withCallDone_104 rfl ?_
          refine k_icmp_ne (pc := 106) F 119 dX1_withCallDone_106 (by decide) (fun _ => ?_) (fun _ => ?_)
          · refine k_lload (pc := 109) F 5 0 dX1_withCallDone_109 rfl ?_
            refine k_lstore F (lv' := [(7, .long rq4), (5, .long rq4), (0, .ref (ad E 13)), (3, .int xq3), (4, .int xq4), (9, .int xq9), (10, .int xq10)]) 7 dX1_withCallDone_111 (by decide) rfl ?_
            refine k_iconst (pc := 113) F (v := (2 : Int32)) dX1_withCallDone_113 ci_2 ?_
            refine k_iload (pc := 114) F 9 5 dX1_withCallDone_114 rfl ?_
            refine k_imul (pc := 116) F dX1_withCallDone_116 ?_
            refine k_nmI (fun vq8 => ?_)
            refine k_istore F (lv' := [(9, .int vq8), (7, .long rq4), (5, .long rq4), (0, .ref (ad E 13)), (3, .int xq3), (4, .int xq4), (10, .int xq10)]) 9 dX1_withCallDone_117 (by decide) rfl ?_
            exact k_sub [3, 4, 5, 2, 1, 0, 6] rfl (t_X1_withCallDone_119 B xq3 xq4 rq4 rq4 vq8 xq10  L46 hL46  σ5)
          · exact k_sub [1, 2, 3, 0, 4, 5, 6] rfl (t_X1_withCallDone_119 B xq3 xq4 rq4 xq7 xq9 xq10  L46 hL46  σ5)
        · refine k_lload (pc := 99) F 5 0 dX1_withCallDone_99 rfl ?_
          exact k_lret (pc := 101) B dX1_withCallDone_101
set_option maxHeartbeats 4000000 in
set_option maxRecDepth 100000 in
theorem t_X1_withCallDone_L46 {E : En} {G : Cx} (B : Bx E G cX1_withCallDone 11 RX1 H_X1_withCallDone (some .long)) (xq3 : Int32) (xq4 : Int32)   : ∀ (n : Nat) (xq5 : Int64) (xq7 : Int64) (xq9 : Int32) (xq10 : Int32)  (σ : Mm), KR E G 11 (ZL E G) (fx (fun _ _ _ _ _ => none) n (f_X1_withCallDone_L46 xq3 xq4) xq5 xq7 xq9 xq10 σ) 46 [(0, .ref (ad E 13)), (3, .int xq3), (4, .int xq4), (5, .long xq5), (7, .long xq7), (9, .int xq9), (10, .int xq10)] [] σ :=
  fun n => fx_ind (P := fun f => ∀ (xq5 : Int64) (xq7 : Int64) (xq9 : Int32) (xq10 : Int32)  (σ : Mm), KR E G 11 (ZL E G) (f xq5 xq7 xq9 xq10 σ) 46 [(0, .ref (ad E 13)), (3, .int xq3), (4, .int xq4), (5, .long xq5), (7, .long xq7), (9, .int xq9), (10, .int xq10)] [] σ) (fun _ _ _ _ _ => k_none) (fun L46 hL46 xq5 xq7 xq9 xq10 σ => t_X1_withCallDone_L46b B xq3 xq4   L46 hL46 xq5 xq7 xq9 xq10 σ) n
set_option maxHeartbeats 4000000 in
set_option maxRecDepth 100000 in
theorem t_X1_withCallDone_32 {E : En} {G : Cx} (B : Bx E G cX1_withCallDone 11 RX1 H_X1_withCallDone (some .long)) (xq1 : Int64) (xq3 : Int32) (xqs0 : Int32)   (σ : Mm) : KR E G 11 (ZL E G) (f_X1_withCallDone_32 xq1 xq3 xqs0 σ) 32 [(0, .ref (ad E 13)), (1, .long xq1), (3, .int xq3)] [.int xqs0] σ := by
  have F := B.1
  unfold f_X1_withCallDone_32
  refine k_istore F (lv' := [(4, .int xqs0), (0, .ref (ad E 13)), (1, .long xq1), (3, .int xq3)]) 4 dX1_withCallDone_32 (by decide) rfl ?_
  refine k_lload_n (pc := 34) F 1 2 dX1_withCallDone_34 rfl rfl ?_
  refine k_lstore F (lv' := [(5, .long xq1), (4, .int xqs0), (0, .ref (ad E 13)), (1, .long xq1), (3, .int xq3)]) 5 dX1_withCallDone_35 (by decide) rfl ?_
  refine k_lload_n (pc := 37) F 1 3 dX1_withCallDone_37 rfl rfl ?_
  refine k_lstore F (lv' := [(7, .long xq1), (5, .long xq1), (4, .int xqs0), (0, .ref (ad E 13)), (1, .long xq1), (3, .int xq3)]) 7 dX1_withCallDone_38 (by decide) rfl ?_
  refine k_iconst (pc := 40) F (v := (2 : Int32)) dX1_withCallDone_40 ci_2 ?_
  refine k_istore F (lv' := [(9, .int (2 : Int32)), (7, .long xq1), (5, .long xq1), (4, .int xqs0), (0, .ref (ad E 13)), (1, .long xq1), (3, .int xq3)]) 9 dX1_withCallDone_41 (by decide) rfl ?_
  refine k_iconst (pc := 43) F (v := (1 : Int32)) dX1_withCallDone_43 ci_1 ?_
  refine k_istore F (lv' := [(10, .int (1 : Int32)), (9, .int (2 : Int32)), (7, .long xq1), (5, .long xq1), (4, .int xqs0), (0, .ref (ad E 13)), (1, .long xq1), (3, .int xq3)]) 10 dX1_withCallDone_44 (by decide) rfl ?_
  exact k_sub [5, 7, 4, 3, 2, 1, 0] rfl (t_X1_withCallDone_L46 B xq3 xqs0   FU xq1 xq1 (2 : Int32) (1 : Int32)  σ)
set_option maxHeartbeats 4000000 in
set_option maxRecDepth 100000 in
theorem t_X1_withCallDone {E : En} {G : Cx} (B : Bx E G cX1_withCallDone 11 RX1 H_X1_withCallDone (some .long)) (aq0 : Int64) (aq1 : Int32)  (σ : Mm) : KR E G 11 (ZL E G) (f_X1_withCallDone aq0 aq1 σ) 0 [(0, .ref (ad E 13)), (1, .long aq0), (3, .int aq1)] [] σ := by
  have F := B.1
  unfold f_X1_withCallDone
  refine k_lload_n (pc := 0) F 1 1 dX1_withCallDone_0 rfl rfl ?_
  refine k_iload_n (pc := 1) F 3 2 dX1_withCallDone_1 rfl rfl ?_
  refine k_callSI (pc := 2) B (As := [.long aq0, .int aq1]) (rest := []) (ct_X1_handIn E aq0 aq1  σ) ms_X1_handIn w_3_80 rfl hR_X1_withCallDone_X1_handIn rfl (Nat.le_of_ble_eq_true rfl) dX1_withCallDone_2 (fun rq2 σ1 hoq => ?_)
  refine k_bipush (pc := 5) F (v := (31 : Int32)) dX1_withCallDone_5 cb_31 ?_
  refine k_iand (pc := 7) F dX1_withCallDone_7 ?_
  refine k_aload_n (pc := 8) F 0 0 dX1_withCallDone_8 rfl rfl ?_
  refine gf_13_5 (pc := 9) F w_1_155 dX1_withCallDone_9 ?_
  refine k_iload_n (pc := 12) F 3 2 dX1_withCallDone_12 rfl rfl ?_
  refine k_iald (pc := 13) F rfl dX1_withCallDone_13 ?_
  refine k_icmp_ge (pc := 14) F 26 dX1_withCallDone_14 (by decide) (fun _ => ?_) (fun _ => ?_)
  · refine k_aload_n (pc := 26) F 0 0 dX1_withCallDone_26 rfl rfl ?_
    refine gf_13_6 (pc := 27) F w_1_156 dX1_withCallDone_27 ?_
    refine k_iload_n (pc := 30) F 3 2 dX1_withCallDone_30 rfl rfl ?_
    refine k_iald (pc := 31) F rfl dX1_withCallDone_31 ?_
    exact k_sub [0, 1, 2] rfl (t_X1_withCallDone_32 B aq0 aq1 (σ1.1 17 (ix aq1))   σ1)
  · refine k_aload_n (pc := 17) F 0 0 dX1_withCallDone_17 rfl rfl ?_
    refine gf_13_5 (pc := 18) F w_1_155 dX1_withCallDone_18 ?_
    refine k_iload_n (pc := 21) F 3 2 dX1_withCallDone_21 rfl rfl ?_
    refine k_iald (pc := 22) F rfl dX1_withCallDone_22 ?_
    refine k_goto (pc := 23) F 32 dX1_withCallDone_23 (by decide) ?_
    exact k_sub [0, 1, 2] rfl (t_X1_withCallDone_32 B aq0 aq1 (σ1.1 16 (ix aq1))   σ1)
set_option maxHeartbeats 4000000 in
set_option maxRecDepth 100000 in
theorem ct_X1_withCallDone (E : En) (aq0 : Int64) (aq1 : Int32)  (σ : Mm) : CtL E yX1_withCallDone cX1_withCallDone 11 (some .long) H_X1_withCallDone [.ref (ad E 13), .long aq0, .int aq1] σ (f_X1_withCallDone aq0 aq1 σ) := ct_L (by decide) (Nat.le_of_ble_eq_true rfl) rfl (fun G B => t_X1_withCallDone B aq0 aq1  σ)
