abbrev H_X11_write : Nat := 2
theorem hR_X11_write_X11_finds : H_X11_finds + 1 ≤ H_X11_write ∧ 8 + (2 + 11) + 40 * H_X11_finds ≤ 40 * H_X11_write := by decide
theorem hR_X11_write_X11_isSheet : H_X11_isSheet + 1 ≤ H_X11_write ∧ 8 + (1 + 11) + 40 * H_X11_isSheet ≤ 40 * H_X11_write := by decide
theorem hR_X11_write_X11_in : H_X11_in + 1 ≤ H_X11_write ∧ 8 + (3 + 11) + 40 * H_X11_in ≤ 40 * H_X11_write := by decide
set_option maxHeartbeats 4000000 in
set_option maxRecDepth 100000 in
theorem t_X11_write {E : En} {G : Cx} (B : Bx E G cX11_write 7 RX11 H_X11_write (some .long)) (aq0 : Int32) (aq1 : Int32) (aq2 : Int64)  (σ : Mm) : KR E G 7 (ZL E G) (f_X11_write aq0 aq1 aq2 σ) 0 [(0, .ref (ad E 48)), (1, .int aq0), (2, .int aq1), (3, .long aq2)] [] σ := by
  have F := B.1
  unfold f_X11_write
  refine k_iload_n (pc := 0) F 1 1 dX11_write_0 rfl rfl ?_
  refine k_callSI (pc := 1) B (As := [.int aq0]) (rest := []) (ct_X11_isSheet E aq0  σ) ms_X11_isSheet w_6_190 rfl hR_X11_write_X11_isSheet rfl (Nat.le_of_ble_eq_true rfl) dX11_write_1 (fun rq2 σ1 hoq => ?_)
  refine k_if_ne (pc := 4) F 15 dX11_write_4 (by decide) (fun _ => ?_) (fun _ => ?_)
  · refine k_aload_n (pc := 7) F 0 0 dX11_write_7 rfl rfl ?_
    refine k_ldc (pc := 8) F (v := (-1000000001 : Int32)) w_5_143 dX11_write_8 ?_
    refine k_callVI (pc := 10) B (k := 48) (As := [.int (-1000000001 : Int32)]) (rest := []) (ct_X11_finds E (-1000000001 : Int32)  σ1) rfl rfl mv_X11_finds w_5_144 rfl hR_X11_write_X11_finds rfl (Nat.le_of_ble_eq_true rfl) dX11_write_10 (fun rq14 σ13 hoq => ?_)
    refine k_i2l (pc := 13) F dX11_write_13 ?_
    exact k_lret (pc := 14) B dX11_write_14
  · refine k_aload_n (pc := 15) F 0 0 dX11_write_15 rfl rfl ?_
    refine gf_48_20 (pc := 16) F w_4_190 dX11_write_16 ?_
    refine k_iload_n (pc := 19) F 1 1 dX11_write_19 rfl rfl ?_
    refine k_iald (pc := 20) F rfl dX11_write_20 ?_
    refine k_if_ne (pc := 21) F 33 dX11_write_21 (by decide) (fun _ => ?_) (fun _ => ?_)
    · refine k_aload_n (pc := 24) F 0 0 dX11_write_24 rfl rfl ?_
      refine k_ldcw (pc := 25) F (v := (-1000000006 : Int32)) w_6_193 dX11_write_25 ?_
      refine k_callVI (pc := 28) B (k := 48) (As := [.int (-1000000006 : Int32)]) (rest := []) (ct_X11_finds E (-1000000006 : Int32)  σ1) rfl rfl mv_X11_finds w_5_144 rfl hR_X11_write_X11_finds rfl (Nat.le_of_ble_eq_true rfl) dX11_write_28 (fun rq12 σ11 hoq => ?_)
      refine k_i2l (pc := 31) F dX11_write_31 ?_
      exact k_lret (pc := 32) B dX11_write_32
    · refine k_iload_n (pc := 33) F 2 2 dX11_write_33 rfl rfl ?_
      refine k_iconst (pc := 34) F (v := (0 : Int32)) dX11_write_34 ci_0 ?_
      refine k_aload_n (pc := 35) F 0 0 dX11_write_35 rfl rfl ?_
      refine gf_48_21 (pc := 36) F w_4_191 dX11_write_36 ?_
      refine k_iload_n (pc := 39) F 1 1 dX11_write_39 rfl rfl ?_
      refine k_iald (pc := 40) F rfl dX11_write_40 ?_
      refine k_iconst (pc := 41) F (v := (1 : Int32)) dX11_write_41 ci_1 ?_
      refine k_isub (pc := 42) F dX11_write_42 ?_
      refine k_callSI (pc := 43) B (As := [.int aq1, .int (0 : Int32), .int ((σ1.1 62 (ix aq0)) - (1 : Int32))]) (rest := []) (ct_X11_in E aq1 (0 : Int32) ((σ1.1 62 (ix aq0)) - (1 : Int32))  σ1) ms_X11_in w_5_140 rfl hR_X11_write_X11_in rfl (Nat.le_of_ble_eq_true rfl) dX11_write_43 (fun rq4 σ3 hoq => ?_)
      refine k_if_ne (pc := 46) F 57 dX11_write_46 (by decide) (fun _ => ?_) (fun _ => ?_)
      · refine k_aload_n (pc := 49) F 0 0 dX11_write_49 rfl rfl ?_
        refine k_ldc (pc := 50) F (v := (-1000000001 : Int32)) w_5_143 dX11_write_50 ?_
        refine k_callVI (pc := 52) B (k := 48) (As := [.int (-1000000001 : Int32)]) (rest := []) (ct_X11_finds E (-1000000001 : Int32)  σ3) rfl rfl mv_X11_finds w_5_144 rfl hR_X11_write_X11_finds rfl (Nat.le_of_ble_eq_true rfl) dX11_write_52 (fun rq10 σ9 hoq => ?_)
        refine k_i2l (pc := 55) F dX11_write_55 ?_
        exact k_lret (pc := 56) B dX11_write_56
      · refine k_aload_n (pc := 57) F 0 0 dX11_write_57 rfl rfl ?_
        refine gf_48_22 (pc := 58) F w_4_192 dX11_write_58 ?_
        refine k_bipush (pc := 61) F (v := (40 : Int32)) dX11_write_61 cb_40 ?_
        refine k_iload_n (pc := 63) F 1 1 dX11_write_63 rfl rfl ?_
        refine k_imul (pc := 64) F dX11_write_64 ?_
        refine k_iload_n (pc := 65) F 2 2 dX11_write_65 rfl rfl ?_
        refine k_iadd (pc := 66) F dX11_write_66 ?_
        refine k_lald (pc := 67) F rfl dX11_write_67 ?_
        refine k_nmL (fun vq5 => ?_)
        refine k_lstore F (lv' := [(5, .long vq5), (0, .ref (ad E 48)), (1, .int aq0), (2, .int aq1), (3, .long aq2)]) 5 dX11_write_68 (by decide) rfl ?_
        refine k_aload_n (pc := 70) F 0 1 dX11_write_70 rfl rfl ?_
        refine gf_48_22 (pc := 71) F w_4_192 dX11_write_71 ?_
        refine k_bipush (pc := 74) F (v := (40 : Int32)) dX11_write_74 cb_40 ?_
        refine k_iload_n (pc := 76) F 1 2 dX11_write_76 rfl rfl ?_
        refine k_imul (pc := 77) F dX11_write_77 ?_
        refine k_iload_n (pc := 78) F 2 3 dX11_write_78 rfl rfl ?_
        refine k_iadd (pc := 79) F dX11_write_79 ?_
        refine k_aload_n (pc := 80) F 0 1 dX11_write_80 rfl rfl ?_
        refine gf_48_20 (pc := 81) F w_4_190 dX11_write_81 ?_
        refine k_iload_n (pc := 84) F 1 2 dX11_write_84 rfl rfl ?_
        refine k_iald (pc := 85) F rfl dX11_write_85 ?_
        refine k_bipush (pc := 86) F (v := (8 : Int32)) dX11_write_86 cb_8 ?_
        refine k_icmp_ne (pc := 88) F 98 dX11_write_88 (by decide) (fun _ => ?_) (fun _ => ?_)
        · refine k_lload_n (pc := 91) F 3 4 dX11_write_91 rfl rfl ?_
          refine k_l2i (pc := 92) F dX11_write_92 ?_
          refine k_i2b (pc := 93) F dX11_write_93 ?_
          refine k_i2l (pc := 94) F dX11_write_94 ?_
          refine k_goto (pc := 95) F 117 dX11_write_95 (by decide) ?_
          refine k_last (pc := 117) F rfl dX11_write_117 (fun σ8 => ?_)
          refine k_lload (pc := 118) F 5 0 dX11_write_118 rfl ?_
          exact k_lret (pc := 120) B dX11_write_120
        · refine k_aload_n (pc := 98) F 0 1 dX11_write_98 rfl rfl ?_
          refine gf_48_20 (pc := 99) F w_4_190 dX11_write_99 ?_
          refine k_iload_n (pc := 102) F 1 2 dX11_write_102 rfl rfl ?_
          refine k_iald (pc := 103) F rfl dX11_write_103 ?_
          refine k_bipush (pc := 104) F (v := (16 : Int32)) dX11_write_104 cb_16 ?_
          refine k_icmp_ne (pc := 106) F 116 dX11_write_106 (by decide) (fun _ => ?_) (fun _ => ?_)
          · refine k_lload_n (pc := 109) F 3 4 dX11_write_109 rfl rfl ?_
            refine k_l2i (pc := 110) F dX11_write_110 ?_
            refine k_i2s (pc := 111) F dX11_write_111 ?_
            refine k_i2l (pc := 112) F dX11_write_112 ?_
            refine k_goto (pc := 113) F 117 dX11_write_113 (by decide) ?_
            refine k_last (pc := 117) F rfl dX11_write_117 (fun σ7 => ?_)
            refine k_lload (pc := 118) F 5 0 dX11_write_118 rfl ?_
            exact k_lret (pc := 120) B dX11_write_120
          · refine k_lload_n (pc := 116) F 3 4 dX11_write_116 rfl rfl ?_
            refine k_last (pc := 117) F rfl dX11_write_117 (fun σ6 => ?_)
            refine k_lload (pc := 118) F 5 0 dX11_write_118 rfl ?_
            exact k_lret (pc := 120) B dX11_write_120
set_option maxHeartbeats 4000000 in
set_option maxRecDepth 100000 in
theorem ct_X11_write (E : En) (aq0 : Int32) (aq1 : Int32) (aq2 : Int64)  (σ : Mm) : CtL E yX11_write cX11_write 7 (some .long) H_X11_write [.ref (ad E 48), .int aq0, .int aq1, .long aq2] σ (f_X11_write aq0 aq1 aq2 σ) := ct_L (by decide) (Nat.le_of_ble_eq_true rfl) rfl (fun G B => t_X11_write B aq0 aq1 aq2  σ)
abbrev H_X11_copy : Nat := 2
theorem hR_X11_copy_X11_finds : H_X11_finds + 1 ≤ H_X11_copy ∧ 8 + (2 + 11) + 40 * H_X11_finds ≤ 40 * H_X11_copy := by decide
theorem hR_X11_copy_X11_isSheet : H_X11_isSheet + 1 ≤ H_X11_copy ∧ 8 + (1 + 11) + 40 * H_X11_isSheet ≤ 40 * H_X11_copy := by decide
set_option maxHeartbeats 4000000 in
set_option maxRecDepth 100000 in
theorem t_X11_copy_L120b {E : En} {G : Cx} (B : Bx E G cX11_copy 7 RX11 H_X11_copy (some .int)) (xq1 : Int32) (xq2 : Int32) (xq3 : Int32) (xq4 : Int32) (xq5 : Int32)  (K154 : Mm → Option (Int32 × Mm)) (hK154 : ∀   (σ : Mm), KR E G 7 (ZI E G) (K154  σ) 154 [(0, .ref (ad E 48)), (3, .int xq3), (4, .int xq4), (5, .int xq5)] [] σ)  (L120 : Int32 → Mm → Option (Int32 × Mm)) (hL120 : ∀ (xq6 : Int32)  (σ : Mm), KR E G 7 (ZI E G) (L120 xq6 σ) 120 [(0, .ref (ad E 48)), (1, .int xq1), (2, .int xq2), (3, .int xq3), (4, .int xq4), (5, .int xq5), (6, .int xq6)] [] σ) (xq6 : Int32)  (σ : Mm) : KR E G 7 (ZI E G) (f_X11_copy_L120 K154 xq1 xq2 xq3 xq4 xq5 L120 xq6 σ) 120 [(0, .ref (ad E 48)), (1, .int xq1), (2, .int xq2), (3, .int xq3), (4, .int xq4), (5, .int xq5), (6, .int xq6)] [] σ := by
  have F := B.1
  unfold f_X11_copy_L120
  refine k_iload (pc := 120) F 6 6 dX11_copy_120 rfl ?_
  refine k_iload (pc := 122) F 5 5 dX11_copy_122 rfl ?_
  refine k_icmp_ge (pc := 124) F 154 dX11_copy_124 (by decide) (fun _ => ?_) (fun _ => ?_)
  · exact k_sub [0, 3, 4, 5] rfl (hK154 σ)
  · refine k_aload_n (pc := 127) F 0 0 dX11_copy_127 rfl rfl ?_
    refine gf_48_23 (pc := 128) F w_4_193 dX11_copy_128 ?_
    refine k_iload (pc := 131) F 6 6 dX11_copy_131 rfl ?_
    refine k_aload_n (pc := 133) F 0 0 dX11_copy_133 rfl rfl ?_
    refine gf_48_22 (pc := 134) F w_4_192 dX11_copy_134 ?_
    refine k_bipush (pc := 137) F (v := (40 : Int32)) dX11_copy_137 cb_40 ?_
    refine k_iload_n (pc := 139) F 1 1 dX11_copy_139 rfl rfl ?_
    refine k_imul (pc := 140) F dX11_copy_140 ?_
    refine k_iload_n (pc := 141) F 2 2 dX11_copy_141 rfl rfl ?_
    refine k_iadd (pc := 142) F dX11_copy_142 ?_
    refine k_iload (pc := 143) F 6 6 dX11_copy_143 rfl ?_
    refine k_iadd (pc := 145) F dX11_copy_145 ?_
    refine k_lald (pc := 146) F rfl dX11_copy_146 ?_
    refine k_last (pc := 147) F rfl dX11_copy_147 (fun σ17 => ?_)
    refine k_iinc (pc := 148) F (c := (1 : Int32)) (lw := fun wq => [(6, .int wq), (0, .ref (ad E 48)), (1, .int xq1), (2, .int xq2), (3, .int xq3), (4, .int xq4), (5, .int xq5)]) 6 6 dX11_copy_148 rfl ci_1 (by decide) (fun _ => rfl) (fun vq18 => ?_)
    refine k_goto (pc := 151) F 120 dX11_copy_151 (by decide) ?_
    exact k_sub [1, 2, 3, 4, 5, 6, 0] rfl (hL120 vq18 σ17)
set_option maxHeartbeats 4000000 in
set_option maxRecDepth 100000 in
theorem t_X11_copy_L120 {E : En} {G : Cx} (B : Bx E G cX11_copy 7 RX11 H_X11_copy (some .int)) (xq1 : Int32) (xq2 : Int32) (xq3 : Int32) (xq4 : Int32) (xq5 : Int32)  (K154 : Mm → Option (Int32 × Mm)) (hK154 : ∀   (σ : Mm), KR E G 7 (ZI E G) (K154  σ) 154 [(0, .ref (ad E 48)), (3, .int xq3), (4, .int xq4), (5, .int xq5)] [] σ)  : ∀ (n : Nat) (xq6 : Int32)  (σ : Mm), KR E G 7 (ZI E G) (fx (fun _ _ => none) n (f_X11_copy_L120 K154 xq1 xq2 xq3 xq4 xq5) xq6 σ) 120 [(0, .ref (ad E 48)), (1, .int xq1), (2, .int xq2), (3, .int xq3), (4, .int xq4), (5, .int xq5), (6, .int xq6)] [] σ :=
  fun n => fx_ind (P := fun f => ∀ (xq6 : Int32)  (σ : Mm), KR E G 7 (ZI E G) (f xq6 σ) 120 [(0, .ref (ad E 48)), (1, .int xq1), (2, .int xq2), (3, .int xq3), (4, .int xq4), (5, .int xq5), (6, .int xq6)] [] σ) (fun _ _ => k_none) (fun L120 hL120 xq6 σ => t_X11_copy_L120b B xq1 xq2 xq3 xq4 xq5  K154 hK154  L120 hL120 xq6 σ) n
set_option maxHeartbeats 4000000 in
set_option maxRecDepth 100000 in
theorem t_X11_copy_L157b {E : En} {G : Cx} (B : Bx E G cX11_copy 7 RX11 H_X11_copy (some .int)) (xq3 : Int32) (xq4 : Int32) (xq5 : Int32)   (L157 : Int32 → Mm → Option (Int32 × Mm)) (hL157 : ∀ (xq6 : Int32)  (σ : Mm), KR E G 7 (ZI E G) (L157 xq6 σ) 157 [(0, .ref (ad E 48)), (3, .int xq3), (4, .int xq4), (5, .int xq5), (6, .int xq6)] [] σ) (xq6 : Int32)  (σ : Mm) : KR E G 7 (ZI E G) (f_X11_copy_L157 xq3 xq4 xq5 L157 xq6 σ) 157 [(0, .ref (ad E 48)), (3, .int xq3), (4, .int xq4), (5, .int xq5), (6, .int xq6)] [] σ := by
  have F := B.1
  unfold f_X11_copy_L157
  refine k_iload (pc := 157) F 6 4 dX11_copy_157 rfl ?_
  refine k_iload (pc := 159) F 5 3 dX11_copy_159 rfl ?_
  refine k_icmp_ge (pc := 161) F 192 dX11_copy_161 (by decide) (fun _ => ?_) (fun _ => ?_)
  · refine k_iload (pc := 192) F 5 3 dX11_copy_192 rfl ?_
    exact k_iret (pc := 194) B dX11_copy_194
  · refine k_aload_n (pc := 164) F 0 0 dX11_copy_164 rfl rfl ?_
    refine gf_48_22 (pc := 165) F w_4_192 dX11_copy_165 ?_
    refine k_bipush (pc := 168) F (v := (40 : Int32)) dX11_copy_168 cb_40 ?_
    refine k_iload_n (pc := 170) F 3 1 dX11_copy_170 rfl rfl ?_
    refine k_imul (pc := 171) F dX11_copy_171 ?_
    refine k_iload (pc := 172) F 4 2 dX11_copy_172 rfl ?_
    refine k_iadd (pc := 174) F dX11_copy_174 ?_
    refine k_iload (pc := 175) F 6 4 dX11_copy_175 rfl ?_
    refine k_iadd (pc := 177) F dX11_copy_177 ?_
    refine k_aload_n (pc := 178) F 0 0 dX11_copy_178 rfl rfl ?_
    refine gf_48_23 (pc := 179) F w_4_193 dX11_copy_179 ?_
    refine k_iload (pc := 182) F 6 4 dX11_copy_182 rfl ?_
    refine k_lald (pc := 184) F rfl dX11_copy_184 ?_
    refine k_last (pc := 185) F rfl dX11_copy_185 (fun σ19 => ?_)
    refine k_iinc (pc := 186) F (c := (1 : Int32)) (lw := fun wq => [(6, .int wq), (0, .ref (ad E 48)), (3, .int xq3), (4, .int xq4), (5, .int xq5)]) 6 4 dX11_copy_186 rfl ci_1 (by decide) (fun _ => rfl) (fun vq20 => ?_)
    refine k_goto (pc := 189) F 157 dX11_copy_189 (by decide) ?_
    exact k_sub [1, 2, 3, 4, 0] rfl (hL157 vq20 σ19)
set_option maxHeartbeats 4000000 in
set_option maxRecDepth 100000 in
theorem t_X11_copy_L157 {E : En} {G : Cx} (B : Bx E G cX11_copy 7 RX11 H_X11_copy (some .int)) (xq3 : Int32) (xq4 : Int32) (xq5 : Int32)   : ∀ (n : Nat) (xq6 : Int32)  (σ : Mm), KR E G 7 (ZI E G) (fx (fun _ _ => none) n (f_X11_copy_L157 xq3 xq4 xq5) xq6 σ) 157 [(0, .ref (ad E 48)), (3, .int xq3), (4, .int xq4), (5, .int xq5), (6, .int xq6)] [] σ :=
  fun n => fx_ind (P := fun f => ∀ (xq6 : Int32)  (σ : Mm), KR E G 7 (ZI E G) (f xq6 σ) 157 [(0, .ref (ad E 48)), (3, .int xq3), (4, .int xq4), (5, .int xq5), (6, .int xq6)] [] σ) (fun _ _ => k_none) (fun L157 hL157 xq6 σ => t_X11_copy_L157b B xq3 xq4 xq5   L157 hL157 xq6 σ) n
set_option maxHeartbeats 4000000 in
set_option maxRecDepth 100000 in
theorem t_X11_copy_154 {E : En} {G : Cx} (B : Bx E G cX11_copy 7 RX11 H_X11_copy (some .int)) (xq3 : Int32) (xq4 : Int32) (xq5 : Int32)   (σ : Mm) : KR E G 7 (ZI E G) (f_X11_copy_154 xq3 xq4 xq5 σ) 154 [(0, .ref (ad E 48)), (3, .int xq3), (4, .int xq4), (5, .int xq5)] [] σ := by
  have F := B.1
  unfold f_X11_copy_154
  refine k_iconst (pc := 154) F (v := (0 : Int32)) dX11_copy_154 ci_0 ?_
  refine k_istore F (lv' := [(6, .int (0 : Int32)), (0, .ref (ad E 48)), (3, .int xq3), (4, .int xq4), (5, .int xq5)]) 6 dX11_copy_155 (by decide) rfl ?_
  exact k_sub [1, 2, 3, 4, 0] rfl (t_X11_copy_L157 B xq3 xq4 xq5   FU (0 : Int32)  σ)
set_option maxHeartbeats 4000000 in
set_option maxRecDepth 100000 in
theorem t_X11_copy {E : En} {G : Cx} (B : Bx E G cX11_copy 7 RX11 H_X11_copy (some .int)) (aq0 : Int32) (aq1 : Int32) (aq2 : Int32) (aq3 : Int32) (aq4 : Int32)  (σ : Mm) : KR E G 7 (ZI E G) (f_X11_copy aq0 aq1 aq2 aq3 aq4 σ) 0 [(0, .ref (ad E 48)), (1, .int aq0), (2, .int aq1), (3, .int aq2), (4, .int aq3), (5, .int aq4)] [] σ := by
  have F := B.1
  unfold f_X11_copy
  refine k_iload_n (pc := 0) F 1 1 dX11_copy_0 rfl rfl ?_
  refine k_callSI (pc := 1) B (As := [.int aq0]) (rest := []) (ct_X11_isSheet E aq0  σ) ms_X11_isSheet w_6_190 rfl hR_X11_copy_X11_isSheet rfl (Nat.le_of_ble_eq_true rfl) dX11_copy_1 (fun rq2 σ1 hoq => ?_)
  refine k_if_eq (pc := 4) F 14 dX11_copy_4 (by decide) (fun _ => ?_) (fun _ => ?_)
  · refine k_aload_n (pc := 14) F 0 0 dX11_copy_14 rfl rfl ?_
    refine k_ldc (pc := 15) F (v := (-1000000001 : Int32)) w_5_143 dX11_copy_15 ?_
    refine k_callVI (pc := 17) B (k := 48) (As := [.int (-1000000001 : Int32)]) (rest := []) (ct_X11_finds E (-1000000001 : Int32)  σ1) rfl rfl mv_X11_finds w_5_144 rfl hR_X11_copy_X11_finds rfl (Nat.le_of_ble_eq_true rfl) dX11_copy_17 (fun rq4 σ3 hoq => ?_)
    exact k_iret (pc := 20) B dX11_copy_20
  · refine k_iload_n (pc := 7) F 3 3 dX11_copy_7 rfl rfl ?_
    refine k_callSI (pc := 8) B (As := [.int aq2]) (rest := []) (ct_X11_isSheet E aq2  σ1) ms_X11_isSheet w_6_190 rfl hR_X11_copy_X11_isSheet rfl (Nat.le_of_ble_eq_true rfl) dX11_copy_8 (fun rq6 σ5 hoq => ?_)
    refine k_if_ne (pc := 11) F 21 dX11_copy_11 (by decide) (fun _ => ?_) (fun _ => ?_)
    · refine k_aload_n (pc := 14) F 0 0 dX11_copy_14 rfl rfl ?_
      refine k_ldc (pc := 15) F (v := (-1000000001 : Int32)) w_5_143 dX11_copy_15 ?_
      refine k_callVI (pc := 17) B (k := 48) (As := [.int (-1000000001 : Int32)]) (rest := []) (ct_X11_finds E (-1000000001 : Int32)  σ5) rfl rfl mv_X11_finds w_5_144 rfl hR_X11_copy_X11_finds rfl (Nat.le_of_ble_eq_true rfl) dX11_copy_17 (fun rq28 σ27 hoq => ?_)
      exact k_iret (pc := 20) B dX11_copy_20
    · refine k_aload_n (pc := 21) F 0 0 dX11_copy_21 rfl rfl ?_
      refine gf_48_20 (pc := 22) F w_4_190 dX11_copy_22 ?_
      refine k_iload_n (pc := 25) F 1 1 dX11_copy_25 rfl rfl ?_
      refine k_iald (pc := 26) F rfl dX11_copy_26 ?_
      refine k_if_eq (pc := 27) F 39 dX11_copy_27 (by decide) (fun _ => ?_) (fun _ => ?_)
      · refine k_aload_n (pc := 39) F 0 0 dX11_copy_39 rfl rfl ?_
        refine k_ldcw (pc := 40) F (v := (-1000000006 : Int32)) w_6_193 dX11_copy_40 ?_
        refine k_callVI (pc := 43) B (k := 48) (As := [.int (-1000000006 : Int32)]) (rest := []) (ct_X11_finds E (-1000000006 : Int32)  σ5) rfl rfl mv_X11_finds w_5_144 rfl hR_X11_copy_X11_finds rfl (Nat.le_of_ble_eq_true rfl) dX11_copy_43 (fun rq8 σ7 hoq => ?_)
        exact k_iret (pc := 46) B dX11_copy_46
      · refine k_aload_n (pc := 30) F 0 0 dX11_copy_30 rfl rfl ?_
        refine gf_48_20 (pc := 31) F w_4_190 dX11_copy_31 ?_
        refine k_iload_n (pc := 34) F 3 3 dX11_copy_34 rfl rfl ?_
        refine k_iald (pc := 35) F rfl dX11_copy_35 ?_
        refine k_if_ne (pc := 36) F 47 dX11_copy_36 (by decide) (fun _ => ?_) (fun _ => ?_)
        · refine k_aload_n (pc := 39) F 0 0 dX11_copy_39 rfl rfl ?_
          refine k_ldcw (pc := 40) F (v := (-1000000006 : Int32)) w_6_193 dX11_copy_40 ?_
          refine k_callVI (pc := 43) B (k := 48) (As := [.int (-1000000006 : Int32)]) (rest := []) (ct_X11_finds E (-1000000006 : Int32)  σ5) rfl rfl mv_X11_finds w_5_144 rfl hR_X11_copy_X11_finds rfl (Nat.le_of_ble_eq_true rfl) dX11_copy_43 (fun rq26 σ25 hoq => ?_)
          exact k_iret (pc := 46) B dX11_copy_46
        · refine k_aload_n (pc := 47) F 0 0 dX11_copy_47 rfl rfl ?_
          refine gf_48_20 (pc := 48) F w_4_190 dX11_copy_48 ?_
          refine k_iload_n (pc := 51) F 1 1 dX11_copy_51 rfl rfl ?_
          refine k_iald (pc := 52) F rfl dX11_copy_52 ?_
          refine k_aload_n (pc := 53) F 0 0 dX11_copy_53 rfl rfl ?_
          refine gf_48_20 (pc := 54) F w_4_190 dX11_copy_54 ?_
          refine k_iload_n (pc := 57) F 3 3 dX11_copy_57 rfl rfl ?_
          refine k_iald (pc := 58) F rfl dX11_copy_58 ?_
          refine k_icmp_eq (pc := 59) F 69 dX11_copy_59 (by decide) (fun _ => ?_) (fun _ => ?_)
          · refine k_iload_n (pc := 69) F 2 2 dX11_copy_69 rfl rfl ?_
            refine k_if_lt (pc := 70) F 110 dX11_copy_70 (by decide) (fun _ => ?_) (fun _ => ?_)
            · refine k_aload_n (pc := 110) F 0 0 dX11_copy_110 rfl rfl ?_
              refine k_ldc (pc := 111) F (v := (-1000000001 : Int32)) w_5_143 dX11_copy_111 ?_
              refine k_callVI (pc := 113) B (k := 48) (As := [.int (-1000000001 : Int32)]) (rest := []) (ct_X11_finds E (-1000000001 : Int32)  σ5) rfl rfl mv_X11_finds w_5_144 rfl hR_X11_copy_X11_finds rfl (Nat.le_of_ble_eq_true rfl) dX11_copy_113 (fun rq10 σ9 hoq => ?_)
              exact k_iret (pc := 116) B dX11_copy_116
            · refine k_iload (pc := 73) F 4 4 dX11_copy_73 rfl ?_
              refine k_if_lt (pc := 75) F 110 dX11_copy_75 (by decide) (fun _ => ?_) (fun _ => ?_)
              · refine k_aload_n (pc := 110) F 0 0 dX11_copy_110 rfl rfl ?_
                refine k_ldc (pc := 111) F (v := (-1000000001 : Int32)) w_5_143 dX11_copy_111 ?_
                refine k_callVI (pc := 113) B (k := 48) (As := [.int (-1000000001 : Int32)]) (rest := []) (ct_X11_finds E (-1000000001 : Int32)  σ5) rfl rfl mv_X11_finds w_5_144 rfl hR_X11_copy_X11_finds rfl (Nat.le_of_ble_eq_true rfl) dX11_copy_113 (fun rq12 σ11 hoq => ?_)
                exact k_iret (pc := 116) B dX11_copy_116
              · refine k_iload (pc := 78) F 5 5 dX11_copy_78 rfl ?_
                refine k_if_lt (pc := 80) F 110 dX11_copy_80 (by decide) (fun _ => ?_) (fun _ => ?_)
                · refine k_aload_n (pc := 110) F 0 0 dX11_copy_110 rfl rfl ?_
                  refine k_ldc (pc := 111) F (v := (-1000000001 : Int32)) w_5_143 dX11_copy_111 ?_
                  refine k_callVI (pc := 113) B (k := 48) (As := [.int (-1000000001 : Int32)]) (rest := []) (ct_X11_finds E (-1000000001 : Int32)  σ5) rfl rfl mv_X11_finds w_5_144 rfl hR_X11_copy_X11_finds rfl (Nat.le_of_ble_eq_true rfl) dX11_copy_113 (fun rq14 σ13 hoq => ?_)
                  exact k_iret (pc := 116) B dX11_copy_116
                · refine k_iload_n (pc := 83) F 2 2 dX11_copy_83 rfl rfl ?_
                  refine k_aload_n (pc := 84) F 0 0 dX11_copy_84 rfl rfl ?_
                  refine gf_48_21 (pc := 85) F w_4_191 dX11_copy_85 ?_
                  refine k_iload_n (pc := 88) F 1 1 dX11_copy_88 rfl rfl ?_
                  refine k_iald (pc := 89) F rfl dX11_copy_89 ?_
                  refine k_iload (pc := 90) F 5 5 dX11_copy_90 rfl ?_
                  refine k_isub (pc := 92) F dX11_copy_92 ?_
                  refine k_icmp_gt (pc := 93) F 110 dX11_copy_93 (by decide) (fun _ => ?_) (fun _ => ?_)
                  · refine k_aload_n (pc := 110) F 0 0 dX11_copy_110 rfl rfl ?_
                    refine k_ldc (pc := 111) F (v := (-1000000001 : Int32)) w_5_143 dX11_copy_111 ?_
                    refine k_callVI (pc := 113) B (k := 48) (As := [.int (-1000000001 : Int32)]) (rest := []) (ct_X11_finds E (-1000000001 : Int32)  σ5) rfl rfl mv_X11_finds w_5_144 rfl hR_X11_copy_X11_finds rfl (Nat.le_of_ble_eq_true rfl) dX11_copy_113 (fun rq16 σ15 hoq => ?_)
                    exact k_iret (pc := 116) B dX11_copy_116
                  · refine k_iload (pc := 96) F 4 4 dX11_copy_96 rfl ?_
                    refine k_aload_n (pc := 98) F 0 0 dX11_copy_98 rfl rfl ?_
                    refine gf_48_21 (pc := 99) F w_4_191 dX11_copy_99 ?_
                    refine k_iload_n (pc := 102) F 3 3 dX11_copy_102 rfl rfl ?_
                    refine k_iald (pc := 103) F rfl dX11_copy_103 ?_
                    refine k_iload (pc := 104) F 5 5 dX11_copy_104 rfl ?_
                    refine k_isub (pc := 106) F dX11_copy_106 ?_
                    refine k_icmp_le (pc := 107) F 117 dX11_copy_107 (by decide) (fun _ => ?_) (fun _ => ?_)
                    · refine k_iconst (pc := 117) F (v := (0 : Int32)) dX11_copy_117 ci_0 ?_
                      refine k_istore F (lv' := [(6, .int (0 : Int32)), (0, .ref (ad E 48)), (1, .int aq0), (2, .int aq1), (3, .int aq2), (4, .int aq3), (5, .int aq4)]) 6 dX11_copy_118 (by decide) rfl ?_
                      exact k_sub [1, 2, 3, 4, 5, 6, 0] rfl (t_X11_copy_L120 B aq0 aq1 aq2 aq3 aq4  _ (fun   σ => by
                            exact k_sub [0, 1, 2, 3] rfl (t_X11_copy_154 B aq2 aq3 aq4   σ)) FU (0 : Int32)  σ5)
                    · refine k_aload_n (pc := 110) F 0 0 dX11_copy_110 rfl rfl ?_
                      refine k_ldc (pc := 111) F (v := (-1000000001 : Int32)) w_5_143 dX11_copy_111 ?_
                      refine k_callVI (pc := 113) B (k := 48) (As := [.int (-1000000001 : Int32)]) (rest := []) (ct_X11_finds E (-1000000001 : Int32)  σ5) rfl rfl mv_X11_finds w_5_144 rfl hR_X11_copy_X11_finds rfl (Nat.le_of_ble_eq_true rfl) dX11_copy_113 (fun rq22 σ21 hoq => ?_)
                      exact k_iret (pc := 116) B dX11_copy_116
          · refine k_aload_n (pc := 62) F 0 0 dX11_copy_62 rfl rfl ?_
            refine k_ldc (pc := 63) F (v := (-1000000003 : Int32)) w_5_201 dX11_copy_63 ?_
            refine k_callVI (pc := 65) B (k := 48) (As := [.int (-1000000003 : Int32)]) (rest := []) (ct_X11_finds E (-1000000003 : Int32)  σ5) rfl rfl mv_X11_finds w_5_144 rfl hR_X11_copy_X11_finds rfl (Nat.le_of_ble_eq_true rfl) dX11_copy_65 (fun rq24 σ23 hoq => ?_)
            exact k_iret (pc := 68) B dX11_copy_68
set_option maxHeartbeats 4000000 in
set_option maxRecDepth 100000 in
theorem ct_X11_copy (E : En) (aq0 : Int32) (aq1 : Int32) (aq2 : Int32) (aq3 : Int32) (aq4 : Int32)  (σ : Mm) : CtI E yX11_copy cX11_copy 7 (some .int) H_X11_copy [.ref (ad E 48), .int aq0, .int aq1, .int aq2, .int aq3, .int aq4] σ (f_X11_copy aq0 aq1 aq2 aq3 aq4 σ) := ct_I (by decide) (Nat.le_of_ble_eq_true rfl) rfl (fun G B => t_X11_copy B aq0 aq1 aq2 aq3 aq4  σ)
abbrev H_X11_lead : Nat := 15
theorem hR_X11_lead_X11_layRow : H_X11_layRow + 1 ≤ H_X11_lead ∧ 8 + (5 + 11) + 40 * H_X11_layRow ≤ 40 * H_X11_lead := by decide
theorem hR_X11_lead_X11_leads : H_X11_leads + 1 ≤ H_X11_lead ∧ 8 + (2 + 11) + 40 * H_X11_leads ≤ 40 * H_X11_lead := by decide
theorem hR_X11_lead_X11_isSheet : H_X11_isSheet + 1 ≤ H_X11_lead ∧ 8 + (1 + 11) + 40 * H_X11_isSheet ≤ 40 * H_X11_lead := by decide
theorem hR_X11_lead_X11_finds : H_X11_finds + 1 ≤ H_X11_lead ∧ 8 + (2 + 11) + 40 * H_X11_finds ≤ 40 * H_X11_lead := by decide
set_option maxHeartbeats 4000000 in
set_option maxRecDepth 100000 in
theorem t_X11_lead_L58b {E : En} {G : Cx} (B : Bx E G cX11_lead 4 RX11 H_X11_lead (some .int)) (xq1 : Int32)   (L58 : Int32 → Mm → Option (Int32 × Mm)) (hL58 : ∀ (xq3 : Int32)  (σ : Mm), KR E G 4 (ZI E G) (L58 xq3 σ) 58 [(0, .ref (ad E 48)), (1, .int xq1), (3, .int xq3)] [] σ) (xq3 : Int32)  (σ : Mm) : KR E G 4 (ZI E G) (f_X11_lead_L58 xq1 L58 xq3 σ) 58 [(0, .ref (ad E 48)), (1, .int xq1), (3, .int xq3)] [] σ := by
  have F := B.1
  unfold f_X11_lead_L58
  refine k_iload_n (pc := 58) F 3 2 dX11_lead_58 rfl rfl ?_
  refine k_aload_n (pc := 59) F 0 0 dX11_lead_59 rfl rfl ?_
  refine gf_48_63 (pc := 60) F w_4_233 dX11_lead_60 ?_
  refine k_icmp_ge (pc := 63) F 90 dX11_lead_63 (by decide) (fun _ => ?_) (fun _ => ?_)
  · refine k_aload_n (pc := 90) F 0 0 dX11_lead_90 rfl rfl ?_
    refine gf_48_63 (pc := 91) F w_4_233 dX11_lead_91 ?_
    exact k_iret (pc := 94) B dX11_lead_94
  · refine k_aload_n (pc := 66) F 0 0 dX11_lead_66 rfl rfl ?_
    refine gf_48_22 (pc := 67) F w_4_192 dX11_lead_67 ?_
    refine k_bipush (pc := 70) F (v := (40 : Int32)) dX11_lead_70 cb_40 ?_
    refine k_iload_n (pc := 72) F 1 1 dX11_lead_72 rfl rfl ?_
    refine k_imul (pc := 73) F dX11_lead_73 ?_
    refine k_iload_n (pc := 74) F 3 2 dX11_lead_74 rfl rfl ?_
    refine k_iadd (pc := 75) F dX11_lead_75 ?_
    refine k_aload_n (pc := 76) F 0 0 dX11_lead_76 rfl rfl ?_
    refine gf_48_62 (pc := 77) F w_4_232 dX11_lead_77 ?_
    refine k_iload_n (pc := 80) F 3 2 dX11_lead_80 rfl rfl ?_
    refine k_iald (pc := 81) F rfl dX11_lead_81 ?_
    refine k_i2l (pc := 82) F dX11_lead_82 ?_
    refine k_last (pc := 83) F rfl dX11_lead_83 (fun σ7 => ?_)
    refine k_iinc (pc := 84) F (c := (1 : Int32)) (lw := fun wq => [(3, .int wq), (0, .ref (ad E 48)), (1, .int xq1)]) 3 2 dX11_lead_84 rfl ci_1 (by decide) (fun _ => rfl) (fun vq8 => ?_)
    refine k_goto (pc := 87) F 58 dX11_lead_87 (by decide) ?_
    exact k_sub [1, 2, 0] rfl (hL58 vq8 σ7)
set_option maxHeartbeats 4000000 in
set_option maxRecDepth 100000 in
theorem t_X11_lead_L58 {E : En} {G : Cx} (B : Bx E G cX11_lead 4 RX11 H_X11_lead (some .int)) (xq1 : Int32)   : ∀ (n : Nat) (xq3 : Int32)  (σ : Mm), KR E G 4 (ZI E G) (fx (fun _ _ => none) n (f_X11_lead_L58 xq1) xq3 σ) 58 [(0, .ref (ad E 48)), (1, .int xq1), (3, .int xq3)] [] σ :=
  fun n => fx_ind (P := fun f => ∀ (xq3 : Int32)  (σ : Mm), KR E G 4 (ZI E G) (f xq3 σ) 58 [(0, .ref (ad E 48)), (1, .int xq1), (3, .int xq3)] [] σ) (fun _ _ => k_none) (fun L58 hL58 xq3 σ => t_X11_lead_L58b B xq1   L58 hL58 xq3 σ) n
set_option maxHeartbeats 4000000 in
set_option maxRecDepth 100000 in
theorem t_X11_lead {E : En} {G : Cx} (B : Bx E G cX11_lead 4 RX11 H_X11_lead (some .int)) (aq0 : Int32)  (σ : Mm) : KR E G 4 (ZI E G) (f_X11_lead aq0 σ) 0 [(0, .ref (ad E 48)), (1, .int aq0)] [] σ := by
  have F := B.1
  unfold f_X11_lead
  refine k_iload_n (pc := 0) F 1 1 dX11_lead_0 rfl rfl ?_
  refine k_callSI (pc := 1) B (As := [.int aq0]) (rest := []) (ct_X11_isSheet E aq0  σ) ms_X11_isSheet w_6_190 rfl hR_X11_lead_X11_isSheet rfl (Nat.le_of_ble_eq_true rfl) dX11_lead_1 (fun rq2 σ1 hoq => ?_)
  refine k_if_ne (pc := 4) F 14 dX11_lead_4 (by decide) (fun _ => ?_) (fun _ => ?_)
  · refine k_aload_n (pc := 7) F 0 0 dX11_lead_7 rfl rfl ?_
    refine k_ldc (pc := 8) F (v := (-1000000001 : Int32)) w_5_143 dX11_lead_8 ?_
    refine k_callVI (pc := 10) B (k := 48) (As := [.int (-1000000001 : Int32)]) (rest := []) (ct_X11_finds E (-1000000001 : Int32)  σ1) rfl rfl mv_X11_finds w_5_144 rfl hR_X11_lead_X11_finds rfl (Nat.le_of_ble_eq_true rfl) dX11_lead_10 (fun rq14 σ13 hoq => ?_)
    exact k_iret (pc := 13) B dX11_lead_13
  · refine k_aload_n (pc := 14) F 0 0 dX11_lead_14 rfl rfl ?_
    refine k_callVI (pc := 15) B (k := 48) (As := []) (rest := []) (ct_X11_leads E   σ1) rfl rfl mv_X11_leads w_6_143 rfl hR_X11_lead_X11_leads rfl (Nat.le_of_ble_eq_true rfl) dX11_lead_15 (fun rq4 σ3 hoq => ?_)
    refine k_istore_n F (lv' := [(2, .int rq4), (0, .ref (ad E 48)), (1, .int aq0)]) 2 dX11_lead_18 rfl (by decide) rfl ?_
    refine k_iload_n (pc := 19) F 2 0 dX11_lead_19 rfl rfl ?_
    refine k_if_eq (pc := 20) F 29 dX11_lead_20 (by decide) (fun _ => ?_) (fun _ => ?_)
    · refine k_aload_n (pc := 29) F 0 1 dX11_lead_29 rfl rfl ?_
      refine gf_48_63 (pc := 30) F w_4_233 dX11_lead_30 ?_
      refine k_bipush (pc := 33) F (v := (40 : Int32)) dX11_lead_33 cb_40 ?_
      refine k_icmp_le (pc := 35) F 45 dX11_lead_35 (by decide) (fun _ => ?_) (fun _ => ?_)
      · refine k_aload_n (pc := 45) F 0 1 dX11_lead_45 rfl rfl ?_
        refine k_iload_n (pc := 46) F 1 2 dX11_lead_46 rfl rfl ?_
        refine k_bipush (pc := 47) F (v := (8 : Int32)) dX11_lead_47 cb_8 ?_
        refine k_aload_n (pc := 49) F 0 1 dX11_lead_49 rfl rfl ?_
        refine gf_48_63 (pc := 50) F w_4_233 dX11_lead_50 ?_
        refine k_callVV (pc := 53) B (k := 48) (As := [.int aq0, .int (8 : Int32), .int (σ3.1 48 63)]) (rest := []) (ct_X11_layRow E aq0 (8 : Int32) (σ3.1 48 63)  σ3) rfl rfl mv_X11_layRow w_6_220 rfl hR_X11_lead_X11_layRow rfl (Nat.le_of_ble_eq_true rfl) dX11_lead_53 (fun rq6 σ5 hoq => ?_)
        refine k_iconst (pc := 56) F (v := (0 : Int32)) dX11_lead_56 ci_0 ?_
        refine k_istore_n F (lv' := [(3, .int (0 : Int32)), (2, .int rq4), (0, .ref (ad E 48)), (1, .int aq0)]) 3 dX11_lead_57 rfl (by decide) rfl ?_
        exact k_sub [2, 3, 0] rfl (t_X11_lead_L58 B aq0   FU (0 : Int32)  σ5)
      · refine k_aload_n (pc := 38) F 0 1 dX11_lead_38 rfl rfl ?_
        refine k_ldc (pc := 39) F (v := (-1000000002 : Int32)) w_5_148 dX11_lead_39 ?_
        refine k_callVI (pc := 41) B (k := 48) (As := [.int (-1000000002 : Int32)]) (rest := []) (ct_X11_finds E (-1000000002 : Int32)  σ3) rfl rfl mv_X11_finds w_5_144 rfl hR_X11_lead_X11_finds rfl (Nat.le_of_ble_eq_true rfl) dX11_lead_41 (fun rq10 σ9 hoq => ?_)
        exact k_iret (pc := 44) B dX11_lead_44
    · refine k_aload_n (pc := 23) F 0 1 dX11_lead_23 rfl rfl ?_
      refine k_iload_n (pc := 24) F 2 0 dX11_lead_24 rfl rfl ?_
      refine k_callVI (pc := 25) B (k := 48) (As := [.int rq4]) (rest := []) (ct_X11_finds E rq4  σ3) rfl rfl mv_X11_finds w_5_144 rfl hR_X11_lead_X11_finds rfl (Nat.le_of_ble_eq_true rfl) dX11_lead_25 (fun rq12 σ11 hoq => ?_)
      exact k_iret (pc := 28) B dX11_lead_28
set_option maxHeartbeats 4000000 in
set_option maxRecDepth 100000 in
theorem ct_X11_lead (E : En) (aq0 : Int32)  (σ : Mm) : CtI E yX11_lead cX11_lead 4 (some .int) H_X11_lead [.ref (ad E 48), .int aq0] σ (f_X11_lead aq0 σ) := ct_I (by decide) (Nat.le_of_ble_eq_true rfl) rfl (fun G B => t_X11_lead B aq0  σ)
abbrev H_X11_passes : Nat := 0
set_option maxHeartbeats 4000000 in
set_option maxRecDepth 100000 in
theorem t_X11_passes {E : En} {G : Cx} (B : Bx E G cX11_passes 4 RX11 H_X11_passes (some .int)) (aq0 : Int32) (aq1 : Int32) (aq2 : Int32)  (σ : Mm) : KR E G 4 (ZI E G) (f_X11_passes aq0 aq1 aq2 σ) 0 [(0, .ref (ad E 48)), (1, .int aq0), (2, .int aq1), (3, .int aq2)] [] σ := by
  have F := B.1
  unfold f_X11_passes
  refine k_aload_n (pc := 0) F 0 0 dX11_passes_0 rfl rfl ?_
  refine gf_48_19 (pc := 1) F w_4_189 dX11_passes_1 ?_
  refine k_iload_n (pc := 4) F 2 2 dX11_passes_4 rfl rfl ?_
  refine k_iload_n (pc := 5) F 1 1 dX11_passes_5 rfl rfl ?_
  refine k_if_eq (pc := 6) F 13 dX11_passes_6 (by decide) (fun _ => ?_) (fun _ => ?_)
  · refine k_aload_n (pc := 13) F 0 0 dX11_passes_13 rfl rfl ?_
    refine gf_48_19 (pc := 14) F w_4_189 dX11_passes_14 ?_
    refine k_iload_n (pc := 17) F 2 2 dX11_passes_17 rfl rfl ?_
    refine k_iald (pc := 18) F rfl dX11_passes_18 ?_
    refine k_iast (pc := 19) F rfl dX11_passes_19 (fun σ1 => ?_)
    refine k_aload_n (pc := 20) F 0 0 dX11_passes_20 rfl rfl ?_
    refine gf_48_19 (pc := 21) F w_4_189 dX11_passes_21 ?_
    refine k_iload_n (pc := 24) F 2 2 dX11_passes_24 rfl rfl ?_
    refine k_iald (pc := 25) F rfl dX11_passes_25 ?_
    exact k_iret (pc := 26) B dX11_passes_26
  · refine k_iload_n (pc := 9) F 3 3 dX11_passes_9 rfl rfl ?_
    refine k_goto (pc := 10) F 19 dX11_passes_10 (by decide) ?_
    refine k_iast (pc := 19) F rfl dX11_passes_19 (fun σ2 => ?_)
    refine k_aload_n (pc := 20) F 0 0 dX11_passes_20 rfl rfl ?_
    refine gf_48_19 (pc := 21) F w_4_189 dX11_passes_21 ?_
    refine k_iload_n (pc := 24) F 2 2 dX11_passes_24 rfl rfl ?_
    refine k_iald (pc := 25) F rfl dX11_passes_25 ?_
    exact k_iret (pc := 26) B dX11_passes_26
set_option maxHeartbeats 4000000 in
set_option maxRecDepth 100000 in
theorem ct_X11_passes (E : En) (aq0 : Int32) (aq1 : Int32) (aq2 : Int32)  (σ : Mm) : CtI E yX11_passes cX11_passes 4 (some .int) H_X11_passes [.ref (ad E 48), .int aq0, .int aq1, .int aq2] σ (f_X11_passes aq0 aq1 aq2 σ) := ct_I (by decide) (Nat.le_of_ble_eq_true rfl) rfl (fun G B => t_X11_passes B aq0 aq1 aq2  σ)
abbrev H_X11_passAll : Nat := 1
theorem hR_X11_passAll_X11_passes : H_X11_passes + 1 ≤ H_X11_passAll ∧ 8 + (4 + 11) + 40 * H_X11_passes ≤ 40 * H_X11_passAll := by decide
set_option maxHeartbeats 4000000 in
set_option maxRecDepth 100000 in
theorem t_X11_passAll_L4b {E : En} {G : Cx} (B : Bx E G cX11_passAll 4 RX11 H_X11_passAll none) (xq1 : Int32)  (K117 : Int32 → Mm → Option (Unit × Mm)) (hK117 : ∀ (xq2 : Int32)  (σ : Mm), KR E G 4 (ZV E G) (K117 xq2 σ) 117 [(0, .ref (ad E 48)), (1, .int xq1), (2, .int xq2)] [] σ)  (L4 : Int32 → Int32 → Mm → Option (Unit × Mm)) (hL4 : ∀ (xq2 : Int32) (xq3 : Int32)  (σ : Mm), KR E G 4 (ZV E G) (L4 xq2 xq3 σ) 4 [(0, .ref (ad E 48)), (1, .int xq1), (2, .int xq2), (3, .int xq3)] [] σ) (xq2 : Int32) (xq3 : Int32)  (σ : Mm) : KR E G 4 (ZV E G) (f_X11_passAll_L4 K117 xq1 L4 xq2 xq3 σ) 4 [(0, .ref (ad E 48)), (1, .int xq1), (2, .int xq2), (3, .int xq3)] [] σ := by
  have F := B.1
  unfold f_X11_passAll_L4
  refine k_iload_n (pc := 4) F 3 3 dX11_passAll_4 rfl rfl ?_
  refine k_bipush (pc := 5) F (v := (42 : Int32)) dX11_passAll_5 cb_42 ?_
  refine k_icmp_ge (pc := 7) F 117 dX11_passAll_7 (by decide) (fun _ => ?_) (fun _ => ?_)
  · exact k_sub [0, 1, 2] rfl (hK117 xq2 σ)
  · refine k_aload_n (pc := 10) F 0 0 dX11_passAll_10 rfl rfl ?_
    refine gf_48_2 (pc := 11) F w_4_172 dX11_passAll_11 ?_
    refine k_iload_n (pc := 14) F 3 3 dX11_passAll_14 rfl rfl ?_
    refine k_aload_n (pc := 15) F 0 0 dX11_passAll_15 rfl rfl ?_
    refine k_iload_n (pc := 16) F 1 1 dX11_passAll_16 rfl rfl ?_
    refine k_iload_n (pc := 17) F 2 2 dX11_passAll_17 rfl rfl ?_
    refine k_aload_n (pc := 18) F 0 0 dX11_passAll_18 rfl rfl ?_
    refine gf_48_2 (pc := 19) F w_4_172 dX11_passAll_19 ?_
    refine k_iload_n (pc := 22) F 3 3 dX11_passAll_22 rfl rfl ?_
    refine k_iald (pc := 23) F rfl dX11_passAll_23 ?_
    refine k_callVI (pc := 24) B (k := 48) (As := [.int xq1, .int xq2, .int (σ.1 50 (ix xq3))]) (rest := [.int xq3, .ref (ad E 50)]) (ct_X11_passes E xq1 xq2 (σ.1 50 (ix xq3))  σ) rfl rfl mv_X11_passes w_7_4 rfl hR_X11_passAll_X11_passes rfl (Nat.le_of_ble_eq_true rfl) dX11_passAll_24 (fun rq2 σ1 hoq => ?_)
    refine k_iast (pc := 27) F rfl dX11_passAll_27 (fun σ3 => ?_)
    refine k_aload_n (pc := 28) F 0 0 dX11_passAll_28 rfl rfl ?_
    refine gf_48_3 (pc := 29) F w_4_173 dX11_passAll_29 ?_
    refine k_iload_n (pc := 32) F 3 3 dX11_passAll_32 rfl rfl ?_
    refine k_aload_n (pc := 33) F 0 0 dX11_passAll_33 rfl rfl ?_
    refine k_iload_n (pc := 34) F 1 1 dX11_passAll_34 rfl rfl ?_
    refine k_iload_n (pc := 35) F 2 2 dX11_passAll_35 rfl rfl ?_
    refine k_iconst (pc := 36) F (v := (1 : Int32)) dX11_passAll_36 ci_1 ?_
    refine k_iadd (pc := 37) F dX11_passAll_37 ?_
    refine k_aload_n (pc := 38) F 0 0 dX11_passAll_38 rfl rfl ?_
    refine gf_48_3 (pc := 39) F w_4_173 dX11_passAll_39 ?_
    refine k_iload_n (pc := 42) F 3 3 dX11_passAll_42 rfl rfl ?_
    refine k_iald (pc := 43) F rfl dX11_passAll_43 ?_
    refine k_callVI (pc := 44) B (k := 48) (As := [.int xq1, .int (xq2 + (1 : Int32)), .int (σ3.1 51 (ix xq3))]) (rest := [.int xq3, .ref (ad E 51)]) (ct_X11_passes E xq1 (xq2 + (1 : Int32)) (σ3.1 51 (ix xq3))  σ3) rfl rfl mv_X11_passes w_7_4 rfl hR_X11_passAll_X11_passes rfl (Nat.le_of_ble_eq_true rfl) dX11_passAll_44 (fun rq5 σ4 hoq => ?_)
    refine k_iast (pc := 47) F rfl dX11_passAll_47 (fun σ6 => ?_)
    refine k_aload_n (pc := 48) F 0 0 dX11_passAll_48 rfl rfl ?_
    refine gf_48_4 (pc := 49) F w_4_174 dX11_passAll_49 ?_
    refine k_iload_n (pc := 52) F 3 3 dX11_passAll_52 rfl rfl ?_
    refine k_aload_n (pc := 53) F 0 0 dX11_passAll_53 rfl rfl ?_
    refine k_iload_n (pc := 54) F 1 1 dX11_passAll_54 rfl rfl ?_
    refine k_iload_n (pc := 55) F 2 2 dX11_passAll_55 rfl rfl ?_
    refine k_iconst (pc := 56) F (v := (2 : Int32)) dX11_passAll_56 ci_2 ?_
    refine k_iadd (pc := 57) F dX11_passAll_57 ?_
    refine k_aload_n (pc := 58) F 0 0 dX11_passAll_58 rfl rfl ?_
    refine gf_48_4 (pc := 59) F w_4_174 dX11_passAll_59 ?_
    refine k_iload_n (pc := 62) F 3 3 dX11_passAll_62 rfl rfl ?_
    refine k_iald (pc := 63) F rfl dX11_passAll_63 ?_
    refine k_callVI (pc := 64) B (k := 48) (As := [.int xq1, .int (xq2 + (2 : Int32)), .int (σ6.1 52 (ix xq3))]) (rest := [.int xq3, .ref (ad E 52)]) (ct_X11_passes E xq1 (xq2 + (2 : Int32)) (σ6.1 52 (ix xq3))  σ6) rfl rfl mv_X11_passes w_7_4 rfl hR_X11_passAll_X11_passes rfl (Nat.le_of_ble_eq_true rfl) dX11_passAll_64 (fun rq8 σ7 hoq => ?_)
    refine k_iast (pc := 67) F rfl dX11_passAll_67 (fun σ9 => ?_)
    refine k_aload_n (pc := 68) F 0 0 dX11_passAll_68 rfl rfl ?_
    refine gf_48_5 (pc := 69) F w_4_175 dX11_passAll_69 ?_
    refine k_iload_n (pc := 72) F 3 3 dX11_passAll_72 rfl rfl ?_
    refine k_aload_n (pc := 73) F 0 0 dX11_passAll_73 rfl rfl ?_
    refine k_iload_n (pc := 74) F 1 1 dX11_passAll_74 rfl rfl ?_
    refine k_iload_n (pc := 75) F 2 2 dX11_passAll_75 rfl rfl ?_
    refine k_iconst (pc := 76) F (v := (3 : Int32)) dX11_passAll_76 ci_3 ?_
    refine k_iadd (pc := 77) F dX11_passAll_77 ?_
    refine k_aload_n (pc := 78) F 0 0 dX11_passAll_78 rfl rfl ?_
    refine gf_48_5 (pc := 79) F w_4_175 dX11_passAll_79 ?_
    refine k_iload_n (pc := 82) F 3 3 dX11_passAll_82 rfl rfl ?_
    refine k_iald (pc := 83) F rfl dX11_passAll_83 ?_
    refine k_callVI (pc := 84) B (k := 48) (As := [.int xq1, .int (xq2 + (3 : Int32)), .int (σ9.1 53 (ix xq3))]) (rest := [.int xq3, .ref (ad E 53)]) (ct_X11_passes E xq1 (xq2 + (3 : Int32)) (σ9.1 53 (ix xq3))  σ9) rfl rfl mv_X11_passes w_7_4 rfl hR_X11_passAll_X11_passes rfl (Nat.le_of_ble_eq_true rfl) dX11_passAll_84 (fun rq11 σ10 hoq => ?_)
    refine k_iast (pc := 87) F rfl dX11_passAll_87 (fun σ12 => ?_)
    refine k_aload_n (pc := 88) F 0 0 dX11_passAll_88 rfl rfl ?_
    refine gf_48_6 (pc := 89) F w_4_176 dX11_passAll_89 ?_
    refine k_iload_n (pc := 92) F 3 3 dX11_passAll_92 rfl rfl ?_
    refine k_aload_n (pc := 93) F 0 0 dX11_passAll_93 rfl rfl ?_
    refine k_iload_n (pc := 94) F 1 1 dX11_passAll_94 rfl rfl ?_
    refine k_iload_n (pc := 95) F 2 2 dX11_passAll_95 rfl rfl ?_
    refine k_iconst (pc := 96) F (v := (4 : Int32)) dX11_passAll_96 ci_4 ?_
    refine k_iadd (pc := 97) F dX11_passAll_97 ?_
    refine k_aload_n (pc := 98) F 0 0 dX11_passAll_98 rfl rfl ?_
    refine gf_48_6 (pc := 99) F w_4_176 dX11_passAll_99 ?_
    refine k_iload_n (pc := 102) F 3 3 dX11_passAll_102 rfl rfl ?_
    refine k_iald (pc := 103) F rfl dX11_passAll_103 ?_
    refine k_callVI (pc := 104) B (k := 48) (As := [.int xq1, .int (xq2 + (4 : Int32)), .int (σ12.1 54 (ix xq3))]) (rest := [.int xq3, .ref (ad E 54)]) (ct_X11_passes E xq1 (xq2 + (4 : Int32)) (σ12.1 54 (ix xq3))  σ12) rfl rfl mv_X11_passes w_7_4 rfl hR_X11_passAll_X11_passes rfl (Nat.le_of_ble_eq_true rfl) dX11_passAll_104 (fun rq14 σ13 hoq => ?_)
    refine k_iast (pc := 107) F rfl dX11_passAll_107 (fun σ15 => ?_)
    refine k_iinc (pc := 108) F (c := (5 : Int32)) (lw := fun wq => [(2, .int wq), (0, .ref (ad E 48)), (1, .int xq1), (3, .int xq3)]) 2 2 dX11_passAll_108 rfl ci_5 (by decide) (fun _ => rfl) (fun vq16 => ?_)
    refine k_iinc (pc := 111) F (c := (1 : Int32)) (lw := fun wq => [(3, .int wq), (2, .int vq16), (0, .ref (ad E 48)), (1, .int xq1)]) 3 3 dX11_passAll_111 rfl ci_1 (by decide) (fun _ => rfl) (fun vq17 => ?_)
    refine k_goto (pc := 114) F 4 dX11_passAll_114 (by decide) ?_
    exact k_sub [2, 3, 1, 0] rfl (hL4 vq16 vq17 σ15)
set_option maxHeartbeats 4000000 in
set_option maxRecDepth 100000 in
theorem t_X11_passAll_L4 {E : En} {G : Cx} (B : Bx E G cX11_passAll 4 RX11 H_X11_passAll none) (xq1 : Int32)  (K117 : Int32 → Mm → Option (Unit × Mm)) (hK117 : ∀ (xq2 : Int32)  (σ : Mm), KR E G 4 (ZV E G) (K117 xq2 σ) 117 [(0, .ref (ad E 48)), (1, .int xq1), (2, .int xq2)] [] σ)  : ∀ (n : Nat) (xq2 : Int32) (xq3 : Int32)  (σ : Mm), KR E G 4 (ZV E G) (fx (fun _ _ _ => none) n (f_X11_passAll_L4 K117 xq1) xq2 xq3 σ) 4 [(0, .ref (ad E 48)), (1, .int xq1), (2, .int xq2), (3, .int xq3)] [] σ :=
  fun n => fx_ind (P := fun f => ∀ (xq2 : Int32) (xq3 : Int32)  (σ : Mm), KR E G 4 (ZV E G) (f xq2 xq3 σ) 4 [(0, .ref (ad E 48)), (1, .int xq1), (2, .int xq2), (3, .int xq3)] [] σ) (fun _ _ _ => k_none) (fun L4 hL4 xq2 xq3 σ => t_X11_passAll_L4b B xq1  K117 hK117  L4 hL4 xq2 xq3 σ) n
set_option maxHeartbeats 4000000 in
set_option maxRecDepth 100000 in
theorem t_X11_passAll_L119b {E : En} {G : Cx} (B : Bx E G cX11_passAll 4 RX11 H_X11_passAll none) (xq1 : Int32)  (K172 : Int32 → Mm → Option (Unit × Mm)) (hK172 : ∀ (xq2 : Int32)  (σ : Mm), KR E G 4 (ZV E G) (K172 xq2 σ) 172 [(0, .ref (ad E 48)), (1, .int xq1), (2, .int xq2)] [] σ)  (L119 : Int32 → Int32 → Mm → Option (Unit × Mm)) (hL119 : ∀ (xq2 : Int32) (xq3 : Int32)  (σ : Mm), KR E G 4 (ZV E G) (L119 xq2 xq3 σ) 119 [(0, .ref (ad E 48)), (1, .int xq1), (2, .int xq2), (3, .int xq3)] [] σ) (xq2 : Int32) (xq3 : Int32)  (σ : Mm) : KR E G 4 (ZV E G) (f_X11_passAll_L119 K172 xq1 L119 xq2 xq3 σ) 119 [(0, .ref (ad E 48)), (1, .int xq1), (2, .int xq2), (3, .int xq3)] [] σ := by
  have F := B.1
  unfold f_X11_passAll_L119
  refine k_iload_n (pc := 119) F 3 3 dX11_passAll_119 rfl rfl ?_
  refine k_bipush (pc := 120) F (v := (6 : Int32)) dX11_passAll_120 cb_6 ?_
  refine k_icmp_ge (pc := 122) F 172 dX11_passAll_122 (by decide) (fun _ => ?_) (fun _ => ?_)
  · exact k_sub [0, 1, 2] rfl (hK172 xq2 σ)
  · refine k_aload_n (pc := 125) F 0 0 dX11_passAll_125 rfl rfl ?_
    refine gf_48_1 (pc := 126) F w_4_171 dX11_passAll_126 ?_
    refine k_iload_n (pc := 129) F 3 3 dX11_passAll_129 rfl rfl ?_
    refine k_aload_n (pc := 130) F 0 0 dX11_passAll_130 rfl rfl ?_
    refine k_iload_n (pc := 131) F 1 1 dX11_passAll_131 rfl rfl ?_
    refine k_iload_n (pc := 132) F 2 2 dX11_passAll_132 rfl rfl ?_
    refine k_aload_n (pc := 133) F 0 0 dX11_passAll_133 rfl rfl ?_
    refine gf_48_1 (pc := 134) F w_4_171 dX11_passAll_134 ?_
    refine k_iload_n (pc := 137) F 3 3 dX11_passAll_137 rfl rfl ?_
    refine k_iald (pc := 138) F rfl dX11_passAll_138 ?_
    refine k_callVI (pc := 139) B (k := 48) (As := [.int xq1, .int xq2, .int (σ.1 49 (ix xq3))]) (rest := [.int xq3, .ref (ad E 49)]) (ct_X11_passes E xq1 xq2 (σ.1 49 (ix xq3))  σ) rfl rfl mv_X11_passes w_7_4 rfl hR_X11_passAll_X11_passes rfl (Nat.le_of_ble_eq_true rfl) dX11_passAll_139 (fun rq19 σ18 hoq => ?_)
    refine k_iast (pc := 142) F rfl dX11_passAll_142 (fun σ20 => ?_)
    refine k_aload_n (pc := 143) F 0 0 dX11_passAll_143 rfl rfl ?_
    refine gf_48_8 (pc := 144) F w_4_178 dX11_passAll_144 ?_
    refine k_iload_n (pc := 147) F 3 3 dX11_passAll_147 rfl rfl ?_
    refine k_aload_n (pc := 148) F 0 0 dX11_passAll_148 rfl rfl ?_
    refine k_iload_n (pc := 149) F 1 1 dX11_passAll_149 rfl rfl ?_
    refine k_iload_n (pc := 150) F 2 2 dX11_passAll_150 rfl rfl ?_
    refine k_iconst (pc := 151) F (v := (1 : Int32)) dX11_passAll_151 ci_1 ?_
    refine k_iadd (pc := 152) F dX11_passAll_152 ?_
    refine k_aload_n (pc := 153) F 0 0 dX11_passAll_153 rfl rfl ?_
    refine gf_48_8 (pc := 154) F w_4_178 dX11_passAll_154 ?_
    refine k_iload_n (pc := 157) F 3 3 dX11_passAll_157 rfl rfl ?_
    refine k_iald (pc := 158) F rfl dX11_passAll_158 ?_
    refine k_callVI (pc := 159) B (k := 48) (As := [.int xq1, .int (xq2 + (1 : Int32)), .int (σ20.1 55 (ix xq3))]) (rest := [.int xq3, .ref (ad E 55)]) (ct_X11_passes E xq1 (xq2 + (1 : Int32)) (σ20.1 55 (ix xq3))  σ20) rfl rfl mv_X11_passes w_7_4 rfl hR_X11_passAll_X11_passes rfl (Nat.le_of_ble_eq_true rfl) dX11_passAll_159 (fun rq22 σ21 hoq => ?_)
    refine k_iast (pc := 162) F rfl dX11_passAll_162 (fun σ23 => ?_)
    refine k_iinc (pc := 163) F (c := (2 : Int32)) (lw := fun wq => [(2, .int wq), (0, .ref (ad E 48)), (1, .int xq1), (3, .int xq3)]) 2 2 dX11_passAll_163 rfl ci_2 (by decide) (fun _ => rfl) (fun vq24 => ?_)
    refine k_iinc (pc := 166) F (c := (1 : Int32)) (lw := fun wq => [(3, .int wq), (2, .int vq24), (0, .ref (ad E 48)), (1, .int xq1)]) 3 3 dX11_passAll_166 rfl ci_1 (by decide) (fun _ => rfl) (fun vq25 => ?_)
    refine k_goto (pc := 169) F 119 dX11_passAll_169 (by decide) ?_
    exact k_sub [2, 3, 1, 0] rfl (hL119 vq24 vq25 σ23)
set_option maxHeartbeats 4000000 in
set_option maxRecDepth 100000 in
theorem t_X11_passAll_L119 {E : En} {G : Cx} (B : Bx E G cX11_passAll 4 RX11 H_X11_passAll none) (xq1 : Int32)  (K172 : Int32 → Mm → Option (Unit × Mm)) (hK172 : ∀ (xq2 : Int32)  (σ : Mm), KR E G 4 (ZV E G) (K172 xq2 σ) 172 [(0, .ref (ad E 48)), (1, .int xq1), (2, .int xq2)] [] σ)  : ∀ (n : Nat) (xq2 : Int32) (xq3 : Int32)  (σ : Mm), KR E G 4 (ZV E G) (fx (fun _ _ _ => none) n (f_X11_passAll_L119 K172 xq1) xq2 xq3 σ) 119 [(0, .ref (ad E 48)), (1, .int xq1), (2, .int xq2), (3, .int xq3)] [] σ :=
  fun n => fx_ind (P := fun f => ∀ (xq2 : Int32) (xq3 : Int32)  (σ : Mm), KR E G 4 (ZV E G) (f xq2 xq3 σ) 119 [(0, .ref (ad E 48)), (1, .int xq1), (2, .int xq2), (3, .int xq3)] [] σ) (fun _ _ _ => k_none) (fun L119 hL119 xq2 xq3 σ => t_X11_passAll_L119b B xq1  K172 hK172  L119 hL119 xq2 xq3 σ) n
set_option maxHeartbeats 4000000 in
set_option maxRecDepth 100000 in
theorem t_X11_passAll_L174b {E : En} {G : Cx} (B : Bx E G cX11_passAll 4 RX11 H_X11_passAll none) (xq1 : Int32)   (L174 : Int32 → Int32 → Mm → Option (Unit × Mm)) (hL174 : ∀ (xq2 : Int32) (xq3 : Int32)  (σ : Mm), KR E G 4 (ZV E G) (L174 xq2 xq3 σ) 174 [(0, .ref (ad E 48)), (1, .int xq1), (2, .int xq2), (3, .int xq3)] [] σ) (xq2 : Int32) (xq3 : Int32)  (σ : Mm) : KR E G 4 (ZV E G) (f_X11_passAll_L174 xq1 L174 xq2 xq3 σ) 174 [(0, .ref (ad E 48)), (1, .int xq1), (2, .int xq2), (3, .int xq3)] [] σ := by
  have F := B.1
  unfold f_X11_passAll_L174
  refine k_iload_n (pc := 174) F 3 3 dX11_passAll_174 rfl rfl ?_
  refine k_iconst (pc := 175) F (v := (3 : Int32)) dX11_passAll_175 ci_3 ?_
  refine k_icmp_ge (pc := 176) F 226 dX11_passAll_176 (by decide) (fun _ => ?_) (fun _ => ?_)
  · exact k_vret (pc := 226) B dX11_passAll_226
  · refine k_aload_n (pc := 179) F 0 0 dX11_passAll_179 rfl rfl ?_
    refine gf_48_9 (pc := 180) F w_4_179 dX11_passAll_180 ?_
    refine k_iload_n (pc := 183) F 3 3 dX11_passAll_183 rfl rfl ?_
    refine k_aload_n (pc := 184) F 0 0 dX11_passAll_184 rfl rfl ?_
    refine k_iload_n (pc := 185) F 1 1 dX11_passAll_185 rfl rfl ?_
    refine k_iload_n (pc := 186) F 2 2 dX11_passAll_186 rfl rfl ?_
    refine k_aload_n (pc := 187) F 0 0 dX11_passAll_187 rfl rfl ?_
    refine gf_48_9 (pc := 188) F w_4_179 dX11_passAll_188 ?_
    refine k_iload_n (pc := 191) F 3 3 dX11_passAll_191 rfl rfl ?_
    refine k_iald (pc := 192) F rfl dX11_passAll_192 ?_
    refine k_callVI (pc := 193) B (k := 48) (As := [.int xq1, .int xq2, .int (σ.1 56 (ix xq3))]) (rest := [.int xq3, .ref (ad E 56)]) (ct_X11_passes E xq1 xq2 (σ.1 56 (ix xq3))  σ) rfl rfl mv_X11_passes w_7_4 rfl hR_X11_passAll_X11_passes rfl (Nat.le_of_ble_eq_true rfl) dX11_passAll_193 (fun rq27 σ26 hoq => ?_)
    refine k_iast (pc := 196) F rfl dX11_passAll_196 (fun σ28 => ?_)
    refine k_aload_n (pc := 197) F 0 0 dX11_passAll_197 rfl rfl ?_
    refine gf_48_10 (pc := 198) F w_4_180 dX11_passAll_198 ?_
    refine k_iload_n (pc := 201) F 3 3 dX11_passAll_201 rfl rfl ?_
    refine k_aload_n (pc := 202) F 0 0 dX11_passAll_202 rfl rfl ?_
    refine k_iload_n (pc := 203) F 1 1 dX11_passAll_203 rfl rfl ?_
    refine k_iload_n (pc := 204) F 2 2 dX11_passAll_204 rfl rfl ?_
    refine k_iconst (pc := 205) F (v := (1 : Int32)) dX11_passAll_205 ci_1 ?_
    refine k_iadd (pc := 206) F dX11_passAll_206 ?_
    refine k_aload_n (pc := 207) F 0 0 dX11_passAll_207 rfl rfl ?_
    refine gf_48_10 (pc := 208) F w_4_180 dX11_passAll_208 ?_
    refine k_iload_n (pc := 211) F 3 3 dX11_passAll_211 rfl rfl ?_
    refine k_iald (pc := 212) F rfl dX11_passAll_212 ?_
    refine k_callVI (pc := 213) B (k := 48) (As := [.int xq1, .int (xq2 + (1 : Int32)), .int (σ28.1 57 (ix xq3))]) (rest := [.int xq3, .ref (ad E 57)]) (ct_X11_passes E xq1 (xq2 + (1 : Int32)) (σ28.1 57 (ix xq3))  σ28) rfl rfl mv_X11_passes w_7_4 rfl hR_X11_passAll_X11_passes rfl (Nat.le_of_ble_eq_true rfl) dX11_passAll_213 (fun rq30 σ29 hoq => ?_)
    refine k_iast (pc := 216) F rfl dX11_passAll_216 (fun σ31 => ?_)
    refine k_iinc (pc := 217) F (c := (2 : Int32)) (lw := fun wq => [(2, .int wq), (0, .ref (ad E 48)), (1, .int xq1), (3, .int xq3)]) 2 2 dX11_passAll_217 rfl ci_2 (by decide) (fun _ => rfl) (fun vq32 => ?_)
    refine k_iinc (pc := 220) F (c := (1 : Int32)) (lw := fun wq => [(3, .int wq), (2, .int vq32), (0, .ref (ad E 48)), (1, .int xq1)]) 3 3 dX11_passAll_220 rfl ci_1 (by decide) (fun _ => rfl) (fun vq33 => ?_)
    refine k_goto (pc := 223) F 174 dX11_passAll_223 (by decide) ?_
    exact k_sub [2, 3, 1, 0] rfl (hL174 vq32 vq33 σ31)
set_option maxHeartbeats 4000000 in
set_option maxRecDepth 100000 in
theorem t_X11_passAll_L174 {E : En} {G : Cx} (B : Bx E G cX11_passAll 4 RX11 H_X11_passAll none) (xq1 : Int32)   : ∀ (n : Nat) (xq2 : Int32) (xq3 : Int32)  (σ : Mm), KR E G 4 (ZV E G) (fx (fun _ _ _ => none) n (f_X11_passAll_L174 xq1) xq2 xq3 σ) 174 [(0, .ref (ad E 48)), (1, .int xq1), (2, .int xq2), (3, .int xq3)] [] σ :=
  fun n => fx_ind (P := fun f => ∀ (xq2 : Int32) (xq3 : Int32)  (σ : Mm), KR E G 4 (ZV E G) (f xq2 xq3 σ) 174 [(0, .ref (ad E 48)), (1, .int xq1), (2, .int xq2), (3, .int xq3)] [] σ) (fun _ _ _ => k_none) (fun L174 hL174 xq2 xq3 σ => t_X11_passAll_L174b B xq1   L174 hL174 xq2 xq3 σ) n
set_option maxHeartbeats 4000000 in
set_option maxRecDepth 100000 in
theorem t_X11_passAll_172 {E : En} {G : Cx} (B : Bx E G cX11_passAll 4 RX11 H_X11_passAll none) (xq1 : Int32) (xq2 : Int32)   (σ : Mm) : KR E G 4 (ZV E G) (f_X11_passAll_172 xq1 xq2 σ) 172 [(0, .ref (ad E 48)), (1, .int xq1), (2, .int xq2)] [] σ := by
  have F := B.1
  unfold f_X11_passAll_172
  refine k_iconst (pc := 172) F (v := (0 : Int32)) dX11_passAll_172 ci_0 ?_
  refine k_istore_n F (lv' := [(3, .int (0 : Int32)), (0, .ref (ad E 48)), (1, .int xq1), (2, .int xq2)]) 3 dX11_passAll_173 rfl (by decide) rfl ?_
  exact k_sub [1, 2, 3, 0] rfl (t_X11_passAll_L174 B xq1   FU xq2 (0 : Int32)  σ)
set_option maxHeartbeats 4000000 in
set_option maxRecDepth 100000 in
theorem t_X11_passAll_117 {E : En} {G : Cx} (B : Bx E G cX11_passAll 4 RX11 H_X11_passAll none) (xq1 : Int32) (xq2 : Int32)   (σ : Mm) : KR E G 4 (ZV E G) (f_X11_passAll_117 xq1 xq2 σ) 117 [(0, .ref (ad E 48)), (1, .int xq1), (2, .int xq2)] [] σ := by
  have F := B.1
  unfold f_X11_passAll_117
  refine k_iconst (pc := 117) F (v := (0 : Int32)) dX11_passAll_117 ci_0 ?_
  refine k_istore_n F (lv' := [(3, .int (0 : Int32)), (0, .ref (ad E 48)), (1, .int xq1), (2, .int xq2)]) 3 dX11_passAll_118 rfl (by decide) rfl ?_
  exact k_sub [1, 2, 3, 0] rfl (t_X11_passAll_L119 B xq1  _ (fun xq2  σ => by
        exact k_sub [0, 1, 2] rfl (t_X11_passAll_172 B xq1 xq2   σ)) FU xq2 (0 : Int32)  σ)
set_option maxHeartbeats 4000000 in
set_option maxRecDepth 100000 in
theorem t_X11_passAll {E : En} {G : Cx} (B : Bx E G cX11_passAll 4 RX11 H_X11_passAll none) (aq0 : Int32)  (σ : Mm) : KR E G 4 (ZV E G) (f_X11_passAll aq0 σ) 0 [(0, .ref (ad E 48)), (1, .int aq0)] [] σ := by
  have F := B.1
  unfold f_X11_passAll
  refine k_iconst (pc := 0) F (v := (0 : Int32)) dX11_passAll_0 ci_0 ?_
  refine k_istore_n F (lv' := [(2, .int (0 : Int32)), (0, .ref (ad E 48)), (1, .int aq0)]) 2 dX11_passAll_1 rfl (by decide) rfl ?_
  refine k_iconst (pc := 2) F (v := (0 : Int32)) dX11_passAll_2 ci_0 ?_
  refine k_istore_n F (lv' := [(3, .int (0 : Int32)), (2, .int (0 : Int32)), (0, .ref (ad E 48)), (1, .int aq0)]) 3 dX11_passAll_3 rfl (by decide) rfl ?_
  exact k_sub [2, 3, 1, 0] rfl (t_X11_passAll_L4 B aq0  _ (fun xq2  σ => by
        exact k_sub [0, 1, 2] rfl (t_X11_passAll_117 B aq0 xq2   σ)) FU (0 : Int32) (0 : Int32)  σ)
set_option maxHeartbeats 4000000 in
set_option maxRecDepth 100000 in
theorem ct_X11_passAll (E : En) (aq0 : Int32)  (σ : Mm) : CtV E yX11_passAll cX11_passAll 4 none H_X11_passAll [.ref (ad E 48), .int aq0] σ (f_X11_passAll aq0 σ) := ct_V (by decide) (Nat.le_of_ble_eq_true rfl) rfl (fun G B => t_X11_passAll B aq0  σ)
abbrev H_X11_image : Nat := 2
theorem hR_X11_image_X11_passAll : H_X11_passAll + 1 ≤ H_X11_image ∧ 8 + (4 + 11) + 40 * H_X11_passAll ≤ 40 * H_X11_image := by decide
set_option maxHeartbeats 4000000 in
set_option maxRecDepth 100000 in
theorem t_X11_image {E : En} {G : Cx} (B : Bx E G cX11_image 1 RX11 H_X11_image (some .int))   (σ : Mm) : KR E G 1 (ZI E G) (f_X11_image  σ) 0 [(0, .ref (ad E 48))] [] σ := by
  have F := B.1
  unfold f_X11_image
  refine k_aload_n (pc := 0) F 0 0 dX11_image_0 rfl rfl ?_
  refine k_iconst (pc := 1) F (v := (1 : Int32)) dX11_image_1 ci_1 ?_
  refine k_callVV (pc := 2) B (k := 48) (As := [.int (1 : Int32)]) (rest := []) (ct_X11_passAll E (1 : Int32)  σ) rfl rfl mv_X11_passAll w_7_0 rfl hR_X11_image_X11_passAll rfl (Nat.le_of_ble_eq_true rfl) dX11_image_2 (fun rq2 σ1 hoq => ?_)
  refine k_aload_n (pc := 5) F 0 0 dX11_image_5 rfl rfl ?_
  refine k_aload_n (pc := 6) F 0 0 dX11_image_6 rfl rfl ?_
  refine gf_48_0 (pc := 7) F w_4_170 dX11_image_7 ?_
  refine pf_48_16 (pc := 10) F w_4_186 dX11_image_10 (fun σ3 => ?_)
  refine k_aload_n (pc := 13) F 0 0 dX11_image_13 rfl rfl ?_
  refine k_aload_n (pc := 14) F 0 0 dX11_image_14 rfl rfl ?_
  refine gf_48_7 (pc := 15) F w_4_177 dX11_image_15 ?_
  refine pf_48_17 (pc := 18) F w_4_187 dX11_image_18 (fun σ4 => ?_)
  refine k_aload_n (pc := 21) F 0 0 dX11_image_21 rfl rfl ?_
  refine k_aload_n (pc := 22) F 0 0 dX11_image_22 rfl rfl ?_
  refine gf_48_11 (pc := 23) F w_4_181 dX11_image_23 ?_
  refine pf_48_18 (pc := 26) F w_4_188 dX11_image_26 (fun σ5 => ?_)
  refine k_aload_n (pc := 29) F 0 0 dX11_image_29 rfl rfl ?_
  refine k_iconst (pc := 30) F (v := (1 : Int32)) dX11_image_30 ci_1 ?_
  refine pf_48_15 (pc := 31) F w_4_185 dX11_image_31 (fun σ6 => ?_)
  refine k_iconst (pc := 34) F (v := (1 : Int32)) dX11_image_34 ci_1 ?_
  exact k_iret (pc := 35) B dX11_image_35
set_option maxHeartbeats 4000000 in
set_option maxRecDepth 100000 in
theorem ct_X11_image (E : En)   (σ : Mm) : CtI E yX11_image cX11_image 1 (some .int) H_X11_image [.ref (ad E 48)] σ (f_X11_image  σ) := ct_I (by decide) (Nat.le_of_ble_eq_true rfl) rfl (fun G B => t_X11_image B   σ)
abbrev H_X11_undo : Nat := 2
theorem hR_X11_undo_X11_passAll : H_X11_passAll + 1 ≤ H_X11_undo ∧ 8 + (4 + 11) + 40 * H_X11_passAll ≤ 40 * H_X11_undo := by decide
theorem hR_X11_undo_X11_finds : H_X11_finds + 1 ≤ H_X11_undo ∧ 8 + (2 + 11) + 40 * H_X11_finds ≤ 40 * H_X11_undo := by decide
set_option maxHeartbeats 4000000 in
set_option maxRecDepth 100000 in
theorem t_X11_undo {E : En} {G : Cx} (B : Bx E G cX11_undo 1 RX11 H_X11_undo (some .int))   (σ : Mm) : KR E G 1 (ZI E G) (f_X11_undo  σ) 0 [(0, .ref (ad E 48))] [] σ := by
  have F := B.1
  unfold f_X11_undo
  refine k_aload_n (pc := 0) F 0 0 dX11_undo_0 rfl rfl ?_
  refine gf_48_15 (pc := 1) F w_4_185 dX11_undo_1 ?_
  refine k_if_ne (pc := 4) F 15 dX11_undo_4 (by decide) (fun _ => ?_) (fun _ => ?_)
  · refine k_aload_n (pc := 7) F 0 0 dX11_undo_7 rfl rfl ?_
    refine k_ldcw (pc := 8) F (v := (-1000000004 : Int32)) w_6_110 dX11_undo_8 ?_
    refine k_callVI (pc := 11) B (k := 48) (As := [.int (-1000000004 : Int32)]) (rest := []) (ct_X11_finds E (-1000000004 : Int32)  σ) rfl rfl mv_X11_finds w_5_144 rfl hR_X11_undo_X11_finds rfl (Nat.le_of_ble_eq_true rfl) dX11_undo_11 (fun rq8 σ7 hoq => ?_)
    exact k_iret (pc := 14) B dX11_undo_14
  · refine k_aload_n (pc := 15) F 0 0 dX11_undo_15 rfl rfl ?_
    refine k_iconst (pc := 16) F (v := (0 : Int32)) dX11_undo_16 ci_0 ?_
    refine k_callVV (pc := 17) B (k := 48) (As := [.int (0 : Int32)]) (rest := []) (ct_X11_passAll E (0 : Int32)  σ) rfl rfl mv_X11_passAll w_7_0 rfl hR_X11_undo_X11_passAll rfl (Nat.le_of_ble_eq_true rfl) dX11_undo_17 (fun rq2 σ1 hoq => ?_)
    refine k_aload_n (pc := 20) F 0 0 dX11_undo_20 rfl rfl ?_
    refine k_aload_n (pc := 21) F 0 0 dX11_undo_21 rfl rfl ?_
    refine gf_48_16 (pc := 22) F w_4_186 dX11_undo_22 ?_
    refine pf_48_0 (pc := 25) F w_4_170 dX11_undo_25 (fun σ3 => ?_)
    refine k_aload_n (pc := 28) F 0 0 dX11_undo_28 rfl rfl ?_
    refine k_aload_n (pc := 29) F 0 0 dX11_undo_29 rfl rfl ?_
    refine gf_48_17 (pc := 30) F w_4_187 dX11_undo_30 ?_
    refine pf_48_7 (pc := 33) F w_4_177 dX11_undo_33 (fun σ4 => ?_)
    refine k_aload_n (pc := 36) F 0 0 dX11_undo_36 rfl rfl ?_
    refine k_aload_n (pc := 37) F 0 0 dX11_undo_37 rfl rfl ?_
    refine gf_48_18 (pc := 38) F w_4_188 dX11_undo_38 ?_
    refine pf_48_11 (pc := 41) F w_4_181 dX11_undo_41 (fun σ5 => ?_)
    refine k_aload_n (pc := 44) F 0 0 dX11_undo_44 rfl rfl ?_
    refine k_iconst (pc := 45) F (v := (0 : Int32)) dX11_undo_45 ci_0 ?_
    refine pf_48_48 (pc := 46) F w_4_218 dX11_undo_46 (fun σ6 => ?_)
    refine k_aload_n (pc := 49) F 0 0 dX11_undo_49 rfl rfl ?_
    refine gf_48_0 (pc := 50) F w_4_170 dX11_undo_50 ?_
    exact k_iret (pc := 53) B dX11_undo_53
set_option maxHeartbeats 4000000 in
set_option maxRecDepth 100000 in
theorem ct_X11_undo (E : En)   (σ : Mm) : CtI E yX11_undo cX11_undo 1 (some .int) H_X11_undo [.ref (ad E 48)] σ (f_X11_undo  σ) := ct_I (by decide) (Nat.le_of_ble_eq_true rfl) rfl (fun G B => t_X11_undo B   σ)
abbrev H_X11_tear : Nat := 0
set_option maxHeartbeats 4000000 in
set_option maxRecDepth 100000 in
theorem t_X11_tear {E : En} {G : Cx} (B : Bx E G cX11_tear 2 RX11 H_X11_tear (some .int))   (σ : Mm) : KR E G 2 (ZI E G) (f_X11_tear  σ) 0 [(0, .ref (ad E 48))] [] σ := by
  have F := B.1
  unfold f_X11_tear
  refine k_aload_n (pc := 0) F 0 0 dX11_tear_0 rfl rfl ?_
  refine gf_48_15 (pc := 1) F w_4_185 dX11_tear_1 ?_
  refine k_if_eq (pc := 4) F 11 dX11_tear_4 (by decide) (fun _ => ?_) (fun _ => ?_)
  · refine k_iconst (pc := 11) F (v := (0 : Int32)) dX11_tear_11 ci_0 ?_
    refine k_istore_n F (lv' := [(1, .int (0 : Int32)), (0, .ref (ad E 48))]) 1 dX11_tear_12 rfl (by decide) rfl ?_
    refine k_aload_n (pc := 13) F 0 1 dX11_tear_13 rfl rfl ?_
    refine k_iconst (pc := 14) F (v := (0 : Int32)) dX11_tear_14 ci_0 ?_
    refine pf_48_15 (pc := 15) F w_4_185 dX11_tear_15 (fun σ1 => ?_)
    refine k_iload_n (pc := 18) F 1 0 dX11_tear_18 rfl rfl ?_
    exact k_iret (pc := 19) B dX11_tear_19
  · refine k_iconst (pc := 7) F (v := (1 : Int32)) dX11_tear_7 ci_1 ?_
    refine k_goto (pc := 8) F 12 dX11_tear_8 (by decide) ?_
    refine k_istore_n F (lv' := [(1, .int (1 : Int32)), (0, .ref (ad E 48))]) 1 dX11_tear_12 rfl (by decide) rfl ?_
    refine k_aload_n (pc := 13) F 0 1 dX11_tear_13 rfl rfl ?_
    refine k_iconst (pc := 14) F (v := (0 : Int32)) dX11_tear_14 ci_0 ?_
    refine pf_48_15 (pc := 15) F w_4_185 dX11_tear_15 (fun σ2 => ?_)
    refine k_iload_n (pc := 18) F 1 0 dX11_tear_18 rfl rfl ?_
    exact k_iret (pc := 19) B dX11_tear_19
set_option maxHeartbeats 4000000 in
set_option maxRecDepth 100000 in
theorem ct_X11_tear (E : En)   (σ : Mm) : CtI E yX11_tear cX11_tear 2 (some .int) H_X11_tear [.ref (ad E 48)] σ (f_X11_tear  σ) := ct_I (by decide) (Nat.le_of_ble_eq_true rfl) rfl (fun G B => t_X11_tear B   σ)
abbrev H_X11_look : Nat := 1
theorem hR_X11_look_X11_finds : H_X11_finds + 1 ≤ H_X11_look ∧ 8 + (2 + 11) + 40 * H_X11_finds ≤ 40 * H_X11_look := by decide
set_option maxHeartbeats 4000000 in
set_option maxRecDepth 100000 in
theorem t_X11_look {E : En} {G : Cx} (B : Bx E G cX11_look 2 RX11 H_X11_look (some .int)) (aq0 : Int32)  (σ : Mm) : KR E G 2 (ZI E G) (f_X11_look aq0 σ) 0 [(0, .ref (ad E 48)), (1, .int aq0)] [] σ := by
  have F := B.1
  unfold f_X11_look
  refine k_iload_n (pc := 0) F 1 1 dX11_look_0 rfl rfl ?_
  refine k_case (fun hwq1 => ?_) (fun hwq1 => ?_)
  · refine k_tin (pc := 1) F 44 dX11_look_1 (by rw [hwq1]; decide) (by rw [hwq1]; decide) (by rw [hwq1]; rfl) (by decide) ?_
    refine k_aload_n (pc := 44) F 0 0 dX11_look_44 rfl rfl ?_
    refine gf_48_0 (pc := 45) F w_4_170 dX11_look_45 ?_
    exact k_iret (pc := 48) B dX11_look_48
  refine k_case (fun hwq2 => ?_) (fun hwq2 => ?_)
  · refine k_tin (pc := 1) F 49 dX11_look_1 (by rw [hwq2]; decide) (by rw [hwq2]; decide) (by rw [hwq2]; rfl) (by decide) ?_
    refine k_aload_n (pc := 49) F 0 0 dX11_look_49 rfl rfl ?_
    refine gf_48_7 (pc := 50) F w_4_177 dX11_look_50 ?_
    exact k_iret (pc := 53) B dX11_look_53
  refine k_case (fun hwq3 => ?_) (fun hwq3 => ?_)
  · refine k_tin (pc := 1) F 54 dX11_look_1 (by rw [hwq3]; decide) (by rw [hwq3]; decide) (by rw [hwq3]; rfl) (by decide) ?_
    refine k_aload_n (pc := 54) F 0 0 dX11_look_54 rfl rfl ?_
    refine gf_48_11 (pc := 55) F w_4_181 dX11_look_55 ?_
    exact k_iret (pc := 58) B dX11_look_58
  refine k_case (fun hwq4 => ?_) (fun hwq4 => ?_)
  · refine k_tin (pc := 1) F 59 dX11_look_1 (by rw [hwq4]; decide) (by rw [hwq4]; decide) (by rw [hwq4]; rfl) (by decide) ?_
    refine k_aload_n (pc := 59) F 0 0 dX11_look_59 rfl rfl ?_
    refine gf_48_10 (pc := 60) F w_4_180 dX11_look_60 ?_
    refine k_iload_n (pc := 63) F 1 1 dX11_look_63 rfl rfl ?_
    refine k_iconst (pc := 64) F (v := (3 : Int32)) dX11_look_64 ci_3 ?_
    refine k_isub (pc := 65) F dX11_look_65 ?_
    refine k_iald (pc := 66) F rfl dX11_look_66 ?_
    exact k_iret (pc := 67) B dX11_look_67
  refine k_case (fun hwq5 => ?_) (fun hwq5 => ?_)
  · refine k_tin (pc := 1) F 59 dX11_look_1 (by rw [hwq5]; decide) (by rw [hwq5]; decide) (by rw [hwq5]; rfl) (by decide) ?_
    refine k_aload_n (pc := 59) F 0 0 dX11_look_59 rfl rfl ?_
    refine gf_48_10 (pc := 60) F w_4_180 dX11_look_60 ?_
    refine k_iload_n (pc := 63) F 1 1 dX11_look_63 rfl rfl ?_
    refine k_iconst (pc := 64) F (v := (3 : Int32)) dX11_look_64 ci_3 ?_
    refine k_isub (pc := 65) F dX11_look_65 ?_
    refine k_iald (pc := 66) F rfl dX11_look_66 ?_
    exact k_iret (pc := 67) B dX11_look_67
  refine k_case (fun hwq6 => ?_) (fun hwq6 => ?_)
  · refine k_tin (pc := 1) F 59 dX11_look_1 (by rw [hwq6]; decide) (by rw [hwq6]; decide) (by rw [hwq6]; rfl) (by decide) ?_
    refine k_aload_n (pc := 59) F 0 0 dX11_look_59 rfl rfl ?_
    refine gf_48_10 (pc := 60) F w_4_180 dX11_look_60 ?_
    refine k_iload_n (pc := 63) F 1 1 dX11_look_63 rfl rfl ?_
    refine k_iconst (pc := 64) F (v := (3 : Int32)) dX11_look_64 ci_3 ?_
    refine k_isub (pc := 65) F dX11_look_65 ?_
    refine k_iald (pc := 66) F rfl dX11_look_66 ?_
    exact k_iret (pc := 67) B dX11_look_67
  refine k_case (fun hwq7 => ?_) (fun hwq7 => ?_)
  · refine k_tin (pc := 1) F 68 dX11_look_1 (by rw [hwq7]; decide) (by rw [hwq7]; decide) (by rw [hwq7]; rfl) (by decide) ?_
    refine k_aload_n (pc := 68) F 0 0 dX11_look_68 rfl rfl ?_
    refine gf_48_13 (pc := 69) F w_4_183 dX11_look_69 ?_
    exact k_iret (pc := 72) B dX11_look_72
  · refine k_tout (pc := 1) F 73 dX11_look_1 (by have hwq1 := ne_i (z := 0) (by decide) hwq1; have hwq2 := ne_i (z := 1) (by decide) hwq2; have hwq3 := ne_i (z := 2) (by decide) hwq3; have hwq4 := ne_i (z := 3) (by decide) hwq4; have hwq5 := ne_i (z := 4) (by decide) hwq5; have hwq6 := ne_i (z := 5) (by decide) hwq6; have hwq7 := ne_i (z := 6) (by decide) hwq7; omega) (by decide) ?_
    refine k_aload_n (pc := 73) F 0 0 dX11_look_73 rfl rfl ?_
    refine k_ldc (pc := 74) F (v := (-1000000001 : Int32)) w_5_143 dX11_look_74 ?_
    refine k_callVI (pc := 76) B (k := 48) (As := [.int (-1000000001 : Int32)]) (rest := []) (ct_X11_finds E (-1000000001 : Int32)  σ) rfl rfl mv_X11_finds w_5_144 rfl hR_X11_look_X11_finds rfl (Nat.le_of_ble_eq_true rfl) dX11_look_76 (fun rq9 σ8 hoq => ?_)
    exact k_iret (pc := 79) B dX11_look_79
set_option maxHeartbeats 4000000 in
set_option maxRecDepth 100000 in
theorem ct_X11_look (E : En) (aq0 : Int32)  (σ : Mm) : CtI E yX11_look cX11_look 2 (some .int) H_X11_look [.ref (ad E 48), .int aq0] σ (f_X11_look aq0 σ) := ct_I (by decide) (Nat.le_of_ble_eq_true rfl) rfl (fun G B => t_X11_look B aq0  σ)
abbrev H_X11_status : Nat := 1
theorem hR_X11_status_X11_finds : H_X11_finds + 1 ≤ H_X11_status ∧ 8 + (2 + 11) + 40 * H_X11_finds ≤ 40 * H_X11_status := by decide
theorem hR_X11_status_X11_in : H_X11_in + 1 ≤ H_X11_status ∧ 8 + (3 + 11) + 40 * H_X11_in ≤ 40 * H_X11_status := by decide
set_option maxHeartbeats 4000000 in
set_option maxRecDepth 100000 in
theorem t_X11_status_48 {E : En} {G : Cx} (B : Bx E G cX11_status 4 RX11 H_X11_status (some .int)) (xq1 : Int32) (xq3 : Int32) (xqs0 : Int32) (xqs1 : Int32)  (L21 : Int32 → Int32 → Mm → Option (Int32 × Mm)) (hL21 : ∀ (xq2 : Int32) (xq3 : Int32)  (σ : Mm), KR E G 4 (ZI E G) (L21 xq2 xq3 σ) 21 [(0, .ref (ad E 48)), (1, .int xq1), (2, .int xq2), (3, .int xq3)] [] σ)  (σ : Mm) : KR E G 4 (ZI E G) (f_X11_status_48 L21 xq1 xq3 xqs0 xqs1 σ) 48 [(0, .ref (ad E 48)), (1, .int xq1), (3, .int xq3)] [.int xqs1, .int xqs0] σ := by
  have F := B.1
  unfold f_X11_status_48
  refine k_iadd (pc := 48) F dX11_status_48 ?_
  refine k_nmI (fun vq3 => ?_)
  refine k_istore_n F (lv' := [(2, .int vq3), (0, .ref (ad E 48)), (1, .int xq1), (3, .int xq3)]) 2 dX11_status_49 rfl (by decide) rfl ?_
  refine k_iinc (pc := 50) F (c := (1 : Int32)) (lw := fun wq => [(3, .int wq), (2, .int vq3), (0, .ref (ad E 48)), (1, .int xq1)]) 3 3 dX11_status_50 rfl ci_1 (by decide) (fun _ => rfl) (fun vq4 => ?_)
  refine k_goto (pc := 53) F 21 dX11_status_53 (by decide) ?_
  exact k_sub [2, 3, 1, 0] rfl (hL21 vq3 vq4 σ)
set_option maxHeartbeats 4000000 in
set_option maxRecDepth 100000 in
theorem t_X11_status_38 {E : En} {G : Cx} (B : Bx E G cX11_status 4 RX11 H_X11_status (some .int)) (xq1 : Int32) (xq3 : Int32) (xqs0 : Int32)  (L21 : Int32 → Int32 → Mm → Option (Int32 × Mm)) (hL21 : ∀ (xq2 : Int32) (xq3 : Int32)  (σ : Mm), KR E G 4 (ZI E G) (L21 xq2 xq3 σ) 21 [(0, .ref (ad E 48)), (1, .int xq1), (2, .int xq2), (3, .int xq3)] [] σ)  (σ : Mm) : KR E G 4 (ZI E G) (f_X11_status_38 L21 xq1 xq3 xqs0 σ) 38 [(0, .ref (ad E 48)), (1, .int xq1), (3, .int xq3)] [.int xqs0] σ := by
  have F := B.1
  unfold f_X11_status_38
  refine k_aload_n (pc := 38) F 0 0 dX11_status_38 rfl rfl ?_
  refine gf_48_14 (pc := 39) F w_4_184 dX11_status_39 ?_
  refine k_iload_n (pc := 42) F 3 2 dX11_status_42 rfl rfl ?_
  refine k_iald (pc := 43) F rfl dX11_status_43 ?_
  refine k_goto (pc := 44) F 48 dX11_status_44 (by decide) ?_
  exact k_sub [0, 1, 2] rfl (t_X11_status_48 B xq1 xq3 xqs0 (σ.1 59 (ix xq3))  L21 hL21  σ)
set_option maxHeartbeats 4000000 in
set_option maxRecDepth 100000 in
theorem t_X11_status_L21b {E : En} {G : Cx} (B : Bx E G cX11_status 4 RX11 H_X11_status (some .int)) (xq1 : Int32)   (L21 : Int32 → Int32 → Mm → Option (Int32 × Mm)) (hL21 : ∀ (xq2 : Int32) (xq3 : Int32)  (σ : Mm), KR E G 4 (ZI E G) (L21 xq2 xq3 σ) 21 [(0, .ref (ad E 48)), (1, .int xq1), (2, .int xq2), (3, .int xq3)] [] σ) (xq2 : Int32) (xq3 : Int32)  (σ : Mm) : KR E G 4 (ZI E G) (f_X11_status_L21 xq1 L21 xq2 xq3 σ) 21 [(0, .ref (ad E 48)), (1, .int xq1), (2, .int xq2), (3, .int xq3)] [] σ := by
  have F := B.1
  unfold f_X11_status_L21
  refine k_iload_n (pc := 21) F 3 3 dX11_status_21 rfl rfl ?_
  refine k_bipush (pc := 22) F (v := (7 : Int32)) dX11_status_22 cb_7 ?_
  refine k_icmp_ge (pc := 24) F 56 dX11_status_24 (by decide) (fun _ => ?_) (fun _ => ?_)
  · refine k_iload_n (pc := 56) F 2 2 dX11_status_56 rfl rfl ?_
    exact k_iret (pc := 57) B dX11_status_57
  · refine k_iload_n (pc := 27) F 2 2 dX11_status_27 rfl rfl ?_
    refine k_iload_n (pc := 28) F 1 1 dX11_status_28 rfl rfl ?_
    refine k_iconst (pc := 29) F (v := (-1 : Int32)) dX11_status_29 ci_m1 ?_
    refine k_icmp_eq (pc := 30) F 38 dX11_status_30 (by decide) (fun _ => ?_) (fun _ => ?_)
    · exact k_sub [0, 1, 3] rfl (t_X11_status_38 B xq1 xq3 xq2  L21 hL21  σ)
    · refine k_iload_n (pc := 33) F 1 1 dX11_status_33 rfl rfl ?_
      refine k_iload_n (pc := 34) F 3 3 dX11_status_34 rfl rfl ?_
      refine k_icmp_ne (pc := 35) F 47 dX11_status_35 (by decide) (fun _ => ?_) (fun _ => ?_)
      · exact k_sub [0, 1, 3] rfl (t_X11_status_38 B xq1 xq3 xq2  L21 hL21  σ)
      · refine k_iconst (pc := 47) F (v := (0 : Int32)) dX11_status_47 ci_0 ?_
        exact k_sub [0, 1, 3] rfl (t_X11_status_48 B xq1 xq3 xq2 (0 : Int32)  L21 hL21  σ)
set_option maxHeartbeats 4000000 in
set_option maxRecDepth 100000 in
theorem t_X11_status_L21 {E : En} {G : Cx} (B : Bx E G cX11_status 4 RX11 H_X11_status (some .int)) (xq1 : Int32)   : ∀ (n : Nat) (xq2 : Int32) (xq3 : Int32)  (σ : Mm), KR E G 4 (ZI E G) (fx (fun _ _ _ => none) n (f_X11_status_L21 xq1) xq2 xq3 σ) 21 [(0, .ref (ad E 48)), (1, .int xq1), (2, .int xq2), (3, .int xq3)] [] σ :=
  fun n => fx_ind (P := fun f => ∀ (xq2 : Int32) (xq3 : Int32)  (σ : Mm), KR E G 4 (ZI E G) (f xq2 xq3 σ) 21 [(0, .ref (ad E 48)), (1, .int xq1), (2, .int xq2), (3, .int xq3)] [] σ) (fun _ _ _ => k_none) (fun L21 hL21 xq2 xq3 σ => t_X11_status_L21b B xq1   L21 hL21 xq2 xq3 σ) n
set_option maxHeartbeats 4000000 in
set_option maxRecDepth 100000 in
theorem t_X11_status {E : En} {G : Cx} (B : Bx E G cX11_status 4 RX11 H_X11_status (some .int)) (aq0 : Int32)  (σ : Mm) : KR E G 4 (ZI E G) (f_X11_status aq0 σ) 0 [(0, .ref (ad E 48)), (1, .int aq0)] [] σ := by
  have F := B.1
  unfold f_X11_status
  refine k_iload_n (pc := 0) F 1 1 dX11_status_0 rfl rfl ?_
  refine k_iconst (pc := 1) F (v := (-1 : Int32)) dX11_status_1 ci_m1 ?_
  refine k_bipush (pc := 2) F (v := (6 : Int32)) dX11_status_2 cb_6 ?_
  refine k_callSI (pc := 4) B (As := [.int aq0, .int (-1 : Int32), .int (6 : Int32)]) (rest := []) (ct_X11_in E aq0 (-1 : Int32) (6 : Int32)  σ) ms_X11_in w_5_140 rfl hR_X11_status_X11_in rfl (Nat.le_of_ble_eq_true rfl) dX11_status_4 (fun rq2 σ1 hoq => ?_)
  refine k_if_ne (pc := 7) F 17 dX11_status_7 (by decide) (fun _ => ?_) (fun _ => ?_)
  · refine k_aload_n (pc := 10) F 0 0 dX11_status_10 rfl rfl ?_
    refine k_ldc (pc := 11) F (v := (-1000000001 : Int32)) w_5_143 dX11_status_11 ?_
    refine k_callVI (pc := 13) B (k := 48) (As := [.int (-1000000001 : Int32)]) (rest := []) (ct_X11_finds E (-1000000001 : Int32)  σ1) rfl rfl mv_X11_finds w_5_144 rfl hR_X11_status_X11_finds rfl (Nat.le_of_ble_eq_true rfl) dX11_status_13 (fun rq6 σ5 hoq => ?_)
    exact k_iret (pc := 16) B dX11_status_16
  · refine k_iconst (pc := 17) F (v := (0 : Int32)) dX11_status_17 ci_0 ?_
    refine k_istore_n F (lv' := [(2, .int (0 : Int32)), (0, .ref (ad E 48)), (1, .int aq0)]) 2 dX11_status_18 rfl (by decide) rfl ?_
    refine k_iconst (pc := 19) F (v := (0 : Int32)) dX11_status_19 ci_0 ?_
    refine k_istore_n F (lv' := [(3, .int (0 : Int32)), (2, .int (0 : Int32)), (0, .ref (ad E 48)), (1, .int aq0)]) 3 dX11_status_20 rfl (by decide) rfl ?_
    exact k_sub [2, 3, 1, 0] rfl (t_X11_status_L21 B aq0   FU (0 : Int32) (0 : Int32)  σ1)
set_option maxHeartbeats 4000000 in
set_option maxRecDepth 100000 in
theorem ct_X11_status (E : En) (aq0 : Int32)  (σ : Mm) : CtI E yX11_status cX11_status 4 (some .int) H_X11_status [.ref (ad E 48), .int aq0] σ (f_X11_status aq0 σ) := ct_I (by decide) (Nat.le_of_ble_eq_true rfl) rfl (fun G B => t_X11_status B aq0  σ)
abbrev H_J9_max_7cf53 : Nat := 0
set_option maxHeartbeats 4000000 in
set_option maxRecDepth 100000 in
theorem t_J9_max_7cf53 {E : En} {G : Cx} (B : Bx E G cJ9_max_7cf53 2 RJ9 H_J9_max_7cf53 (some .int)) (aq0 : Int32) (aq1 : Int32)  (σ : Mm) : KR E G 2 (ZI E G) (f_J9_max_7cf53 aq0 aq1 σ) 0 [(0, .int aq0), (1, .int aq1)] [] σ := by
  have F := B.1
  unfold f_J9_max_7cf53
  refine k_iload_n (pc := 0) F 0 0 dJ9_max_7cf53_0 rfl rfl ?_
  refine k_iload_n (pc := 1) F 1 1 dJ9_max_7cf53_1 rfl rfl ?_
  refine k_icmp_lt (pc := 2) F 9 dJ9_max_7cf53_2 (by decide) (fun _ => ?_) (fun _ => ?_)
  · refine k_iload_n (pc := 9) F 1 1 dJ9_max_7cf53_9 rfl rfl ?_
    exact k_iret (pc := 10) B dJ9_max_7cf53_10
  · refine k_iload_n (pc := 5) F 0 0 dJ9_max_7cf53_5 rfl rfl ?_
    refine k_goto (pc := 6) F 10 dJ9_max_7cf53_6 (by decide) ?_
    exact k_iret (pc := 10) B dJ9_max_7cf53_10
set_option maxHeartbeats 4000000 in
set_option maxRecDepth 100000 in
theorem ct_J9_max_7cf53 (E : En) (aq0 : Int32) (aq1 : Int32)  (σ : Mm) : CtI E yJ9_max_7cf53 cJ9_max_7cf53 2 (some .int) H_J9_max_7cf53 [.int aq0, .int aq1] σ (f_J9_max_7cf53 aq0 aq1 σ) := ct_I (by decide +kernel) (Nat.le_of_ble_eq_true rfl) rfl (fun G B => t_J9_max_7cf53 B aq0 aq1  σ)
