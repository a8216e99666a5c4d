abbrev H_X11_text : Nat := 5
theorem hR_X11_text_X11_next : H_X11_next + 1 ≤ H_X11_text ∧ 8 + (5 + 11) + 40 * H_X11_next ≤ 40 * H_X11_text := by decide
theorem hR_X11_text_X11_readStep : H_X11_readStep + 1 ≤ H_X11_text ∧ 8 + (4 + 11) + 40 * H_X11_readStep ≤ 40 * H_X11_text := by decide
theorem hR_X11_text_X11_wrong : H_X11_wrong + 1 ≤ H_X11_text ∧ 8 + (1 + 11) + 40 * H_X11_wrong ≤ 40 * H_X11_text := by decide
theorem hR_X11_text_X11_finds : H_X11_finds + 1 ≤ H_X11_text ∧ 8 + (2 + 11) + 40 * H_X11_finds ≤ 40 * H_X11_text := by decide
set_option maxHeartbeats 4000000 in
set_option maxRecDepth 100000 in
theorem t_X11_text_73 {E : En} {G : Cx} (B : Bx E G cX11_text 3 RX11 H_X11_text (some .int)) (xq1 : Int32) (xqs0 : Int32)  (L34 : Int32 → Int32 → Mm → Option (Int32 × Mm)) (hL34 : ∀ (xq1 : Int32) (xq2 : Int32)  (σ : Mm), KR E G 3 (ZI E G) (L34 xq1 xq2 σ) 34 [(0, .ref (ad E 48)), (1, .int xq1), (2, .int xq2)] [] σ)  (σ : Mm) : KR E G 3 (ZI E G) (f_X11_text_73 L34 xq1 xqs0 σ) 73 [(0, .ref (ad E 48)), (1, .int xq1)] [.int xqs0] σ := by
  have F := B.1
  unfold f_X11_text_73
  refine k_istore_n F (lv' := [(2, .int xqs0), (0, .ref (ad E 48)), (1, .int xq1)]) 2 dX11_text_73 rfl (by decide) rfl ?_
  refine k_iload_n (pc := 74) F 2 0 dX11_text_74 rfl rfl ?_
  refine k_if_eq (pc := 75) F 34 dX11_text_75 (by decide) (fun _ => ?_) (fun _ => ?_)
  · exact k_sub [1, 2, 0] rfl (hL34 xq1 xqs0 σ)
  · refine k_aload_n (pc := 78) F 0 1 dX11_text_78 rfl rfl ?_
    refine k_callVV (pc := 79) B (k := 48) (As := []) (rest := []) (ct_X11_next E   σ) rfl rfl mv_X11_next w_5_157 rfl hR_X11_text_X11_next rfl (Nat.le_of_ble_eq_true rfl) dX11_text_79 (fun rq9 σ8 hoq => ?_)
    refine k_goto (pc := 82) F 34 dX11_text_82 (by decide) ?_
    exact k_sub [1, 2, 0] rfl (hL34 xq1 xqs0 σ8)
set_option maxHeartbeats 4000000 in
set_option maxRecDepth 100000 in
theorem t_X11_text_72 {E : En} {G : Cx} (B : Bx E G cX11_text 3 RX11 H_X11_text (some .int)) (xq1 : Int32)  (L34 : Int32 → Int32 → Mm → Option (Int32 × Mm)) (hL34 : ∀ (xq1 : Int32) (xq2 : Int32)  (σ : Mm), KR E G 3 (ZI E G) (L34 xq1 xq2 σ) 34 [(0, .ref (ad E 48)), (1, .int xq1), (2, .int xq2)] [] σ)  (σ : Mm) : KR E G 3 (ZI E G) (f_X11_text_72 L34 xq1 σ) 72 [(0, .ref (ad E 48)), (1, .int xq1)] [] σ := by
  have F := B.1
  unfold f_X11_text_72
  refine k_iconst (pc := 72) F (v := (0 : Int32)) dX11_text_72 ci_0 ?_
  exact k_sub [0, 1] rfl (t_X11_text_73 B xq1 (0 : Int32)  L34 hL34  σ)
set_option maxHeartbeats 4000000 in
set_option maxRecDepth 100000 in
theorem t_X11_text_L34b {E : En} {G : Cx} (B : Bx E G cX11_text 3 RX11 H_X11_text (some .int))   (K85 : Int32 → Mm → Option (Int32 × Mm)) (hK85 : ∀ (xq1 : Int32)  (σ : Mm), KR E G 3 (ZI E G) (K85 xq1 σ) 85 [(0, .ref (ad E 48)), (1, .int xq1)] [] σ)  (L34 : Int32 → Int32 → Mm → Option (Int32 × Mm)) (hL34 : ∀ (xq1 : Int32) (xq2 : Int32)  (σ : Mm), KR E G 3 (ZI E G) (L34 xq1 xq2 σ) 34 [(0, .ref (ad E 48)), (1, .int xq1), (2, .int xq2)] [] σ) (xq1 : Int32) (xq2 : Int32)  (σ : Mm) : KR E G 3 (ZI E G) (f_X11_text_L34 K85  L34 xq1 xq2 σ) 34 [(0, .ref (ad E 48)), (1, .int xq1), (2, .int xq2)] [] σ := by
  have F := B.1
  unfold f_X11_text_L34
  refine k_iload_n (pc := 34) F 2 2 dX11_text_34 rfl rfl ?_
  refine k_if_eq (pc := 35) F 85 dX11_text_35 (by decide) (fun _ => ?_) (fun _ => ?_)
  · exact k_sub [0, 1] rfl (hK85 xq1 σ)
  · refine k_aload_n (pc := 38) F 0 0 dX11_text_38 rfl rfl ?_
    refine gf_48_28 (pc := 39) F w_4_198 dX11_text_39 ?_
    refine k_if_ge (pc := 42) F 85 dX11_text_42 (by decide) (fun _ => ?_) (fun _ => ?_)
    · exact k_sub [0, 1] rfl (hK85 xq1 σ)
    · refine k_aload_n (pc := 45) F 0 0 dX11_text_45 rfl rfl ?_
      refine k_iload_n (pc := 46) F 1 1 dX11_text_46 rfl rfl ?_
      refine k_callVV (pc := 47) B (k := 48) (As := [.int xq1]) (rest := []) (ct_X11_readStep E xq1  σ) rfl rfl mv_X11_readStep w_5_173 rfl hR_X11_text_X11_readStep rfl (Nat.le_of_ble_eq_true rfl) dX11_text_47 (fun rq6 σ5 hoq => ?_)
      refine k_iinc (pc := 50) F (c := (1 : Int32)) (lw := fun wq => [(1, .int wq), (0, .ref (ad E 48)), (2, .int xq2)]) 1 1 dX11_text_50 rfl ci_1 (by decide) (fun _ => rfl) (fun vq7 => ?_)
      refine k_aload_n (pc := 53) F 0 1 dX11_text_53 rfl rfl ?_
      refine gf_48_28 (pc := 54) F w_4_198 dX11_text_54 ?_
      refine k_if_ge (pc := 57) F 72 dX11_text_57 (by decide) (fun _ => ?_) (fun _ => ?_)
      · exact k_sub [1, 0] rfl (t_X11_text_72 B vq7  L34 hL34  σ5)
      · refine k_aload_n (pc := 60) F 0 1 dX11_text_60 rfl rfl ?_
        refine gf_48_26 (pc := 61) F w_4_196 dX11_text_61 ?_
        refine k_iconst (pc := 64) F (v := (3 : Int32)) dX11_text_64 ci_3 ?_
        refine k_icmp_ne (pc := 65) F 72 dX11_text_65 (by decide) (fun _ => ?_) (fun _ => ?_)
        · refine k_iconst (pc := 68) F (v := (1 : Int32)) dX11_text_68 ci_1 ?_
          refine k_goto (pc := 69) F 73 dX11_text_69 (by decide) ?_
          exact k_sub [1, 0] rfl (t_X11_text_73 B vq7 (1 : Int32)  L34 hL34  σ5)
        · exact k_sub [1, 0] rfl (t_X11_text_72 B vq7  L34 hL34  σ5)
set_option maxHeartbeats 4000000 in
set_option maxRecDepth 100000 in
theorem t_X11_text_L34 {E : En} {G : Cx} (B : Bx E G cX11_text 3 RX11 H_X11_text (some .int))   (K85 : Int32 → Mm → Option (Int32 × Mm)) (hK85 : ∀ (xq1 : Int32)  (σ : Mm), KR E G 3 (ZI E G) (K85 xq1 σ) 85 [(0, .ref (ad E 48)), (1, .int xq1)] [] σ)  : ∀ (n : Nat) (xq1 : Int32) (xq2 : Int32)  (σ : Mm), KR E G 3 (ZI E G) (fx (fun _ _ _ => none) n (f_X11_text_L34 K85 ) xq1 xq2 σ) 34 [(0, .ref (ad E 48)), (1, .int xq1), (2, .int xq2)] [] σ :=
  fun n => fx_ind (P := fun f => ∀ (xq1 : Int32) (xq2 : Int32)  (σ : Mm), KR E G 3 (ZI E G) (f xq1 xq2 σ) 34 [(0, .ref (ad E 48)), (1, .int xq1), (2, .int xq2)] [] σ) (fun _ _ _ => k_none) (fun L34 hL34 xq1 xq2 σ => t_X11_text_L34b B   K85 hK85  L34 hL34 xq1 xq2 σ) n
set_option maxHeartbeats 4000000 in
set_option maxRecDepth 100000 in
theorem t_X11_text_103 {E : En} {G : Cx} (B : Bx E G cX11_text 3 RX11 H_X11_text (some .int)) (xq1 : Int32)   (σ : Mm) : KR E G 3 (ZI E G) (f_X11_text_103 xq1 σ) 103 [(0, .ref (ad E 48)), (1, .int xq1)] [] σ := by
  have F := B.1
  unfold f_X11_text_103
  refine k_aload_n (pc := 103) F 0 0 dX11_text_103 rfl rfl ?_
  refine gf_48_28 (pc := 104) F w_4_198 dX11_text_104 ?_
  refine k_if_lt (pc := 107) F 117 dX11_text_107 (by decide) (fun _ => ?_) (fun _ => ?_)
  · refine k_aload_n (pc := 117) F 0 0 dX11_text_117 rfl rfl ?_
    refine k_iconst (pc := 118) F (v := (0 : Int32)) dX11_text_118 ci_0 ?_
    refine pf_48_13 (pc := 119) F w_4_183 dX11_text_119 (fun σ10 => ?_)
    refine k_aload_n (pc := 122) F 0 0 dX11_text_122 rfl rfl ?_
    refine gf_48_1 (pc := 123) F w_4_171 dX11_text_123 ?_
    refine k_aload_n (pc := 126) F 0 0 dX11_text_126 rfl rfl ?_
    refine gf_48_0 (pc := 127) F w_4_170 dX11_text_127 ?_
    refine k_iload_n (pc := 130) F 1 1 dX11_text_130 rfl rfl ?_
    refine k_iast (pc := 131) F rfl dX11_text_131 (fun σ11 => ?_)
    refine k_aload_n (pc := 132) F 0 0 dX11_text_132 rfl rfl ?_
    refine k_dup (pc := 133) F dX11_text_133 rfl ?_
    refine gf_48_0 (pc := 134) F w_4_170 dX11_text_134 ?_
    refine k_iconst (pc := 137) F (v := (1 : Int32)) dX11_text_137 ci_1 ?_
    refine k_iadd (pc := 138) F dX11_text_138 ?_
    refine pf_48_0 (pc := 139) F w_4_170 dX11_text_139 (fun σ12 => ?_)
    refine k_aload_n (pc := 142) F 0 0 dX11_text_142 rfl rfl ?_
    refine k_iconst (pc := 143) F (v := (0 : Int32)) dX11_text_143 ci_0 ?_
    refine pf_48_48 (pc := 144) F w_4_218 dX11_text_144 (fun σ13 => ?_)
    refine k_aload_n (pc := 147) F 0 0 dX11_text_147 rfl rfl ?_
    refine gf_48_0 (pc := 148) F w_4_170 dX11_text_148 ?_
    refine k_iconst (pc := 151) F (v := (1 : Int32)) dX11_text_151 ci_1 ?_
    refine k_isub (pc := 152) F dX11_text_152 ?_
    exact k_iret (pc := 153) B dX11_text_153
  · refine k_iconst (pc := 110) F (v := (-1 : Int32)) dX11_text_110 ci_m1 ?_
    refine k_aload_n (pc := 111) F 0 0 dX11_text_111 rfl rfl ?_
    refine gf_48_28 (pc := 112) F w_4_198 dX11_text_112 ?_
    refine k_isub (pc := 115) F dX11_text_115 ?_
    exact k_iret (pc := 116) B dX11_text_116
set_option maxHeartbeats 4000000 in
set_option maxRecDepth 100000 in
theorem t_X11_text_85 {E : En} {G : Cx} (B : Bx E G cX11_text 3 RX11 H_X11_text (some .int)) (xq1 : Int32)   (σ : Mm) : KR E G 3 (ZI E G) (f_X11_text_85 xq1 σ) 85 [(0, .ref (ad E 48)), (1, .int xq1)] [] σ := by
  have F := B.1
  unfold f_X11_text_85
  refine k_aload_n (pc := 85) F 0 0 dX11_text_85 rfl rfl ?_
  refine gf_48_28 (pc := 86) F w_4_198 dX11_text_86 ?_
  refine k_if_ge (pc := 89) F 103 dX11_text_89 (by decide) (fun _ => ?_) (fun _ => ?_)
  · exact k_sub [0, 1] rfl (t_X11_text_103 B xq1   σ)
  · refine k_aload_n (pc := 92) F 0 0 dX11_text_92 rfl rfl ?_
    refine gf_48_26 (pc := 93) F w_4_196 dX11_text_93 ?_
    refine k_if_eq (pc := 96) F 103 dX11_text_96 (by decide) (fun _ => ?_) (fun _ => ?_)
    · exact k_sub [0, 1] rfl (t_X11_text_103 B xq1   σ)
    · refine k_aload_n (pc := 99) F 0 0 dX11_text_99 rfl rfl ?_
      refine k_callVV (pc := 100) B (k := 48) (As := []) (rest := []) (ct_X11_wrong E   σ) rfl rfl mv_X11_wrong w_5_177 rfl hR_X11_text_X11_wrong rfl (Nat.le_of_ble_eq_true rfl) dX11_text_100 (fun rq15 σ14 hoq => ?_)
      exact k_sub [0, 1] rfl (t_X11_text_103 B xq1   σ14)
set_option maxHeartbeats 4000000 in
set_option maxRecDepth 100000 in
theorem t_X11_text {E : En} {G : Cx} (B : Bx E G cX11_text 3 RX11 H_X11_text (some .int))   (σ : Mm) : KR E G 3 (ZI E G) (f_X11_text  σ) 0 [(0, .ref (ad E 48))] [] σ := by
  have F := B.1
  unfold f_X11_text
  refine k_aload_n (pc := 0) F 0 0 dX11_text_0 rfl rfl ?_
  refine gf_48_0 (pc := 1) F w_4_170 dX11_text_1 ?_
  refine k_bipush (pc := 4) F (v := (6 : Int32)) dX11_text_4 cb_6 ?_
  refine k_icmp_ne (pc := 6) F 16 dX11_text_6 (by decide) (fun _ => ?_) (fun _ => ?_)
  · refine k_aload_n (pc := 9) F 0 0 dX11_text_9 rfl rfl ?_
    refine k_ldc (pc := 10) F (v := (-1000000002 : Int32)) w_5_148 dX11_text_10 ?_
    refine k_callVI (pc := 12) B (k := 48) (As := [.int (-1000000002 : Int32)]) (rest := []) (ct_X11_finds E (-1000000002 : Int32)  σ) rfl rfl mv_X11_finds w_5_144 rfl hR_X11_text_X11_finds rfl (Nat.le_of_ble_eq_true rfl) dX11_text_12 (fun rq17 σ16 hoq => ?_)
    exact k_iret (pc := 15) B dX11_text_15
  · refine k_aload_n (pc := 16) F 0 0 dX11_text_16 rfl rfl ?_
    refine k_iconst (pc := 17) F (v := (0 : Int32)) dX11_text_17 ci_0 ?_
    refine pf_48_24 (pc := 18) F w_4_194 dX11_text_18 (fun σ1 => ?_)
    refine k_aload_n (pc := 21) F 0 0 dX11_text_21 rfl rfl ?_
    refine k_iconst (pc := 22) F (v := (-1 : Int32)) dX11_text_22 ci_m1 ?_
    refine pf_48_28 (pc := 23) F w_4_198 dX11_text_23 (fun σ2 => ?_)
    refine k_iconst (pc := 26) F (v := (0 : Int32)) dX11_text_26 ci_0 ?_
    refine k_istore_n F (lv' := [(1, .int (0 : Int32)), (0, .ref (ad E 48))]) 1 dX11_text_27 rfl (by decide) rfl ?_
    refine k_aload_n (pc := 28) F 0 1 dX11_text_28 rfl rfl ?_
    refine k_callVV (pc := 29) B (k := 48) (As := []) (rest := []) (ct_X11_next E   σ2) rfl rfl mv_X11_next w_5_157 rfl hR_X11_text_X11_next rfl (Nat.le_of_ble_eq_true rfl) dX11_text_29 (fun rq4 σ3 hoq => ?_)
    refine k_iconst (pc := 32) F (v := (1 : Int32)) dX11_text_32 ci_1 ?_
    refine k_istore_n F (lv' := [(2, .int (1 : Int32)), (1, .int (0 : Int32)), (0, .ref (ad E 48))]) 2 dX11_text_33 rfl (by decide) rfl ?_
    exact k_sub [2, 1, 0] rfl (t_X11_text_L34 B   _ (fun xq1  σ => by
          exact k_sub [0, 1] rfl (t_X11_text_85 B xq1   σ)) FU (0 : Int32) (1 : Int32)  σ3)
set_option maxHeartbeats 4000000 in
set_option maxRecDepth 100000 in
theorem ct_X11_text (E : En)   (σ : Mm) : CtI E yX11_text cX11_text 3 (some .int) H_X11_text [.ref (ad E 48)] σ (f_X11_text  σ) := ct_I (by decide) (Nat.le_of_ble_eq_true rfl) rfl (fun G B => t_X11_text B   σ)
abbrev H_X11_steps : Nat := 2
theorem hR_X11_steps_X11_finds : H_X11_finds + 1 ≤ H_X11_steps ∧ 8 + (2 + 11) + 40 * H_X11_finds ≤ 40 * H_X11_steps := by decide
theorem hR_X11_steps_X11_isCall : H_X11_isCall + 1 ≤ H_X11_steps ∧ 8 + (2 + 11) + 40 * H_X11_isCall ≤ 40 * H_X11_steps := by decide
set_option maxHeartbeats 4000000 in
set_option maxRecDepth 100000 in
theorem t_X11_steps {E : En} {G : Cx} (B : Bx E G cX11_steps 2 RX11 H_X11_steps (some .int)) (aq0 : Int32)  (σ : Mm) : KR E G 2 (ZI E G) (f_X11_steps aq0 σ) 0 [(0, .ref (ad E 48)), (1, .int aq0)] [] σ := by
  have F := B.1
  unfold f_X11_steps
  refine k_aload_n (pc := 0) F 0 0 dX11_steps_0 rfl rfl ?_
  refine k_iload_n (pc := 1) F 1 1 dX11_steps_1 rfl rfl ?_
  refine k_callVI (pc := 2) B (k := 48) (As := [.int aq0]) (rest := []) (ct_X11_isCall E aq0  σ) rfl rfl mv_X11_isCall w_5_189 rfl hR_X11_steps_X11_isCall rfl (Nat.le_of_ble_eq_true rfl) dX11_steps_2 (fun rq2 σ1 hoq => ?_)
  refine k_if_eq (pc := 5) F 17 dX11_steps_5 (by decide) (fun _ => ?_) (fun _ => ?_)
  · refine k_aload_n (pc := 17) F 0 0 dX11_steps_17 rfl rfl ?_
    refine k_ldc (pc := 18) F (v := (-1000000001 : Int32)) w_5_143 dX11_steps_18 ?_
    refine k_callVI (pc := 20) B (k := 48) (As := [.int (-1000000001 : Int32)]) (rest := []) (ct_X11_finds E (-1000000001 : Int32)  σ1) rfl rfl mv_X11_finds w_5_144 rfl hR_X11_steps_X11_finds rfl (Nat.le_of_ble_eq_true rfl) dX11_steps_20 (fun rq4 σ3 hoq => ?_)
    exact k_iret (pc := 23) B dX11_steps_23
  · refine k_aload_n (pc := 8) F 0 0 dX11_steps_8 rfl rfl ?_
    refine gf_48_1 (pc := 9) F w_4_171 dX11_steps_9 ?_
    refine k_iload_n (pc := 12) F 1 1 dX11_steps_12 rfl rfl ?_
    refine k_iald (pc := 13) F rfl dX11_steps_13 ?_
    refine k_goto (pc := 14) F 23 dX11_steps_14 (by decide) ?_
    exact k_iret (pc := 23) B dX11_steps_23
set_option maxHeartbeats 4000000 in
set_option maxRecDepth 100000 in
theorem ct_X11_steps (E : En) (aq0 : Int32)  (σ : Mm) : CtI E yX11_steps cX11_steps 2 (some .int) H_X11_steps [.ref (ad E 48), .int aq0] σ (f_X11_steps aq0 σ) := ct_I (by decide) (Nat.le_of_ble_eq_true rfl) rfl (fun G B => t_X11_steps B aq0  σ)
abbrev H_X11_step : Nat := 3
theorem hR_X11_step_X11_finds : H_X11_finds + 1 ≤ H_X11_step ∧ 8 + (2 + 11) + 40 * H_X11_finds ≤ 40 * H_X11_step := by decide
theorem hR_X11_step_X11_in : H_X11_in + 1 ≤ H_X11_step ∧ 8 + (3 + 11) + 40 * H_X11_in ≤ 40 * H_X11_step := by decide
theorem hR_X11_step_X11_isStep : H_X11_isStep + 1 ≤ H_X11_step ∧ 8 + (3 + 11) + 40 * H_X11_isStep ≤ 40 * H_X11_step := by decide
set_option maxHeartbeats 4000000 in
set_option maxRecDepth 100000 in
theorem t_X11_step {E : En} {G : Cx} (B : Bx E G cX11_step 6 RX11 H_X11_step (some .int)) (aq0 : Int32) (aq1 : Int32) (aq2 : Int32)  (σ : Mm) : KR E G 6 (ZI E G) (f_X11_step aq0 aq1 aq2 σ) 0 [(0, .ref (ad E 48)), (1, .int aq0), (2, .int aq1), (3, .int aq2)] [] σ := by
  have F := B.1
  unfold f_X11_step
  refine k_aload_n (pc := 0) F 0 0 dX11_step_0 rfl rfl ?_
  refine k_iload_n (pc := 1) F 1 1 dX11_step_1 rfl rfl ?_
  refine k_iload_n (pc := 2) F 2 2 dX11_step_2 rfl rfl ?_
  refine k_callVI (pc := 3) B (k := 48) (As := [.int aq0, .int aq1]) (rest := []) (ct_X11_isStep E aq0 aq1  σ) rfl rfl mv_X11_isStep w_5_197 rfl hR_X11_step_X11_isStep rfl (Nat.le_of_ble_eq_true rfl) dX11_step_3 (fun rq2 σ1 hoq => ?_)
  refine k_if_eq (pc := 6) F 18 dX11_step_6 (by decide) (fun _ => ?_) (fun _ => ?_)
  · refine k_aload_n (pc := 18) F 0 0 dX11_step_18 rfl rfl ?_
    refine k_ldc (pc := 19) F (v := (-1000000001 : Int32)) w_5_143 dX11_step_19 ?_
    refine k_callVI (pc := 21) B (k := 48) (As := [.int (-1000000001 : Int32)]) (rest := []) (ct_X11_finds E (-1000000001 : Int32)  σ1) rfl rfl mv_X11_finds w_5_144 rfl hR_X11_step_X11_finds rfl (Nat.le_of_ble_eq_true rfl) dX11_step_21 (fun rq4 σ3 hoq => ?_)
    exact k_iret (pc := 24) B dX11_step_24
  · refine k_iload_n (pc := 9) F 3 3 dX11_step_9 rfl rfl ?_
    refine k_iconst (pc := 10) F (v := (0 : Int32)) dX11_step_10 ci_0 ?_
    refine k_iconst (pc := 11) F (v := (4 : Int32)) dX11_step_11 ci_4 ?_
    refine k_callSI (pc := 12) B (As := [.int aq2, .int (0 : Int32), .int (4 : Int32)]) (rest := []) (ct_X11_in E aq2 (0 : Int32) (4 : Int32)  σ1) ms_X11_in w_5_140 rfl hR_X11_step_X11_in rfl (Nat.le_of_ble_eq_true rfl) dX11_step_12 (fun rq6 σ5 hoq => ?_)
    refine k_if_ne (pc := 15) F 25 dX11_step_15 (by decide) (fun _ => ?_) (fun _ => ?_)
    · refine k_aload_n (pc := 18) F 0 0 dX11_step_18 rfl rfl ?_
      refine k_ldc (pc := 19) F (v := (-1000000001 : Int32)) w_5_143 dX11_step_19 ?_
      refine k_callVI (pc := 21) B (k := 48) (As := [.int (-1000000001 : Int32)]) (rest := []) (ct_X11_finds E (-1000000001 : Int32)  σ5) rfl rfl mv_X11_finds w_5_144 rfl hR_X11_step_X11_finds rfl (Nat.le_of_ble_eq_true rfl) dX11_step_21 (fun rq24 σ23 hoq => ?_)
      exact k_iret (pc := 24) B dX11_step_24
    · refine k_bipush (pc := 25) F (v := (7 : Int32)) dX11_step_25 cb_7 ?_
      refine k_iload_n (pc := 27) F 1 1 dX11_step_27 rfl rfl ?_
      refine k_imul (pc := 28) F dX11_step_28 ?_
      refine k_iload_n (pc := 29) F 2 2 dX11_step_29 rfl rfl ?_
      refine k_iadd (pc := 30) F dX11_step_30 ?_
      refine k_nmI (fun vq7 => ?_)
      refine k_istore F (lv' := [(4, .int vq7), (0, .ref (ad E 48)), (1, .int aq0), (2, .int aq1), (3, .int aq2)]) 4 dX11_step_31 (by decide) rfl ?_
      refine k_aload_n (pc := 33) F 0 1 dX11_step_33 rfl rfl ?_
      refine gf_48_2 (pc := 34) F w_4_172 dX11_step_34 ?_
      refine k_iload (pc := 37) F 4 0 dX11_step_37 rfl ?_
      refine k_iald (pc := 39) F rfl dX11_step_39 ?_
      refine k_nmI (fun vq8 => ?_)
      refine k_istore F (lv' := [(5, .int vq8), (4, .int vq7), (0, .ref (ad E 48)), (1, .int aq0), (2, .int aq1), (3, .int aq2)]) 5 dX11_step_40 (by decide) rfl ?_
      refine k_iload_n (pc := 42) F 3 5 dX11_step_42 rfl rfl ?_
      refine k_case (fun hwq9 => ?_) (fun hwq9 => ?_)
      · refine k_tin (pc := 43) F 72 dX11_step_43 (by rw [hwq9]; decide) (by rw [hwq9]; decide) (by rw [hwq9]; rfl) (by decide) ?_
        refine k_iload (pc := 72) F 5 0 dX11_step_72 rfl ?_
        exact k_iret (pc := 74) B dX11_step_74
      refine k_case (fun hwq10 => ?_) (fun hwq10 => ?_)
      · refine k_tin (pc := 43) F 75 dX11_step_43 (by rw [hwq10]; decide) (by rw [hwq10]; decide) (by rw [hwq10]; rfl) (by decide) ?_
        refine k_iload (pc := 75) F 5 0 dX11_step_75 rfl ?_
        refine k_iconst (pc := 77) F (v := (1 : Int32)) dX11_step_77 ci_1 ?_
        refine k_iconst (pc := 78) F (v := (4 : Int32)) dX11_step_78 ci_4 ?_
        refine k_callSI (pc := 79) B (As := [.int vq8, .int (1 : Int32), .int (4 : Int32)]) (rest := []) (ct_X11_in E vq8 (1 : Int32) (4 : Int32)  σ5) ms_X11_in w_5_140 rfl hR_X11_step_X11_in rfl (Nat.le_of_ble_eq_true rfl) dX11_step_79 (fun rq12 σ11 hoq => ?_)
        refine k_if_eq (pc := 82) F 95 dX11_step_82 (by decide) (fun _ => ?_) (fun _ => ?_)
        · refine k_aload_n (pc := 95) F 0 2 dX11_step_95 rfl rfl ?_
          refine k_ldc (pc := 96) F (v := (-1000000003 : Int32)) w_5_201 dX11_step_96 ?_
          refine k_callVI (pc := 98) B (k := 48) (As := [.int (-1000000003 : Int32)]) (rest := []) (ct_X11_finds E (-1000000003 : Int32)  σ11) rfl rfl mv_X11_finds w_5_144 rfl hR_X11_step_X11_finds rfl (Nat.le_of_ble_eq_true rfl) dX11_step_98 (fun rq14 σ13 hoq => ?_)
          exact k_iret (pc := 101) B dX11_step_101
        · refine k_aload_n (pc := 85) F 0 2 dX11_step_85 rfl rfl ?_
          refine gf_48_3 (pc := 86) F w_4_173 dX11_step_86 ?_
          refine k_iload (pc := 89) F 4 1 dX11_step_89 rfl ?_
          refine k_iald (pc := 91) F rfl dX11_step_91 ?_
          refine k_goto (pc := 92) F 101 dX11_step_92 (by decide) ?_
          exact k_iret (pc := 101) B dX11_step_101
      refine k_case (fun hwq15 => ?_) (fun hwq15 => ?_)
      · refine k_tin (pc := 43) F 102 dX11_step_43 (by rw [hwq15]; decide) (by rw [hwq15]; decide) (by rw [hwq15]; rfl) (by decide) ?_
        refine k_iload (pc := 102) F 5 0 dX11_step_102 rfl ?_
        refine k_iconst (pc := 104) F (v := (2 : Int32)) dX11_step_104 ci_2 ?_
        refine k_icmp_eq (pc := 105) F 127 dX11_step_105 (by decide) (fun _ => ?_) (fun _ => ?_)
        · refine k_aload_n (pc := 127) F 0 2 dX11_step_127 rfl rfl ?_
          refine gf_48_4 (pc := 128) F w_4_174 dX11_step_128 ?_
          refine k_iload (pc := 131) F 4 1 dX11_step_131 rfl ?_
          refine k_iald (pc := 133) F rfl dX11_step_133 ?_
          refine k_goto (pc := 134) F 143 dX11_step_134 (by decide) ?_
          exact k_iret (pc := 143) B dX11_step_143
        · refine k_iload (pc := 108) F 5 0 dX11_step_108 rfl ?_
          refine k_iconst (pc := 110) F (v := (3 : Int32)) dX11_step_110 ci_3 ?_
          refine k_icmp_eq (pc := 111) F 127 dX11_step_111 (by decide) (fun _ => ?_) (fun _ => ?_)
          · refine k_aload_n (pc := 127) F 0 2 dX11_step_127 rfl rfl ?_
            refine gf_48_4 (pc := 128) F w_4_174 dX11_step_128 ?_
            refine k_iload (pc := 131) F 4 1 dX11_step_131 rfl ?_
            refine k_iald (pc := 133) F rfl dX11_step_133 ?_
            refine k_goto (pc := 134) F 143 dX11_step_134 (by decide) ?_
            exact k_iret (pc := 143) B dX11_step_143
          · refine k_iload (pc := 114) F 5 0 dX11_step_114 rfl ?_
            refine k_iconst (pc := 116) F (v := (4 : Int32)) dX11_step_116 ci_4 ?_
            refine k_icmp_eq (pc := 117) F 127 dX11_step_117 (by decide) (fun _ => ?_) (fun _ => ?_)
            · refine k_aload_n (pc := 127) F 0 2 dX11_step_127 rfl rfl ?_
              refine gf_48_4 (pc := 128) F w_4_174 dX11_step_128 ?_
              refine k_iload (pc := 131) F 4 1 dX11_step_131 rfl ?_
              refine k_iald (pc := 133) F rfl dX11_step_133 ?_
              refine k_goto (pc := 134) F 143 dX11_step_134 (by decide) ?_
              exact k_iret (pc := 143) B dX11_step_143
            · refine k_iload (pc := 120) F 5 0 dX11_step_120 rfl ?_
              refine k_bipush (pc := 122) F (v := (7 : Int32)) dX11_step_122 cb_7 ?_
              refine k_icmp_ne (pc := 124) F 137 dX11_step_124 (by decide) (fun _ => ?_) (fun _ => ?_)
              · refine k_aload_n (pc := 127) F 0 2 dX11_step_127 rfl rfl ?_
                refine gf_48_4 (pc := 128) F w_4_174 dX11_step_128 ?_
                refine k_iload (pc := 131) F 4 1 dX11_step_131 rfl ?_
                refine k_iald (pc := 133) F rfl dX11_step_133 ?_
                refine k_goto (pc := 134) F 143 dX11_step_134 (by decide) ?_
                exact k_iret (pc := 143) B dX11_step_143
              · refine k_aload_n (pc := 137) F 0 2 dX11_step_137 rfl rfl ?_
                refine k_ldc (pc := 138) F (v := (-1000000003 : Int32)) w_5_201 dX11_step_138 ?_
                refine k_callVI (pc := 140) B (k := 48) (As := [.int (-1000000003 : Int32)]) (rest := []) (ct_X11_finds E (-1000000003 : Int32)  σ5) rfl rfl mv_X11_finds w_5_144 rfl hR_X11_step_X11_finds rfl (Nat.le_of_ble_eq_true rfl) dX11_step_140 (fun rq17 σ16 hoq => ?_)
                exact k_iret (pc := 143) B dX11_step_143
      refine k_case (fun hwq18 => ?_) (fun hwq18 => ?_)
      · refine k_tin (pc := 43) F 144 dX11_step_43 (by rw [hwq18]; decide) (by rw [hwq18]; decide) (by rw [hwq18]; rfl) (by decide) ?_
        refine k_iload (pc := 144) F 5 0 dX11_step_144 rfl ?_
        refine k_iconst (pc := 146) F (v := (3 : Int32)) dX11_step_146 ci_3 ?_
        refine k_icmp_ne (pc := 147) F 160 dX11_step_147 (by decide) (fun _ => ?_) (fun _ => ?_)
        · refine k_aload_n (pc := 150) F 0 2 dX11_step_150 rfl rfl ?_
          refine gf_48_5 (pc := 151) F w_4_175 dX11_step_151 ?_
          refine k_iload (pc := 154) F 4 1 dX11_step_154 rfl ?_
          refine k_iald (pc := 156) F rfl dX11_step_156 ?_
          refine k_goto (pc := 157) F 166 dX11_step_157 (by decide) ?_
          exact k_iret (pc := 166) B dX11_step_166
        · refine k_aload_n (pc := 160) F 0 2 dX11_step_160 rfl rfl ?_
          refine k_ldc (pc := 161) F (v := (-1000000003 : Int32)) w_5_201 dX11_step_161 ?_
          refine k_callVI (pc := 163) B (k := 48) (As := [.int (-1000000003 : Int32)]) (rest := []) (ct_X11_finds E (-1000000003 : Int32)  σ5) rfl rfl mv_X11_finds w_5_144 rfl hR_X11_step_X11_finds rfl (Nat.le_of_ble_eq_true rfl) dX11_step_163 (fun rq20 σ19 hoq => ?_)
          exact k_iret (pc := 166) B dX11_step_166
      · refine k_tout (pc := 43) F 167 dX11_step_43 (by have hwq9 := ne_i (z := 0) (by decide) hwq9; have hwq10 := ne_i (z := 1) (by decide) hwq10; have hwq15 := ne_i (z := 2) (by decide) hwq15; have hwq18 := ne_i (z := 3) (by decide) hwq18; omega) (by decide) ?_
        refine k_iload (pc := 167) F 5 0 dX11_step_167 rfl ?_
        refine k_bipush (pc := 169) F (v := (6 : Int32)) dX11_step_169 cb_6 ?_
        refine k_icmp_ne (pc := 171) F 184 dX11_step_171 (by decide) (fun _ => ?_) (fun _ => ?_)
        · refine k_aload_n (pc := 174) F 0 2 dX11_step_174 rfl rfl ?_
          refine gf_48_6 (pc := 175) F w_4_176 dX11_step_175 ?_
          refine k_iload (pc := 178) F 4 1 dX11_step_178 rfl ?_
          refine k_iald (pc := 180) F rfl dX11_step_180 ?_
          refine k_goto (pc := 181) F 190 dX11_step_181 (by decide) ?_
          exact k_iret (pc := 190) B dX11_step_190
        · refine k_aload_n (pc := 184) F 0 2 dX11_step_184 rfl rfl ?_
          refine k_ldc (pc := 185) F (v := (-1000000003 : Int32)) w_5_201 dX11_step_185 ?_
          refine k_callVI (pc := 187) B (k := 48) (As := [.int (-1000000003 : Int32)]) (rest := []) (ct_X11_finds E (-1000000003 : Int32)  σ5) rfl rfl mv_X11_finds w_5_144 rfl hR_X11_step_X11_finds rfl (Nat.le_of_ble_eq_true rfl) dX11_step_187 (fun rq22 σ21 hoq => ?_)
          exact k_iret (pc := 190) B dX11_step_190
set_option maxHeartbeats 4000000 in
set_option maxRecDepth 100000 in
theorem ct_X11_step (E : En) (aq0 : Int32) (aq1 : Int32) (aq2 : Int32)  (σ : Mm) : CtI E yX11_step cX11_step 6 (some .int) H_X11_step [.ref (ad E 48), .int aq0, .int aq1, .int aq2] σ (f_X11_step aq0 aq1 aq2 σ) := ct_I (by decide) (Nat.le_of_ble_eq_true rfl) rfl (fun G B => t_X11_step B aq0 aq1 aq2  σ)
abbrev H_X11_as : Nat := 3
theorem hR_X11_as_X11_finds : H_X11_finds + 1 ≤ H_X11_as ∧ 8 + (2 + 11) + 40 * H_X11_finds ≤ 40 * H_X11_as := by decide
theorem hR_X11_as_X11_in : H_X11_in + 1 ≤ H_X11_as ∧ 8 + (3 + 11) + 40 * H_X11_in ≤ 40 * H_X11_as := by decide
theorem hR_X11_as_X11_isStep : H_X11_isStep + 1 ≤ H_X11_as ∧ 8 + (3 + 11) + 40 * H_X11_isStep ≤ 40 * H_X11_as := by decide
set_option maxHeartbeats 4000000 in
set_option maxRecDepth 100000 in
theorem t_X11_as_65 {E : En} {G : Cx} (B : Bx E G cX11_as 5 RX11 H_X11_as (some .int))    (σ : Mm) : KR E G 5 (ZI E G) (f_X11_as_65  σ) 65 [(0, .ref (ad E 48))] [] σ := by
  have F := B.1
  unfold f_X11_as_65
  refine k_aload_n (pc := 65) F 0 0 dX11_as_65 rfl rfl ?_
  refine k_ldc (pc := 66) F (v := (-1000000003 : Int32)) w_5_201 dX11_as_66 ?_
  refine k_callVI (pc := 68) B (k := 48) (As := [.int (-1000000003 : Int32)]) (rest := []) (ct_X11_finds E (-1000000003 : Int32)  σ) rfl rfl mv_X11_finds w_5_144 rfl hR_X11_as_X11_finds rfl (Nat.le_of_ble_eq_true rfl) dX11_as_68 (fun rq9 σ8 hoq => ?_)
  exact k_iret (pc := 71) B dX11_as_71
set_option maxHeartbeats 4000000 in
set_option maxRecDepth 100000 in
theorem t_X11_as {E : En} {G : Cx} (B : Bx E G cX11_as 5 RX11 H_X11_as (some .int)) (aq0 : Int32) (aq1 : Int32) (aq2 : Int32)  (σ : Mm) : KR E G 5 (ZI E G) (f_X11_as aq0 aq1 aq2 σ) 0 [(0, .ref (ad E 48)), (1, .int aq0), (2, .int aq1), (3, .int aq2)] [] σ := by
  have F := B.1
  unfold f_X11_as
  refine k_aload_n (pc := 0) F 0 0 dX11_as_0 rfl rfl ?_
  refine k_iload_n (pc := 1) F 1 1 dX11_as_1 rfl rfl ?_
  refine k_iload_n (pc := 2) F 2 2 dX11_as_2 rfl rfl ?_
  refine k_callVI (pc := 3) B (k := 48) (As := [.int aq0, .int aq1]) (rest := []) (ct_X11_isStep E aq0 aq1  σ) rfl rfl mv_X11_isStep w_5_197 rfl hR_X11_as_X11_isStep rfl (Nat.le_of_ble_eq_true rfl) dX11_as_3 (fun rq2 σ1 hoq => ?_)
  refine k_if_eq (pc := 6) F 19 dX11_as_6 (by decide) (fun _ => ?_) (fun _ => ?_)
  · refine k_aload_n (pc := 19) F 0 0 dX11_as_19 rfl rfl ?_
    refine k_ldc (pc := 20) F (v := (-1000000001 : Int32)) w_5_143 dX11_as_20 ?_
    refine k_callVI (pc := 22) B (k := 48) (As := [.int (-1000000001 : Int32)]) (rest := []) (ct_X11_finds E (-1000000001 : Int32)  σ1) rfl rfl mv_X11_finds w_5_144 rfl hR_X11_as_X11_finds rfl (Nat.le_of_ble_eq_true rfl) dX11_as_22 (fun rq4 σ3 hoq => ?_)
    exact k_iret (pc := 25) B dX11_as_25
  · refine k_iload_n (pc := 9) F 3 3 dX11_as_9 rfl rfl ?_
    refine k_iconst (pc := 10) F (v := (0 : Int32)) dX11_as_10 ci_0 ?_
    refine k_bipush (pc := 11) F (v := (7 : Int32)) dX11_as_11 cb_7 ?_
    refine k_callSI (pc := 13) B (As := [.int aq2, .int (0 : Int32), .int (7 : Int32)]) (rest := []) (ct_X11_in E aq2 (0 : Int32) (7 : Int32)  σ1) ms_X11_in w_5_140 rfl hR_X11_as_X11_in rfl (Nat.le_of_ble_eq_true rfl) dX11_as_13 (fun rq6 σ5 hoq => ?_)
    refine k_if_ne (pc := 16) F 26 dX11_as_16 (by decide) (fun _ => ?_) (fun _ => ?_)
    · refine k_aload_n (pc := 19) F 0 0 dX11_as_19 rfl rfl ?_
      refine k_ldc (pc := 20) F (v := (-1000000001 : Int32)) w_5_143 dX11_as_20 ?_
      refine k_callVI (pc := 22) B (k := 48) (As := [.int (-1000000001 : Int32)]) (rest := []) (ct_X11_finds E (-1000000001 : Int32)  σ5) rfl rfl mv_X11_finds w_5_144 rfl hR_X11_as_X11_finds rfl (Nat.le_of_ble_eq_true rfl) dX11_as_22 (fun rq11 σ10 hoq => ?_)
      exact k_iret (pc := 25) B dX11_as_25
    · refine k_aload_n (pc := 26) F 0 0 dX11_as_26 rfl rfl ?_
      refine gf_48_2 (pc := 27) F w_4_172 dX11_as_27 ?_
      refine k_bipush (pc := 30) F (v := (7 : Int32)) dX11_as_30 cb_7 ?_
      refine k_iload_n (pc := 32) F 1 1 dX11_as_32 rfl rfl ?_
      refine k_imul (pc := 33) F dX11_as_33 ?_
      refine k_iload_n (pc := 34) F 2 2 dX11_as_34 rfl rfl ?_
      refine k_iadd (pc := 35) F dX11_as_35 ?_
      refine k_iald (pc := 36) F rfl dX11_as_36 ?_
      refine k_nmI (fun vq7 => ?_)
      refine k_istore F (lv' := [(4, .int vq7), (0, .ref (ad E 48)), (1, .int aq0), (2, .int aq1), (3, .int aq2)]) 4 dX11_as_37 (by decide) rfl ?_
      refine k_iload_n (pc := 39) F 3 4 dX11_as_39 rfl rfl ?_
      refine k_if_eq (pc := 40) F 60 dX11_as_40 (by decide) (fun _ => ?_) (fun _ => ?_)
      · refine k_iload (pc := 60) F 4 0 dX11_as_60 rfl ?_
        refine k_goto (pc := 62) F 71 dX11_as_62 (by decide) ?_
        exact k_iret (pc := 71) B dX11_as_71
      · refine k_iload_n (pc := 43) F 3 4 dX11_as_43 rfl rfl ?_
        refine k_iload (pc := 44) F 4 0 dX11_as_44 rfl ?_
        refine k_icmp_eq (pc := 46) F 60 dX11_as_46 (by decide) (fun _ => ?_) (fun _ => ?_)
        · refine k_iload (pc := 60) F 4 0 dX11_as_60 rfl ?_
          refine k_goto (pc := 62) F 71 dX11_as_62 (by decide) ?_
          exact k_iret (pc := 71) B dX11_as_71
        · refine k_iload_n (pc := 49) F 3 4 dX11_as_49 rfl rfl ?_
          refine k_iconst (pc := 50) F (v := (3 : Int32)) dX11_as_50 ci_3 ?_
          refine k_icmp_ne (pc := 51) F 65 dX11_as_51 (by decide) (fun _ => ?_) (fun _ => ?_)
          · refine k_iload (pc := 54) F 4 0 dX11_as_54 rfl ?_
            refine k_iconst (pc := 56) F (v := (4 : Int32)) dX11_as_56 ci_4 ?_
            refine k_icmp_ne (pc := 57) F 65 dX11_as_57 (by decide) (fun _ => ?_) (fun _ => ?_)
            · refine k_iload (pc := 60) F 4 0 dX11_as_60 rfl ?_
              refine k_goto (pc := 62) F 71 dX11_as_62 (by decide) ?_
              exact k_iret (pc := 71) B dX11_as_71
            · exact k_sub [1] rfl (t_X11_as_65 B    σ5)
          · exact k_sub [1] rfl (t_X11_as_65 B    σ5)
set_option maxHeartbeats 4000000 in
set_option maxRecDepth 100000 in
theorem ct_X11_as (E : En) (aq0 : Int32) (aq1 : Int32) (aq2 : Int32)  (σ : Mm) : CtI E yX11_as cX11_as 5 (some .int) H_X11_as [.ref (ad E 48), .int aq0, .int aq1, .int aq2] σ (f_X11_as aq0 aq1 aq2 σ) := ct_I (by decide) (Nat.le_of_ble_eq_true rfl) rfl (fun G B => t_X11_as B aq0 aq1 aq2  σ)
abbrev H_X11_hasValue : Nat := 0
set_option maxHeartbeats 4000000 in
set_option maxRecDepth 100000 in
theorem t_X11_hasValue_54 {E : En} {G : Cx} (B : Bx E G cX11_hasValue 2 RX11 H_X11_hasValue (some .boolean))    (σ : Mm) : KR E G 2 (ZI E G) (f_X11_hasValue_54  σ) 54 [] [] σ := by
  have F := B.1
  unfold f_X11_hasValue_54
  refine k_iconst (pc := 54) F (v := (0 : Int32)) dX11_hasValue_54 ci_0 ?_
  exact k_zret (pc := 55) B dX11_hasValue_55
set_option maxHeartbeats 4000000 in
set_option maxRecDepth 100000 in
theorem t_X11_hasValue {E : En} {G : Cx} (B : Bx E G cX11_hasValue 2 RX11 H_X11_hasValue (some .boolean)) (aq0 : Int32)  (σ : Mm) : KR E G 2 (ZI E G) (f_X11_hasValue aq0 σ) 0 [(0, .ref (ad E 48)), (1, .int aq0)] [] σ := by
  have F := B.1
  unfold f_X11_hasValue
  refine k_aload_n (pc := 0) F 0 0 dX11_hasValue_0 rfl rfl ?_
  refine gf_48_2 (pc := 1) F w_4_172 dX11_hasValue_1 ?_
  refine k_iload_n (pc := 4) F 1 1 dX11_hasValue_4 rfl rfl ?_
  refine k_iald (pc := 5) F rfl dX11_hasValue_5 ?_
  refine k_iconst (pc := 6) F (v := (3 : Int32)) dX11_hasValue_6 ci_3 ?_
  refine k_icmp_eq (pc := 7) F 50 dX11_hasValue_7 (by decide) (fun _ => ?_) (fun _ => ?_)
  · refine k_iconst (pc := 50) F (v := (1 : Int32)) dX11_hasValue_50 ci_1 ?_
    refine k_goto (pc := 51) F 55 dX11_hasValue_51 (by decide) ?_
    exact k_zret (pc := 55) B dX11_hasValue_55
  · refine k_aload_n (pc := 10) F 0 0 dX11_hasValue_10 rfl rfl ?_
    refine gf_48_2 (pc := 11) F w_4_172 dX11_hasValue_11 ?_
    refine k_iload_n (pc := 14) F 1 1 dX11_hasValue_14 rfl rfl ?_
    refine k_iald (pc := 15) F rfl dX11_hasValue_15 ?_
    refine k_iconst (pc := 16) F (v := (4 : Int32)) dX11_hasValue_16 ci_4 ?_
    refine k_icmp_eq (pc := 17) F 50 dX11_hasValue_17 (by decide) (fun _ => ?_) (fun _ => ?_)
    · refine k_iconst (pc := 50) F (v := (1 : Int32)) dX11_hasValue_50 ci_1 ?_
      refine k_goto (pc := 51) F 55 dX11_hasValue_51 (by decide) ?_
      exact k_zret (pc := 55) B dX11_hasValue_55
    · refine k_aload_n (pc := 20) F 0 0 dX11_hasValue_20 rfl rfl ?_
      refine gf_48_2 (pc := 21) F w_4_172 dX11_hasValue_21 ?_
      refine k_iload_n (pc := 24) F 1 1 dX11_hasValue_24 rfl rfl ?_
      refine k_iald (pc := 25) F rfl dX11_hasValue_25 ?_
      refine k_bipush (pc := 26) F (v := (7 : Int32)) dX11_hasValue_26 cb_7 ?_
      refine k_icmp_eq (pc := 28) F 50 dX11_hasValue_28 (by decide) (fun _ => ?_) (fun _ => ?_)
      · refine k_iconst (pc := 50) F (v := (1 : Int32)) dX11_hasValue_50 ci_1 ?_
        refine k_goto (pc := 51) F 55 dX11_hasValue_51 (by decide) ?_
        exact k_zret (pc := 55) B dX11_hasValue_55
      · refine k_aload_n (pc := 31) F 0 0 dX11_hasValue_31 rfl rfl ?_
        refine gf_48_2 (pc := 32) F w_4_172 dX11_hasValue_32 ?_
        refine k_iload_n (pc := 35) F 1 1 dX11_hasValue_35 rfl rfl ?_
        refine k_iald (pc := 36) F rfl dX11_hasValue_36 ?_
        refine k_iconst (pc := 37) F (v := (2 : Int32)) dX11_hasValue_37 ci_2 ?_
        refine k_icmp_ne (pc := 38) F 54 dX11_hasValue_38 (by decide) (fun _ => ?_) (fun _ => ?_)
        · refine k_aload_n (pc := 41) F 0 0 dX11_hasValue_41 rfl rfl ?_
          refine gf_48_4 (pc := 42) F w_4_174 dX11_hasValue_42 ?_
          refine k_iload_n (pc := 45) F 1 1 dX11_hasValue_45 rfl rfl ?_
          refine k_iald (pc := 46) F rfl dX11_hasValue_46 ?_
          refine k_if_lt (pc := 47) F 54 dX11_hasValue_47 (by decide) (fun _ => ?_) (fun _ => ?_)
          · exact k_sub [] rfl (t_X11_hasValue_54 B    σ)
          · refine k_iconst (pc := 50) F (v := (1 : Int32)) dX11_hasValue_50 ci_1 ?_
            refine k_goto (pc := 51) F 55 dX11_hasValue_51 (by decide) ?_
            exact k_zret (pc := 55) B dX11_hasValue_55
        · exact k_sub [] rfl (t_X11_hasValue_54 B    σ)
set_option maxHeartbeats 4000000 in
set_option maxRecDepth 100000 in
theorem ct_X11_hasValue (E : En) (aq0 : Int32)  (σ : Mm) : CtI E yX11_hasValue cX11_hasValue 2 (some .boolean) H_X11_hasValue [.ref (ad E 48), .int aq0] σ (f_X11_hasValue aq0 σ) := ct_I (by decide) (Nat.le_of_ble_eq_true rfl) rfl (fun G B => t_X11_hasValue B aq0  σ)
abbrev H_X11_put : Nat := 0
set_option maxHeartbeats 4000000 in
set_option maxRecDepth 100000 in
theorem t_X11_put_51 {E : En} {G : Cx} (B : Bx E G cX11_put 4 RX11 H_X11_put (some .int)) (xq1 : Int32) (xq2 : Int32) (xq3 : Int32) (xqs1 : Int32) (xqs2 : Int32)   (σ : Mm) : KR E G 4 (ZI E G) (f_X11_put_51 xq1 xq2 xq3 xqs1 xqs2 σ) 51 [(0, .ref (ad E 48)), (1, .int xq1), (2, .int xq2), (3, .int xq3)] [.int xqs2, .int xqs1, .ref (ad E 53)] σ := by
  have F := B.1
  unfold f_X11_put_51
  refine k_iast (pc := 51) F rfl dX11_put_51 (fun σ1 => ?_)
  refine k_aload_n (pc := 52) F 0 0 dX11_put_52 rfl rfl ?_
  refine gf_48_4 (pc := 53) F w_4_174 dX11_put_53 ?_
  refine k_iload_n (pc := 56) F 1 1 dX11_put_56 rfl rfl ?_
  refine k_aload_n (pc := 57) F 0 0 dX11_put_57 rfl rfl ?_
  refine gf_48_2 (pc := 58) F w_4_172 dX11_put_58 ?_
  refine k_iload_n (pc := 61) F 1 1 dX11_put_61 rfl rfl ?_
  refine k_iald (pc := 62) F rfl dX11_put_62 ?_
  refine k_iconst (pc := 63) F (v := (3 : Int32)) dX11_put_63 ci_3 ?_
  refine k_icmp_ne (pc := 64) F 76 dX11_put_64 (by decide) (fun _ => ?_) (fun _ => ?_)
  · refine k_aload_n (pc := 67) F 0 0 dX11_put_67 rfl rfl ?_
    refine gf_48_4 (pc := 68) F w_4_174 dX11_put_68 ?_
    refine k_iload_n (pc := 71) F 1 1 dX11_put_71 rfl rfl ?_
    refine k_iald (pc := 72) F rfl dX11_put_72 ?_
    refine k_goto (pc := 73) F 77 dX11_put_73 (by decide) ?_
    refine k_iast (pc := 77) F rfl dX11_put_77 (fun σ4 => ?_)
    refine k_aload_n (pc := 78) F 0 0 dX11_put_78 rfl rfl ?_
    refine k_iconst (pc := 79) F (v := (0 : Int32)) dX11_put_79 ci_0 ?_
    refine pf_48_48 (pc := 80) F w_4_218 dX11_put_80 (fun σ5 => ?_)
    refine k_iload_n (pc := 83) F 3 3 dX11_put_83 rfl rfl ?_
    exact k_iret (pc := 84) B dX11_put_84
  · refine k_iload_n (pc := 76) F 2 2 dX11_put_76 rfl rfl ?_
    refine k_iast (pc := 77) F rfl dX11_put_77 (fun σ2 => ?_)
    refine k_aload_n (pc := 78) F 0 0 dX11_put_78 rfl rfl ?_
    refine k_iconst (pc := 79) F (v := (0 : Int32)) dX11_put_79 ci_0 ?_
    refine pf_48_48 (pc := 80) F w_4_218 dX11_put_80 (fun σ3 => ?_)
    refine k_iload_n (pc := 83) F 3 3 dX11_put_83 rfl rfl ?_
    exact k_iret (pc := 84) B dX11_put_84
set_option maxHeartbeats 4000000 in
set_option maxRecDepth 100000 in
theorem t_X11_put_25 {E : En} {G : Cx} (B : Bx E G cX11_put 4 RX11 H_X11_put (some .int)) (xq1 : Int32) (xq2 : Int32) (xqs0 : Int32)   (σ : Mm) : KR E G 4 (ZI E G) (f_X11_put_25 xq1 xq2 xqs0 σ) 25 [(0, .ref (ad E 48)), (1, .int xq1), (2, .int xq2)] [.int xqs0] σ := by
  have F := B.1
  unfold f_X11_put_25
  refine k_istore_n F (lv' := [(3, .int xqs0), (0, .ref (ad E 48)), (1, .int xq1), (2, .int xq2)]) 3 dX11_put_25 rfl (by decide) rfl ?_
  refine k_aload_n (pc := 26) F 0 1 dX11_put_26 rfl rfl ?_
  refine gf_48_5 (pc := 27) F w_4_175 dX11_put_27 ?_
  refine k_iload_n (pc := 30) F 1 2 dX11_put_30 rfl rfl ?_
  refine k_aload_n (pc := 31) F 0 1 dX11_put_31 rfl rfl ?_
  refine gf_48_2 (pc := 32) F w_4_172 dX11_put_32 ?_
  refine k_iload_n (pc := 35) F 1 2 dX11_put_35 rfl rfl ?_
  refine k_iald (pc := 36) F rfl dX11_put_36 ?_
  refine k_iconst (pc := 37) F (v := (3 : Int32)) dX11_put_37 ci_3 ?_
  refine k_icmp_ne (pc := 38) F 45 dX11_put_38 (by decide) (fun _ => ?_) (fun _ => ?_)
  · refine k_iload_n (pc := 41) F 2 3 dX11_put_41 rfl rfl ?_
    refine k_goto (pc := 42) F 51 dX11_put_42 (by decide) ?_
    exact k_sub [1, 2, 3, 0] rfl (t_X11_put_51 B xq1 xq2 xqs0 xq1 xq2   σ)
  · refine k_aload_n (pc := 45) F 0 1 dX11_put_45 rfl rfl ?_
    refine gf_48_5 (pc := 46) F w_4_175 dX11_put_46 ?_
    refine k_iload_n (pc := 49) F 1 2 dX11_put_49 rfl rfl ?_
    refine k_iald (pc := 50) F rfl dX11_put_50 ?_
    exact k_sub [1, 2, 3, 0] rfl (t_X11_put_51 B xq1 xq2 xqs0 xq1 (σ.1 53 (ix xq1))   σ)
set_option maxHeartbeats 4000000 in
set_option maxRecDepth 100000 in
theorem t_X11_put {E : En} {G : Cx} (B : Bx E G cX11_put 4 RX11 H_X11_put (some .int)) (aq0 : Int32) (aq1 : Int32)  (σ : Mm) : KR E G 4 (ZI E G) (f_X11_put aq0 aq1 σ) 0 [(0, .ref (ad E 48)), (1, .int aq0), (2, .int aq1)] [] σ := by
  have F := B.1
  unfold f_X11_put
  refine k_aload_n (pc := 0) F 0 0 dX11_put_0 rfl rfl ?_
  refine gf_48_2 (pc := 1) F w_4_172 dX11_put_1 ?_
  refine k_iload_n (pc := 4) F 1 1 dX11_put_4 rfl rfl ?_
  refine k_iald (pc := 5) F rfl dX11_put_5 ?_
  refine k_iconst (pc := 6) F (v := (3 : Int32)) dX11_put_6 ci_3 ?_
  refine k_icmp_ne (pc := 7) F 19 dX11_put_7 (by decide) (fun _ => ?_) (fun _ => ?_)
  · refine k_aload_n (pc := 10) F 0 0 dX11_put_10 rfl rfl ?_
    refine gf_48_5 (pc := 11) F w_4_175 dX11_put_11 ?_
    refine k_iload_n (pc := 14) F 1 1 dX11_put_14 rfl rfl ?_
    refine k_iald (pc := 15) F rfl dX11_put_15 ?_
    refine k_goto (pc := 16) F 25 dX11_put_16 (by decide) ?_
    exact k_sub [0, 1, 2] rfl (t_X11_put_25 B aq0 aq1 (σ.1 53 (ix aq0))   σ)
  · refine k_aload_n (pc := 19) F 0 0 dX11_put_19 rfl rfl ?_
    refine gf_48_4 (pc := 20) F w_4_174 dX11_put_20 ?_
    refine k_iload_n (pc := 23) F 1 1 dX11_put_23 rfl rfl ?_
    refine k_iald (pc := 24) F rfl dX11_put_24 ?_
    exact k_sub [0, 1, 2] rfl (t_X11_put_25 B aq0 aq1 (σ.1 52 (ix aq0))   σ)
set_option maxHeartbeats 4000000 in
set_option maxRecDepth 100000 in
theorem ct_X11_put (E : En) (aq0 : Int32) (aq1 : Int32)  (σ : Mm) : CtI E yX11_put cX11_put 4 (some .int) H_X11_put [.ref (ad E 48), .int aq0, .int aq1] σ (f_X11_put aq0 aq1 σ) := ct_I (by decide) (Nat.le_of_ble_eq_true rfl) rfl (fun G B => t_X11_put B aq0 aq1  σ)
abbrev H_X11_change : Nat := 3
theorem hR_X11_change_X11_finds : H_X11_finds + 1 ≤ H_X11_change ∧ 8 + (2 + 11) + 40 * H_X11_finds ≤ 40 * H_X11_change := by decide
theorem hR_X11_change_X11_in : H_X11_in + 1 ≤ H_X11_change ∧ 8 + (3 + 11) + 40 * H_X11_in ≤ 40 * H_X11_change := by decide
theorem hR_X11_change_X11_hasValue : H_X11_hasValue + 1 ≤ H_X11_change ∧ 8 + (2 + 11) + 40 * H_X11_hasValue ≤ 40 * H_X11_change := by decide
theorem hR_X11_change_X11_isStep : H_X11_isStep + 1 ≤ H_X11_change ∧ 8 + (3 + 11) + 40 * H_X11_isStep ≤ 40 * H_X11_change := by decide
theorem hR_X11_change_X11_put : H_X11_put + 1 ≤ H_X11_change ∧ 8 + (4 + 11) + 40 * H_X11_put ≤ 40 * H_X11_change := by decide
set_option maxHeartbeats 4000000 in
set_option maxRecDepth 100000 in
theorem t_X11_change {E : En} {G : Cx} (B : Bx E G cX11_change 5 RX11 H_X11_change (some .int)) (aq0 : Int32) (aq1 : Int32) (aq2 : Int32)  (σ : Mm) : KR E G 5 (ZI E G) (f_X11_change aq0 aq1 aq2 σ) 0 [(0, .ref (ad E 48)), (1, .int aq0), (2, .int aq1), (3, .int aq2)] [] σ := by
  have F := B.1
  unfold f_X11_change
  refine k_aload_n (pc := 0) F 0 0 dX11_change_0 rfl rfl ?_
  refine k_iload_n (pc := 1) F 1 1 dX11_change_1 rfl rfl ?_
  refine k_iload_n (pc := 2) F 2 2 dX11_change_2 rfl rfl ?_
  refine k_callVI (pc := 3) B (k := 48) (As := [.int aq0, .int aq1]) (rest := []) (ct_X11_isStep E aq0 aq1  σ) rfl rfl mv_X11_isStep w_5_197 rfl hR_X11_change_X11_isStep rfl (Nat.le_of_ble_eq_true rfl) dX11_change_3 (fun rq2 σ1 hoq => ?_)
  refine k_if_eq (pc := 6) F 18 dX11_change_6 (by decide) (fun _ => ?_) (fun _ => ?_)
  · refine k_aload_n (pc := 18) F 0 0 dX11_change_18 rfl rfl ?_
    refine k_ldc (pc := 19) F (v := (-1000000001 : Int32)) w_5_143 dX11_change_19 ?_
    refine k_callVI (pc := 21) B (k := 48) (As := [.int (-1000000001 : Int32)]) (rest := []) (ct_X11_finds E (-1000000001 : Int32)  σ1) rfl rfl mv_X11_finds w_5_144 rfl hR_X11_change_X11_finds rfl (Nat.le_of_ble_eq_true rfl) dX11_change_21 (fun rq4 σ3 hoq => ?_)
    exact k_iret (pc := 24) B dX11_change_24
  · refine k_iload_n (pc := 9) F 3 3 dX11_change_9 rfl rfl ?_
    refine k_iconst (pc := 10) F (v := (0 : Int32)) dX11_change_10 ci_0 ?_
    refine k_iconst (pc := 11) F (v := (3 : Int32)) dX11_change_11 ci_3 ?_
    refine k_callSI (pc := 12) B (As := [.int aq2, .int (0 : Int32), .int (3 : Int32)]) (rest := []) (ct_X11_in E aq2 (0 : Int32) (3 : Int32)  σ1) ms_X11_in w_5_140 rfl hR_X11_change_X11_in rfl (Nat.le_of_ble_eq_true rfl) dX11_change_12 (fun rq6 σ5 hoq => ?_)
    refine k_if_ne (pc := 15) F 25 dX11_change_15 (by decide) (fun _ => ?_) (fun _ => ?_)
    · refine k_aload_n (pc := 18) F 0 0 dX11_change_18 rfl rfl ?_
      refine k_ldc (pc := 19) F (v := (-1000000001 : Int32)) w_5_143 dX11_change_19 ?_
      refine k_callVI (pc := 21) B (k := 48) (As := [.int (-1000000001 : Int32)]) (rest := []) (ct_X11_finds E (-1000000001 : Int32)  σ5) rfl rfl mv_X11_finds w_5_144 rfl hR_X11_change_X11_finds rfl (Nat.le_of_ble_eq_true rfl) dX11_change_21 (fun rq15 σ14 hoq => ?_)
      exact k_iret (pc := 24) B dX11_change_24
    · refine k_bipush (pc := 25) F (v := (7 : Int32)) dX11_change_25 cb_7 ?_
      refine k_iload_n (pc := 27) F 1 1 dX11_change_27 rfl rfl ?_
      refine k_imul (pc := 28) F dX11_change_28 ?_
      refine k_iload_n (pc := 29) F 2 2 dX11_change_29 rfl rfl ?_
      refine k_iadd (pc := 30) F dX11_change_30 ?_
      refine k_nmI (fun vq7 => ?_)
      refine k_istore F (lv' := [(4, .int vq7), (0, .ref (ad E 48)), (1, .int aq0), (2, .int aq1), (3, .int aq2)]) 4 dX11_change_31 (by decide) rfl ?_
      refine k_aload_n (pc := 33) F 0 1 dX11_change_33 rfl rfl ?_
      refine k_iload (pc := 34) F 4 0 dX11_change_34 rfl ?_
      refine k_callVI (pc := 36) B (k := 48) (As := [.int vq7]) (rest := []) (ct_X11_hasValue E vq7  σ5) rfl rfl mv_X11_hasValue w_5_210 rfl hR_X11_change_X11_hasValue rfl (Nat.le_of_ble_eq_true rfl) dX11_change_36 (fun rq9 σ8 hoq => ?_)
      refine k_if_eq (pc := 39) F 52 dX11_change_39 (by decide) (fun _ => ?_) (fun _ => ?_)
      · refine k_aload_n (pc := 52) F 0 1 dX11_change_52 rfl rfl ?_
        refine k_ldc (pc := 53) F (v := (-1000000003 : Int32)) w_5_201 dX11_change_53 ?_
        refine k_callVI (pc := 55) B (k := 48) (As := [.int (-1000000003 : Int32)]) (rest := []) (ct_X11_finds E (-1000000003 : Int32)  σ8) rfl rfl mv_X11_finds w_5_144 rfl hR_X11_change_X11_finds rfl (Nat.le_of_ble_eq_true rfl) dX11_change_55 (fun rq11 σ10 hoq => ?_)
        exact k_iret (pc := 58) B dX11_change_58
      · refine k_aload_n (pc := 42) F 0 1 dX11_change_42 rfl rfl ?_
        refine k_iload (pc := 43) F 4 0 dX11_change_43 rfl ?_
        refine k_iload_n (pc := 45) F 3 4 dX11_change_45 rfl rfl ?_
        refine k_callVI (pc := 46) B (k := 48) (As := [.int vq7, .int aq2]) (rest := []) (ct_X11_put E vq7 aq2  σ8) rfl rfl mv_X11_put w_5_214 rfl hR_X11_change_X11_put rfl (Nat.le_of_ble_eq_true rfl) dX11_change_46 (fun rq13 σ12 hoq => ?_)
        refine k_goto (pc := 49) F 58 dX11_change_49 (by decide) ?_
        exact k_iret (pc := 58) B dX11_change_58
set_option maxHeartbeats 4000000 in
set_option maxRecDepth 100000 in
theorem ct_X11_change (E : En) (aq0 : Int32) (aq1 : Int32) (aq2 : Int32)  (σ : Mm) : CtI E yX11_change cX11_change 5 (some .int) H_X11_change [.ref (ad E 48), .int aq0, .int aq1, .int aq2] σ (f_X11_change aq0 aq1 aq2 σ) := ct_I (by decide) (Nat.le_of_ble_eq_true rfl) rfl (fun G B => t_X11_change B aq0 aq1 aq2  σ)
abbrev H_X11_cell : Nat := 1
theorem hR_X11_cell_X11_finds : H_X11_finds + 1 ≤ H_X11_cell ∧ 8 + (2 + 11) + 40 * H_X11_finds ≤ 40 * H_X11_cell := by decide
theorem hR_X11_cell_X11_in : H_X11_in + 1 ≤ H_X11_cell ∧ 8 + (3 + 11) + 40 * H_X11_in ≤ 40 * H_X11_cell := by decide
set_option maxHeartbeats 4000000 in
set_option maxRecDepth 100000 in
theorem t_X11_cell {E : En} {G : Cx} (B : Bx E G cX11_cell 4 RX11 H_X11_cell (some .int)) (aq0 : Int32) (aq1 : Int32)  (σ : Mm) : KR E G 4 (ZI E G) (f_X11_cell aq0 aq1 σ) 0 [(0, .ref (ad E 48)), (1, .int aq0), (2, .int aq1)] [] σ := by
  have F := B.1
  unfold f_X11_cell
  refine k_iload_n (pc := 0) F 1 1 dX11_cell_0 rfl rfl ?_
  refine k_iconst (pc := 1) F (v := (0 : Int32)) dX11_cell_1 ci_0 ?_
  refine k_iconst (pc := 2) F (v := (2 : Int32)) dX11_cell_2 ci_2 ?_
  refine k_callSI (pc := 3) B (As := [.int aq0, .int (0 : Int32), .int (2 : Int32)]) (rest := []) (ct_X11_in E aq0 (0 : Int32) (2 : Int32)  σ) ms_X11_in w_5_140 rfl hR_X11_cell_X11_in rfl (Nat.le_of_ble_eq_true rfl) dX11_cell_3 (fun rq2 σ1 hoq => ?_)
  refine k_if_eq (pc := 6) F 18 dX11_cell_6 (by decide) (fun _ => ?_) (fun _ => ?_)
  · refine k_aload_n (pc := 18) F 0 0 dX11_cell_18 rfl rfl ?_
    refine k_ldc (pc := 19) F (v := (-1000000001 : Int32)) w_5_143 dX11_cell_19 ?_
    refine k_callVI (pc := 21) B (k := 48) (As := [.int (-1000000001 : Int32)]) (rest := []) (ct_X11_finds E (-1000000001 : Int32)  σ1) rfl rfl mv_X11_finds w_5_144 rfl hR_X11_cell_X11_finds rfl (Nat.le_of_ble_eq_true rfl) dX11_cell_21 (fun rq4 σ3 hoq => ?_)
    exact k_iret (pc := 24) B dX11_cell_24
  · refine k_iload_n (pc := 9) F 2 2 dX11_cell_9 rfl rfl ?_
    refine k_iconst (pc := 10) F (v := (0 : Int32)) dX11_cell_10 ci_0 ?_
    refine k_iconst (pc := 11) F (v := (3 : Int32)) dX11_cell_11 ci_3 ?_
    refine k_callSI (pc := 12) B (As := [.int aq1, .int (0 : Int32), .int (3 : Int32)]) (rest := []) (ct_X11_in E aq1 (0 : Int32) (3 : Int32)  σ1) ms_X11_in w_5_140 rfl hR_X11_cell_X11_in rfl (Nat.le_of_ble_eq_true rfl) dX11_cell_12 (fun rq6 σ5 hoq => ?_)
    refine k_if_ne (pc := 15) F 25 dX11_cell_15 (by decide) (fun _ => ?_) (fun _ => ?_)
    · refine k_aload_n (pc := 18) F 0 0 dX11_cell_18 rfl rfl ?_
      refine k_ldc (pc := 19) F (v := (-1000000001 : Int32)) w_5_143 dX11_cell_19 ?_
      refine k_callVI (pc := 21) B (k := 48) (As := [.int (-1000000001 : Int32)]) (rest := []) (ct_X11_finds E (-1000000001 : Int32)  σ5) rfl rfl mv_X11_finds w_5_144 rfl hR_X11_cell_X11_finds rfl (Nat.le_of_ble_eq_true rfl) dX11_cell_21 (fun rq11 σ10 hoq => ?_)
      exact k_iret (pc := 24) B dX11_cell_24
    · refine k_aload_n (pc := 25) F 0 0 dX11_cell_25 rfl rfl ?_
      refine gf_48_10 (pc := 26) F w_4_180 dX11_cell_26 ?_
      refine k_iload_n (pc := 29) F 1 1 dX11_cell_29 rfl rfl ?_
      refine k_iald (pc := 30) F rfl dX11_cell_30 ?_
      refine k_nmI (fun vq7 => ?_)
      refine k_istore_n F (lv' := [(3, .int vq7), (0, .ref (ad E 48)), (1, .int aq0), (2, .int aq1)]) 3 dX11_cell_31 rfl (by decide) rfl ?_
      refine k_aload_n (pc := 32) F 0 1 dX11_cell_32 rfl rfl ?_
      refine gf_48_10 (pc := 33) F w_4_180 dX11_cell_33 ?_
      refine k_iload_n (pc := 36) F 1 2 dX11_cell_36 rfl rfl ?_
      refine k_iload_n (pc := 37) F 2 3 dX11_cell_37 rfl rfl ?_
      refine k_iast (pc := 38) F rfl dX11_cell_38 (fun σ8 => ?_)
      refine k_aload_n (pc := 39) F 0 1 dX11_cell_39 rfl rfl ?_
      refine k_iconst (pc := 40) F (v := (0 : Int32)) dX11_cell_40 ci_0 ?_
      refine pf_48_48 (pc := 41) F w_4_218 dX11_cell_41 (fun σ9 => ?_)
      refine k_iload_n (pc := 44) F 3 0 dX11_cell_44 rfl rfl ?_
      exact k_iret (pc := 45) B dX11_cell_45
set_option maxHeartbeats 4000000 in
set_option maxRecDepth 100000 in
theorem ct_X11_cell (E : En) (aq0 : Int32) (aq1 : Int32)  (σ : Mm) : CtI E yX11_cell cX11_cell 4 (some .int) H_X11_cell [.ref (ad E 48), .int aq0, .int aq1] σ (f_X11_cell aq0 aq1 σ) := ct_I (by decide) (Nat.le_of_ble_eq_true rfl) rfl (fun G B => t_X11_cell B aq0 aq1  σ)
abbrev H_X11_machine : Nat := 1
theorem hR_X11_machine_X11_finds : H_X11_finds + 1 ≤ H_X11_machine ∧ 8 + (2 + 11) + 40 * H_X11_finds ≤ 40 * H_X11_machine := by decide
theorem hR_X11_machine_X11_in : H_X11_in + 1 ≤ H_X11_machine ∧ 8 + (3 + 11) + 40 * H_X11_in ≤ 40 * H_X11_machine := by decide
set_option maxHeartbeats 4000000 in
set_option maxRecDepth 100000 in
theorem t_X11_machine {E : En} {G : Cx} (B : Bx E G cX11_machine 3 RX11 H_X11_machine (some .int)) (aq0 : Int32)  (σ : Mm) : KR E G 3 (ZI E G) (f_X11_machine aq0 σ) 0 [(0, .ref (ad E 48)), (1, .int aq0)] [] σ := by
  have F := B.1
  unfold f_X11_machine
  refine k_iload_n (pc := 0) F 1 1 dX11_machine_0 rfl rfl ?_
  refine k_iconst (pc := 1) F (v := (0 : Int32)) dX11_machine_1 ci_0 ?_
  refine k_iconst (pc := 2) F (v := (1 : Int32)) dX11_machine_2 ci_1 ?_
  refine k_callSI (pc := 3) B (As := [.int aq0, .int (0 : Int32), .int (1 : Int32)]) (rest := []) (ct_X11_in E aq0 (0 : Int32) (1 : Int32)  σ) ms_X11_in w_5_140 rfl hR_X11_machine_X11_in rfl (Nat.le_of_ble_eq_true rfl) dX11_machine_3 (fun rq2 σ1 hoq => ?_)
  refine k_if_ne (pc := 6) F 16 dX11_machine_6 (by decide) (fun _ => ?_) (fun _ => ?_)
  · refine k_aload_n (pc := 9) F 0 0 dX11_machine_9 rfl rfl ?_
    refine k_ldc (pc := 10) F (v := (-1000000001 : Int32)) w_5_143 dX11_machine_10 ?_
    refine k_callVI (pc := 12) B (k := 48) (As := [.int (-1000000001 : Int32)]) (rest := []) (ct_X11_finds E (-1000000001 : Int32)  σ1) rfl rfl mv_X11_finds w_5_144 rfl hR_X11_machine_X11_finds rfl (Nat.le_of_ble_eq_true rfl) dX11_machine_12 (fun rq7 σ6 hoq => ?_)
    exact k_iret (pc := 15) B dX11_machine_15
  · refine k_aload_n (pc := 16) F 0 0 dX11_machine_16 rfl rfl ?_
    refine gf_48_11 (pc := 17) F w_4_181 dX11_machine_17 ?_
    refine k_nmI (fun vq3 => ?_)
    refine k_istore_n F (lv' := [(2, .int vq3), (0, .ref (ad E 48)), (1, .int aq0)]) 2 dX11_machine_20 rfl (by decide) rfl ?_
    refine k_aload_n (pc := 21) F 0 1 dX11_machine_21 rfl rfl ?_
    refine k_iload_n (pc := 22) F 1 2 dX11_machine_22 rfl rfl ?_
    refine pf_48_11 (pc := 23) F w_4_181 dX11_machine_23 (fun σ4 => ?_)
    refine k_aload_n (pc := 26) F 0 1 dX11_machine_26 rfl rfl ?_
    refine k_iconst (pc := 27) F (v := (0 : Int32)) dX11_machine_27 ci_0 ?_
    refine pf_48_48 (pc := 28) F w_4_218 dX11_machine_28 (fun σ5 => ?_)
    refine k_iload_n (pc := 31) F 2 0 dX11_machine_31 rfl rfl ?_
    exact k_iret (pc := 32) B dX11_machine_32
set_option maxHeartbeats 4000000 in
set_option maxRecDepth 100000 in
theorem ct_X11_machine (E : En) (aq0 : Int32)  (σ : Mm) : CtI E yX11_machine cX11_machine 3 (some .int) H_X11_machine [.ref (ad E 48), .int aq0] σ (f_X11_machine aq0 σ) := ct_I (by decide) (Nat.le_of_ble_eq_true rfl) rfl (fun G B => t_X11_machine B aq0  σ)
abbrev H_X11_hand : Nat := 2
theorem hR_X11_hand_X11_finds : H_X11_finds + 1 ≤ H_X11_hand ∧ 8 + (2 + 11) + 40 * H_X11_finds ≤ 40 * H_X11_hand := by decide
theorem hR_X11_hand_X11_isCall : H_X11_isCall + 1 ≤ H_X11_hand ∧ 8 + (2 + 11) + 40 * H_X11_isCall ≤ 40 * H_X11_hand := by decide
set_option maxHeartbeats 4000000 in
set_option maxRecDepth 100000 in
theorem t_X11_hand_87 {E : En} {G : Cx} (B : Bx E G cX11_hand 3 RX11 H_X11_hand (some .int)) (xqs1 : Int32) (xqs2 : Int32)   (σ : Mm) : KR E G 3 (ZI E G) (f_X11_hand_87 xqs1 xqs2 σ) 87 [(0, .ref (ad E 48))] [.int xqs2, .int xqs1, .ref (ad E 56)] σ := by
  have F := B.1
  unfold f_X11_hand_87
  refine k_iast (pc := 87) F rfl dX11_hand_87 (fun σ7 => ?_)
  refine k_aload_n (pc := 88) F 0 0 dX11_hand_88 rfl rfl ?_
  refine k_dup (pc := 89) F dX11_hand_89 rfl ?_
  refine gf_48_7 (pc := 90) F w_4_177 dX11_hand_90 ?_
  refine k_iconst (pc := 93) F (v := (1 : Int32)) dX11_hand_93 ci_1 ?_
  refine k_iadd (pc := 94) F dX11_hand_94 ?_
  refine pf_48_7 (pc := 95) F w_4_177 dX11_hand_95 (fun σ8 => ?_)
  refine k_aload_n (pc := 98) F 0 0 dX11_hand_98 rfl rfl ?_
  refine k_iconst (pc := 99) F (v := (0 : Int32)) dX11_hand_99 ci_0 ?_
  refine pf_48_48 (pc := 100) F w_4_218 dX11_hand_100 (fun σ9 => ?_)
  refine k_aload_n (pc := 103) F 0 0 dX11_hand_103 rfl rfl ?_
  refine gf_48_7 (pc := 104) F w_4_177 dX11_hand_104 ?_
  refine k_iconst (pc := 107) F (v := (1 : Int32)) dX11_hand_107 ci_1 ?_
  refine k_isub (pc := 108) F dX11_hand_108 ?_
  exact k_iret (pc := 109) B dX11_hand_109
set_option maxHeartbeats 4000000 in
set_option maxRecDepth 100000 in
theorem t_X11_hand_28 {E : En} {G : Cx} (B : Bx E G cX11_hand 3 RX11 H_X11_hand (some .int)) (xq1 : Int32) (xq2 : Int32)   (σ : Mm) : KR E G 3 (ZI E G) (f_X11_hand_28 xq1 xq2 σ) 28 [(0, .ref (ad E 48)), (1, .int xq1), (2, .int xq2)] [] σ := by
  have F := B.1
  unfold f_X11_hand_28
  refine k_aload_n (pc := 28) F 0 0 dX11_hand_28 rfl rfl ?_
  refine gf_48_7 (pc := 29) F w_4_177 dX11_hand_29 ?_
  refine k_iconst (pc := 32) F (v := (3 : Int32)) dX11_hand_32 ci_3 ?_
  refine k_icmp_ne (pc := 33) F 43 dX11_hand_33 (by decide) (fun _ => ?_) (fun _ => ?_)
  · refine k_aload_n (pc := 36) F 0 0 dX11_hand_36 rfl rfl ?_
    refine k_ldc (pc := 37) F (v := (-1000000002 : Int32)) w_5_148 dX11_hand_37 ?_
    refine k_callVI (pc := 39) B (k := 48) (As := [.int (-1000000002 : Int32)]) (rest := []) (ct_X11_finds E (-1000000002 : Int32)  σ) rfl rfl mv_X11_finds w_5_144 rfl hR_X11_hand_X11_finds rfl (Nat.le_of_ble_eq_true rfl) dX11_hand_39 (fun rq11 σ10 hoq => ?_)
    exact k_iret (pc := 42) B dX11_hand_42
  · refine k_aload_n (pc := 43) F 0 0 dX11_hand_43 rfl rfl ?_
    refine gf_48_8 (pc := 44) F w_4_178 dX11_hand_44 ?_
    refine k_iconst (pc := 47) F (v := (2 : Int32)) dX11_hand_47 ci_2 ?_
    refine k_aload_n (pc := 48) F 0 0 dX11_hand_48 rfl rfl ?_
    refine gf_48_7 (pc := 49) F w_4_177 dX11_hand_49 ?_
    refine k_imul (pc := 52) F dX11_hand_52 ?_
    refine k_iload_n (pc := 53) F 1 1 dX11_hand_53 rfl rfl ?_
    refine k_iast (pc := 54) F rfl dX11_hand_54 (fun σ5 => ?_)
    refine k_aload_n (pc := 55) F 0 0 dX11_hand_55 rfl rfl ?_
    refine gf_48_8 (pc := 56) F w_4_178 dX11_hand_56 ?_
    refine k_iconst (pc := 59) F (v := (2 : Int32)) dX11_hand_59 ci_2 ?_
    refine k_aload_n (pc := 60) F 0 0 dX11_hand_60 rfl rfl ?_
    refine gf_48_7 (pc := 61) F w_4_177 dX11_hand_61 ?_
    refine k_imul (pc := 64) F dX11_hand_64 ?_
    refine k_iconst (pc := 65) F (v := (1 : Int32)) dX11_hand_65 ci_1 ?_
    refine k_iadd (pc := 66) F dX11_hand_66 ?_
    refine k_iload_n (pc := 67) F 2 2 dX11_hand_67 rfl rfl ?_
    refine k_iast (pc := 68) F rfl dX11_hand_68 (fun σ6 => ?_)
    refine k_aload_n (pc := 69) F 0 0 dX11_hand_69 rfl rfl ?_
    refine gf_48_9 (pc := 70) F w_4_179 dX11_hand_70 ?_
    refine k_aload_n (pc := 73) F 0 0 dX11_hand_73 rfl rfl ?_
    refine gf_48_7 (pc := 74) F w_4_177 dX11_hand_74 ?_
    refine k_iload_n (pc := 77) F 2 2 dX11_hand_77 rfl rfl ?_
    refine k_iconst (pc := 78) F (v := (-1 : Int32)) dX11_hand_78 ci_m1 ?_
    refine k_icmp_ne (pc := 79) F 86 dX11_hand_79 (by decide) (fun _ => ?_) (fun _ => ?_)
    · refine k_iconst (pc := 82) F (v := (1 : Int32)) dX11_hand_82 ci_1 ?_
      refine k_goto (pc := 83) F 87 dX11_hand_83 (by decide) ?_
      exact k_sub [0] rfl (t_X11_hand_87 B (σ6.1 48 7) (1 : Int32)   σ6)
    · refine k_iconst (pc := 86) F (v := (2 : Int32)) dX11_hand_86 ci_2 ?_
      exact k_sub [0] rfl (t_X11_hand_87 B (σ6.1 48 7) (2 : Int32)   σ6)
set_option maxHeartbeats 4000000 in
set_option maxRecDepth 100000 in
theorem t_X11_hand {E : En} {G : Cx} (B : Bx E G cX11_hand 3 RX11 H_X11_hand (some .int)) (aq0 : Int32) (aq1 : Int32)  (σ : Mm) : KR E G 3 (ZI E G) (f_X11_hand aq0 aq1 σ) 0 [(0, .ref (ad E 48)), (1, .int aq0), (2, .int aq1)] [] σ := by
  have F := B.1
  unfold f_X11_hand
  refine k_aload_n (pc := 0) F 0 0 dX11_hand_0 rfl rfl ?_
  refine k_iload_n (pc := 1) F 1 1 dX11_hand_1 rfl rfl ?_
  refine k_callVI (pc := 2) B (k := 48) (As := [.int aq0]) (rest := []) (ct_X11_isCall E aq0  σ) rfl rfl mv_X11_isCall w_5_189 rfl hR_X11_hand_X11_isCall rfl (Nat.le_of_ble_eq_true rfl) dX11_hand_2 (fun rq2 σ1 hoq => ?_)
  refine k_if_eq (pc := 5) F 21 dX11_hand_5 (by decide) (fun _ => ?_) (fun _ => ?_)
  · refine k_aload_n (pc := 21) F 0 0 dX11_hand_21 rfl rfl ?_
    refine k_ldc (pc := 22) F (v := (-1000000001 : Int32)) w_5_143 dX11_hand_22 ?_
    refine k_callVI (pc := 24) B (k := 48) (As := [.int (-1000000001 : Int32)]) (rest := []) (ct_X11_finds E (-1000000001 : Int32)  σ1) rfl rfl mv_X11_finds w_5_144 rfl hR_X11_hand_X11_finds rfl (Nat.le_of_ble_eq_true rfl) dX11_hand_24 (fun rq4 σ3 hoq => ?_)
    exact k_iret (pc := 27) B dX11_hand_27
  · refine k_iload_n (pc := 8) F 2 2 dX11_hand_8 rfl rfl ?_
    refine k_iconst (pc := 9) F (v := (-1 : Int32)) dX11_hand_9 ci_m1 ?_
    refine k_icmp_eq (pc := 10) F 28 dX11_hand_10 (by decide) (fun _ => ?_) (fun _ => ?_)
    · exact k_sub [0, 1, 2] rfl (t_X11_hand_28 B aq0 aq1   σ1)
    · refine k_aload_n (pc := 13) F 0 0 dX11_hand_13 rfl rfl ?_
      refine k_iload_n (pc := 14) F 2 2 dX11_hand_14 rfl rfl ?_
      refine k_callVI (pc := 15) B (k := 48) (As := [.int aq1]) (rest := []) (ct_X11_isCall E aq1  σ1) rfl rfl mv_X11_isCall w_5_189 rfl hR_X11_hand_X11_isCall rfl (Nat.le_of_ble_eq_true rfl) dX11_hand_15 (fun rq13 σ12 hoq => ?_)
      refine k_if_ne (pc := 18) F 28 dX11_hand_18 (by decide) (fun _ => ?_) (fun _ => ?_)
      · refine k_aload_n (pc := 21) F 0 0 dX11_hand_21 rfl rfl ?_
        refine k_ldc (pc := 22) F (v := (-1000000001 : Int32)) w_5_143 dX11_hand_22 ?_
        refine k_callVI (pc := 24) B (k := 48) (As := [.int (-1000000001 : Int32)]) (rest := []) (ct_X11_finds E (-1000000001 : Int32)  σ12) rfl rfl mv_X11_finds w_5_144 rfl hR_X11_hand_X11_finds rfl (Nat.le_of_ble_eq_true rfl) dX11_hand_24 (fun rq15 σ14 hoq => ?_)
        exact k_iret (pc := 27) B dX11_hand_27
      · exact k_sub [0, 1, 2] rfl (t_X11_hand_28 B aq0 aq1   σ12)
set_option maxHeartbeats 4000000 in
set_option maxRecDepth 100000 in
theorem ct_X11_hand (E : En) (aq0 : Int32) (aq1 : Int32)  (σ : Mm) : CtI E yX11_hand cX11_hand 3 (some .int) H_X11_hand [.ref (ad E 48), .int aq0, .int aq1] σ (f_X11_hand aq0 aq1 σ) := ct_I (by decide) (Nat.le_of_ble_eq_true rfl) rfl (fun G B => t_X11_hand B aq0 aq1  σ)
abbrev H_X11_clear : Nat := 0
set_option maxHeartbeats 4000000 in
set_option maxRecDepth 100000 in
theorem t_X11_clear {E : En} {G : Cx} (B : Bx E G cX11_clear 2 RX11 H_X11_clear (some .int))   (σ : Mm) : KR E G 2 (ZI E G) (f_X11_clear  σ) 0 [(0, .ref (ad E 48))] [] σ := by
  have F := B.1
  unfold f_X11_clear
  refine k_aload_n (pc := 0) F 0 0 dX11_clear_0 rfl rfl ?_
  refine gf_48_7 (pc := 1) F w_4_177 dX11_clear_1 ?_
  refine k_nmI (fun vq1 => ?_)
  refine k_istore_n F (lv' := [(1, .int vq1), (0, .ref (ad E 48))]) 1 dX11_clear_4 rfl (by decide) rfl ?_
  refine k_aload_n (pc := 5) F 0 1 dX11_clear_5 rfl rfl ?_
  refine k_iconst (pc := 6) F (v := (0 : Int32)) dX11_clear_6 ci_0 ?_
  refine pf_48_7 (pc := 7) F w_4_177 dX11_clear_7 (fun σ2 => ?_)
  refine k_aload_n (pc := 10) F 0 1 dX11_clear_10 rfl rfl ?_
  refine k_iconst (pc := 11) F (v := (0 : Int32)) dX11_clear_11 ci_0 ?_
  refine pf_48_48 (pc := 12) F w_4_218 dX11_clear_12 (fun σ3 => ?_)
  refine k_iload_n (pc := 15) F 1 0 dX11_clear_15 rfl rfl ?_
  exact k_iret (pc := 16) B dX11_clear_16
set_option maxHeartbeats 4000000 in
set_option maxRecDepth 100000 in
theorem ct_X11_clear (E : En)   (σ : Mm) : CtI E yX11_clear cX11_clear 2 (some .int) H_X11_clear [.ref (ad E 48)] σ (f_X11_clear  σ) := ct_I (by decide) (Nat.le_of_ble_eq_true rfl) rfl (fun G B => t_X11_clear B   σ)
abbrev H_X11_isDone : Nat := 0
set_option maxHeartbeats 4000000 in
set_option maxRecDepth 100000 in
theorem t_X11_isDone_57 {E : En} {G : Cx} (B : Bx E G cX11_isDone 4 RX11 H_X11_isDone (some .boolean)) (xq1 : Int32) (xq3 : Int32) (xqs0 : Int32)  (L4 : Int32 → Int32 → Mm → Option (Int32 × Mm)) (hL4 : ∀ (xq2 : Int32) (xq3 : Int32)  (σ : Mm), KR E G 4 (ZI E G) (L4 xq2 xq3 σ) 4 [(0, .ref (ad E 48)), (1, .int xq1), (2, .int xq2), (3, .int xq3)] [] σ)  (σ : Mm) : KR E G 4 (ZI E G) (f_X11_isDone_57 L4 xq1 xq3 xqs0 σ) 57 [(0, .ref (ad E 48)), (1, .int xq1), (3, .int xq3)] [.int xqs0] σ := by
  have F := B.1
  unfold f_X11_isDone_57
  refine k_istore_n F (lv' := [(2, .int xqs0), (0, .ref (ad E 48)), (1, .int xq1), (3, .int xq3)]) 2 dX11_isDone_57 rfl (by decide) rfl ?_
  refine k_iinc (pc := 58) F (c := (1 : Int32)) (lw := fun wq => [(3, .int wq), (2, .int xqs0), (0, .ref (ad E 48)), (1, .int xq1)]) 3 3 dX11_isDone_58 rfl ci_1 (by decide) (fun _ => rfl) (fun vq1 => ?_)
  refine k_goto (pc := 61) F 4 dX11_isDone_61 (by decide) ?_
  exact k_sub [2, 3, 1, 0] rfl (hL4 xqs0 vq1 σ)
set_option maxHeartbeats 4000000 in
set_option maxRecDepth 100000 in
theorem t_X11_isDone_52 {E : En} {G : Cx} (B : Bx E G cX11_isDone 4 RX11 H_X11_isDone (some .boolean)) (xq1 : Int32) (xq3 : Int32)  (L4 : Int32 → Int32 → Mm → Option (Int32 × Mm)) (hL4 : ∀ (xq2 : Int32) (xq3 : Int32)  (σ : Mm), KR E G 4 (ZI E G) (L4 xq2 xq3 σ) 4 [(0, .ref (ad E 48)), (1, .int xq1), (2, .int xq2), (3, .int xq3)] [] σ)  (σ : Mm) : KR E G 4 (ZI E G) (f_X11_isDone_52 L4 xq1 xq3 σ) 52 [(0, .ref (ad E 48)), (1, .int xq1), (3, .int xq3)] [] σ := by
  have F := B.1
  unfold f_X11_isDone_52
  refine k_iconst (pc := 52) F (v := (1 : Int32)) dX11_isDone_52 ci_1 ?_
  refine k_goto (pc := 53) F 57 dX11_isDone_53 (by decide) ?_
  exact k_sub [0, 1, 2] rfl (t_X11_isDone_57 B xq1 xq3 (1 : Int32)  L4 hL4  σ)
set_option maxHeartbeats 4000000 in
set_option maxRecDepth 100000 in
theorem t_X11_isDone_56 {E : En} {G : Cx} (B : Bx E G cX11_isDone 4 RX11 H_X11_isDone (some .boolean)) (xq1 : Int32) (xq3 : Int32)  (L4 : Int32 → Int32 → Mm → Option (Int32 × Mm)) (hL4 : ∀ (xq2 : Int32) (xq3 : Int32)  (σ : Mm), KR E G 4 (ZI E G) (L4 xq2 xq3 σ) 4 [(0, .ref (ad E 48)), (1, .int xq1), (2, .int xq2), (3, .int xq3)] [] σ)  (σ : Mm) : KR E G 4 (ZI E G) (f_X11_isDone_56 L4 xq1 xq3 σ) 56 [(0, .ref (ad E 48)), (1, .int xq1), (3, .int xq3)] [] σ := by
  have F := B.1
  unfold f_X11_isDone_56
  refine k_iconst (pc := 56) F (v := (0 : Int32)) dX11_isDone_56 ci_0 ?_
  exact k_sub [0, 1, 2] rfl (t_X11_isDone_57 B xq1 xq3 (0 : Int32)  L4 hL4  σ)
set_option maxHeartbeats 4000000 in
set_option maxRecDepth 100000 in
theorem t_X11_isDone_L4b {E : En} {G : Cx} (B : Bx E G cX11_isDone 4 RX11 H_X11_isDone (some .boolean)) (xq1 : Int32)   (L4 : Int32 → Int32 → Mm → Option (Int32 × Mm)) (hL4 : ∀ (xq2 : Int32) (xq3 : Int32)  (σ : Mm), KR E G 4 (ZI E G) (L4 xq2 xq3 σ) 4 [(0, .ref (ad E 48)), (1, .int xq1), (2, .int xq2), (3, .int xq3)] [] σ) (xq2 : Int32) (xq3 : Int32)  (σ : Mm) : KR E G 4 (ZI E G) (f_X11_isDone_L4 xq1 L4 xq2 xq3 σ) 4 [(0, .ref (ad E 48)), (1, .int xq1), (2, .int xq2), (3, .int xq3)] [] σ := by
  have F := B.1
  unfold f_X11_isDone_L4
  refine k_iload_n (pc := 4) F 3 3 dX11_isDone_4 rfl rfl ?_
  refine k_aload_n (pc := 5) F 0 0 dX11_isDone_5 rfl rfl ?_
  refine gf_48_7 (pc := 6) F w_4_177 dX11_isDone_6 ?_
  refine k_icmp_ge (pc := 9) F 64 dX11_isDone_9 (by decide) (fun _ => ?_) (fun _ => ?_)
  · refine k_iload_n (pc := 64) F 2 2 dX11_isDone_64 rfl rfl ?_
    exact k_zret (pc := 65) B dX11_isDone_65
  · refine k_iload_n (pc := 12) F 2 2 dX11_isDone_12 rfl rfl ?_
    refine k_if_ne (pc := 13) F 52 dX11_isDone_13 (by decide) (fun _ => ?_) (fun _ => ?_)
    · refine k_aload_n (pc := 16) F 0 0 dX11_isDone_16 rfl rfl ?_
      refine gf_48_8 (pc := 17) F w_4_178 dX11_isDone_17 ?_
      refine k_iconst (pc := 20) F (v := (2 : Int32)) dX11_isDone_20 ci_2 ?_
      refine k_iload_n (pc := 21) F 3 3 dX11_isDone_21 rfl rfl ?_
      refine k_imul (pc := 22) F dX11_isDone_22 ?_
      refine k_iald (pc := 23) F rfl dX11_isDone_23 ?_
      refine k_iload_n (pc := 24) F 1 1 dX11_isDone_24 rfl rfl ?_
      refine k_icmp_eq (pc := 25) F 52 dX11_isDone_25 (by decide) (fun _ => ?_) (fun _ => ?_)
      · exact k_sub [0, 1, 3] rfl (t_X11_isDone_52 B xq1 xq3  L4 hL4  σ)
      · refine k_aload_n (pc := 28) F 0 0 dX11_isDone_28 rfl rfl ?_
        refine gf_48_9 (pc := 29) F w_4_179 dX11_isDone_29 ?_
        refine k_iload_n (pc := 32) F 3 3 dX11_isDone_32 rfl rfl ?_
        refine k_iald (pc := 33) F rfl dX11_isDone_33 ?_
        refine k_iconst (pc := 34) F (v := (2 : Int32)) dX11_isDone_34 ci_2 ?_
        refine k_icmp_ne (pc := 35) F 56 dX11_isDone_35 (by decide) (fun _ => ?_) (fun _ => ?_)
        · refine k_aload_n (pc := 38) F 0 0 dX11_isDone_38 rfl rfl ?_
          refine gf_48_8 (pc := 39) F w_4_178 dX11_isDone_39 ?_
          refine k_iconst (pc := 42) F (v := (2 : Int32)) dX11_isDone_42 ci_2 ?_
          refine k_iload_n (pc := 43) F 3 3 dX11_isDone_43 rfl rfl ?_
          refine k_imul (pc := 44) F dX11_isDone_44 ?_
          refine k_iconst (pc := 45) F (v := (1 : Int32)) dX11_isDone_45 ci_1 ?_
          refine k_iadd (pc := 46) F dX11_isDone_46 ?_
          refine k_iald (pc := 47) F rfl dX11_isDone_47 ?_
          refine k_iload_n (pc := 48) F 1 1 dX11_isDone_48 rfl rfl ?_
          refine k_icmp_ne (pc := 49) F 56 dX11_isDone_49 (by decide) (fun _ => ?_) (fun _ => ?_)
          · exact k_sub [0, 1, 3] rfl (t_X11_isDone_52 B xq1 xq3  L4 hL4  σ)
          · exact k_sub [0, 1, 3] rfl (t_X11_isDone_56 B xq1 xq3  L4 hL4  σ)
        · exact k_sub [0, 1, 3] rfl (t_X11_isDone_56 B xq1 xq3  L4 hL4  σ)
    · exact k_sub [0, 1, 3] rfl (t_X11_isDone_52 B xq1 xq3  L4 hL4  σ)
set_option maxHeartbeats 4000000 in
set_option maxRecDepth 100000 in
theorem t_X11_isDone_L4 {E : En} {G : Cx} (B : Bx E G cX11_isDone 4 RX11 H_X11_isDone (some .boolean)) (xq1 : Int32)   : ∀ (n : Nat) (xq2 : Int32) (xq3 : Int32)  (σ : Mm), KR E G 4 (ZI E G) (fx (fun _ _ _ => none) n (f_X11_isDone_L4 xq1) xq2 xq3 σ) 4 [(0, .ref (ad E 48)), (1, .int xq1), (2, .int xq2), (3, .int xq3)] [] σ :=
  fun n => fx_ind (P := fun f => ∀ (xq2 : Int32) (xq3 : Int32)  (σ : Mm), KR E G 4 (ZI E G) (f xq2 xq3 σ) 4 [(0, .ref (ad E 48)), (1, .int xq1), (2, .int xq2), (3, .int xq3)] [] σ) (fun _ _ _ => k_none) (fun L4 hL4 xq2 xq3 σ => t_X11_isDone_L4b B xq1   L4 hL4 xq2 xq3 σ) n
set_option maxHeartbeats 4000000 in
set_option maxRecDepth 100000 in
theorem t_X11_isDone {E : En} {G : Cx} (B : Bx E G cX11_isDone 4 RX11 H_X11_isDone (some .boolean)) (aq0 : Int32)  (σ : Mm) : KR E G 4 (ZI E G) (f_X11_isDone aq0 σ) 0 [(0, .ref (ad E 48)), (1, .int aq0)] [] σ := by
  have F := B.1
  unfold f_X11_isDone
  refine k_iconst (pc := 0) F (v := (0 : Int32)) dX11_isDone_0 ci_0 ?_
  refine k_istore_n F (lv' := [(2, .int (0 : Int32)), (0, .ref (ad E 48)), (1, .int aq0)]) 2 dX11_isDone_1 rfl (by decide) rfl ?_
  refine k_iconst (pc := 2) F (v := (0 : Int32)) dX11_isDone_2 ci_0 ?_
  refine k_istore_n F (lv' := [(3, .int (0 : Int32)), (2, .int (0 : Int32)), (0, .ref (ad E 48)), (1, .int aq0)]) 3 dX11_isDone_3 rfl (by decide) rfl ?_
  exact k_sub [2, 3, 1, 0] rfl (t_X11_isDone_L4 B aq0   FU (0 : Int32) (0 : Int32)  σ)
set_option maxHeartbeats 4000000 in
set_option maxRecDepth 100000 in
theorem ct_X11_isDone (E : En) (aq0 : Int32)  (σ : Mm) : CtI E yX11_isDone cX11_isDone 4 (some .boolean) H_X11_isDone [.ref (ad E 48), .int aq0] σ (f_X11_isDone aq0 σ) := ct_I (by decide) (Nat.le_of_ble_eq_true rfl) rfl (fun G B => t_X11_isDone B aq0  σ)
abbrev H_X11_findWrites : Nat := 1
theorem hR_X11_findWrites_X11_isDone : H_X11_isDone + 1 ≤ H_X11_findWrites ∧ 8 + (4 + 11) + 40 * H_X11_isDone ≤ 40 * H_X11_findWrites := by decide
set_option maxHeartbeats 4000000 in
set_option maxRecDepth 100000 in
theorem t_X11_findWrites_84 {E : En} {G : Cx} (B : Bx E G cX11_findWrites 3 RX11 H_X11_findWrites none) (xq1 : Int32) (xq2 : Int32)  (L17 : Int32 → Mm → Option (Unit × Mm)) (hL17 : ∀ (xq2 : Int32)  (σ : Mm), KR E G 3 (ZV E G) (L17 xq2 σ) 17 [(0, .ref (ad E 48)), (1, .int xq1), (2, .int xq2)] [] σ)  (σ : Mm) : KR E G 3 (ZV E G) (f_X11_findWrites_84 L17 xq1 xq2 σ) 84 [(0, .ref (ad E 48)), (1, .int xq1), (2, .int xq2)] [] σ := by
  have F := B.1
  unfold f_X11_findWrites_84
  refine k_iinc (pc := 84) F (c := (1 : Int32)) (lw := fun wq => [(2, .int wq), (0, .ref (ad E 48)), (1, .int xq1)]) 2 2 dX11_findWrites_84 rfl ci_1 (by decide) (fun _ => rfl) (fun vq4 => ?_)
  refine k_goto (pc := 87) F 17 dX11_findWrites_87 (by decide) ?_
  exact k_sub [1, 2, 0] rfl (hL17 vq4 σ)
set_option maxHeartbeats 4000000 in
set_option maxRecDepth 100000 in
theorem t_X11_findWrites_L17b {E : En} {G : Cx} (B : Bx E G cX11_findWrites 3 RX11 H_X11_findWrites none) (xq1 : Int32)  (K90 : Mm → Option (Unit × Mm)) (hK90 : ∀   (σ : Mm), KR E G 3 (ZV E G) (K90  σ) 90 [(0, .ref (ad E 48)), (1, .int xq1)] [] σ)  (L17 : Int32 → Mm → Option (Unit × Mm)) (hL17 : ∀ (xq2 : Int32)  (σ : Mm), KR E G 3 (ZV E G) (L17 xq2 σ) 17 [(0, .ref (ad E 48)), (1, .int xq1), (2, .int xq2)] [] σ) (xq2 : Int32)  (σ : Mm) : KR E G 3 (ZV E G) (f_X11_findWrites_L17 K90 xq1 L17 xq2 σ) 17 [(0, .ref (ad E 48)), (1, .int xq1), (2, .int xq2)] [] σ := by
  have F := B.1
  unfold f_X11_findWrites_L17
  refine k_iload_n (pc := 17) F 2 2 dX11_findWrites_17 rfl rfl ?_
  refine k_aload_n (pc := 18) F 0 0 dX11_findWrites_18 rfl rfl ?_
  refine gf_48_1 (pc := 19) F w_4_171 dX11_findWrites_19 ?_
  refine k_iload_n (pc := 22) F 1 1 dX11_findWrites_22 rfl rfl ?_
  refine k_iald (pc := 23) F rfl dX11_findWrites_23 ?_
  refine k_icmp_ge (pc := 24) F 90 dX11_findWrites_24 (by decide) (fun _ => ?_) (fun _ => ?_)
  · exact k_sub [0, 1] rfl (hK90 σ)
  · refine k_aload_n (pc := 27) F 0 0 dX11_findWrites_27 rfl rfl ?_
    refine k_iload_n (pc := 28) F 1 1 dX11_findWrites_28 rfl rfl ?_
    refine k_callVI (pc := 29) B (k := 48) (As := [.int xq1]) (rest := []) (ct_X11_isDone E xq1  σ) rfl rfl mv_X11_isDone w_6_175 rfl hR_X11_findWrites_X11_isDone rfl (Nat.le_of_ble_eq_true rfl) dX11_findWrites_29 (fun rq3 σ2 hoq => ?_)
    refine k_if_eq (pc := 32) F 90 dX11_findWrites_32 (by decide) (fun _ => ?_) (fun _ => ?_)
    · exact k_sub [0, 1] rfl (hK90 σ2)
    · refine k_aload_n (pc := 35) F 0 0 dX11_findWrites_35 rfl rfl ?_
      refine gf_48_2 (pc := 36) F w_4_172 dX11_findWrites_36 ?_
      refine k_bipush (pc := 39) F (v := (7 : Int32)) dX11_findWrites_39 cb_7 ?_
      refine k_iload_n (pc := 41) F 1 1 dX11_findWrites_41 rfl rfl ?_
      refine k_imul (pc := 42) F dX11_findWrites_42 ?_
      refine k_iload_n (pc := 43) F 2 2 dX11_findWrites_43 rfl rfl ?_
      refine k_iadd (pc := 44) F dX11_findWrites_44 ?_
      refine k_iald (pc := 45) F rfl dX11_findWrites_45 ?_
      refine k_iconst (pc := 46) F (v := (2 : Int32)) dX11_findWrites_46 ci_2 ?_
      refine k_icmp_ne (pc := 47) F 84 dX11_findWrites_47 (by decide) (fun _ => ?_) (fun _ => ?_)
      · refine k_aload_n (pc := 50) F 0 0 dX11_findWrites_50 rfl rfl ?_
        refine gf_48_37 (pc := 51) F w_4_207 dX11_findWrites_51 ?_
        refine k_bipush (pc := 54) F (v := (6 : Int32)) dX11_findWrites_54 cb_6 ?_
        refine k_icmp_ge (pc := 56) F 84 dX11_findWrites_56 (by decide) (fun _ => ?_) (fun _ => ?_)
        · exact k_sub [0, 1, 2] rfl (t_X11_findWrites_84 B xq1 xq2  L17 hL17  σ2)
        · refine k_aload_n (pc := 59) F 0 0 dX11_findWrites_59 rfl rfl ?_
          refine gf_48_36 (pc := 60) F w_4_206 dX11_findWrites_60 ?_
          refine k_aload_n (pc := 63) F 0 0 dX11_findWrites_63 rfl rfl ?_
          refine gf_48_37 (pc := 64) F w_4_207 dX11_findWrites_64 ?_
          refine k_bipush (pc := 67) F (v := (7 : Int32)) dX11_findWrites_67 cb_7 ?_
          refine k_iload_n (pc := 69) F 1 1 dX11_findWrites_69 rfl rfl ?_
          refine k_imul (pc := 70) F dX11_findWrites_70 ?_
          refine k_iload_n (pc := 71) F 2 2 dX11_findWrites_71 rfl rfl ?_
          refine k_iadd (pc := 72) F dX11_findWrites_72 ?_
          refine k_iast (pc := 73) F rfl dX11_findWrites_73 (fun σ5 => ?_)
          refine k_aload_n (pc := 74) F 0 0 dX11_findWrites_74 rfl rfl ?_
          refine k_dup (pc := 75) F dX11_findWrites_75 rfl ?_
          refine gf_48_37 (pc := 76) F w_4_207 dX11_findWrites_76 ?_
          refine k_iconst (pc := 79) F (v := (1 : Int32)) dX11_findWrites_79 ci_1 ?_
          refine k_iadd (pc := 80) F dX11_findWrites_80 ?_
          refine pf_48_37 (pc := 81) F w_4_207 dX11_findWrites_81 (fun σ6 => ?_)
          exact k_sub [0, 1, 2] rfl (t_X11_findWrites_84 B xq1 xq2  L17 hL17  σ6)
      · exact k_sub [0, 1, 2] rfl (t_X11_findWrites_84 B xq1 xq2  L17 hL17  σ2)
set_option maxHeartbeats 4000000 in
set_option maxRecDepth 100000 in
theorem t_X11_findWrites_L17 {E : En} {G : Cx} (B : Bx E G cX11_findWrites 3 RX11 H_X11_findWrites none) (xq1 : Int32)  (K90 : Mm → Option (Unit × Mm)) (hK90 : ∀   (σ : Mm), KR E G 3 (ZV E G) (K90  σ) 90 [(0, .ref (ad E 48)), (1, .int xq1)] [] σ)  : ∀ (n : Nat) (xq2 : Int32)  (σ : Mm), KR E G 3 (ZV E G) (fx (fun _ _ => none) n (f_X11_findWrites_L17 K90 xq1) xq2 σ) 17 [(0, .ref (ad E 48)), (1, .int xq1), (2, .int xq2)] [] σ :=
  fun n => fx_ind (P := fun f => ∀ (xq2 : Int32)  (σ : Mm), KR E G 3 (ZV E G) (f xq2 σ) 17 [(0, .ref (ad E 48)), (1, .int xq1), (2, .int xq2)] [] σ) (fun _ _ => k_none) (fun L17 hL17 xq2 σ => t_X11_findWrites_L17b B xq1  K90 hK90  L17 hL17 xq2 σ) n
set_option maxHeartbeats 4000000 in
set_option maxRecDepth 100000 in
theorem t_X11_findWrites_90 {E : En} {G : Cx} (B : Bx E G cX11_findWrites 3 RX11 H_X11_findWrites none) (xq1 : Int32)  (L7 : Int32 → Mm → Option (Unit × Mm)) (hL7 : ∀ (xq1 : Int32)  (σ : Mm), KR E G 3 (ZV E G) (L7 xq1 σ) 7 [(0, .ref (ad E 48)), (1, .int xq1)] [] σ)  (σ : Mm) : KR E G 3 (ZV E G) (f_X11_findWrites_90 L7 xq1 σ) 90 [(0, .ref (ad E 48)), (1, .int xq1)] [] σ := by
  have F := B.1
  unfold f_X11_findWrites_90
  refine k_iinc (pc := 90) F (c := (1 : Int32)) (lw := fun wq => [(1, .int wq), (0, .ref (ad E 48))]) 1 1 dX11_findWrites_90 rfl ci_1 (by decide) (fun _ => rfl) (fun vq7 => ?_)
  refine k_goto (pc := 93) F 7 dX11_findWrites_93 (by decide) ?_
  exact k_sub [1, 0] rfl (hL7 vq7 σ)
set_option maxHeartbeats 4000000 in
set_option maxRecDepth 100000 in
theorem t_X11_findWrites_L7b {E : En} {G : Cx} (B : Bx E G cX11_findWrites 3 RX11 H_X11_findWrites none)    (L7 : Int32 → Mm → Option (Unit × Mm)) (hL7 : ∀ (xq1 : Int32)  (σ : Mm), KR E G 3 (ZV E G) (L7 xq1 σ) 7 [(0, .ref (ad E 48)), (1, .int xq1)] [] σ) (xq1 : Int32)  (σ : Mm) : KR E G 3 (ZV E G) (f_X11_findWrites_L7  L7 xq1 σ) 7 [(0, .ref (ad E 48)), (1, .int xq1)] [] σ := by
  have F := B.1
  unfold f_X11_findWrites_L7
  refine k_iload_n (pc := 7) F 1 1 dX11_findWrites_7 rfl rfl ?_
  refine k_aload_n (pc := 8) F 0 0 dX11_findWrites_8 rfl rfl ?_
  refine gf_48_0 (pc := 9) F w_4_170 dX11_findWrites_9 ?_
  refine k_icmp_ge (pc := 12) F 96 dX11_findWrites_12 (by decide) (fun _ => ?_) (fun _ => ?_)
  · exact k_vret (pc := 96) B dX11_findWrites_96
  · refine k_iconst (pc := 15) F (v := (0 : Int32)) dX11_findWrites_15 ci_0 ?_
    refine k_istore_n F (lv' := [(2, .int (0 : Int32)), (0, .ref (ad E 48)), (1, .int xq1)]) 2 dX11_findWrites_16 rfl (by decide) rfl ?_
    exact k_sub [1, 2, 0] rfl (t_X11_findWrites_L17 B xq1  _ (fun   σ => by
          exact k_sub [0, 1] rfl (t_X11_findWrites_90 B xq1  L7 hL7  σ)) FU (0 : Int32)  σ)
set_option maxHeartbeats 4000000 in
set_option maxRecDepth 100000 in
theorem t_X11_findWrites_L7 {E : En} {G : Cx} (B : Bx E G cX11_findWrites 3 RX11 H_X11_findWrites none)    : ∀ (n : Nat) (xq1 : Int32)  (σ : Mm), KR E G 3 (ZV E G) (fx (fun _ _ => none) n (f_X11_findWrites_L7 ) xq1 σ) 7 [(0, .ref (ad E 48)), (1, .int xq1)] [] σ :=
  fun n => fx_ind (P := fun f => ∀ (xq1 : Int32)  (σ : Mm), KR E G 3 (ZV E G) (f xq1 σ) 7 [(0, .ref (ad E 48)), (1, .int xq1)] [] σ) (fun _ _ => k_none) (fun L7 hL7 xq1 σ => t_X11_findWrites_L7b B    L7 hL7 xq1 σ) n
set_option maxHeartbeats 4000000 in
set_option maxRecDepth 100000 in
theorem t_X11_findWrites {E : En} {G : Cx} (B : Bx E G cX11_findWrites 3 RX11 H_X11_findWrites none)   (σ : Mm) : KR E G 3 (ZV E G) (f_X11_findWrites  σ) 0 [(0, .ref (ad E 48))] [] σ := by
  have F := B.1
  unfold f_X11_findWrites
  refine k_aload_n (pc := 0) F 0 0 dX11_findWrites_0 rfl rfl ?_
  refine k_iconst (pc := 1) F (v := (0 : Int32)) dX11_findWrites_1 ci_0 ?_
  refine pf_48_37 (pc := 2) F w_4_207 dX11_findWrites_2 (fun σ1 => ?_)
  refine k_iconst (pc := 5) F (v := (0 : Int32)) dX11_findWrites_5 ci_0 ?_
  refine k_istore_n F (lv' := [(1, .int (0 : Int32)), (0, .ref (ad E 48))]) 1 dX11_findWrites_6 rfl (by decide) rfl ?_
  exact k_sub [1, 0] rfl (t_X11_findWrites_L7 B    FU (0 : Int32)  σ1)
set_option maxHeartbeats 4000000 in
set_option maxRecDepth 100000 in
theorem ct_X11_findWrites (E : En)   (σ : Mm) : CtV E yX11_findWrites cX11_findWrites 3 none H_X11_findWrites [.ref (ad E 48)] σ (f_X11_findWrites  σ) := ct_V (by decide) (Nat.le_of_ble_eq_true rfl) rfl (fun G B => t_X11_findWrites B   σ)
abbrev H_X11_isFenced : Nat := 0
set_option maxHeartbeats 4000000 in
set_option maxRecDepth 100000 in
theorem t_X11_isFenced_44 {E : En} {G : Cx} (B : Bx E G cX11_isFenced 5 RX11 H_X11_isFenced (some .boolean)) (xq1 : Int32) (xq2 : Int32) (xq4 : Int32) (xqs0 : Int32)  (L5 : Int32 → Int32 → Mm → Option (Int32 × Mm)) (hL5 : ∀ (xq3 : Int32) (xq4 : Int32)  (σ : Mm), KR E G 5 (ZI E G) (L5 xq3 xq4 σ) 5 [(0, .ref (ad E 48)), (1, .int xq1), (2, .int xq2), (3, .int xq3), (4, .int xq4)] [] σ)  (σ : Mm) : KR E G 5 (ZI E G) (f_X11_isFenced_44 L5 xq1 xq2 xq4 xqs0 σ) 44 [(0, .ref (ad E 48)), (1, .int xq1), (2, .int xq2), (4, .int xq4)] [.int xqs0] σ := by
  have F := B.1
  unfold f_X11_isFenced_44
  refine k_istore_n F (lv' := [(3, .int xqs0), (0, .ref (ad E 48)), (1, .int xq1), (2, .int xq2), (4, .int xq4)]) 3 dX11_isFenced_44 rfl (by decide) rfl ?_
  refine k_iinc (pc := 45) F (c := (1 : Int32)) (lw := fun wq => [(4, .int wq), (3, .int xqs0), (0, .ref (ad E 48)), (1, .int xq1), (2, .int xq2)]) 4 4 dX11_isFenced_45 rfl ci_1 (by decide) (fun _ => rfl) (fun vq1 => ?_)
  refine k_goto (pc := 48) F 5 dX11_isFenced_48 (by decide) ?_
  exact k_sub [2, 3, 4, 1, 0] rfl (hL5 xqs0 vq1 σ)
set_option maxHeartbeats 4000000 in
set_option maxRecDepth 100000 in
theorem t_X11_isFenced_39 {E : En} {G : Cx} (B : Bx E G cX11_isFenced 5 RX11 H_X11_isFenced (some .boolean)) (xq1 : Int32) (xq2 : Int32) (xq4 : Int32)  (L5 : Int32 → Int32 → Mm → Option (Int32 × Mm)) (hL5 : ∀ (xq3 : Int32) (xq4 : Int32)  (σ : Mm), KR E G 5 (ZI E G) (L5 xq3 xq4 σ) 5 [(0, .ref (ad E 48)), (1, .int xq1), (2, .int xq2), (3, .int xq3), (4, .int xq4)] [] σ)  (σ : Mm) : KR E G 5 (ZI E G) (f_X11_isFenced_39 L5 xq1 xq2 xq4 σ) 39 [(0, .ref (ad E 48)), (1, .int xq1), (2, .int xq2), (4, .int xq4)] [] σ := by
  have F := B.1
  unfold f_X11_isFenced_39
  refine k_iconst (pc := 39) F (v := (1 : Int32)) dX11_isFenced_39 ci_1 ?_
  refine k_goto (pc := 40) F 44 dX11_isFenced_40 (by decide) ?_
  exact k_sub [0, 1, 2, 3] rfl (t_X11_isFenced_44 B xq1 xq2 xq4 (1 : Int32)  L5 hL5  σ)
set_option maxHeartbeats 4000000 in
set_option maxRecDepth 100000 in
theorem t_X11_isFenced_43 {E : En} {G : Cx} (B : Bx E G cX11_isFenced 5 RX11 H_X11_isFenced (some .boolean)) (xq1 : Int32) (xq2 : Int32) (xq4 : Int32)  (L5 : Int32 → Int32 → Mm → Option (Int32 × Mm)) (hL5 : ∀ (xq3 : Int32) (xq4 : Int32)  (σ : Mm), KR E G 5 (ZI E G) (L5 xq3 xq4 σ) 5 [(0, .ref (ad E 48)), (1, .int xq1), (2, .int xq2), (3, .int xq3), (4, .int xq4)] [] σ)  (σ : Mm) : KR E G 5 (ZI E G) (f_X11_isFenced_43 L5 xq1 xq2 xq4 σ) 43 [(0, .ref (ad E 48)), (1, .int xq1), (2, .int xq2), (4, .int xq4)] [] σ := by
  have F := B.1
  unfold f_X11_isFenced_43
  refine k_iconst (pc := 43) F (v := (0 : Int32)) dX11_isFenced_43 ci_0 ?_
  exact k_sub [0, 1, 2, 3] rfl (t_X11_isFenced_44 B xq1 xq2 xq4 (0 : Int32)  L5 hL5  σ)
set_option maxHeartbeats 4000000 in
set_option maxRecDepth 100000 in
theorem t_X11_isFenced_L5b {E : En} {G : Cx} (B : Bx E G cX11_isFenced 5 RX11 H_X11_isFenced (some .boolean)) (xq1 : Int32) (xq2 : Int32)   (L5 : Int32 → Int32 → Mm → Option (Int32 × Mm)) (hL5 : ∀ (xq3 : Int32) (xq4 : Int32)  (σ : Mm), KR E G 5 (ZI E G) (L5 xq3 xq4 σ) 5 [(0, .ref (ad E 48)), (1, .int xq1), (2, .int xq2), (3, .int xq3), (4, .int xq4)] [] σ) (xq3 : Int32) (xq4 : Int32)  (σ : Mm) : KR E G 5 (ZI E G) (f_X11_isFenced_L5 xq1 xq2 L5 xq3 xq4 σ) 5 [(0, .ref (ad E 48)), (1, .int xq1), (2, .int xq2), (3, .int xq3), (4, .int xq4)] [] σ := by
  have F := B.1
  unfold f_X11_isFenced_L5
  refine k_iload (pc := 5) F 4 4 dX11_isFenced_5 rfl ?_
  refine k_aload_n (pc := 7) F 0 0 dX11_isFenced_7 rfl rfl ?_
  refine gf_48_37 (pc := 8) F w_4_207 dX11_isFenced_8 ?_
  refine k_icmp_ge (pc := 11) F 51 dX11_isFenced_11 (by decide) (fun _ => ?_) (fun _ => ?_)
  · refine k_iload_n (pc := 51) F 3 3 dX11_isFenced_51 rfl rfl ?_
    exact k_zret (pc := 52) B dX11_isFenced_52
  · refine k_iload_n (pc := 14) F 3 3 dX11_isFenced_14 rfl rfl ?_
    refine k_if_ne (pc := 15) F 39 dX11_isFenced_15 (by decide) (fun _ => ?_) (fun _ => ?_)
    · refine k_aload_n (pc := 18) F 0 0 dX11_isFenced_18 rfl rfl ?_
      refine gf_48_36 (pc := 19) F w_4_206 dX11_isFenced_19 ?_
      refine k_iload (pc := 22) F 4 4 dX11_isFenced_22 rfl ?_
      refine k_iald (pc := 24) F rfl dX11_isFenced_24 ?_
      refine k_iload_n (pc := 25) F 1 1 dX11_isFenced_25 rfl rfl ?_
      refine k_icmp_ne (pc := 26) F 43 dX11_isFenced_26 (by decide) (fun _ => ?_) (fun _ => ?_)
      · refine k_iload_n (pc := 29) F 2 2 dX11_isFenced_29 rfl rfl ?_
        refine k_iload (pc := 30) F 4 4 dX11_isFenced_30 rfl ?_
        refine k_ishr (pc := 32) F dX11_isFenced_32 ?_
        refine k_iconst (pc := 33) F (v := (1 : Int32)) dX11_isFenced_33 ci_1 ?_
        refine k_iand (pc := 34) F dX11_isFenced_34 ?_
        refine k_iconst (pc := 35) F (v := (1 : Int32)) dX11_isFenced_35 ci_1 ?_
        refine k_icmp_ne (pc := 36) F 43 dX11_isFenced_36 (by decide) (fun _ => ?_) (fun _ => ?_)
        · exact k_sub [0, 1, 2, 4] rfl (t_X11_isFenced_39 B xq1 xq2 xq4  L5 hL5  σ)
        · exact k_sub [0, 1, 2, 4] rfl (t_X11_isFenced_43 B xq1 xq2 xq4  L5 hL5  σ)
      · exact k_sub [0, 1, 2, 4] rfl (t_X11_isFenced_43 B xq1 xq2 xq4  L5 hL5  σ)
    · exact k_sub [0, 1, 2, 4] rfl (t_X11_isFenced_39 B xq1 xq2 xq4  L5 hL5  σ)
set_option maxHeartbeats 4000000 in
set_option maxRecDepth 100000 in
theorem t_X11_isFenced_L5 {E : En} {G : Cx} (B : Bx E G cX11_isFenced 5 RX11 H_X11_isFenced (some .boolean)) (xq1 : Int32) (xq2 : Int32)   : ∀ (n : Nat) (xq3 : Int32) (xq4 : Int32)  (σ : Mm), KR E G 5 (ZI E G) (fx (fun _ _ _ => none) n (f_X11_isFenced_L5 xq1 xq2) xq3 xq4 σ) 5 [(0, .ref (ad E 48)), (1, .int xq1), (2, .int xq2), (3, .int xq3), (4, .int xq4)] [] σ :=
  fun n => fx_ind (P := fun f => ∀ (xq3 : Int32) (xq4 : Int32)  (σ : Mm), KR E G 5 (ZI E G) (f xq3 xq4 σ) 5 [(0, .ref (ad E 48)), (1, .int xq1), (2, .int xq2), (3, .int xq3), (4, .int xq4)] [] σ) (fun _ _ _ => k_none) (fun L5 hL5 xq3 xq4 σ => t_X11_isFenced_L5b B xq1 xq2   L5 hL5 xq3 xq4 σ) n
set_option maxHeartbeats 4000000 in
set_option maxRecDepth 100000 in
theorem t_X11_isFenced {E : En} {G : Cx} (B : Bx E G cX11_isFenced 5 RX11 H_X11_isFenced (some .boolean)) (aq0 : Int32) (aq1 : Int32)  (σ : Mm) : KR E G 5 (ZI E G) (f_X11_isFenced aq0 aq1 σ) 0 [(0, .ref (ad E 48)), (1, .int aq0), (2, .int aq1)] [] σ := by
  have F := B.1
  unfold f_X11_isFenced
  refine k_iconst (pc := 0) F (v := (0 : Int32)) dX11_isFenced_0 ci_0 ?_
  refine k_istore_n F (lv' := [(3, .int (0 : Int32)), (0, .ref (ad E 48)), (1, .int aq0), (2, .int aq1)]) 3 dX11_isFenced_1 rfl (by decide) rfl ?_
  refine k_iconst (pc := 2) F (v := (0 : Int32)) dX11_isFenced_2 ci_0 ?_
  refine k_istore F (lv' := [(4, .int (0 : Int32)), (3, .int (0 : Int32)), (0, .ref (ad E 48)), (1, .int aq0), (2, .int aq1)]) 4 dX11_isFenced_3 (by decide) rfl ?_
  exact k_sub [2, 3, 4, 1, 0] rfl (t_X11_isFenced_L5 B aq0 aq1   FU (0 : Int32) (0 : Int32)  σ)
set_option maxHeartbeats 4000000 in
set_option maxRecDepth 100000 in
theorem ct_X11_isFenced (E : En) (aq0 : Int32) (aq1 : Int32)  (σ : Mm) : CtI E yX11_isFenced cX11_isFenced 5 (some .boolean) H_X11_isFenced [.ref (ad E 48), .int aq0, .int aq1] σ (f_X11_isFenced aq0 aq1 σ) := ct_I (by decide) (Nat.le_of_ble_eq_true rfl) rfl (fun G B => t_X11_isFenced B aq0 aq1  σ)
abbrev H_X11_lays : Nat := 0
set_option maxHeartbeats 4000000 in
set_option maxRecDepth 100000 in
theorem t_X11_lays {E : En} {G : Cx} (B : Bx E G cX11_lays 3 RX11 H_X11_lays none) (aq0 : Int32) (aq1 : Int32)  (σ : Mm) : KR E G 3 (ZV E G) (f_X11_lays aq0 aq1 σ) 0 [(0, .ref (ad E 48)), (1, .int aq0), (2, .int aq1)] [] σ := by
  have F := B.1
  unfold f_X11_lays
  refine k_aload_n (pc := 0) F 0 0 dX11_lays_0 rfl rfl ?_
  refine gf_48_31 (pc := 1) F w_4_201 dX11_lays_1 ?_
  refine k_iload_n (pc := 4) F 1 1 dX11_lays_4 rfl rfl ?_
  refine k_aload_n (pc := 5) F 0 0 dX11_lays_5 rfl rfl ?_
  refine gf_48_2 (pc := 6) F w_4_172 dX11_lays_6 ?_
  refine k_iload_n (pc := 9) F 2 2 dX11_lays_9 rfl rfl ?_
  refine k_iald (pc := 10) F rfl dX11_lays_10 ?_
  refine k_iast (pc := 11) F rfl dX11_lays_11 (fun σ1 => ?_)
  refine k_aload_n (pc := 12) F 0 0 dX11_lays_12 rfl rfl ?_
  refine gf_48_32 (pc := 13) F w_4_202 dX11_lays_13 ?_
  refine k_iload_n (pc := 16) F 1 1 dX11_lays_16 rfl rfl ?_
  refine k_aload_n (pc := 17) F 0 0 dX11_lays_17 rfl rfl ?_
  refine gf_48_3 (pc := 18) F w_4_173 dX11_lays_18 ?_
  refine k_iload_n (pc := 21) F 2 2 dX11_lays_21 rfl rfl ?_
  refine k_iald (pc := 22) F rfl dX11_lays_22 ?_
  refine k_iast (pc := 23) F rfl dX11_lays_23 (fun σ2 => ?_)
  refine k_aload_n (pc := 24) F 0 0 dX11_lays_24 rfl rfl ?_
  refine gf_48_33 (pc := 25) F w_4_203 dX11_lays_25 ?_
  refine k_iload_n (pc := 28) F 1 1 dX11_lays_28 rfl rfl ?_
  refine k_aload_n (pc := 29) F 0 0 dX11_lays_29 rfl rfl ?_
  refine gf_48_4 (pc := 30) F w_4_174 dX11_lays_30 ?_
  refine k_iload_n (pc := 33) F 2 2 dX11_lays_33 rfl rfl ?_
  refine k_iald (pc := 34) F rfl dX11_lays_34 ?_
  refine k_iast (pc := 35) F rfl dX11_lays_35 (fun σ3 => ?_)
  refine k_aload_n (pc := 36) F 0 0 dX11_lays_36 rfl rfl ?_
  refine gf_48_34 (pc := 37) F w_4_204 dX11_lays_37 ?_
  refine k_iload_n (pc := 40) F 1 1 dX11_lays_40 rfl rfl ?_
  refine k_aload_n (pc := 41) F 0 0 dX11_lays_41 rfl rfl ?_
  refine gf_48_5 (pc := 42) F w_4_175 dX11_lays_42 ?_
  refine k_iload_n (pc := 45) F 2 2 dX11_lays_45 rfl rfl ?_
  refine k_iald (pc := 46) F rfl dX11_lays_46 ?_
  refine k_iast (pc := 47) F rfl dX11_lays_47 (fun σ4 => ?_)
  refine k_aload_n (pc := 48) F 0 0 dX11_lays_48 rfl rfl ?_
  refine gf_48_35 (pc := 49) F w_4_205 dX11_lays_49 ?_
  refine k_iload_n (pc := 52) F 1 1 dX11_lays_52 rfl rfl ?_
  refine k_aload_n (pc := 53) F 0 0 dX11_lays_53 rfl rfl ?_
  refine gf_48_6 (pc := 54) F w_4_176 dX11_lays_54 ?_
  refine k_iload_n (pc := 57) F 2 2 dX11_lays_57 rfl rfl ?_
  refine k_iald (pc := 58) F rfl dX11_lays_58 ?_
  refine k_iast (pc := 59) F rfl dX11_lays_59 (fun σ5 => ?_)
  exact k_vret (pc := 60) B dX11_lays_60
set_option maxHeartbeats 4000000 in
set_option maxRecDepth 100000 in
theorem ct_X11_lays (E : En) (aq0 : Int32) (aq1 : Int32)  (σ : Mm) : CtV E yX11_lays cX11_lays 3 none H_X11_lays [.ref (ad E 48), .int aq0, .int aq1] σ (f_X11_lays aq0 aq1 σ) := ct_V (by decide) (Nat.le_of_ble_eq_true rfl) rfl (fun G B => t_X11_lays B aq0 aq1  σ)
abbrev H_X11_lay : Nat := 1
theorem hR_X11_lay_X11_isFenced : H_X11_isFenced + 1 ≤ H_X11_lay ∧ 8 + (5 + 11) + 40 * H_X11_isFenced ≤ 40 * H_X11_lay := by decide
theorem hR_X11_lay_X11_lays : H_X11_lays + 1 ≤ H_X11_lay ∧ 8 + (3 + 11) + 40 * H_X11_lays ≤ 40 * H_X11_lay := by decide
set_option maxHeartbeats 4000000 in
set_option maxRecDepth 100000 in
theorem t_X11_lay_84 {E : En} {G : Cx} (B : Bx E G cX11_lay 5 RX11 H_X11_lay none) (xq1 : Int32) (xq2 : Int32) (xq3 : Int32) (xq4 : Int32)  (L15 : Int32 → Int32 → Mm → Option (Unit × Mm)) (hL15 : ∀ (xq3 : Int32) (xq4 : Int32)  (σ : Mm), KR E G 5 (ZV E G) (L15 xq3 xq4 σ) 15 [(0, .ref (ad E 48)), (1, .int xq1), (2, .int xq2), (3, .int xq3), (4, .int xq4)] [] σ)  (σ : Mm) : KR E G 5 (ZV E G) (f_X11_lay_84 L15 xq1 xq2 xq3 xq4 σ) 84 [(0, .ref (ad E 48)), (1, .int xq1), (2, .int xq2), (3, .int xq3), (4, .int xq4)] [] σ := by
  have F := B.1
  unfold f_X11_lay_84
  refine k_iinc (pc := 84) F (c := (1 : Int32)) (lw := fun wq => [(4, .int wq), (0, .ref (ad E 48)), (1, .int xq1), (2, .int xq2), (3, .int xq3)]) 4 4 dX11_lay_84 rfl ci_1 (by decide) (fun _ => rfl) (fun vq7 => ?_)
  refine k_goto (pc := 87) F 15 dX11_lay_87 (by decide) ?_
  exact k_sub [1, 2, 3, 4, 0] rfl (hL15 xq3 vq7 σ)
set_option maxHeartbeats 4000000 in
set_option maxRecDepth 100000 in
theorem t_X11_lay_L15b {E : En} {G : Cx} (B : Bx E G cX11_lay 5 RX11 H_X11_lay none) (xq1 : Int32) (xq2 : Int32)  (K90 : Int32 → Mm → Option (Unit × Mm)) (hK90 : ∀ (xq3 : Int32)  (σ : Mm), KR E G 5 (ZV E G) (K90 xq3 σ) 90 [(0, .ref (ad E 48)), (1, .int xq1), (2, .int xq2), (3, .int xq3)] [] σ)  (L15 : Int32 → Int32 → Mm → Option (Unit × Mm)) (hL15 : ∀ (xq3 : Int32) (xq4 : Int32)  (σ : Mm), KR E G 5 (ZV E G) (L15 xq3 xq4 σ) 15 [(0, .ref (ad E 48)), (1, .int xq1), (2, .int xq2), (3, .int xq3), (4, .int xq4)] [] σ) (xq3 : Int32) (xq4 : Int32)  (σ : Mm) : KR E G 5 (ZV E G) (f_X11_lay_L15 K90 xq1 xq2 L15 xq3 xq4 σ) 15 [(0, .ref (ad E 48)), (1, .int xq1), (2, .int xq2), (3, .int xq3), (4, .int xq4)] [] σ := by
  have F := B.1
  unfold f_X11_lay_L15
  refine k_iload (pc := 15) F 4 4 dX11_lay_15 rfl ?_
  refine k_aload_n (pc := 17) F 0 0 dX11_lay_17 rfl rfl ?_
  refine gf_48_1 (pc := 18) F w_4_171 dX11_lay_18 ?_
  refine k_iload_n (pc := 21) F 2 2 dX11_lay_21 rfl rfl ?_
  refine k_iald (pc := 22) F rfl dX11_lay_22 ?_
  refine k_icmp_ge (pc := 23) F 90 dX11_lay_23 (by decide) (fun _ => ?_) (fun _ => ?_)
  · exact k_sub [0, 1, 2, 3] rfl (hK90 xq3 σ)
  · refine k_aload_n (pc := 26) F 0 0 dX11_lay_26 rfl rfl ?_
    refine gf_48_38 (pc := 27) F w_4_208 dX11_lay_27 ?_
    refine k_iload (pc := 30) F 4 4 dX11_lay_30 rfl ?_
    refine k_iload_n (pc := 32) F 3 3 dX11_lay_32 rfl rfl ?_
    refine k_iast (pc := 33) F rfl dX11_lay_33 (fun σ1 => ?_)
    refine k_aload_n (pc := 34) F 0 0 dX11_lay_34 rfl rfl ?_
    refine k_bipush (pc := 35) F (v := (14 : Int32)) dX11_lay_35 cb_14 ?_
    refine k_iload_n (pc := 37) F 2 2 dX11_lay_37 rfl rfl ?_
    refine k_imul (pc := 38) F dX11_lay_38 ?_
    refine k_iload_n (pc := 39) F 3 3 dX11_lay_39 rfl rfl ?_
    refine k_iadd (pc := 40) F dX11_lay_40 ?_
    refine k_bipush (pc := 41) F (v := (7 : Int32)) dX11_lay_41 cb_7 ?_
    refine k_iload_n (pc := 43) F 2 2 dX11_lay_43 rfl rfl ?_
    refine k_imul (pc := 44) F dX11_lay_44 ?_
    refine k_iload (pc := 45) F 4 4 dX11_lay_45 rfl ?_
    refine k_iadd (pc := 47) F dX11_lay_47 ?_
    refine k_callVV (pc := 48) B (k := 48) (As := [.int (((14 : Int32) * xq2) + xq3), .int (((7 : Int32) * xq2) + xq4)]) (rest := []) (ct_X11_lays E (((14 : Int32) * xq2) + xq3) (((7 : Int32) * xq2) + xq4)  σ1) rfl rfl mv_X11_lays w_6_10 rfl hR_X11_lay_X11_lays rfl (Nat.le_of_ble_eq_true rfl) dX11_lay_48 (fun rq3 σ2 hoq => ?_)
    refine k_iinc (pc := 51) F (c := (1 : Int32)) (lw := fun wq => [(3, .int wq), (0, .ref (ad E 48)), (1, .int xq1), (2, .int xq2), (4, .int xq4)]) 3 3 dX11_lay_51 rfl ci_1 (by decide) (fun _ => rfl) (fun vq4 => ?_)
    refine k_aload_n (pc := 54) F 0 1 dX11_lay_54 rfl rfl ?_
    refine k_bipush (pc := 55) F (v := (7 : Int32)) dX11_lay_55 cb_7 ?_
    refine k_iload_n (pc := 57) F 2 3 dX11_lay_57 rfl rfl ?_
    refine k_imul (pc := 58) F dX11_lay_58 ?_
    refine k_iload (pc := 59) F 4 4 dX11_lay_59 rfl ?_
    refine k_iadd (pc := 61) F dX11_lay_61 ?_
    refine k_iload_n (pc := 62) F 1 2 dX11_lay_62 rfl rfl ?_
    refine k_callVI (pc := 63) B (k := 48) (As := [.int (((7 : Int32) * xq2) + xq4), .int xq1]) (rest := []) (ct_X11_isFenced E (((7 : Int32) * xq2) + xq4) xq1  σ2) rfl rfl mv_X11_isFenced w_6_14 rfl hR_X11_lay_X11_isFenced rfl (Nat.le_of_ble_eq_true rfl) dX11_lay_63 (fun rq6 σ5 hoq => ?_)
    refine k_if_eq (pc := 66) F 84 dX11_lay_66 (by decide) (fun _ => ?_) (fun _ => ?_)
    · exact k_sub [1, 2, 3, 0, 4] rfl (t_X11_lay_84 B xq1 xq2 vq4 xq4  L15 hL15  σ5)
    · refine k_aload_n (pc := 69) F 0 1 dX11_lay_69 rfl rfl ?_
      refine gf_48_31 (pc := 70) F w_4_201 dX11_lay_70 ?_
      refine k_bipush (pc := 73) F (v := (14 : Int32)) dX11_lay_73 cb_14 ?_
      refine k_iload_n (pc := 75) F 2 3 dX11_lay_75 rfl rfl ?_
      refine k_imul (pc := 76) F dX11_lay_76 ?_
      refine k_iload_n (pc := 77) F 3 0 dX11_lay_77 rfl rfl ?_
      refine k_iadd (pc := 78) F dX11_lay_78 ?_
      refine k_iconst (pc := 79) F (v := (5 : Int32)) dX11_lay_79 ci_5 ?_
      refine k_iast (pc := 80) F rfl dX11_lay_80 (fun σ8 => ?_)
      refine k_iinc (pc := 81) F (c := (1 : Int32)) (lw := fun wq => [(3, .int wq), (0, .ref (ad E 48)), (1, .int xq1), (2, .int xq2), (4, .int xq4)]) 3 0 dX11_lay_81 rfl ci_1 (by decide) (fun _ => rfl) (fun vq9 => ?_)
      exact k_sub [1, 2, 3, 0, 4] rfl (t_X11_lay_84 B xq1 xq2 vq9 xq4  L15 hL15  σ8)
set_option maxHeartbeats 4000000 in
set_option maxRecDepth 100000 in
theorem t_X11_lay_L15 {E : En} {G : Cx} (B : Bx E G cX11_lay 5 RX11 H_X11_lay none) (xq1 : Int32) (xq2 : Int32)  (K90 : Int32 → Mm → Option (Unit × Mm)) (hK90 : ∀ (xq3 : Int32)  (σ : Mm), KR E G 5 (ZV E G) (K90 xq3 σ) 90 [(0, .ref (ad E 48)), (1, .int xq1), (2, .int xq2), (3, .int xq3)] [] σ)  : ∀ (n : Nat) (xq3 : Int32) (xq4 : Int32)  (σ : Mm), KR E G 5 (ZV E G) (fx (fun _ _ _ => none) n (f_X11_lay_L15 K90 xq1 xq2) xq3 xq4 σ) 15 [(0, .ref (ad E 48)), (1, .int xq1), (2, .int xq2), (3, .int xq3), (4, .int xq4)] [] σ :=
  fun n => fx_ind (P := fun f => ∀ (xq3 : Int32) (xq4 : Int32)  (σ : Mm), KR E G 5 (ZV E G) (f xq3 xq4 σ) 15 [(0, .ref (ad E 48)), (1, .int xq1), (2, .int xq2), (3, .int xq3), (4, .int xq4)] [] σ) (fun _ _ _ => k_none) (fun L15 hL15 xq3 xq4 σ => t_X11_lay_L15b B xq1 xq2  K90 hK90  L15 hL15 xq3 xq4 σ) n
set_option maxHeartbeats 4000000 in
set_option maxRecDepth 100000 in
theorem t_X11_lay_152 {E : En} {G : Cx} (B : Bx E G cX11_lay 5 RX11 H_X11_lay none) (xq1 : Int32) (xq2 : Int32) (xq3 : Int32) (xq4 : Int32)  (L100 : Int32 → Mm → Option (Unit × Mm)) (hL100 : ∀ (xq4 : Int32)  (σ : Mm), KR E G 5 (ZV E G) (L100 xq4 σ) 100 [(0, .ref (ad E 48)), (1, .int xq1), (2, .int xq2), (3, .int xq3), (4, .int xq4)] [] σ)  (σ : Mm) : KR E G 5 (ZV E G) (f_X11_lay_152 L100 xq1 xq2 xq3 xq4 σ) 152 [(0, .ref (ad E 48)), (1, .int xq1), (2, .int xq2), (3, .int xq3), (4, .int xq4)] [] σ := by
  have F := B.1
  unfold f_X11_lay_152
  refine k_iinc (pc := 152) F (c := (1 : Int32)) (lw := fun wq => [(4, .int wq), (0, .ref (ad E 48)), (1, .int xq1), (2, .int xq2), (3, .int xq3)]) 4 4 dX11_lay_152 rfl ci_1 (by decide) (fun _ => rfl) (fun vq11 => ?_)
  refine k_goto (pc := 155) F 100 dX11_lay_155 (by decide) ?_
  exact k_sub [1, 2, 3, 4, 0] rfl (hL100 vq11 σ)
set_option maxHeartbeats 4000000 in
set_option maxRecDepth 100000 in
theorem t_X11_lay_L100b {E : En} {G : Cx} (B : Bx E G cX11_lay 5 RX11 H_X11_lay none) (xq1 : Int32) (xq2 : Int32) (xq3 : Int32)  (K158 : Mm → Option (Unit × Mm)) (hK158 : ∀   (σ : Mm), KR E G 5 (ZV E G) (K158  σ) 158 [(0, .ref (ad E 48)), (1, .int xq1), (2, .int xq2)] [] σ)  (L100 : Int32 → Mm → Option (Unit × Mm)) (hL100 : ∀ (xq4 : Int32)  (σ : Mm), KR E G 5 (ZV E G) (L100 xq4 σ) 100 [(0, .ref (ad E 48)), (1, .int xq1), (2, .int xq2), (3, .int xq3), (4, .int xq4)] [] σ) (xq4 : Int32)  (σ : Mm) : KR E G 5 (ZV E G) (f_X11_lay_L100 K158 xq1 xq2 xq3 L100 xq4 σ) 100 [(0, .ref (ad E 48)), (1, .int xq1), (2, .int xq2), (3, .int xq3), (4, .int xq4)] [] σ := by
  have F := B.1
  unfold f_X11_lay_L100
  refine k_iload (pc := 100) F 4 4 dX11_lay_100 rfl ?_
  refine k_iload_n (pc := 102) F 3 3 dX11_lay_102 rfl rfl ?_
  refine k_icmp_ge (pc := 103) F 158 dX11_lay_103 (by decide) (fun _ => ?_) (fun _ => ?_)
  · exact k_sub [0, 1, 2] rfl (hK158 σ)
  · refine k_aload_n (pc := 106) F 0 0 dX11_lay_106 rfl rfl ?_
    refine gf_48_31 (pc := 107) F w_4_201 dX11_lay_107 ?_
    refine k_bipush (pc := 110) F (v := (14 : Int32)) dX11_lay_110 cb_14 ?_
    refine k_iload_n (pc := 112) F 2 2 dX11_lay_112 rfl rfl ?_
    refine k_imul (pc := 113) F dX11_lay_113 ?_
    refine k_iload (pc := 114) F 4 4 dX11_lay_114 rfl ?_
    refine k_iadd (pc := 116) F dX11_lay_116 ?_
    refine k_iald (pc := 117) F rfl dX11_lay_117 ?_
    refine k_bipush (pc := 118) F (v := (6 : Int32)) dX11_lay_118 cb_6 ?_
    refine k_icmp_ne (pc := 120) F 152 dX11_lay_120 (by decide) (fun _ => ?_) (fun _ => ?_)
    · refine k_aload_n (pc := 123) F 0 0 dX11_lay_123 rfl rfl ?_
      refine gf_48_35 (pc := 124) F w_4_205 dX11_lay_124 ?_
      refine k_bipush (pc := 127) F (v := (14 : Int32)) dX11_lay_127 cb_14 ?_
      refine k_iload_n (pc := 129) F 2 2 dX11_lay_129 rfl rfl ?_
      refine k_imul (pc := 130) F dX11_lay_130 ?_
      refine k_iload (pc := 131) F 4 4 dX11_lay_131 rfl ?_
      refine k_iadd (pc := 133) F dX11_lay_133 ?_
      refine k_aload_n (pc := 134) F 0 0 dX11_lay_134 rfl rfl ?_
      refine gf_48_38 (pc := 135) F w_4_208 dX11_lay_135 ?_
      refine k_aload_n (pc := 138) F 0 0 dX11_lay_138 rfl rfl ?_
      refine gf_48_35 (pc := 139) F w_4_205 dX11_lay_139 ?_
      refine k_bipush (pc := 142) F (v := (14 : Int32)) dX11_lay_142 cb_14 ?_
      refine k_iload_n (pc := 144) F 2 2 dX11_lay_144 rfl rfl ?_
      refine k_imul (pc := 145) F dX11_lay_145 ?_
      refine k_iload (pc := 146) F 4 4 dX11_lay_146 rfl ?_
      refine k_iadd (pc := 148) F dX11_lay_148 ?_
      refine k_iald (pc := 149) F rfl dX11_lay_149 ?_
      refine k_iald (pc := 150) F rfl dX11_lay_150 ?_
      refine k_iast (pc := 151) F rfl dX11_lay_151 (fun σ12 => ?_)
      exact k_sub [0, 1, 2, 3, 4] rfl (t_X11_lay_152 B xq1 xq2 xq3 xq4  L100 hL100  σ12)
    · exact k_sub [0, 1, 2, 3, 4] rfl (t_X11_lay_152 B xq1 xq2 xq3 xq4  L100 hL100  σ)
set_option maxHeartbeats 4000000 in
set_option maxRecDepth 100000 in
theorem t_X11_lay_L100 {E : En} {G : Cx} (B : Bx E G cX11_lay 5 RX11 H_X11_lay none) (xq1 : Int32) (xq2 : Int32) (xq3 : Int32)  (K158 : Mm → Option (Unit × Mm)) (hK158 : ∀   (σ : Mm), KR E G 5 (ZV E G) (K158  σ) 158 [(0, .ref (ad E 48)), (1, .int xq1), (2, .int xq2)] [] σ)  : ∀ (n : Nat) (xq4 : Int32)  (σ : Mm), KR E G 5 (ZV E G) (fx (fun _ _ => none) n (f_X11_lay_L100 K158 xq1 xq2 xq3) xq4 σ) 100 [(0, .ref (ad E 48)), (1, .int xq1), (2, .int xq2), (3, .int xq3), (4, .int xq4)] [] σ :=
  fun n => fx_ind (P := fun f => ∀ (xq4 : Int32)  (σ : Mm), KR E G 5 (ZV E G) (f xq4 σ) 100 [(0, .ref (ad E 48)), (1, .int xq1), (2, .int xq2), (3, .int xq3), (4, .int xq4)] [] σ) (fun _ _ => k_none) (fun L100 hL100 xq4 σ => t_X11_lay_L100b B xq1 xq2 xq3  K158 hK158  L100 hL100 xq4 σ) n
set_option maxHeartbeats 4000000 in
set_option maxRecDepth 100000 in
theorem t_X11_lay_158 {E : En} {G : Cx} (B : Bx E G cX11_lay 5 RX11 H_X11_lay none) (xq1 : Int32) (xq2 : Int32)  (L2 : Int32 → Mm → Option (Unit × Mm)) (hL2 : ∀ (xq2 : Int32)  (σ : Mm), KR E G 5 (ZV E G) (L2 xq2 σ) 2 [(0, .ref (ad E 48)), (1, .int xq1), (2, .int xq2)] [] σ)  (σ : Mm) : KR E G 5 (ZV E G) (f_X11_lay_158 L2 xq1 xq2 σ) 158 [(0, .ref (ad E 48)), (1, .int xq1), (2, .int xq2)] [] σ := by
  have F := B.1
  unfold f_X11_lay_158
  refine k_iinc (pc := 158) F (c := (1 : Int32)) (lw := fun wq => [(2, .int wq), (0, .ref (ad E 48)), (1, .int xq1)]) 2 2 dX11_lay_158 rfl ci_1 (by decide) (fun _ => rfl) (fun vq13 => ?_)
  refine k_goto (pc := 161) F 2 dX11_lay_161 (by decide) ?_
  exact k_sub [1, 2, 0] rfl (hL2 vq13 σ)
set_option maxHeartbeats 4000000 in
set_option maxRecDepth 100000 in
theorem t_X11_lay_90 {E : En} {G : Cx} (B : Bx E G cX11_lay 5 RX11 H_X11_lay none) (xq1 : Int32) (xq2 : Int32) (xq3 : Int32)  (L2 : Int32 → Mm → Option (Unit × Mm)) (hL2 : ∀ (xq2 : Int32)  (σ : Mm), KR E G 5 (ZV E G) (L2 xq2 σ) 2 [(0, .ref (ad E 48)), (1, .int xq1), (2, .int xq2)] [] σ)  (σ : Mm) : KR E G 5 (ZV E G) (f_X11_lay_90 L2 xq1 xq2 xq3 σ) 90 [(0, .ref (ad E 48)), (1, .int xq1), (2, .int xq2), (3, .int xq3)] [] σ := by
  have F := B.1
  unfold f_X11_lay_90
  refine k_aload_n (pc := 90) F 0 0 dX11_lay_90 rfl rfl ?_
  refine gf_48_30 (pc := 91) F w_4_200 dX11_lay_91 ?_
  refine k_iload_n (pc := 94) F 2 2 dX11_lay_94 rfl rfl ?_
  refine k_iload_n (pc := 95) F 3 3 dX11_lay_95 rfl rfl ?_
  refine k_iast (pc := 96) F rfl dX11_lay_96 (fun σ10 => ?_)
  refine k_iconst (pc := 97) F (v := (0 : Int32)) dX11_lay_97 ci_0 ?_
  refine k_istore F (lv' := [(4, .int (0 : Int32)), (0, .ref (ad E 48)), (1, .int xq1), (2, .int xq2), (3, .int xq3)]) 4 dX11_lay_98 (by decide) rfl ?_
  exact k_sub [1, 2, 3, 4, 0] rfl (t_X11_lay_L100 B xq1 xq2 xq3  _ (fun   σ => by
        exact k_sub [0, 1, 2] rfl (t_X11_lay_158 B xq1 xq2  L2 hL2  σ)) FU (0 : Int32)  σ10)
set_option maxHeartbeats 4000000 in
set_option maxRecDepth 100000 in
theorem t_X11_lay_L2b {E : En} {G : Cx} (B : Bx E G cX11_lay 5 RX11 H_X11_lay none) (xq1 : Int32)   (L2 : Int32 → Mm → Option (Unit × Mm)) (hL2 : ∀ (xq2 : Int32)  (σ : Mm), KR E G 5 (ZV E G) (L2 xq2 σ) 2 [(0, .ref (ad E 48)), (1, .int xq1), (2, .int xq2)] [] σ) (xq2 : Int32)  (σ : Mm) : KR E G 5 (ZV E G) (f_X11_lay_L2 xq1 L2 xq2 σ) 2 [(0, .ref (ad E 48)), (1, .int xq1), (2, .int xq2)] [] σ := by
  have F := B.1
  unfold f_X11_lay_L2
  refine k_iload_n (pc := 2) F 2 2 dX11_lay_2 rfl rfl ?_
  refine k_aload_n (pc := 3) F 0 0 dX11_lay_3 rfl rfl ?_
  refine gf_48_0 (pc := 4) F w_4_170 dX11_lay_4 ?_
  refine k_icmp_ge (pc := 7) F 164 dX11_lay_7 (by decide) (fun _ => ?_) (fun _ => ?_)
  · exact k_vret (pc := 164) B dX11_lay_164
  · refine k_iconst (pc := 10) F (v := (0 : Int32)) dX11_lay_10 ci_0 ?_
    refine k_istore_n F (lv' := [(3, .int (0 : Int32)), (0, .ref (ad E 48)), (1, .int xq1), (2, .int xq2)]) 3 dX11_lay_11 rfl (by decide) rfl ?_
    refine k_iconst (pc := 12) F (v := (0 : Int32)) dX11_lay_12 ci_0 ?_
    refine k_istore F (lv' := [(4, .int (0 : Int32)), (3, .int (0 : Int32)), (0, .ref (ad E 48)), (1, .int xq1), (2, .int xq2)]) 4 dX11_lay_13 (by decide) rfl ?_
    exact k_sub [2, 3, 4, 1, 0] rfl (t_X11_lay_L15 B xq1 xq2  _ (fun xq3  σ => by
          exact k_sub [0, 1, 2, 3] rfl (t_X11_lay_90 B xq1 xq2 xq3  L2 hL2  σ)) FU (0 : Int32) (0 : Int32)  σ)
set_option maxHeartbeats 4000000 in
set_option maxRecDepth 100000 in
theorem t_X11_lay_L2 {E : En} {G : Cx} (B : Bx E G cX11_lay 5 RX11 H_X11_lay none) (xq1 : Int32)   : ∀ (n : Nat) (xq2 : Int32)  (σ : Mm), KR E G 5 (ZV E G) (fx (fun _ _ => none) n (f_X11_lay_L2 xq1) xq2 σ) 2 [(0, .ref (ad E 48)), (1, .int xq1), (2, .int xq2)] [] σ :=
  fun n => fx_ind (P := fun f => ∀ (xq2 : Int32)  (σ : Mm), KR E G 5 (ZV E G) (f xq2 σ) 2 [(0, .ref (ad E 48)), (1, .int xq1), (2, .int xq2)] [] σ) (fun _ _ => k_none) (fun L2 hL2 xq2 σ => t_X11_lay_L2b B xq1   L2 hL2 xq2 σ) n
set_option maxHeartbeats 4000000 in
set_option maxRecDepth 100000 in
theorem t_X11_lay {E : En} {G : Cx} (B : Bx E G cX11_lay 5 RX11 H_X11_lay none) (aq0 : Int32)  (σ : Mm) : KR E G 5 (ZV E G) (f_X11_lay aq0 σ) 0 [(0, .ref (ad E 48)), (1, .int aq0)] [] σ := by
  have F := B.1
  unfold f_X11_lay
  refine k_iconst (pc := 0) F (v := (0 : Int32)) dX11_lay_0 ci_0 ?_
  refine k_istore_n F (lv' := [(2, .int (0 : Int32)), (0, .ref (ad E 48)), (1, .int aq0)]) 2 dX11_lay_1 rfl (by decide) rfl ?_
  exact k_sub [1, 2, 0] rfl (t_X11_lay_L2 B aq0   FU (0 : Int32)  σ)
set_option maxHeartbeats 4000000 in
set_option maxRecDepth 100000 in
theorem ct_X11_lay (E : En) (aq0 : Int32)  (σ : Mm) : CtV E yX11_lay cX11_lay 5 none H_X11_lay [.ref (ad E 48), .int aq0] σ (f_X11_lay aq0 σ) := ct_V (by decide) (Nat.le_of_ble_eq_true rfl) rfl (fun G B => t_X11_lay B aq0  σ)
