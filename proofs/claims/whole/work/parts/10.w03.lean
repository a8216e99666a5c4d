abbrev H_X9_walkTo : Nat := 3
theorem hR_X9_walkTo_X1_resultOf : H_X1_resultOf + 1 ≤ H_X9_walkTo ∧ 8 + (6 + 11) + 40 * H_X1_resultOf ≤ 40 * H_X9_walkTo := by decide
theorem hR_X9_walkTo_X1_isEnd : H_X1_isEnd + 1 ≤ H_X9_walkTo ∧ 8 + (4 + 11) + 40 * H_X1_isEnd ≤ 40 * H_X9_walkTo := by decide
set_option maxHeartbeats 4000000 in
set_option maxRecDepth 100000 in
theorem t_X9_walkTo_49 {E : En} {G : Cx} (B : Bx E G cX9_walkTo 7 RX9 H_X9_walkTo (some .int)) (xq2 : Int32) (xq3 : Int32) (xq4 : Int32)  (L5 : Int32 → Mm → Option (Int32 × Mm)) (hL5 : ∀ (xq4 : Int32)  (σ : Mm), KR E G 7 (ZI E G) (L5 xq4 σ) 5 [(0, .ref (ad E 18)), (1, .ref (ad E 13)), (2, .int xq2), (3, .int xq3), (4, .int xq4)] [] σ)  (σ : Mm) : KR E G 7 (ZI E G) (f_X9_walkTo_49 L5 xq2 xq3 xq4 σ) 49 [(0, .ref (ad E 18)), (1, .ref (ad E 13)), (2, .int xq2), (3, .int xq3), (4, .int xq4)] [] σ := by
  have F := B.1
  unfold f_X9_walkTo_49
  refine k_iinc (pc := 49) F (c := (1 : Int32)) (lw := fun wq => [(4, .int wq), (0, .ref (ad E 18)), (1, .ref (ad E 13)), (2, .int xq2), (3, .int xq3)]) 4 4 dX9_walkTo_49 rfl ci_1 (by decide) (fun _ => rfl) (fun vq3 => ?_)
  refine k_goto (pc := 52) F 5 dX9_walkTo_52 (by decide) ?_
  exact k_sub [1, 2, 3, 4, 0] rfl (hL5 vq3 σ)
set_option maxHeartbeats 4000000 in
set_option maxRecDepth 100000 in
theorem t_X9_walkTo_L5b {E : En} {G : Cx} (B : Bx E G cX9_walkTo 7 RX9 H_X9_walkTo (some .int)) (xq2 : Int32) (xq3 : Int32)  (K43 : Int32 → Mm → Option (Int32 × Mm)) (hK43 : ∀ (xq4 : Int32)  (σ : Mm), KR E G 7 (ZI E G) (K43 xq4 σ) 43 [(0, .ref (ad E 18)), (4, .int xq4)] [] σ) (K55 : Mm → Option (Int32 × Mm)) (hK55 : ∀   (σ : Mm), KR E G 7 (ZI E G) (K55  σ) 55 [(0, .ref (ad E 18)), (3, .int xq3)] [] σ)  (L5 : Int32 → Mm → Option (Int32 × Mm)) (hL5 : ∀ (xq4 : Int32)  (σ : Mm), KR E G 7 (ZI E G) (L5 xq4 σ) 5 [(0, .ref (ad E 18)), (1, .ref (ad E 13)), (2, .int xq2), (3, .int xq3), (4, .int xq4)] [] σ) (xq4 : Int32)  (σ : Mm) : KR E G 7 (ZI E G) (f_X9_walkTo_L5 K43 K55 xq2 xq3 L5 xq4 σ) 5 [(0, .ref (ad E 18)), (1, .ref (ad E 13)), (2, .int xq2), (3, .int xq3), (4, .int xq4)] [] σ := by
  have F := B.1
  unfold f_X9_walkTo_L5
  refine k_iload (pc := 5) F 4 4 dX9_walkTo_5 rfl ?_
  refine k_aload_n (pc := 7) F 0 0 dX9_walkTo_7 rfl rfl ?_
  refine gf_18_7 (pc := 8) F w_1_186 dX9_walkTo_8 ?_
  refine k_icmp_ge (pc := 11) F 55 dX9_walkTo_11 (by decide) (fun _ => ?_) (fun _ => ?_)
  · exact k_sub [0, 3] rfl (hK55 σ)
  · refine k_aload_n (pc := 14) F 1 1 dX9_walkTo_14 rfl rfl ?_
    refine k_aload_n (pc := 15) F 0 0 dX9_walkTo_15 rfl rfl ?_
    refine gf_18_0 (pc := 16) F w_1_179 dX9_walkTo_16 ?_
    refine k_iload (pc := 19) F 4 4 dX9_walkTo_19 rfl ?_
    refine k_lald (pc := 21) F rfl dX9_walkTo_21 ?_
    refine k_callVI (pc := 22) B (k := 13) (As := [.long (σ.2 19 (ix xq4))]) (rest := []) (ct_X1_isEnd E (σ.2 19 (ix xq4))  σ) rfl rfl mv_X1_isEnd w_3_118 rfl hR_X9_walkTo_X1_isEnd rfl (Nat.le_of_ble_eq_true rfl) dX9_walkTo_22 (fun rq2 σ1 _ => ?_)
    refine k_if_eq (pc := 25) F 49 dX9_walkTo_25 (by decide) (fun _ => ?_) (fun _ => ?_)
    · exact k_sub [0, 1, 2, 3, 4] rfl (t_X9_walkTo_49 B xq2 xq3 xq4  L5 hL5  σ1)
    · refine k_aload_n (pc := 28) F 1 1 dX9_walkTo_28 rfl rfl ?_
      refine k_aload_n (pc := 29) F 0 0 dX9_walkTo_29 rfl rfl ?_
      refine gf_18_0 (pc := 30) F w_1_179 dX9_walkTo_30 ?_
      refine k_iload (pc := 33) F 4 4 dX9_walkTo_33 rfl ?_
      refine k_lald (pc := 35) F rfl dX9_walkTo_35 ?_
      refine k_callVI (pc := 36) B (k := 13) (As := [.long (σ1.2 19 (ix xq4))]) (rest := []) (ct_X1_resultOf E (σ1.2 19 (ix xq4))  σ1) rfl rfl mv_X1_resultOf w_3_126 rfl hR_X9_walkTo_X1_resultOf rfl (Nat.le_of_ble_eq_true rfl) dX9_walkTo_36 (fun rq5 σ4 _ => ?_)
      refine k_iload_n (pc := 39) F 2 2 dX9_walkTo_39 rfl rfl ?_
      refine k_icmp_ne (pc := 40) F 49 dX9_walkTo_40 (by decide) (fun _ => ?_) (fun _ => ?_)
      · exact k_sub [0, 4] rfl (hK43 xq4 σ4)
      · exact k_sub [0, 1, 2, 3, 4] rfl (t_X9_walkTo_49 B xq2 xq3 xq4  L5 hL5  σ4)
set_option maxHeartbeats 4000000 in
set_option maxRecDepth 100000 in
theorem t_X9_walkTo_L5 {E : En} {G : Cx} (B : Bx E G cX9_walkTo 7 RX9 H_X9_walkTo (some .int)) (xq2 : Int32) (xq3 : Int32)  (K43 : Int32 → Mm → Option (Int32 × Mm)) (hK43 : ∀ (xq4 : Int32)  (σ : Mm), KR E G 7 (ZI E G) (K43 xq4 σ) 43 [(0, .ref (ad E 18)), (4, .int xq4)] [] σ) (K55 : Mm → Option (Int32 × Mm)) (hK55 : ∀   (σ : Mm), KR E G 7 (ZI E G) (K55  σ) 55 [(0, .ref (ad E 18)), (3, .int xq3)] [] σ)  : ∀ (n : Nat) (xq4 : Int32)  (σ : Mm), KR E G 7 (ZI E G) (fx (fun _ _ => none) n (f_X9_walkTo_L5 K43 K55 xq2 xq3) xq4 σ) 5 [(0, .ref (ad E 18)), (1, .ref (ad E 13)), (2, .int xq2), (3, .int xq3), (4, .int xq4)] [] σ :=
  fun n => fx_ind (P := fun f => ∀ (xq4 : Int32)  (σ : Mm), KR E G 7 (ZI E G) (f xq4 σ) 5 [(0, .ref (ad E 18)), (1, .ref (ad E 13)), (2, .int xq2), (3, .int xq3), (4, .int xq4)] [] σ) (fun _ _ => k_none) (fun L5 hL5 xq4 σ => t_X9_walkTo_L5b B xq2 xq3  K43 hK43 K55 hK55  L5 hL5 xq4 σ) n
set_option maxHeartbeats 4000000 in
set_option maxRecDepth 100000 in
theorem t_X9_walkTo_L61b {E : En} {G : Cx} (B : Bx E G cX9_walkTo 7 RX9 H_X9_walkTo (some .int)) (xq3 : Int32)  (K98 : Int32 → Mm → Option (Int32 × Mm)) (hK98 : ∀ (xq4 : Int32)  (σ : Mm), KR E G 7 (ZI E G) (K98 xq4 σ) 98 [(0, .ref (ad E 18)), (3, .int xq3), (4, .int xq4)] [] σ)  (L61 : Int32 → Int32 → Mm → Option (Int32 × Mm)) (hL61 : ∀ (xq4 : Int32) (xq5 : Int32)  (σ : Mm), KR E G 7 (ZI E G) (L61 xq4 xq5 σ) 61 [(0, .ref (ad E 18)), (3, .int xq3), (4, .int xq4), (5, .int xq5)] [] σ) (xq4 : Int32) (xq5 : Int32)  (σ : Mm) : KR E G 7 (ZI E G) (f_X9_walkTo_L61 K98 xq3 L61 xq4 xq5 σ) 61 [(0, .ref (ad E 18)), (3, .int xq3), (4, .int xq4), (5, .int xq5)] [] σ := by
  have F := B.1
  unfold f_X9_walkTo_L61
  refine k_iload (pc := 61) F 4 2 dX9_walkTo_61 rfl ?_
  refine k_aload_n (pc := 63) F 0 0 dX9_walkTo_63 rfl rfl ?_
  refine gf_18_7 (pc := 64) F w_1_186 dX9_walkTo_64 ?_
  refine k_icmp_ge (pc := 67) F 98 dX9_walkTo_67 (by decide) (fun _ => ?_) (fun _ => ?_)
  · exact k_sub [0, 1, 2] rfl (hK98 xq4 σ)
  · refine k_aload_n (pc := 70) F 0 0 dX9_walkTo_70 rfl rfl ?_
    refine gf_18_3 (pc := 71) F w_1_182 dX9_walkTo_71 ?_
    refine k_iload (pc := 74) F 5 3 dX9_walkTo_74 rfl ?_
    refine k_iald (pc := 76) F rfl dX9_walkTo_76 ?_
    refine k_if_lt (pc := 77) F 98 dX9_walkTo_77 (by decide) (fun _ => ?_) (fun _ => ?_)
    · exact k_sub [0, 1, 2] rfl (hK98 xq4 σ)
    · refine k_iinc (pc := 80) F (c := (1 : Int32)) (lw := fun wq => [(4, .int wq), (0, .ref (ad E 18)), (3, .int xq3), (5, .int xq5)]) 4 2 dX9_walkTo_80 rfl ci_1 (by decide) (fun _ => rfl) (fun vq6 => ?_)
      refine k_aload_n (pc := 83) F 0 1 dX9_walkTo_83 rfl rfl ?_
      refine gf_18_3 (pc := 84) F w_1_182 dX9_walkTo_84 ?_
      refine k_iload (pc := 87) F 5 3 dX9_walkTo_87 rfl ?_
      refine k_iald (pc := 89) F rfl dX9_walkTo_89 ?_
      refine k_bipush (pc := 90) F (v := (6 : Int32)) dX9_walkTo_90 cb_6 ?_
      refine k_idiv (pc := 92) F dX9_walkTo_92 (by decide) ?_
      refine k_nmI (fun vq7 => ?_)
      refine k_istore F (lv' := [(5, .int vq7), (4, .int vq6), (0, .ref (ad E 18)), (3, .int xq3)]) 5 dX9_walkTo_93 (by decide) rfl ?_
      refine k_goto (pc := 95) F 61 dX9_walkTo_95 (by decide) ?_
      exact k_sub [2, 3, 1, 0] rfl (hL61 vq6 vq7 σ)
set_option maxHeartbeats 4000000 in
set_option maxRecDepth 100000 in
theorem t_X9_walkTo_L61 {E : En} {G : Cx} (B : Bx E G cX9_walkTo 7 RX9 H_X9_walkTo (some .int)) (xq3 : Int32)  (K98 : Int32 → Mm → Option (Int32 × Mm)) (hK98 : ∀ (xq4 : Int32)  (σ : Mm), KR E G 7 (ZI E G) (K98 xq4 σ) 98 [(0, .ref (ad E 18)), (3, .int xq3), (4, .int xq4)] [] σ)  : ∀ (n : Nat) (xq4 : Int32) (xq5 : Int32)  (σ : Mm), KR E G 7 (ZI E G) (fx (fun _ _ _ => none) n (f_X9_walkTo_L61 K98 xq3) xq4 xq5 σ) 61 [(0, .ref (ad E 18)), (3, .int xq3), (4, .int xq4), (5, .int xq5)] [] σ :=
  fun n => fx_ind (P := fun f => ∀ (xq4 : Int32) (xq5 : Int32)  (σ : Mm), KR E G 7 (ZI E G) (f xq4 xq5 σ) 61 [(0, .ref (ad E 18)), (3, .int xq3), (4, .int xq4), (5, .int xq5)] [] σ) (fun _ _ _ => k_none) (fun L61 hL61 xq4 xq5 σ => t_X9_walkTo_L61b B xq3  K98 hK98  L61 hL61 xq4 xq5 σ) n
set_option maxHeartbeats 4000000 in
set_option maxRecDepth 100000 in
theorem t_X9_walkTo_L107b {E : En} {G : Cx} (B : Bx E G cX9_walkTo 7 RX9 H_X9_walkTo (some .int)) (xq4 : Int32)   (L107 : Int32 → Int32 → Mm → Option (Int32 × Mm)) (hL107 : ∀ (xq5 : Int32) (xq6 : Int32)  (σ : Mm), KR E G 7 (ZI E G) (L107 xq5 xq6 σ) 107 [(0, .ref (ad E 18)), (4, .int xq4), (5, .int xq5), (6, .int xq6)] [] σ) (xq5 : Int32) (xq6 : Int32)  (σ : Mm) : KR E G 7 (ZI E G) (f_X9_walkTo_L107 xq4 L107 xq5 xq6 σ) 107 [(0, .ref (ad E 18)), (4, .int xq4), (5, .int xq5), (6, .int xq6)] [] σ := by
  have F := B.1
  unfold f_X9_walkTo_L107
  refine k_iload (pc := 107) F 6 3 dX9_walkTo_107 rfl ?_
  refine k_if_lt (pc := 109) F 147 dX9_walkTo_109 (by decide) (fun _ => ?_) (fun _ => ?_)
  · refine k_iload (pc := 147) F 4 1 dX9_walkTo_147 rfl ?_
    exact k_iret (pc := 149) B dX9_walkTo_149
  · refine k_aload_n (pc := 112) F 0 0 dX9_walkTo_112 rfl rfl ?_
    refine gf_18_6 (pc := 113) F w_1_185 dX9_walkTo_113 ?_
    refine k_iload (pc := 116) F 6 3 dX9_walkTo_116 rfl ?_
    refine k_aload_n (pc := 118) F 0 0 dX9_walkTo_118 rfl rfl ?_
    refine gf_18_3 (pc := 119) F w_1_182 dX9_walkTo_119 ?_
    refine k_iload (pc := 122) F 5 2 dX9_walkTo_122 rfl ?_
    refine k_iald (pc := 124) F rfl dX9_walkTo_124 ?_
    refine k_bipush (pc := 125) F (v := (6 : Int32)) dX9_walkTo_125 cb_6 ?_
    refine k_irem (pc := 127) F dX9_walkTo_127 (by decide) ?_
    refine k_iast (pc := 128) F rfl dX9_walkTo_128 (fun σ9 => ?_)
    refine k_aload_n (pc := 129) F 0 0 dX9_walkTo_129 rfl rfl ?_
    refine gf_18_3 (pc := 130) F w_1_182 dX9_walkTo_130 ?_
    refine k_iload (pc := 133) F 5 2 dX9_walkTo_133 rfl ?_
    refine k_iald (pc := 135) F rfl dX9_walkTo_135 ?_
    refine k_bipush (pc := 136) F (v := (6 : Int32)) dX9_walkTo_136 cb_6 ?_
    refine k_idiv (pc := 138) F dX9_walkTo_138 (by decide) ?_
    refine k_nmI (fun vq10 => ?_)
    refine k_istore F (lv' := [(5, .int vq10), (0, .ref (ad E 18)), (4, .int xq4), (6, .int xq6)]) 5 dX9_walkTo_139 (by decide) rfl ?_
    refine k_iinc (pc := 141) F (c := (-1 : Int32)) (lw := fun wq => [(6, .int wq), (5, .int vq10), (0, .ref (ad E 18)), (4, .int xq4)]) 6 3 dX9_walkTo_141 rfl ci_m1 (by decide) (fun _ => rfl) (fun vq11 => ?_)
    refine k_goto (pc := 144) F 107 dX9_walkTo_144 (by decide) ?_
    exact k_sub [2, 3, 1, 0] rfl (hL107 vq10 vq11 σ9)
set_option maxHeartbeats 4000000 in
set_option maxRecDepth 100000 in
theorem t_X9_walkTo_L107 {E : En} {G : Cx} (B : Bx E G cX9_walkTo 7 RX9 H_X9_walkTo (some .int)) (xq4 : Int32)   : ∀ (n : Nat) (xq5 : Int32) (xq6 : Int32)  (σ : Mm), KR E G 7 (ZI E G) (fx (fun _ _ _ => none) n (f_X9_walkTo_L107 xq4) xq5 xq6 σ) 107 [(0, .ref (ad E 18)), (4, .int xq4), (5, .int xq5), (6, .int xq6)] [] σ :=
  fun n => fx_ind (P := fun f => ∀ (xq5 : Int32) (xq6 : Int32)  (σ : Mm), KR E G 7 (ZI E G) (f xq5 xq6 σ) 107 [(0, .ref (ad E 18)), (4, .int xq4), (5, .int xq5), (6, .int xq6)] [] σ) (fun _ _ _ => k_none) (fun L107 hL107 xq5 xq6 σ => t_X9_walkTo_L107b B xq4   L107 hL107 xq5 xq6 σ) n
set_option maxHeartbeats 4000000 in
set_option maxRecDepth 100000 in
theorem t_X9_walkTo_98 {E : En} {G : Cx} (B : Bx E G cX9_walkTo 7 RX9 H_X9_walkTo (some .int)) (xq3 : Int32) (xq4 : Int32)   (σ : Mm) : KR E G 7 (ZI E G) (f_X9_walkTo_98 xq3 xq4 σ) 98 [(0, .ref (ad E 18)), (3, .int xq3), (4, .int xq4)] [] σ := by
  have F := B.1
  unfold f_X9_walkTo_98
  refine k_iload_n (pc := 98) F 3 1 dX9_walkTo_98 rfl rfl ?_
  refine k_istore F (lv' := [(5, .int xq3), (0, .ref (ad E 18)), (3, .int xq3), (4, .int xq4)]) 5 dX9_walkTo_99 (by decide) rfl ?_
  refine k_iload (pc := 101) F 4 3 dX9_walkTo_101 rfl ?_
  refine k_iconst (pc := 103) F (v := (1 : Int32)) dX9_walkTo_103 ci_1 ?_
  refine k_isub (pc := 104) F dX9_walkTo_104 ?_
  refine k_nmI (fun vq8 => ?_)
  refine k_istore F (lv' := [(6, .int vq8), (5, .int xq3), (0, .ref (ad E 18)), (3, .int xq3), (4, .int xq4)]) 6 dX9_walkTo_105 (by decide) rfl ?_
  exact k_sub [2, 4, 1, 0] rfl (t_X9_walkTo_L107 B xq4   FU xq3 vq8  σ)
set_option maxHeartbeats 4000000 in
set_option maxRecDepth 100000 in
theorem t_X9_walkTo_55 {E : En} {G : Cx} (B : Bx E G cX9_walkTo 7 RX9 H_X9_walkTo (some .int)) (xq3 : Int32)   (σ : Mm) : KR E G 7 (ZI E G) (f_X9_walkTo_55 xq3 σ) 55 [(0, .ref (ad E 18)), (3, .int xq3)] [] σ := by
  have F := B.1
  unfold f_X9_walkTo_55
  refine k_iconst (pc := 55) F (v := (0 : Int32)) dX9_walkTo_55 ci_0 ?_
  refine k_istore F (lv' := [(4, .int (0 : Int32)), (0, .ref (ad E 18)), (3, .int xq3)]) 4 dX9_walkTo_56 (by decide) rfl ?_
  refine k_iload_n (pc := 58) F 3 2 dX9_walkTo_58 rfl rfl ?_
  refine k_istore F (lv' := [(5, .int xq3), (4, .int (0 : Int32)), (0, .ref (ad E 18)), (3, .int xq3)]) 5 dX9_walkTo_59 (by decide) rfl ?_
  exact k_sub [2, 3, 1, 0] rfl (t_X9_walkTo_L61 B xq3  _ (fun xq4  σ => by
        exact k_sub [0, 1, 2] rfl (t_X9_walkTo_98 B xq3 xq4   σ)) FU (0 : Int32) xq3  σ)
set_option maxHeartbeats 4000000 in
set_option maxRecDepth 100000 in
theorem t_X9_walkTo_43 {E : En} {G : Cx} (B : Bx E G cX9_walkTo 7 RX9 H_X9_walkTo (some .int)) (xq4 : Int32)   (σ : Mm) : KR E G 7 (ZI E G) (f_X9_walkTo_43 xq4 σ) 43 [(0, .ref (ad E 18)), (4, .int xq4)] [] σ := by
  have F := B.1
  unfold f_X9_walkTo_43
  refine k_iload (pc := 43) F 4 1 dX9_walkTo_43 rfl ?_
  refine k_istore_n F (lv' := [(3, .int xq4), (0, .ref (ad E 18)), (4, .int xq4)]) 3 dX9_walkTo_45 rfl (by decide) rfl ?_
  refine k_goto (pc := 46) F 55 dX9_walkTo_46 (by decide) ?_
  exact k_sub [1, 0] rfl (t_X9_walkTo_55 B xq4   σ)
set_option maxHeartbeats 4000000 in
set_option maxRecDepth 100000 in
theorem t_X9_walkTo {E : En} {G : Cx} (B : Bx E G cX9_walkTo 7 RX9 H_X9_walkTo (some .int)) (aq1 : Int32)  (σ : Mm) : KR E G 7 (ZI E G) (f_X9_walkTo aq1 σ) 0 [(0, .ref (ad E 18)), (1, .ref (ad E 13)), (2, .int aq1)] [] σ := by
  have F := B.1
  unfold f_X9_walkTo
  refine k_iconst (pc := 0) F (v := (0 : Int32)) dX9_walkTo_0 ci_0 ?_
  refine k_istore_n F (lv' := [(3, .int (0 : Int32)), (0, .ref (ad E 18)), (1, .ref (ad E 13)), (2, .int aq1)]) 3 dX9_walkTo_1 rfl (by decide) rfl ?_
  refine k_iconst (pc := 2) F (v := (0 : Int32)) dX9_walkTo_2 ci_0 ?_
  refine k_istore F (lv' := [(4, .int (0 : Int32)), (3, .int (0 : Int32)), (0, .ref (ad E 18)), (1, .ref (ad E 13)), (2, .int aq1)]) 4 dX9_walkTo_3 (by decide) rfl ?_
  exact k_sub [2, 3, 4, 1, 0] rfl (t_X9_walkTo_L5 B aq1 (0 : Int32)  _ (fun xq4  σ => by
        exact k_sub [0, 1] rfl (t_X9_walkTo_43 B xq4   σ)) _ (fun   σ => by
        exact k_sub [0, 1] rfl (t_X9_walkTo_55 B (0 : Int32)   σ)) FU (0 : Int32)  σ)
set_option maxHeartbeats 4000000 in
set_option maxRecDepth 100000 in
theorem ct_X9_walkTo (E : En) (aq1 : Int32)  (σ : Mm) : CtI E yX9_walkTo cX9_walkTo 7 (some .int) H_X9_walkTo [.ref (ad E 18), .ref (ad E 13), .int aq1] σ (f_X9_walkTo aq1 σ) := ct_I (by decide) (Nat.le_of_ble_eq_true rfl) rfl (fun G B => t_X9_walkTo B aq1  σ)
abbrev H_X7_walkToWorst : Nat := 14
theorem hR_X7_walkToWorst_X7_leastBad : H_X7_leastBad + 1 ≤ H_X7_walkToWorst ∧ 8 + (3 + 11) + 40 * H_X7_leastBad ≤ 40 * H_X7_walkToWorst := by decide
theorem hR_X7_walkToWorst_X1_load : H_X1_load + 1 ≤ H_X7_walkToWorst ∧ 8 + (5 + 11) + 40 * H_X1_load ≤ 40 * H_X7_walkToWorst := by decide
theorem hR_X7_walkToWorst_X9_walkTo : H_X9_walkTo + 1 ≤ H_X7_walkToWorst ∧ 8 + (7 + 11) + 40 * H_X9_walkTo ≤ 40 * H_X7_walkToWorst := by decide
theorem hR_X7_walkToWorst_X7_orderedResults : H_X7_orderedResults + 1 ≤ H_X7_walkToWorst ∧ 8 + (1 + 11) + 40 * H_X7_orderedResults ≤ 40 * H_X7_walkToWorst := by decide
set_option maxHeartbeats 4000000 in
set_option maxRecDepth 100000 in
theorem t_X7_walkToWorst {E : En} {G : Cx} (B : Bx E G cX7_walkToWorst 2 RX7 H_X7_walkToWorst (some .int))   (σ : Mm) : KR E G 2 (ZI E G) (f_X7_walkToWorst  σ) 0 [(0, .ref (ad E 6))] [] σ := by
  have F := B.1
  unfold f_X7_walkToWorst
  refine k_aload_n (pc := 0) F 0 0 dX7_walkToWorst_0 rfl rfl ?_
  refine k_aload_n (pc := 1) F 0 0 dX7_walkToWorst_1 rfl rfl ?_
  refine k_callVU (pc := 2) B (k := 6) (As := []) (rest := [.ref (ad E 6)]) (ct_X7_orderedResults E   σ) rfl rfl mv_X7_orderedResults w_3_201 rfl hR_X7_walkToWorst_X7_orderedResults rfl (Nat.le_of_ble_eq_true rfl) dX7_walkToWorst_2 (fun rq2 σ1 _ => ?_)
  refine k_callVI (pc := 5) B (k := 6) (As := [.ref (ad E 28)]) (rest := []) (ct_X7_leastBad E   σ1) rfl rfl mv_X7_leastBad w_3_202 rfl hR_X7_walkToWorst_X7_leastBad rfl (Nat.le_of_ble_eq_true rfl) dX7_walkToWorst_5 (fun rq4 σ3 _ => ?_)
  refine k_istore_n F (lv' := [(1, .int rq4), (0, .ref (ad E 6))]) 1 dX7_walkToWorst_8 rfl (by decide) rfl ?_
  refine k_iload_n (pc := 9) F 1 0 dX7_walkToWorst_9 rfl rfl ?_
  refine k_if_ge (pc := 10) F 15 dX7_walkToWorst_10 (by decide) (fun _ => ?_) (fun _ => ?_)
  · refine k_aload_n (pc := 15) F 0 1 dX7_walkToWorst_15 rfl rfl ?_
    refine gf_6_1 (pc := 16) F w_1_233 dX7_walkToWorst_16 ?_
    refine k_aload_n (pc := 19) F 0 1 dX7_walkToWorst_19 rfl rfl ?_
    refine gf_6_0 (pc := 20) F w_1_231 dX7_walkToWorst_20 ?_
    refine k_lconst (pc := 23) F (v := (0 : Int64)) dX7_walkToWorst_23 cl_0 ?_
    refine k_callVV (pc := 24) B (k := 13) (As := [.ref (ad E 7), .long (0 : Int64)]) (rest := []) (ct_X1_load E (0 : Int64)  σ3) rfl rfl mv_X1_load w_3_50 rfl hR_X7_walkToWorst_X1_load rfl (Nat.le_of_ble_eq_true rfl) dX7_walkToWorst_24 (fun rq6 σ5 _ => ?_)
    refine k_aload_n (pc := 27) F 0 1 dX7_walkToWorst_27 rfl rfl ?_
    refine gf_6_2 (pc := 28) F w_1_235 dX7_walkToWorst_28 ?_
    refine k_aload_n (pc := 31) F 0 1 dX7_walkToWorst_31 rfl rfl ?_
    refine gf_6_1 (pc := 32) F w_1_233 dX7_walkToWorst_32 ?_
    refine k_iload_n (pc := 35) F 1 0 dX7_walkToWorst_35 rfl rfl ?_
    refine k_callVI (pc := 36) B (k := 18) (As := [.ref (ad E 13), .int rq4]) (rest := []) (ct_X9_walkTo E rq4  σ5) rfl rfl mv_X9_walkTo w_3_203 rfl hR_X7_walkToWorst_X9_walkTo rfl (Nat.le_of_ble_eq_true rfl) dX7_walkToWorst_36 (fun rq8 σ7 _ => ?_)
    exact k_iret (pc := 39) B dX7_walkToWorst_39
  · refine k_iconst (pc := 13) F (v := (-1 : Int32)) dX7_walkToWorst_13 ci_m1 ?_
    exact k_iret (pc := 14) B dX7_walkToWorst_14
set_option maxHeartbeats 4000000 in
set_option maxRecDepth 100000 in
theorem ct_X7_walkToWorst (E : En)   (σ : Mm) : CtI E yX7_walkToWorst cX7_walkToWorst 2 (some .int) H_X7_walkToWorst [.ref (ad E 6)] σ (f_X7_walkToWorst  σ) := ct_I (by decide) (Nat.le_of_ble_eq_true rfl) rfl (fun G B => t_X7_walkToWorst B   σ)
abbrev H_X7_healingValues : Nat := 14
theorem hR_X7_healingValues_X7_forget : H_X7_forget + 1 ≤ H_X7_healingValues ∧ 8 + (1 + 11) + 40 * H_X7_forget ≤ 40 * H_X7_healingValues := by decide
theorem hR_X7_healingValues_X7_orderedResults : H_X7_orderedResults + 1 ≤ H_X7_healingValues ∧ 8 + (1 + 11) + 40 * H_X7_orderedResults ≤ 40 * H_X7_healingValues := by decide
theorem hR_X7_healingValues_X5_putPart : H_X5_putPart + 1 ≤ H_X7_healingValues ∧ 8 + (5 + 11) + 40 * H_X5_putPart ≤ 40 * H_X7_healingValues := by decide
theorem hR_X7_healingValues_X7_leastBad : H_X7_leastBad + 1 ≤ H_X7_healingValues ∧ 8 + (3 + 11) + 40 * H_X7_leastBad ≤ 40 * H_X7_healingValues := by decide
theorem hR_X7_healingValues_X5_partOf : H_X5_partOf + 1 ≤ H_X7_healingValues ∧ 8 + (4 + 11) + 40 * H_X5_partOf ≤ 40 * H_X7_healingValues := by decide
theorem hR_X7_healingValues_X7_isTooLarge : H_X7_isTooLarge + 1 ≤ H_X7_healingValues ∧ 8 + (1 + 11) + 40 * H_X7_isTooLarge ≤ 40 * H_X7_healingValues := by decide
set_option maxHeartbeats 4000000 in
set_option maxRecDepth 100000 in
theorem t_X7_healingValues_79 {E : En} {G : Cx} (B : Bx E G cX7_healingValues 7 RX7 H_X7_healingValues (some .int)) (xq1 : Int32) (xq2 : Int32) (xq3 : Int32) (xq4 : Int32) (xq5 : Int32) (xq6 : Int32)  (L18 : Int32 → Int32 → Mm → Option (Int32 × Mm)) (hL18 : ∀ (xq5 : Int32) (xq6 : Int32)  (σ : Mm), KR E G 7 (ZI E G) (L18 xq5 xq6 σ) 18 [(0, .ref (ad E 6)), (1, .int xq1), (2, .int xq2), (3, .int xq3), (4, .int xq4), (5, .int xq5), (6, .int xq6)] [] σ)  (σ : Mm) : KR E G 7 (ZI E G) (f_X7_healingValues_79 L18 xq1 xq2 xq3 xq4 xq5 xq6 σ) 79 [(0, .ref (ad E 6)), (1, .int xq1), (2, .int xq2), (3, .int xq3), (4, .int xq4), (5, .int xq5), (6, .int xq6)] [] σ := by
  have F := B.1
  unfold f_X7_healingValues_79
  refine k_iinc (pc := 79) F (c := (1 : Int32)) (lw := fun wq => [(6, .int wq), (0, .ref (ad E 6)), (1, .int xq1), (2, .int xq2), (3, .int xq3), (4, .int xq4), (5, .int xq5)]) 6 6 dX7_healingValues_79 rfl ci_1 (by decide) (fun _ => rfl) (fun vq13 => ?_)
  refine k_goto (pc := 82) F 18 dX7_healingValues_82 (by decide) ?_
  exact k_sub [1, 2, 3, 4, 5, 6, 0] rfl (hL18 xq5 vq13 σ)
set_option maxHeartbeats 4000000 in
set_option maxRecDepth 100000 in
theorem t_X7_healingValues_L18b {E : En} {G : Cx} (B : Bx E G cX7_healingValues 7 RX7 H_X7_healingValues (some .int)) (xq1 : Int32) (xq2 : Int32) (xq3 : Int32) (xq4 : Int32)  (K85 : Int32 → Mm → Option (Int32 × Mm)) (hK85 : ∀ (xq5 : Int32)  (σ : Mm), KR E G 7 (ZI E G) (K85 xq5 σ) 85 [(0, .ref (ad E 6)), (1, .int xq1), (2, .int xq2), (3, .int xq3), (4, .int xq4), (5, .int xq5)] [] σ)  (L18 : Int32 → Int32 → Mm → Option (Int32 × Mm)) (hL18 : ∀ (xq5 : Int32) (xq6 : Int32)  (σ : Mm), KR E G 7 (ZI E G) (L18 xq5 xq6 σ) 18 [(0, .ref (ad E 6)), (1, .int xq1), (2, .int xq2), (3, .int xq3), (4, .int xq4), (5, .int xq5), (6, .int xq6)] [] σ) (xq5 : Int32) (xq6 : Int32)  (σ : Mm) : KR E G 7 (ZI E G) (f_X7_healingValues_L18 K85 xq1 xq2 xq3 xq4 L18 xq5 xq6 σ) 18 [(0, .ref (ad E 6)), (1, .int xq1), (2, .int xq2), (3, .int xq3), (4, .int xq4), (5, .int xq5), (6, .int xq6)] [] σ := by
  have F := B.1
  unfold f_X7_healingValues_L18
  refine k_iload (pc := 18) F 6 6 dX7_healingValues_18 rfl ?_
  refine k_iconst (pc := 20) F (v := (4 : Int32)) dX7_healingValues_20 ci_4 ?_
  refine k_icmp_ge (pc := 21) F 85 dX7_healingValues_21 (by decide) (fun _ => ?_) (fun _ => ?_)
  · exact k_sub [0, 1, 2, 3, 4, 5] rfl (hK85 xq5 σ)
  · refine k_iload (pc := 24) F 5 5 dX7_healingValues_24 rfl ?_
    refine k_if_lt (pc := 26) F 85 dX7_healingValues_26 (by decide) (fun _ => ?_) (fun _ => ?_)
    · exact k_sub [0, 1, 2, 3, 4, 5] rfl (hK85 xq5 σ)
    · refine k_aload_n (pc := 29) F 0 0 dX7_healingValues_29 rfl rfl ?_
      refine gf_6_0 (pc := 30) F w_1_231 dX7_healingValues_30 ?_
      refine k_iload_n (pc := 33) F 1 1 dX7_healingValues_33 rfl rfl ?_
      refine k_iload_n (pc := 34) F 2 2 dX7_healingValues_34 rfl rfl ?_
      refine k_iload_n (pc := 35) F 3 3 dX7_healingValues_35 rfl rfl ?_
      refine k_iload (pc := 36) F 6 6 dX7_healingValues_36 rfl ?_
      refine k_callVV (pc := 38) B (k := 7) (As := [.int xq1, .int xq2, .int xq3, .int xq6]) (rest := []) (ct_X5_putPart E xq1 xq2 xq3 xq6  σ) rfl rfl mv_X5_putPart w_4_10 rfl hR_X7_healingValues_X5_putPart rfl (Nat.le_of_ble_eq_true rfl) dX7_healingValues_38 (fun rq4 σ3 _ => ?_)
      refine k_aload_n (pc := 41) F 0 0 dX7_healingValues_41 rfl rfl ?_
      refine k_callVV (pc := 42) B (k := 6) (As := []) (rest := []) (ct_X7_forget E   σ3) rfl rfl mv_X7_forget w_4_11 rfl hR_X7_healingValues_X7_forget rfl (Nat.le_of_ble_eq_true rfl) dX7_healingValues_42 (fun rq6 σ5 _ => ?_)
      refine k_aload_n (pc := 45) F 0 0 dX7_healingValues_45 rfl rfl ?_
      refine k_callVI (pc := 46) B (k := 6) (As := []) (rest := []) (ct_X7_isTooLarge E   σ5) rfl rfl mv_X7_isTooLarge w_4_12 rfl hR_X7_healingValues_X7_isTooLarge rfl (Nat.le_of_ble_eq_true rfl) dX7_healingValues_46 (fun rq8 σ7 _ => ?_)
      refine k_if_eq (pc := 49) F 59 dX7_healingValues_49 (by decide) (fun _ => ?_) (fun _ => ?_)
      · refine k_aload_n (pc := 59) F 0 0 dX7_healingValues_59 rfl rfl ?_
        refine k_aload_n (pc := 60) F 0 0 dX7_healingValues_60 rfl rfl ?_
        refine k_callVU (pc := 61) B (k := 6) (As := []) (rest := [.ref (ad E 6)]) (ct_X7_orderedResults E   σ7) rfl rfl mv_X7_orderedResults w_3_201 rfl hR_X7_healingValues_X7_orderedResults rfl (Nat.le_of_ble_eq_true rfl) dX7_healingValues_61 (fun rq10 σ9 _ => ?_)
        refine k_callVI (pc := 64) B (k := 6) (As := [.ref (ad E 28)]) (rest := []) (ct_X7_leastBad E   σ9) rfl rfl mv_X7_leastBad w_3_202 rfl hR_X7_healingValues_X7_leastBad rfl (Nat.le_of_ble_eq_true rfl) dX7_healingValues_64 (fun rq12 σ11 _ => ?_)
        refine k_if_ge (pc := 67) F 79 dX7_healingValues_67 (by decide) (fun _ => ?_) (fun _ => ?_)
        · exact k_sub [0, 1, 2, 3, 4, 5, 6] rfl (t_X7_healingValues_79 B xq1 xq2 xq3 xq4 xq5 xq6  L18 hL18  σ11)
        · refine k_iload (pc := 70) F 5 5 dX7_healingValues_70 rfl ?_
          refine k_iconst (pc := 72) F (v := (1 : Int32)) dX7_healingValues_72 ci_1 ?_
          refine k_iload (pc := 73) F 6 6 dX7_healingValues_73 rfl ?_
          refine k_ishl (pc := 75) F dX7_healingValues_75 ?_
          refine k_ior (pc := 76) F dX7_healingValues_76 ?_
          refine k_nmI (fun vq14 => ?_)
          refine k_istore F (lv' := [(5, .int vq14), (0, .ref (ad E 6)), (1, .int xq1), (2, .int xq2), (3, .int xq3), (4, .int xq4), (6, .int xq6)]) 5 dX7_healingValues_77 (by decide) rfl ?_
          exact k_sub [1, 2, 3, 4, 5, 0, 6] rfl (t_X7_healingValues_79 B xq1 xq2 xq3 xq4 vq14 xq6  L18 hL18  σ11)
      · refine k_bipush (pc := 52) F (v := (-2 : Int32)) dX7_healingValues_52 cb_m2 ?_
        refine k_istore F (lv' := [(5, .int (-2 : Int32)), (0, .ref (ad E 6)), (1, .int xq1), (2, .int xq2), (3, .int xq3), (4, .int xq4), (6, .int xq6)]) 5 dX7_healingValues_54 (by decide) rfl ?_
        refine k_goto (pc := 56) F 79 dX7_healingValues_56 (by decide) ?_
        exact k_sub [1, 2, 3, 4, 5, 0, 6] rfl (t_X7_healingValues_79 B xq1 xq2 xq3 xq4 (-2 : Int32) xq6  L18 hL18  σ7)
set_option maxHeartbeats 4000000 in
set_option maxRecDepth 100000 in
theorem t_X7_healingValues_L18 {E : En} {G : Cx} (B : Bx E G cX7_healingValues 7 RX7 H_X7_healingValues (some .int)) (xq1 : Int32) (xq2 : Int32) (xq3 : Int32) (xq4 : Int32)  (K85 : Int32 → Mm → Option (Int32 × Mm)) (hK85 : ∀ (xq5 : Int32)  (σ : Mm), KR E G 7 (ZI E G) (K85 xq5 σ) 85 [(0, .ref (ad E 6)), (1, .int xq1), (2, .int xq2), (3, .int xq3), (4, .int xq4), (5, .int xq5)] [] σ)  : ∀ (n : Nat) (xq5 : Int32) (xq6 : Int32)  (σ : Mm), KR E G 7 (ZI E G) (fx (fun _ _ _ => none) n (f_X7_healingValues_L18 K85 xq1 xq2 xq3 xq4) xq5 xq6 σ) 18 [(0, .ref (ad E 6)), (1, .int xq1), (2, .int xq2), (3, .int xq3), (4, .int xq4), (5, .int xq5), (6, .int xq6)] [] σ :=
  fun n => fx_ind (P := fun f => ∀ (xq5 : Int32) (xq6 : Int32)  (σ : Mm), KR E G 7 (ZI E G) (f xq5 xq6 σ) 18 [(0, .ref (ad E 6)), (1, .int xq1), (2, .int xq2), (3, .int xq3), (4, .int xq4), (5, .int xq5), (6, .int xq6)] [] σ) (fun _ _ _ => k_none) (fun L18 hL18 xq5 xq6 σ => t_X7_healingValues_L18b B xq1 xq2 xq3 xq4  K85 hK85  L18 hL18 xq5 xq6 σ) n
set_option maxHeartbeats 4000000 in
set_option maxRecDepth 100000 in
theorem t_X7_healingValues_85 {E : En} {G : Cx} (B : Bx E G cX7_healingValues 7 RX7 H_X7_healingValues (some .int)) (xq1 : Int32) (xq2 : Int32) (xq3 : Int32) (xq4 : Int32) (xq5 : Int32)   (σ : Mm) : KR E G 7 (ZI E G) (f_X7_healingValues_85 xq1 xq2 xq3 xq4 xq5 σ) 85 [(0, .ref (ad E 6)), (1, .int xq1), (2, .int xq2), (3, .int xq3), (4, .int xq4), (5, .int xq5)] [] σ := by
  have F := B.1
  unfold f_X7_healingValues_85
  refine k_aload_n (pc := 85) F 0 0 dX7_healingValues_85 rfl rfl ?_
  refine gf_6_0 (pc := 86) F w_1_231 dX7_healingValues_86 ?_
  refine k_iload_n (pc := 89) F 1 1 dX7_healingValues_89 rfl rfl ?_
  refine k_iload_n (pc := 90) F 2 2 dX7_healingValues_90 rfl rfl ?_
  refine k_iload_n (pc := 91) F 3 3 dX7_healingValues_91 rfl rfl ?_
  refine k_iload (pc := 92) F 4 4 dX7_healingValues_92 rfl ?_
  refine k_callVV (pc := 94) B (k := 7) (As := [.int xq1, .int xq2, .int xq3, .int xq4]) (rest := []) (ct_X5_putPart E xq1 xq2 xq3 xq4  σ) rfl rfl mv_X5_putPart w_4_10 rfl hR_X7_healingValues_X5_putPart rfl (Nat.le_of_ble_eq_true rfl) dX7_healingValues_94 (fun rq16 σ15 _ => ?_)
  refine k_aload_n (pc := 97) F 0 0 dX7_healingValues_97 rfl rfl ?_
  refine k_callVV (pc := 98) B (k := 6) (As := []) (rest := []) (ct_X7_forget E   σ15) rfl rfl mv_X7_forget w_4_11 rfl hR_X7_healingValues_X7_forget rfl (Nat.le_of_ble_eq_true rfl) dX7_healingValues_98 (fun rq18 σ17 _ => ?_)
  refine k_iload (pc := 101) F 5 5 dX7_healingValues_101 rfl ?_
  exact k_iret (pc := 103) B dX7_healingValues_103
set_option maxHeartbeats 4000000 in
set_option maxRecDepth 100000 in
theorem t_X7_healingValues {E : En} {G : Cx} (B : Bx E G cX7_healingValues 7 RX7 H_X7_healingValues (some .int)) (aq0 : Int32) (aq1 : Int32) (aq2 : Int32)  (σ : Mm) : KR E G 7 (ZI E G) (f_X7_healingValues aq0 aq1 aq2 σ) 0 [(0, .ref (ad E 6)), (1, .int aq0), (2, .int aq1), (3, .int aq2)] [] σ := by
  have F := B.1
  unfold f_X7_healingValues
  refine k_aload_n (pc := 0) F 0 0 dX7_healingValues_0 rfl rfl ?_
  refine gf_6_0 (pc := 1) F w_1_231 dX7_healingValues_1 ?_
  refine k_iload_n (pc := 4) F 1 1 dX7_healingValues_4 rfl rfl ?_
  refine k_iload_n (pc := 5) F 2 2 dX7_healingValues_5 rfl rfl ?_
  refine k_iload_n (pc := 6) F 3 3 dX7_healingValues_6 rfl rfl ?_
  refine k_callVI (pc := 7) B (k := 7) (As := [.int aq0, .int aq1, .int aq2]) (rest := []) (ct_X5_partOf E aq0 aq1 aq2  σ) rfl rfl mv_X5_partOf w_4_9 rfl hR_X7_healingValues_X5_partOf rfl (Nat.le_of_ble_eq_true rfl) dX7_healingValues_7 (fun rq2 σ1 _ => ?_)
  refine k_istore F (lv' := [(4, .int rq2), (0, .ref (ad E 6)), (1, .int aq0), (2, .int aq1), (3, .int aq2)]) 4 dX7_healingValues_10 (by decide) rfl ?_
  refine k_iconst (pc := 12) F (v := (0 : Int32)) dX7_healingValues_12 ci_0 ?_
  refine k_istore F (lv' := [(5, .int (0 : Int32)), (4, .int rq2), (0, .ref (ad E 6)), (1, .int aq0), (2, .int aq1), (3, .int aq2)]) 5 dX7_healingValues_13 (by decide) rfl ?_
  refine k_iconst (pc := 15) F (v := (0 : Int32)) dX7_healingValues_15 ci_0 ?_
  refine k_istore F (lv' := [(6, .int (0 : Int32)), (5, .int (0 : Int32)), (4, .int rq2), (0, .ref (ad E 6)), (1, .int aq0), (2, .int aq1), (3, .int aq2)]) 6 dX7_healingValues_16 (by decide) rfl ?_
  exact k_sub [3, 4, 5, 6, 2, 1, 0] rfl (t_X7_healingValues_L18 B aq0 aq1 aq2 rq2  _ (fun xq5  σ => by
        exact k_sub [0, 1, 2, 3, 4, 5] rfl (t_X7_healingValues_85 B aq0 aq1 aq2 rq2 xq5   σ)) FU (0 : Int32) (0 : Int32)  σ1)
set_option maxHeartbeats 4000000 in
set_option maxRecDepth 100000 in
theorem ct_X7_healingValues (E : En) (aq0 : Int32) (aq1 : Int32) (aq2 : Int32)  (σ : Mm) : CtI E yX7_healingValues cX7_healingValues 7 (some .int) H_X7_healingValues [.ref (ad E 6), .int aq0, .int aq1, .int aq2] σ (f_X7_healingValues aq0 aq1 aq2 σ) := ct_I (by decide) (Nat.le_of_ble_eq_true rfl) rfl (fun G B => t_X7_healingValues B aq0 aq1 aq2  σ)
abbrev H_J6_bitCount_0f7a4 : Nat := 0
set_option maxHeartbeats 4000000 in
set_option maxRecDepth 100000 in
theorem t_J6_bitCount_0f7a4 {E : En} {G : Cx} (B : Bx E G cJ6_bitCount_0f7a4 1 RJ6 H_J6_bitCount_0f7a4 (some .int)) (aq0 : Int32)  (σ : Mm) : KR E G 1 (ZI E G) (f_J6_bitCount_0f7a4 aq0 σ) 0 [(0, .int aq0)] [] σ := by
  have F := B.1
  unfold f_J6_bitCount_0f7a4
  refine k_iload_n (pc := 0) F 0 0 dJ6_bitCount_0f7a4_0 rfl rfl ?_
  refine k_iload_n (pc := 1) F 0 0 dJ6_bitCount_0f7a4_1 rfl rfl ?_
  refine k_iconst (pc := 2) F (v := (1 : Int32)) dJ6_bitCount_0f7a4_2 ci_1 ?_
  refine k_iushr (pc := 3) F dJ6_bitCount_0f7a4_3 ?_
  refine k_ldcw (pc := 4) F (v := (1431655765 : Int32)) w_4_32 dJ6_bitCount_0f7a4_4 ?_
  refine k_iand (pc := 7) F dJ6_bitCount_0f7a4_7 ?_
  refine k_isub (pc := 8) F dJ6_bitCount_0f7a4_8 ?_
  refine k_nmI (fun vq1 => ?_)
  refine k_istore_n F (lv' := [(0, .int vq1)]) 0 dJ6_bitCount_0f7a4_9 rfl (by decide) rfl ?_
  refine k_iload_n (pc := 10) F 0 0 dJ6_bitCount_0f7a4_10 rfl rfl ?_
  refine k_ldcw (pc := 11) F (v := (858993459 : Int32)) w_4_33 dJ6_bitCount_0f7a4_11 ?_
  refine k_iand (pc := 14) F dJ6_bitCount_0f7a4_14 ?_
  refine k_iload_n (pc := 15) F 0 0 dJ6_bitCount_0f7a4_15 rfl rfl ?_
  refine k_iconst (pc := 16) F (v := (2 : Int32)) dJ6_bitCount_0f7a4_16 ci_2 ?_
  refine k_iushr (pc := 17) F dJ6_bitCount_0f7a4_17 ?_
  refine k_ldcw (pc := 18) F (v := (858993459 : Int32)) w_4_33 dJ6_bitCount_0f7a4_18 ?_
  refine k_iand (pc := 21) F dJ6_bitCount_0f7a4_21 ?_
  refine k_iadd (pc := 22) F dJ6_bitCount_0f7a4_22 ?_
  refine k_nmI (fun vq2 => ?_)
  refine k_istore_n F (lv' := [(0, .int vq2)]) 0 dJ6_bitCount_0f7a4_23 rfl (by decide) rfl ?_
  refine k_iload_n (pc := 24) F 0 0 dJ6_bitCount_0f7a4_24 rfl rfl ?_
  refine k_iload_n (pc := 25) F 0 0 dJ6_bitCount_0f7a4_25 rfl rfl ?_
  refine k_iconst (pc := 26) F (v := (4 : Int32)) dJ6_bitCount_0f7a4_26 ci_4 ?_
  refine k_iushr (pc := 27) F dJ6_bitCount_0f7a4_27 ?_
  refine k_iadd (pc := 28) F dJ6_bitCount_0f7a4_28 ?_
  refine k_ldcw (pc := 29) F (v := (252645135 : Int32)) w_4_34 dJ6_bitCount_0f7a4_29 ?_
  refine k_iand (pc := 32) F dJ6_bitCount_0f7a4_32 ?_
  refine k_nmI (fun vq3 => ?_)
  refine k_istore_n F (lv' := [(0, .int vq3)]) 0 dJ6_bitCount_0f7a4_33 rfl (by decide) rfl ?_
  refine k_iload_n (pc := 34) F 0 0 dJ6_bitCount_0f7a4_34 rfl rfl ?_
  refine k_iload_n (pc := 35) F 0 0 dJ6_bitCount_0f7a4_35 rfl rfl ?_
  refine k_bipush (pc := 36) F (v := (8 : Int32)) dJ6_bitCount_0f7a4_36 cb_8 ?_
  refine k_iushr (pc := 38) F dJ6_bitCount_0f7a4_38 ?_
  refine k_iadd (pc := 39) F dJ6_bitCount_0f7a4_39 ?_
  refine k_nmI (fun vq4 => ?_)
  refine k_istore_n F (lv' := [(0, .int vq4)]) 0 dJ6_bitCount_0f7a4_40 rfl (by decide) rfl ?_
  refine k_iload_n (pc := 41) F 0 0 dJ6_bitCount_0f7a4_41 rfl rfl ?_
  refine k_iload_n (pc := 42) F 0 0 dJ6_bitCount_0f7a4_42 rfl rfl ?_
  refine k_bipush (pc := 43) F (v := (16 : Int32)) dJ6_bitCount_0f7a4_43 cb_16 ?_
  refine k_iushr (pc := 45) F dJ6_bitCount_0f7a4_45 ?_
  refine k_iadd (pc := 46) F dJ6_bitCount_0f7a4_46 ?_
  refine k_nmI (fun vq5 => ?_)
  refine k_istore_n F (lv' := [(0, .int vq5)]) 0 dJ6_bitCount_0f7a4_47 rfl (by decide) rfl ?_
  refine k_iload_n (pc := 48) F 0 0 dJ6_bitCount_0f7a4_48 rfl rfl ?_
  refine k_bipush (pc := 49) F (v := (63 : Int32)) dJ6_bitCount_0f7a4_49 cb_63 ?_
  refine k_iand (pc := 51) F dJ6_bitCount_0f7a4_51 ?_
  exact k_iret (pc := 52) B dJ6_bitCount_0f7a4_52
set_option maxHeartbeats 4000000 in
set_option maxRecDepth 100000 in
theorem ct_J6_bitCount_0f7a4 (E : En) (aq0 : Int32)  (σ : Mm) : CtI E yJ6_bitCount_0f7a4 cJ6_bitCount_0f7a4 1 (some .int) H_J6_bitCount_0f7a4 [.int aq0] σ (f_J6_bitCount_0f7a4 aq0 σ) := ct_I (by decide +kernel) (Nat.le_of_ble_eq_true rfl) rfl (fun G B => t_J6_bitCount_0f7a4 B aq0  σ)
abbrev H_X7_findFencePlaces : Nat := 1
theorem hR_X7_findFencePlaces_X5_partOf : H_X5_partOf + 1 ≤ H_X7_findFencePlaces ∧ 8 + (4 + 11) + 40 * H_X5_partOf ≤ 40 * H_X7_findFencePlaces := by decide
theorem hR_X7_findFencePlaces_X5_isDone : H_X5_isDone + 1 ≤ H_X7_findFencePlaces ∧ 8 + (3 + 11) + 40 * H_X5_isDone ≤ 40 * H_X7_findFencePlaces := by decide
set_option maxHeartbeats 4000000 in
set_option maxRecDepth 100000 in
theorem t_X7_findFencePlaces_76 {E : En} {G : Cx} (B : Bx E G cX7_findFencePlaces 4 RX7 H_X7_findFencePlaces (some .int)) (xq1 : Int32) (xq2 : Int32) (xq3 : Int32)  (L17 : Int32 → Int32 → Mm → Option (Int32 × Mm)) (hL17 : ∀ (xq1 : Int32) (xq3 : Int32)  (σ : Mm), KR E G 4 (ZI E G) (L17 xq1 xq3 σ) 17 [(0, .ref (ad E 6)), (1, .int xq1), (2, .int xq2), (3, .int xq3)] [] σ)  (σ : Mm) : KR E G 4 (ZI E G) (f_X7_findFencePlaces_76 L17 xq1 xq2 xq3 σ) 76 [(0, .ref (ad E 6)), (1, .int xq1), (2, .int xq2), (3, .int xq3)] [] σ := by
  have F := B.1
  unfold f_X7_findFencePlaces_76
  refine k_iinc (pc := 76) F (c := (1 : Int32)) (lw := fun wq => [(3, .int wq), (0, .ref (ad E 6)), (1, .int xq1), (2, .int xq2)]) 3 3 dX7_findFencePlaces_76 rfl ci_1 (by decide) (fun _ => rfl) (fun vq5 => ?_)
  refine k_goto (pc := 79) F 17 dX7_findFencePlaces_79 (by decide) ?_
  exact k_sub [1, 2, 3, 0] rfl (hL17 xq1 vq5 σ)
set_option maxHeartbeats 4000000 in
set_option maxRecDepth 100000 in
theorem t_X7_findFencePlaces_L17b {E : En} {G : Cx} (B : Bx E G cX7_findFencePlaces 4 RX7 H_X7_findFencePlaces (some .int)) (xq2 : Int32)  (K82 : Int32 → Mm → Option (Int32 × Mm)) (hK82 : ∀ (xq1 : Int32)  (σ : Mm), KR E G 4 (ZI E G) (K82 xq1 σ) 82 [(0, .ref (ad E 6)), (1, .int xq1), (2, .int xq2)] [] σ)  (L17 : Int32 → Int32 → Mm → Option (Int32 × Mm)) (hL17 : ∀ (xq1 : Int32) (xq3 : Int32)  (σ : Mm), KR E G 4 (ZI E G) (L17 xq1 xq3 σ) 17 [(0, .ref (ad E 6)), (1, .int xq1), (2, .int xq2), (3, .int xq3)] [] σ) (xq1 : Int32) (xq3 : Int32)  (σ : Mm) : KR E G 4 (ZI E G) (f_X7_findFencePlaces_L17 K82 xq2 L17 xq1 xq3 σ) 17 [(0, .ref (ad E 6)), (1, .int xq1), (2, .int xq2), (3, .int xq3)] [] σ := by
  have F := B.1
  unfold f_X7_findFencePlaces_L17
  refine k_iload_n (pc := 17) F 3 3 dX7_findFencePlaces_17 rfl rfl ?_
  refine k_aload_n (pc := 18) F 0 0 dX7_findFencePlaces_18 rfl rfl ?_
  refine gf_6_0 (pc := 19) F w_1_231 dX7_findFencePlaces_19 ?_
  refine gf_7_1 (pc := 22) F w_1_104 dX7_findFencePlaces_22 ?_
  refine k_iload_n (pc := 25) F 2 2 dX7_findFencePlaces_25 rfl rfl ?_
  refine k_iald (pc := 26) F rfl dX7_findFencePlaces_26 ?_
  refine k_icmp_ge (pc := 27) F 82 dX7_findFencePlaces_27 (by decide) (fun _ => ?_) (fun _ => ?_)
  · exact k_sub [0, 1, 2] rfl (hK82 xq1 σ)
  · refine k_aload_n (pc := 30) F 0 0 dX7_findFencePlaces_30 rfl rfl ?_
    refine gf_6_0 (pc := 31) F w_1_231 dX7_findFencePlaces_31 ?_
    refine k_iload_n (pc := 34) F 2 2 dX7_findFencePlaces_34 rfl rfl ?_
    refine k_callVI (pc := 35) B (k := 7) (As := [.int xq2]) (rest := []) (ct_X5_isDone E xq2  σ) rfl rfl mv_X5_isDone w_4_25 rfl hR_X7_findFencePlaces_X5_isDone rfl (Nat.le_of_ble_eq_true rfl) dX7_findFencePlaces_35 (fun rq2 σ1 _ => ?_)
    refine k_if_eq (pc := 38) F 82 dX7_findFencePlaces_38 (by decide) (fun _ => ?_) (fun _ => ?_)
    · exact k_sub [0, 1, 2] rfl (hK82 xq1 σ1)
    · refine k_aload_n (pc := 41) F 0 0 dX7_findFencePlaces_41 rfl rfl ?_
      refine gf_6_0 (pc := 42) F w_1_231 dX7_findFencePlaces_42 ?_
      refine k_iload_n (pc := 45) F 2 2 dX7_findFencePlaces_45 rfl rfl ?_
      refine k_iload_n (pc := 46) F 3 3 dX7_findFencePlaces_46 rfl rfl ?_
      refine k_iconst (pc := 47) F (v := (0 : Int32)) dX7_findFencePlaces_47 ci_0 ?_
      refine k_callVI (pc := 48) B (k := 7) (As := [.int xq2, .int xq3, .int (0 : Int32)]) (rest := []) (ct_X5_partOf E xq2 xq3 (0 : Int32)  σ1) rfl rfl mv_X5_partOf w_4_9 rfl hR_X7_findFencePlaces_X5_partOf rfl (Nat.le_of_ble_eq_true rfl) dX7_findFencePlaces_48 (fun rq4 σ3 _ => ?_)
      refine k_iconst (pc := 51) F (v := (2 : Int32)) dX7_findFencePlaces_51 ci_2 ?_
      refine k_icmp_ne (pc := 52) F 76 dX7_findFencePlaces_52 (by decide) (fun _ => ?_) (fun _ => ?_)
      · refine k_iload_n (pc := 55) F 1 1 dX7_findFencePlaces_55 rfl rfl ?_
        refine k_bipush (pc := 56) F (v := (6 : Int32)) dX7_findFencePlaces_56 cb_6 ?_
        refine k_icmp_ge (pc := 58) F 76 dX7_findFencePlaces_58 (by decide) (fun _ => ?_) (fun _ => ?_)
        · exact k_sub [0, 1, 2, 3] rfl (t_X7_findFencePlaces_76 B xq1 xq2 xq3  L17 hL17  σ3)
        · refine k_aload_n (pc := 61) F 0 0 dX7_findFencePlaces_61 rfl rfl ?_
          refine gf_6_5 (pc := 62) F w_2_0 dX7_findFencePlaces_62 ?_
          refine k_iload_n (pc := 65) F 1 1 dX7_findFencePlaces_65 rfl rfl ?_
          refine k_iload_n (pc := 66) F 2 2 dX7_findFencePlaces_66 rfl rfl ?_
          refine k_bipush (pc := 67) F (v := (7 : Int32)) dX7_findFencePlaces_67 cb_7 ?_
          refine k_imul (pc := 69) F dX7_findFencePlaces_69 ?_
          refine k_iload_n (pc := 70) F 3 3 dX7_findFencePlaces_70 rfl rfl ?_
          refine k_iadd (pc := 71) F dX7_findFencePlaces_71 ?_
          refine k_iast (pc := 72) F rfl dX7_findFencePlaces_72 (fun σ6 => ?_)
          refine k_iinc (pc := 73) F (c := (1 : Int32)) (lw := fun wq => [(1, .int wq), (0, .ref (ad E 6)), (2, .int xq2), (3, .int xq3)]) 1 1 dX7_findFencePlaces_73 rfl ci_1 (by decide) (fun _ => rfl) (fun vq7 => ?_)
          exact k_sub [1, 0, 2, 3] rfl (t_X7_findFencePlaces_76 B vq7 xq2 xq3  L17 hL17  σ6)
      · exact k_sub [0, 1, 2, 3] rfl (t_X7_findFencePlaces_76 B xq1 xq2 xq3  L17 hL17  σ3)
set_option maxHeartbeats 4000000 in
set_option maxRecDepth 100000 in
theorem t_X7_findFencePlaces_L17 {E : En} {G : Cx} (B : Bx E G cX7_findFencePlaces 4 RX7 H_X7_findFencePlaces (some .int)) (xq2 : Int32)  (K82 : Int32 → Mm → Option (Int32 × Mm)) (hK82 : ∀ (xq1 : Int32)  (σ : Mm), KR E G 4 (ZI E G) (K82 xq1 σ) 82 [(0, .ref (ad E 6)), (1, .int xq1), (2, .int xq2)] [] σ)  : ∀ (n : Nat) (xq1 : Int32) (xq3 : Int32)  (σ : Mm), KR E G 4 (ZI E G) (fx (fun _ _ _ => none) n (f_X7_findFencePlaces_L17 K82 xq2) xq1 xq3 σ) 17 [(0, .ref (ad E 6)), (1, .int xq1), (2, .int xq2), (3, .int xq3)] [] σ :=
  fun n => fx_ind (P := fun f => ∀ (xq1 : Int32) (xq3 : Int32)  (σ : Mm), KR E G 4 (ZI E G) (f xq1 xq3 σ) 17 [(0, .ref (ad E 6)), (1, .int xq1), (2, .int xq2), (3, .int xq3)] [] σ) (fun _ _ _ => k_none) (fun L17 hL17 xq1 xq3 σ => t_X7_findFencePlaces_L17b B xq2  K82 hK82  L17 hL17 xq1 xq3 σ) n
set_option maxHeartbeats 4000000 in
set_option maxRecDepth 100000 in
theorem t_X7_findFencePlaces_82 {E : En} {G : Cx} (B : Bx E G cX7_findFencePlaces 4 RX7 H_X7_findFencePlaces (some .int)) (xq1 : Int32) (xq2 : Int32)  (L4 : Int32 → Int32 → Mm → Option (Int32 × Mm)) (hL4 : ∀ (xq1 : Int32) (xq2 : Int32)  (σ : Mm), KR E G 4 (ZI E G) (L4 xq1 xq2 σ) 4 [(0, .ref (ad E 6)), (1, .int xq1), (2, .int xq2)] [] σ)  (σ : Mm) : KR E G 4 (ZI E G) (f_X7_findFencePlaces_82 L4 xq1 xq2 σ) 82 [(0, .ref (ad E 6)), (1, .int xq1), (2, .int xq2)] [] σ := by
  have F := B.1
  unfold f_X7_findFencePlaces_82
  refine k_iinc (pc := 82) F (c := (1 : Int32)) (lw := fun wq => [(2, .int wq), (0, .ref (ad E 6)), (1, .int xq1)]) 2 2 dX7_findFencePlaces_82 rfl ci_1 (by decide) (fun _ => rfl) (fun vq8 => ?_)
  refine k_goto (pc := 85) F 4 dX7_findFencePlaces_85 (by decide) ?_
  exact k_sub [1, 2, 0] rfl (hL4 xq1 vq8 σ)
set_option maxHeartbeats 4000000 in
set_option maxRecDepth 100000 in
theorem t_X7_findFencePlaces_L4b {E : En} {G : Cx} (B : Bx E G cX7_findFencePlaces 4 RX7 H_X7_findFencePlaces (some .int))    (L4 : Int32 → Int32 → Mm → Option (Int32 × Mm)) (hL4 : ∀ (xq1 : Int32) (xq2 : Int32)  (σ : Mm), KR E G 4 (ZI E G) (L4 xq1 xq2 σ) 4 [(0, .ref (ad E 6)), (1, .int xq1), (2, .int xq2)] [] σ) (xq1 : Int32) (xq2 : Int32)  (σ : Mm) : KR E G 4 (ZI E G) (f_X7_findFencePlaces_L4  L4 xq1 xq2 σ) 4 [(0, .ref (ad E 6)), (1, .int xq1), (2, .int xq2)] [] σ := by
  have F := B.1
  unfold f_X7_findFencePlaces_L4
  refine k_iload_n (pc := 4) F 2 2 dX7_findFencePlaces_4 rfl rfl ?_
  refine k_aload_n (pc := 5) F 0 0 dX7_findFencePlaces_5 rfl rfl ?_
  refine gf_6_0 (pc := 6) F w_1_231 dX7_findFencePlaces_6 ?_
  refine gf_7_0 (pc := 9) F w_1_99 dX7_findFencePlaces_9 ?_
  refine k_icmp_ge (pc := 12) F 88 dX7_findFencePlaces_12 (by decide) (fun _ => ?_) (fun _ => ?_)
  · refine k_iload_n (pc := 88) F 1 1 dX7_findFencePlaces_88 rfl rfl ?_
    exact k_iret (pc := 89) B dX7_findFencePlaces_89
  · refine k_iconst (pc := 15) F (v := (0 : Int32)) dX7_findFencePlaces_15 ci_0 ?_
    refine k_istore_n F (lv' := [(3, .int (0 : Int32)), (0, .ref (ad E 6)), (1, .int xq1), (2, .int xq2)]) 3 dX7_findFencePlaces_16 rfl (by decide) rfl ?_
    exact k_sub [1, 2, 3, 0] rfl (t_X7_findFencePlaces_L17 B xq2  _ (fun xq1  σ => by
          exact k_sub [0, 1, 2] rfl (t_X7_findFencePlaces_82 B xq1 xq2  L4 hL4  σ)) FU xq1 (0 : Int32)  σ)
set_option maxHeartbeats 4000000 in
set_option maxRecDepth 100000 in
theorem t_X7_findFencePlaces_L4 {E : En} {G : Cx} (B : Bx E G cX7_findFencePlaces 4 RX7 H_X7_findFencePlaces (some .int))    : ∀ (n : Nat) (xq1 : Int32) (xq2 : Int32)  (σ : Mm), KR E G 4 (ZI E G) (fx (fun _ _ _ => none) n (f_X7_findFencePlaces_L4 ) xq1 xq2 σ) 4 [(0, .ref (ad E 6)), (1, .int xq1), (2, .int xq2)] [] σ :=
  fun n => fx_ind (P := fun f => ∀ (xq1 : Int32) (xq2 : Int32)  (σ : Mm), KR E G 4 (ZI E G) (f xq1 xq2 σ) 4 [(0, .ref (ad E 6)), (1, .int xq1), (2, .int xq2)] [] σ) (fun _ _ _ => k_none) (fun L4 hL4 xq1 xq2 σ => t_X7_findFencePlaces_L4b B    L4 hL4 xq1 xq2 σ) n
set_option maxHeartbeats 4000000 in
set_option maxRecDepth 100000 in
theorem t_X7_findFencePlaces {E : En} {G : Cx} (B : Bx E G cX7_findFencePlaces 4 RX7 H_X7_findFencePlaces (some .int))   (σ : Mm) : KR E G 4 (ZI E G) (f_X7_findFencePlaces  σ) 0 [(0, .ref (ad E 6))] [] σ := by
  have F := B.1
  unfold f_X7_findFencePlaces
  refine k_iconst (pc := 0) F (v := (0 : Int32)) dX7_findFencePlaces_0 ci_0 ?_
  refine k_istore_n F (lv' := [(1, .int (0 : Int32)), (0, .ref (ad E 6))]) 1 dX7_findFencePlaces_1 rfl (by decide) rfl ?_
  refine k_iconst (pc := 2) F (v := (0 : Int32)) dX7_findFencePlaces_2 ci_0 ?_
  refine k_istore_n F (lv' := [(2, .int (0 : Int32)), (1, .int (0 : Int32)), (0, .ref (ad E 6))]) 2 dX7_findFencePlaces_3 rfl (by decide) rfl ?_
  exact k_sub [2, 1, 0] rfl (t_X7_findFencePlaces_L4 B    FU (0 : Int32) (0 : Int32)  σ)
set_option maxHeartbeats 4000000 in
set_option maxRecDepth 100000 in
theorem ct_X7_findFencePlaces (E : En)   (σ : Mm) : CtI E yX7_findFencePlaces cX7_findFencePlaces 4 (some .int) H_X7_findFencePlaces [.ref (ad E 6)] σ (f_X7_findFencePlaces  σ) := ct_I (by decide) (Nat.le_of_ble_eq_true rfl) rfl (fun G B => t_X7_findFencePlaces B   σ)
abbrev H_X7_tryFences : Nat := 5
theorem hR_X7_tryFences_X7_goThrough : H_X7_goThrough + 1 ≤ H_X7_tryFences ∧ 8 + (3 + 11) + 40 * H_X7_goThrough ≤ 40 * H_X7_tryFences := by decide
theorem hR_X7_tryFences_X7_leastBad : H_X7_leastBad + 1 ≤ H_X7_tryFences ∧ 8 + (3 + 11) + 40 * H_X7_leastBad ≤ 40 * H_X7_tryFences := by decide
set_option maxHeartbeats 4000000 in
set_option maxRecDepth 100000 in
theorem t_X7_tryFences_36 {E : En} {G : Cx} (B : Bx E G cX7_tryFences 7 RX7 H_X7_tryFences (some .int)) (xq1 : Int32) (xq2 : Int32) (xq4 : Int64) (xq6 : Int32)  (L6 : Int64 → Int32 → Mm → Option (Int32 × Mm)) (hL6 : ∀ (xq4 : Int64) (xq6 : Int32)  (σ : Mm), KR E G 7 (ZI E G) (L6 xq4 xq6 σ) 6 [(0, .ref (ad E 6)), (1, .int xq1), (2, .int xq2), (3, .ref (ad E 28)), (4, .long xq4), (6, .int xq6)] [] σ)  (σ : Mm) : KR E G 7 (ZI E G) (f_X7_tryFences_36 L6 xq1 xq2 xq4 xq6 σ) 36 [(0, .ref (ad E 6)), (1, .int xq1), (2, .int xq2), (3, .ref (ad E 28)), (4, .long xq4), (6, .int xq6)] [] σ := by
  have F := B.1
  unfold f_X7_tryFences_36
  refine k_iinc (pc := 36) F (c := (1 : Int32)) (lw := fun wq => [(6, .int wq), (0, .ref (ad E 6)), (1, .int xq1), (2, .int xq2), (3, .ref (ad E 28)), (4, .long xq4)]) 6 5 dX7_tryFences_36 rfl ci_1 (by decide) (fun _ => rfl) (fun vq1 => ?_)
  refine k_goto (pc := 39) F 6 dX7_tryFences_39 (by decide) ?_
  exact k_sub [1, 2, 3, 4, 5, 0] rfl (hL6 xq4 vq1 σ)
set_option maxHeartbeats 4000000 in
set_option maxRecDepth 100000 in
theorem t_X7_tryFences_L6b {E : En} {G : Cx} (B : Bx E G cX7_tryFences 7 RX7 H_X7_tryFences (some .int)) (xq1 : Int32) (xq2 : Int32)  (K42 : Int64 → Mm → Option (Int32 × Mm)) (hK42 : ∀ (xq4 : Int64)  (σ : Mm), KR E G 7 (ZI E G) (K42 xq4 σ) 42 [(0, .ref (ad E 6)), (1, .int xq1), (3, .ref (ad E 28)), (4, .long xq4)] [] σ)  (L6 : Int64 → Int32 → Mm → Option (Int32 × Mm)) (hL6 : ∀ (xq4 : Int64) (xq6 : Int32)  (σ : Mm), KR E G 7 (ZI E G) (L6 xq4 xq6 σ) 6 [(0, .ref (ad E 6)), (1, .int xq1), (2, .int xq2), (3, .ref (ad E 28)), (4, .long xq4), (6, .int xq6)] [] σ) (xq4 : Int64) (xq6 : Int32)  (σ : Mm) : KR E G 7 (ZI E G) (f_X7_tryFences_L6 K42 xq1 xq2 L6 xq4 xq6 σ) 6 [(0, .ref (ad E 6)), (1, .int xq1), (2, .int xq2), (3, .ref (ad E 28)), (4, .long xq4), (6, .int xq6)] [] σ := by
  have F := B.1
  unfold f_X7_tryFences_L6
  refine k_iload (pc := 6) F 6 5 dX7_tryFences_6 rfl ?_
  refine k_iload_n (pc := 8) F 2 2 dX7_tryFences_8 rfl rfl ?_
  refine k_icmp_ge (pc := 9) F 42 dX7_tryFences_9 (by decide) (fun _ => ?_) (fun _ => ?_)
  · exact k_sub [0, 1, 3, 4] rfl (hK42 xq4 σ)
  · refine k_iload_n (pc := 12) F 1 1 dX7_tryFences_12 rfl rfl ?_
    refine k_iload (pc := 13) F 6 5 dX7_tryFences_13 rfl ?_
    refine k_ishr (pc := 15) F dX7_tryFences_15 ?_
    refine k_iconst (pc := 16) F (v := (1 : Int32)) dX7_tryFences_16 ci_1 ?_
    refine k_iand (pc := 17) F dX7_tryFences_17 ?_
    refine k_iconst (pc := 18) F (v := (1 : Int32)) dX7_tryFences_18 ci_1 ?_
    refine k_icmp_ne (pc := 19) F 36 dX7_tryFences_19 (by decide) (fun _ => ?_) (fun _ => ?_)
    · refine k_lload (pc := 22) F 4 4 dX7_tryFences_22 rfl ?_
      refine k_lconst (pc := 24) F (v := (1 : Int64)) dX7_tryFences_24 cl_1 ?_
      refine k_aload_n (pc := 25) F 0 0 dX7_tryFences_25 rfl rfl ?_
      refine gf_6_5 (pc := 26) F w_2_0 dX7_tryFences_26 ?_
      refine k_iload (pc := 29) F 6 5 dX7_tryFences_29 rfl ?_
      refine k_iald (pc := 31) F rfl dX7_tryFences_31 ?_
      refine k_lshl (pc := 32) F dX7_tryFences_32 ?_
      refine k_lor (pc := 33) F dX7_tryFences_33 ?_
      refine k_nmL (fun vq2 => ?_)
      refine k_lstore F (lv' := [(4, .long vq2), (0, .ref (ad E 6)), (1, .int xq1), (2, .int xq2), (3, .ref (ad E 28)), (6, .int xq6)]) 4 dX7_tryFences_34 (by decide) rfl ?_
      exact k_sub [1, 2, 3, 4, 0, 5] rfl (t_X7_tryFences_36 B xq1 xq2 vq2 xq6  L6 hL6  σ)
    · exact k_sub [0, 1, 2, 3, 4, 5] rfl (t_X7_tryFences_36 B xq1 xq2 xq4 xq6  L6 hL6  σ)
set_option maxHeartbeats 4000000 in
set_option maxRecDepth 100000 in
theorem t_X7_tryFences_L6 {E : En} {G : Cx} (B : Bx E G cX7_tryFences 7 RX7 H_X7_tryFences (some .int)) (xq1 : Int32) (xq2 : Int32)  (K42 : Int64 → Mm → Option (Int32 × Mm)) (hK42 : ∀ (xq4 : Int64)  (σ : Mm), KR E G 7 (ZI E G) (K42 xq4 σ) 42 [(0, .ref (ad E 6)), (1, .int xq1), (3, .ref (ad E 28)), (4, .long xq4)] [] σ)  : ∀ (n : Nat) (xq4 : Int64) (xq6 : Int32)  (σ : Mm), KR E G 7 (ZI E G) (fx (fun _ _ _ => none) n (f_X7_tryFences_L6 K42 xq1 xq2) xq4 xq6 σ) 6 [(0, .ref (ad E 6)), (1, .int xq1), (2, .int xq2), (3, .ref (ad E 28)), (4, .long xq4), (6, .int xq6)] [] σ :=
  fun n => fx_ind (P := fun f => ∀ (xq4 : Int64) (xq6 : Int32)  (σ : Mm), KR E G 7 (ZI E G) (f xq4 xq6 σ) 6 [(0, .ref (ad E 6)), (1, .int xq1), (2, .int xq2), (3, .ref (ad E 28)), (4, .long xq4), (6, .int xq6)] [] σ) (fun _ _ _ => k_none) (fun L6 hL6 xq4 xq6 σ => t_X7_tryFences_L6b B xq1 xq2  K42 hK42  L6 hL6 xq4 xq6 σ) n
set_option maxHeartbeats 4000000 in
set_option maxRecDepth 100000 in
theorem t_X7_tryFences_42 {E : En} {G : Cx} (B : Bx E G cX7_tryFences 7 RX7 H_X7_tryFences (some .int)) (xq1 : Int32) (xq4 : Int64)   (σ : Mm) : KR E G 7 (ZI E G) (f_X7_tryFences_42 xq1 xq4 σ) 42 [(0, .ref (ad E 6)), (1, .int xq1), (3, .ref (ad E 28)), (4, .long xq4)] [] σ := by
  have F := B.1
  unfold f_X7_tryFences_42
  refine k_aload_n (pc := 42) F 0 0 dX7_tryFences_42 rfl rfl ?_
  refine k_lload (pc := 43) F 4 3 dX7_tryFences_43 rfl ?_
  refine k_callVV (pc := 45) B (k := 6) (As := [.long xq4]) (rest := []) (ct_X7_goThrough E xq4  σ) rfl rfl mv_X7_goThrough w_3_46 rfl hR_X7_tryFences_X7_goThrough rfl (Nat.le_of_ble_eq_true rfl) dX7_tryFences_45 (fun rq4 σ3 _ => ?_)
  refine k_aload_n (pc := 48) F 0 0 dX7_tryFences_48 rfl rfl ?_
  refine gf_6_2 (pc := 49) F w_1_235 dX7_tryFences_49 ?_
  refine gf_18_8 (pc := 52) F w_1_189 dX7_tryFences_52 ?_
  refine k_if_eq (pc := 55) F 61 dX7_tryFences_55 (by decide) (fun _ => ?_) (fun _ => ?_)
  · refine k_aload_n (pc := 61) F 0 0 dX7_tryFences_61 rfl rfl ?_
    refine k_aload_n (pc := 62) F 3 2 dX7_tryFences_62 rfl rfl ?_
    refine k_callVI (pc := 63) B (k := 6) (As := [.ref (ad E 28)]) (rest := []) (ct_X7_leastBad E   σ3) rfl rfl mv_X7_leastBad w_3_202 rfl hR_X7_tryFences_X7_leastBad rfl (Nat.le_of_ble_eq_true rfl) dX7_tryFences_63 (fun rq6 σ5 _ => ?_)
    refine k_if_ge (pc := 66) F 73 dX7_tryFences_66 (by decide) (fun _ => ?_) (fun _ => ?_)
    · refine k_iconst (pc := 73) F (v := (-1 : Int32)) dX7_tryFences_73 ci_m1 ?_
      exact k_iret (pc := 74) B dX7_tryFences_74
    · refine k_iload_n (pc := 69) F 1 1 dX7_tryFences_69 rfl rfl ?_
      refine k_goto (pc := 70) F 74 dX7_tryFences_70 (by decide) ?_
      exact k_iret (pc := 74) B dX7_tryFences_74
  · refine k_bipush (pc := 58) F (v := (-2 : Int32)) dX7_tryFences_58 cb_m2 ?_
    exact k_iret (pc := 60) B dX7_tryFences_60
set_option maxHeartbeats 4000000 in
set_option maxRecDepth 100000 in
theorem t_X7_tryFences {E : En} {G : Cx} (B : Bx E G cX7_tryFences 7 RX7 H_X7_tryFences (some .int)) (aq0 : Int32) (aq1 : Int32)  (σ : Mm) : KR E G 7 (ZI E G) (f_X7_tryFences aq0 aq1 σ) 0 [(0, .ref (ad E 6)), (1, .int aq0), (2, .int aq1), (3, .ref (ad E 28))] [] σ := by
  have F := B.1
  unfold f_X7_tryFences
  refine k_lconst (pc := 0) F (v := (0 : Int64)) dX7_tryFences_0 cl_0 ?_
  refine k_lstore F (lv' := [(4, .long (0 : Int64)), (0, .ref (ad E 6)), (1, .int aq0), (2, .int aq1), (3, .ref (ad E 28))]) 4 dX7_tryFences_1 (by decide) rfl ?_
  refine k_iconst (pc := 3) F (v := (0 : Int32)) dX7_tryFences_3 ci_0 ?_
  refine k_istore F (lv' := [(6, .int (0 : Int32)), (4, .long (0 : Int64)), (0, .ref (ad E 6)), (1, .int aq0), (2, .int aq1), (3, .ref (ad E 28))]) 6 dX7_tryFences_4 (by decide) rfl ?_
  exact k_sub [2, 3, 4, 5, 1, 0] rfl (t_X7_tryFences_L6 B aq0 aq1  _ (fun xq4  σ => by
        exact k_sub [0, 1, 2, 3] rfl (t_X7_tryFences_42 B aq0 xq4   σ)) FU (0 : Int64) (0 : Int32)  σ)
set_option maxHeartbeats 4000000 in
set_option maxRecDepth 100000 in
theorem ct_X7_tryFences (E : En) (aq0 : Int32) (aq1 : Int32)  (σ : Mm) : CtI E yX7_tryFences cX7_tryFences 7 (some .int) H_X7_tryFences [.ref (ad E 6), .int aq0, .int aq1, .ref (ad E 28)] σ (f_X7_tryFences aq0 aq1 σ) := ct_I (by decide) (Nat.le_of_ble_eq_true rfl) rfl (fun G B => t_X7_tryFences B aq0 aq1  σ)
abbrev H_X7_fewestFences : Nat := 14
theorem hR_X7_fewestFences_X7_findFencePlaces : H_X7_findFencePlaces + 1 ≤ H_X7_fewestFences ∧ 8 + (4 + 11) + 40 * H_X7_findFencePlaces ≤ 40 * H_X7_fewestFences := by decide
theorem hR_X7_fewestFences_X7_tryFences : H_X7_tryFences + 1 ≤ H_X7_fewestFences ∧ 8 + (7 + 11) + 40 * H_X7_tryFences ≤ 40 * H_X7_fewestFences := by decide
theorem hR_X7_fewestFences_J6_bitCount_0f7a4 : H_J6_bitCount_0f7a4 + 1 ≤ H_X7_fewestFences ∧ 8 + (1 + 11) + 40 * H_J6_bitCount_0f7a4 ≤ 40 * H_X7_fewestFences := by decide
theorem hR_X7_fewestFences_X7_orderedResults : H_X7_orderedResults + 1 ≤ H_X7_fewestFences ∧ 8 + (1 + 11) + 40 * H_X7_orderedResults ≤ 40 * H_X7_fewestFences := by decide
theorem hR_X7_fewestFences_X7_leastBad : H_X7_leastBad + 1 ≤ H_X7_fewestFences ∧ 8 + (3 + 11) + 40 * H_X7_leastBad ≤ 40 * H_X7_fewestFences := by decide
theorem hR_X7_fewestFences_X7_isTooLarge : H_X7_isTooLarge + 1 ≤ H_X7_fewestFences ∧ 8 + (1 + 11) + 40 * H_X7_isTooLarge ≤ 40 * H_X7_fewestFences := by decide
set_option maxHeartbeats 4000000 in
set_option maxRecDepth 100000 in
theorem t_X7_fewestFences_81 {E : En} {G : Cx} (B : Bx E G cX7_fewestFences 6 RX7 H_X7_fewestFences (some .int)) (xq2 : Int32) (xq3 : Int32) (xq4 : Int32) (xq5 : Int32)  (L49 : Int32 → Int32 → Mm → Option (Int32 × Mm)) (hL49 : ∀ (xq3 : Int32) (xq5 : Int32)  (σ : Mm), KR E G 6 (ZI E G) (L49 xq3 xq5 σ) 49 [(0, .ref (ad E 6)), (1, .ref (ad E 28)), (2, .int xq2), (3, .int xq3), (4, .int xq4), (5, .int xq5)] [] σ)  (σ : Mm) : KR E G 6 (ZI E G) (f_X7_fewestFences_81 L49 xq2 xq3 xq4 xq5 σ) 81 [(0, .ref (ad E 6)), (1, .ref (ad E 28)), (2, .int xq2), (3, .int xq3), (4, .int xq4), (5, .int xq5)] [] σ := by
  have F := B.1
  unfold f_X7_fewestFences_81
  refine k_iinc (pc := 81) F (c := (1 : Int32)) (lw := fun wq => [(5, .int wq), (0, .ref (ad E 6)), (1, .ref (ad E 28)), (2, .int xq2), (3, .int xq3), (4, .int xq4)]) 5 5 dX7_fewestFences_81 rfl ci_1 (by decide) (fun _ => rfl) (fun vq13 => ?_)
  refine k_goto (pc := 84) F 49 dX7_fewestFences_84 (by decide) ?_
  exact k_sub [1, 2, 3, 4, 5, 0] rfl (hL49 xq3 vq13 σ)
set_option maxHeartbeats 4000000 in
set_option maxRecDepth 100000 in
theorem t_X7_fewestFences_L49b {E : En} {G : Cx} (B : Bx E G cX7_fewestFences 6 RX7 H_X7_fewestFences (some .int)) (xq2 : Int32) (xq4 : Int32)  (K87 : Int32 → Mm → Option (Int32 × Mm)) (hK87 : ∀ (xq3 : Int32)  (σ : Mm), KR E G 6 (ZI E G) (K87 xq3 σ) 87 [(0, .ref (ad E 6)), (1, .ref (ad E 28)), (2, .int xq2), (3, .int xq3), (4, .int xq4)] [] σ)  (L49 : Int32 → Int32 → Mm → Option (Int32 × Mm)) (hL49 : ∀ (xq3 : Int32) (xq5 : Int32)  (σ : Mm), KR E G 6 (ZI E G) (L49 xq3 xq5 σ) 49 [(0, .ref (ad E 6)), (1, .ref (ad E 28)), (2, .int xq2), (3, .int xq3), (4, .int xq4), (5, .int xq5)] [] σ) (xq3 : Int32) (xq5 : Int32)  (σ : Mm) : KR E G 6 (ZI E G) (f_X7_fewestFences_L49 K87 xq2 xq4 L49 xq3 xq5 σ) 49 [(0, .ref (ad E 6)), (1, .ref (ad E 28)), (2, .int xq2), (3, .int xq3), (4, .int xq4), (5, .int xq5)] [] σ := by
  have F := B.1
  unfold f_X7_fewestFences_L49
  refine k_iload (pc := 49) F 5 5 dX7_fewestFences_49 rfl ?_
  refine k_iconst (pc := 51) F (v := (1 : Int32)) dX7_fewestFences_51 ci_1 ?_
  refine k_iload_n (pc := 52) F 2 2 dX7_fewestFences_52 rfl rfl ?_
  refine k_ishl (pc := 53) F dX7_fewestFences_53 ?_
  refine k_icmp_ge (pc := 54) F 87 dX7_fewestFences_54 (by decide) (fun _ => ?_) (fun _ => ?_)
  · exact k_sub [0, 1, 2, 3, 4] rfl (hK87 xq3 σ)
  · refine k_iload_n (pc := 57) F 3 3 dX7_fewestFences_57 rfl rfl ?_
    refine k_iconst (pc := 58) F (v := (-1 : Int32)) dX7_fewestFences_58 ci_m1 ?_
    refine k_icmp_ne (pc := 59) F 87 dX7_fewestFences_59 (by decide) (fun _ => ?_) (fun _ => ?_)
    · refine k_iload (pc := 62) F 5 5 dX7_fewestFences_62 rfl ?_
      refine k_callSI (pc := 64) B (As := [.int xq5]) (rest := []) (ct_J6_bitCount_0f7a4 E xq5  σ) ms_J6_bitCount_0f7a4 w_4_29 rfl hR_X7_fewestFences_J6_bitCount_0f7a4 rfl (Nat.le_of_ble_eq_true rfl) dX7_fewestFences_64 (fun rq12 σ11 _ => ?_)
      refine k_iload (pc := 67) F 4 4 dX7_fewestFences_67 rfl ?_
      refine k_icmp_ne (pc := 69) F 81 dX7_fewestFences_69 (by decide) (fun _ => ?_) (fun _ => ?_)
      · refine k_aload_n (pc := 72) F 0 0 dX7_fewestFences_72 rfl rfl ?_
        refine k_iload (pc := 73) F 5 5 dX7_fewestFences_73 rfl ?_
        refine k_iload_n (pc := 75) F 2 2 dX7_fewestFences_75 rfl rfl ?_
        refine k_aload_n (pc := 76) F 1 1 dX7_fewestFences_76 rfl rfl ?_
        refine k_callVI (pc := 77) B (k := 6) (As := [.int xq5, .int xq2, .ref (ad E 28)]) (rest := []) (ct_X7_tryFences E xq5 xq2  σ11) rfl rfl mv_X7_tryFences w_4_35 rfl hR_X7_fewestFences_X7_tryFences rfl (Nat.le_of_ble_eq_true rfl) dX7_fewestFences_77 (fun rq15 σ14 _ => ?_)
        refine k_istore_n F (lv' := [(3, .int rq15), (0, .ref (ad E 6)), (1, .ref (ad E 28)), (2, .int xq2), (4, .int xq4), (5, .int xq5)]) 3 dX7_fewestFences_80 rfl (by decide) rfl ?_
        exact k_sub [1, 2, 3, 0, 4, 5] rfl (t_X7_fewestFences_81 B xq2 rq15 xq4 xq5  L49 hL49  σ14)
      · exact k_sub [0, 1, 2, 3, 4, 5] rfl (t_X7_fewestFences_81 B xq2 xq3 xq4 xq5  L49 hL49  σ11)
    · exact k_sub [0, 1, 2, 3, 4] rfl (hK87 xq3 σ)
set_option maxHeartbeats 4000000 in
set_option maxRecDepth 100000 in
theorem t_X7_fewestFences_L49 {E : En} {G : Cx} (B : Bx E G cX7_fewestFences 6 RX7 H_X7_fewestFences (some .int)) (xq2 : Int32) (xq4 : Int32)  (K87 : Int32 → Mm → Option (Int32 × Mm)) (hK87 : ∀ (xq3 : Int32)  (σ : Mm), KR E G 6 (ZI E G) (K87 xq3 σ) 87 [(0, .ref (ad E 6)), (1, .ref (ad E 28)), (2, .int xq2), (3, .int xq3), (4, .int xq4)] [] σ)  : ∀ (n : Nat) (xq3 : Int32) (xq5 : Int32)  (σ : Mm), KR E G 6 (ZI E G) (fx (fun _ _ _ => none) n (f_X7_fewestFences_L49 K87 xq2 xq4) xq3 xq5 σ) 49 [(0, .ref (ad E 6)), (1, .ref (ad E 28)), (2, .int xq2), (3, .int xq3), (4, .int xq4), (5, .int xq5)] [] σ :=
  fun n => fx_ind (P := fun f => ∀ (xq3 : Int32) (xq5 : Int32)  (σ : Mm), KR E G 6 (ZI E G) (f xq3 xq5 σ) 49 [(0, .ref (ad E 6)), (1, .ref (ad E 28)), (2, .int xq2), (3, .int xq3), (4, .int xq4), (5, .int xq5)] [] σ) (fun _ _ _ => k_none) (fun L49 hL49 xq3 xq5 σ => t_X7_fewestFences_L49b B xq2 xq4  K87 hK87  L49 hL49 xq3 xq5 σ) n
set_option maxHeartbeats 4000000 in
set_option maxRecDepth 100000 in
theorem t_X7_fewestFences_87 {E : En} {G : Cx} (B : Bx E G cX7_fewestFences 6 RX7 H_X7_fewestFences (some .int)) (xq2 : Int32) (xq3 : Int32) (xq4 : Int32)  (L35 : Int32 → Int32 → Mm → Option (Int32 × Mm)) (hL35 : ∀ (xq3 : Int32) (xq4 : Int32)  (σ : Mm), KR E G 6 (ZI E G) (L35 xq3 xq4 σ) 35 [(0, .ref (ad E 6)), (1, .ref (ad E 28)), (2, .int xq2), (3, .int xq3), (4, .int xq4)] [] σ)  (σ : Mm) : KR E G 6 (ZI E G) (f_X7_fewestFences_87 L35 xq2 xq3 xq4 σ) 87 [(0, .ref (ad E 6)), (1, .ref (ad E 28)), (2, .int xq2), (3, .int xq3), (4, .int xq4)] [] σ := by
  have F := B.1
  unfold f_X7_fewestFences_87
  refine k_iinc (pc := 87) F (c := (1 : Int32)) (lw := fun wq => [(4, .int wq), (0, .ref (ad E 6)), (1, .ref (ad E 28)), (2, .int xq2), (3, .int xq3)]) 4 4 dX7_fewestFences_87 rfl ci_1 (by decide) (fun _ => rfl) (fun vq16 => ?_)
  refine k_goto (pc := 90) F 35 dX7_fewestFences_90 (by decide) ?_
  exact k_sub [1, 2, 3, 4, 0] rfl (hL35 xq3 vq16 σ)
set_option maxHeartbeats 4000000 in
set_option maxRecDepth 100000 in
theorem t_X7_fewestFences_L35b {E : En} {G : Cx} (B : Bx E G cX7_fewestFences 6 RX7 H_X7_fewestFences (some .int)) (xq2 : Int32)   (L35 : Int32 → Int32 → Mm → Option (Int32 × Mm)) (hL35 : ∀ (xq3 : Int32) (xq4 : Int32)  (σ : Mm), KR E G 6 (ZI E G) (L35 xq3 xq4 σ) 35 [(0, .ref (ad E 6)), (1, .ref (ad E 28)), (2, .int xq2), (3, .int xq3), (4, .int xq4)] [] σ) (xq3 : Int32) (xq4 : Int32)  (σ : Mm) : KR E G 6 (ZI E G) (f_X7_fewestFences_L35 xq2 L35 xq3 xq4 σ) 35 [(0, .ref (ad E 6)), (1, .ref (ad E 28)), (2, .int xq2), (3, .int xq3), (4, .int xq4)] [] σ := by
  have F := B.1
  unfold f_X7_fewestFences_L35
  refine k_iload (pc := 35) F 4 4 dX7_fewestFences_35 rfl ?_
  refine k_iload_n (pc := 37) F 2 2 dX7_fewestFences_37 rfl rfl ?_
  refine k_icmp_gt (pc := 38) F 93 dX7_fewestFences_38 (by decide) (fun _ => ?_) (fun _ => ?_)
  · refine k_aload_n (pc := 93) F 0 0 dX7_fewestFences_93 rfl rfl ?_
    refine k_iconst (pc := 94) F (v := (0 : Int32)) dX7_fewestFences_94 ci_0 ?_
    refine pf_6_6 (pc := 95) F w_2_1 dX7_fewestFences_95 (fun σ9 => ?_)
    refine k_iload_n (pc := 98) F 3 3 dX7_fewestFences_98 rfl rfl ?_
    exact k_iret (pc := 99) B dX7_fewestFences_99
  · refine k_iload_n (pc := 41) F 3 3 dX7_fewestFences_41 rfl rfl ?_
    refine k_iconst (pc := 42) F (v := (-1 : Int32)) dX7_fewestFences_42 ci_m1 ?_
    refine k_icmp_ne (pc := 43) F 93 dX7_fewestFences_43 (by decide) (fun _ => ?_) (fun _ => ?_)
    · refine k_iconst (pc := 46) F (v := (0 : Int32)) dX7_fewestFences_46 ci_0 ?_
      refine k_istore F (lv' := [(5, .int (0 : Int32)), (0, .ref (ad E 6)), (1, .ref (ad E 28)), (2, .int xq2), (3, .int xq3), (4, .int xq4)]) 5 dX7_fewestFences_47 (by decide) rfl ?_
      exact k_sub [1, 2, 3, 4, 5, 0] rfl (t_X7_fewestFences_L49 B xq2 xq4  _ (fun xq3  σ => by
            exact k_sub [0, 1, 2, 3, 4] rfl (t_X7_fewestFences_87 B xq2 xq3 xq4  L35 hL35  σ)) FU xq3 (0 : Int32)  σ)
    · refine k_aload_n (pc := 93) F 0 0 dX7_fewestFences_93 rfl rfl ?_
      refine k_iconst (pc := 94) F (v := (0 : Int32)) dX7_fewestFences_94 ci_0 ?_
      refine pf_6_6 (pc := 95) F w_2_1 dX7_fewestFences_95 (fun σ10 => ?_)
      refine k_iload_n (pc := 98) F 3 3 dX7_fewestFences_98 rfl rfl ?_
      exact k_iret (pc := 99) B dX7_fewestFences_99
set_option maxHeartbeats 4000000 in
set_option maxRecDepth 100000 in
theorem t_X7_fewestFences_L35 {E : En} {G : Cx} (B : Bx E G cX7_fewestFences 6 RX7 H_X7_fewestFences (some .int)) (xq2 : Int32)   : ∀ (n : Nat) (xq3 : Int32) (xq4 : Int32)  (σ : Mm), KR E G 6 (ZI E G) (fx (fun _ _ _ => none) n (f_X7_fewestFences_L35 xq2) xq3 xq4 σ) 35 [(0, .ref (ad E 6)), (1, .ref (ad E 28)), (2, .int xq2), (3, .int xq3), (4, .int xq4)] [] σ :=
  fun n => fx_ind (P := fun f => ∀ (xq3 : Int32) (xq4 : Int32)  (σ : Mm), KR E G 6 (ZI E G) (f xq3 xq4 σ) 35 [(0, .ref (ad E 6)), (1, .ref (ad E 28)), (2, .int xq2), (3, .int xq3), (4, .int xq4)] [] σ) (fun _ _ _ => k_none) (fun L35 hL35 xq3 xq4 σ => t_X7_fewestFences_L35b B xq2   L35 hL35 xq3 xq4 σ) n
set_option maxHeartbeats 4000000 in
set_option maxRecDepth 100000 in
theorem t_X7_fewestFences {E : En} {G : Cx} (B : Bx E G cX7_fewestFences 6 RX7 H_X7_fewestFences (some .int))   (σ : Mm) : KR E G 6 (ZI E G) (f_X7_fewestFences  σ) 0 [(0, .ref (ad E 6))] [] σ := by
  have F := B.1
  unfold f_X7_fewestFences
  refine k_aload_n (pc := 0) F 0 0 dX7_fewestFences_0 rfl rfl ?_
  refine k_callVU (pc := 1) B (k := 6) (As := []) (rest := []) (ct_X7_orderedResults E   σ) rfl rfl mv_X7_orderedResults w_3_201 rfl hR_X7_fewestFences_X7_orderedResults rfl (Nat.le_of_ble_eq_true rfl) dX7_fewestFences_1 (fun rq2 σ1 _ => ?_)
  refine k_astore_n F (lv' := [(1, .ref (ad E 28)), (0, .ref (ad E 6))]) 1 dX7_fewestFences_4 rfl (by decide) rfl ?_
  refine k_aload_n (pc := 5) F 0 1 dX7_fewestFences_5 rfl rfl ?_
  refine k_callVI (pc := 6) B (k := 6) (As := []) (rest := []) (ct_X7_isTooLarge E   σ1) rfl rfl mv_X7_isTooLarge w_4_12 rfl hR_X7_fewestFences_X7_isTooLarge rfl (Nat.le_of_ble_eq_true rfl) dX7_fewestFences_6 (fun rq4 σ3 _ => ?_)
  refine k_if_eq (pc := 9) F 15 dX7_fewestFences_9 (by decide) (fun _ => ?_) (fun _ => ?_)
  · refine k_aload_n (pc := 15) F 0 1 dX7_fewestFences_15 rfl rfl ?_
    refine k_aload_n (pc := 16) F 1 0 dX7_fewestFences_16 rfl rfl ?_
    refine k_callVI (pc := 17) B (k := 6) (As := [.ref (ad E 28)]) (rest := []) (ct_X7_leastBad E   σ3) rfl rfl mv_X7_leastBad w_3_202 rfl hR_X7_fewestFences_X7_leastBad rfl (Nat.le_of_ble_eq_true rfl) dX7_fewestFences_17 (fun rq6 σ5 _ => ?_)
    refine k_if_ge (pc := 20) F 25 dX7_fewestFences_20 (by decide) (fun _ => ?_) (fun _ => ?_)
    · refine k_aload_n (pc := 25) F 0 1 dX7_fewestFences_25 rfl rfl ?_
      refine k_callVI (pc := 26) B (k := 6) (As := []) (rest := []) (ct_X7_findFencePlaces E   σ5) rfl rfl mv_X7_findFencePlaces w_4_21 rfl hR_X7_fewestFences_X7_findFencePlaces rfl (Nat.le_of_ble_eq_true rfl) dX7_fewestFences_26 (fun rq8 σ7 _ => ?_)
      refine k_istore_n F (lv' := [(2, .int rq8), (1, .ref (ad E 28)), (0, .ref (ad E 6))]) 2 dX7_fewestFences_29 rfl (by decide) rfl ?_
      refine k_iconst (pc := 30) F (v := (-1 : Int32)) dX7_fewestFences_30 ci_m1 ?_
      refine k_istore_n F (lv' := [(3, .int (-1 : Int32)), (2, .int rq8), (1, .ref (ad E 28)), (0, .ref (ad E 6))]) 3 dX7_fewestFences_31 rfl (by decide) rfl ?_
      refine k_iconst (pc := 32) F (v := (1 : Int32)) dX7_fewestFences_32 ci_1 ?_
      refine k_istore F (lv' := [(4, .int (1 : Int32)), (3, .int (-1 : Int32)), (2, .int rq8), (1, .ref (ad E 28)), (0, .ref (ad E 6))]) 4 dX7_fewestFences_33 (by decide) rfl ?_
      exact k_sub [4, 3, 2, 1, 0] rfl (t_X7_fewestFences_L35 B rq8   FU (-1 : Int32) (1 : Int32)  σ7)
    · refine k_iconst (pc := 23) F (v := (0 : Int32)) dX7_fewestFences_23 ci_0 ?_
      exact k_iret (pc := 24) B dX7_fewestFences_24
  · refine k_bipush (pc := 12) F (v := (-2 : Int32)) dX7_fewestFences_12 cb_m2 ?_
    exact k_iret (pc := 14) B dX7_fewestFences_14
set_option maxHeartbeats 4000000 in
set_option maxRecDepth 100000 in
theorem ct_X7_fewestFences (E : En)   (σ : Mm) : CtI E yX7_fewestFences cX7_fewestFences 6 (some .int) H_X7_fewestFences [.ref (ad E 6)] σ (f_X7_fewestFences  σ) := ct_I (by decide) (Nat.le_of_ble_eq_true rfl) rfl (fun G B => t_X7_fewestFences B   σ)
abbrev H_X8_append : Nat := 0
set_option maxHeartbeats 4000000 in
set_option maxRecDepth 100000 in
theorem t_X8_append_L4b {E : En} {G : Cx} (B : Bx E G cX8_append 4 RX8 H_X8_append none) (xq1 : Int32)   (L4 : Int32 → Mm → Option (Unit × Mm)) (hL4 : ∀ (xq3 : Int32)  (σ : Mm), KR E G 4 (ZV E G) (L4 xq3 σ) 4 [(0, .ref (ad E 4)), (1, .int xq1), (3, .int xq3)] [] σ) (xq3 : Int32)  (σ : Mm) : KR E G 4 (ZV E G) (f_X8_append_L4 xq1 L4 xq3 σ) 4 [(0, .ref (ad E 4)), (1, .int xq1), (3, .int xq3)] [] σ := by
  have F := B.1
  unfold f_X8_append_L4
  refine k_iload_n (pc := 4) F 3 2 dX8_append_4 rfl rfl ?_
  refine k_if_lt (pc := 5) F 52 dX8_append_5 (by decide) (fun _ => ?_) (fun _ => ?_)
  · exact k_vret (pc := 52) B dX8_append_52
  · refine k_aload_n (pc := 8) F 0 0 dX8_append_8 rfl rfl ?_
    refine gf_4_1 (pc := 9) F w_1_59 dX8_append_9 ?_
    refine k_bipush (pc := 12) F (v := (120 : Int32)) dX8_append_12 cb_120 ?_
    refine k_icmp_ge (pc := 14) F 52 dX8_append_14 (by decide) (fun _ => ?_) (fun _ => ?_)
    · exact k_vret (pc := 52) B dX8_append_52
    · refine k_aload_n (pc := 17) F 0 0 dX8_append_17 rfl rfl ?_
      refine gf_4_0 (pc := 18) F w_1_57 dX8_append_18 ?_
      refine k_aload_n (pc := 21) F 0 0 dX8_append_21 rfl rfl ?_
      refine gf_4_1 (pc := 22) F w_1_59 dX8_append_22 ?_
      refine k_iload_n (pc := 25) F 1 1 dX8_append_25 rfl rfl ?_
      refine k_bipush (pc := 26) F (v := (8 : Int32)) dX8_append_26 cb_8 ?_
      refine k_iload_n (pc := 28) F 3 2 dX8_append_28 rfl rfl ?_
      refine k_imul (pc := 29) F dX8_append_29 ?_
      refine k_ishr (pc := 30) F dX8_append_30 ?_
      refine k_sipush (pc := 31) F (v := (255 : Int32)) dX8_append_31 cs_255 ?_
      refine k_iand (pc := 34) F dX8_append_34 ?_
      refine k_iast (pc := 35) F rfl dX8_append_35 (fun σ2 => ?_)
      refine k_aload_n (pc := 36) F 0 0 dX8_append_36 rfl rfl ?_
      refine k_dup (pc := 37) F dX8_append_37 rfl ?_
      refine gf_4_1 (pc := 38) F w_1_59 dX8_append_38 ?_
      refine k_iconst (pc := 41) F (v := (1 : Int32)) dX8_append_41 ci_1 ?_
      refine k_iadd (pc := 42) F dX8_append_42 ?_
      refine pf_4_1 (pc := 43) F w_1_59 dX8_append_43 (fun σ3 => ?_)
      refine k_iinc (pc := 46) F (c := (-1 : Int32)) (lw := fun wq => [(3, .int wq), (0, .ref (ad E 4)), (1, .int xq1)]) 3 2 dX8_append_46 rfl ci_m1 (by decide) (fun _ => rfl) (fun vq4 => ?_)
      refine k_goto (pc := 49) F 4 dX8_append_49 (by decide) ?_
      exact k_sub [1, 2, 0] rfl (hL4 vq4 σ3)
set_option maxHeartbeats 4000000 in
set_option maxRecDepth 100000 in
theorem t_X8_append_L4 {E : En} {G : Cx} (B : Bx E G cX8_append 4 RX8 H_X8_append none) (xq1 : Int32)   : ∀ (n : Nat) (xq3 : Int32)  (σ : Mm), KR E G 4 (ZV E G) (fx (fun _ _ => none) n (f_X8_append_L4 xq1) xq3 σ) 4 [(0, .ref (ad E 4)), (1, .int xq1), (3, .int xq3)] [] σ :=
  fun n => fx_ind (P := fun f => ∀ (xq3 : Int32)  (σ : Mm), KR E G 4 (ZV E G) (f xq3 σ) 4 [(0, .ref (ad E 4)), (1, .int xq1), (3, .int xq3)] [] σ) (fun _ _ => k_none) (fun L4 hL4 xq3 σ => t_X8_append_L4b B xq1   L4 hL4 xq3 σ) n
set_option maxHeartbeats 4000000 in
set_option maxRecDepth 100000 in
theorem t_X8_append {E : En} {G : Cx} (B : Bx E G cX8_append 4 RX8 H_X8_append none) (aq0 : Int32) (aq1 : Int32)  (σ : Mm) : KR E G 4 (ZV E G) (f_X8_append aq0 aq1 σ) 0 [(0, .ref (ad E 4)), (1, .int aq0), (2, .int aq1)] [] σ := by
  have F := B.1
  unfold f_X8_append
  refine k_iload_n (pc := 0) F 2 2 dX8_append_0 rfl rfl ?_
  refine k_iconst (pc := 1) F (v := (1 : Int32)) dX8_append_1 ci_1 ?_
  refine k_isub (pc := 2) F dX8_append_2 ?_
  refine k_nmI (fun vq1 => ?_)
  refine k_istore_n F (lv' := [(3, .int vq1), (0, .ref (ad E 4)), (1, .int aq0), (2, .int aq1)]) 3 dX8_append_3 rfl (by decide) rfl ?_
  exact k_sub [1, 2, 0] rfl (t_X8_append_L4 B aq0   FU vq1  σ)
set_option maxHeartbeats 4000000 in
set_option maxRecDepth 100000 in
theorem ct_X8_append (E : En) (aq0 : Int32) (aq1 : Int32)  (σ : Mm) : CtV E yX8_append cX8_append 4 none H_X8_append [.ref (ad E 4), .int aq0, .int aq1] σ (f_X8_append aq0 aq1 σ) := ct_V (by decide) (Nat.le_of_ble_eq_true rfl) rfl (fun G B => t_X8_append B aq0 aq1  σ)
abbrev H_X9_moveOnPath : Nat := 0
set_option maxHeartbeats 4000000 in
set_option maxRecDepth 100000 in
theorem t_X9_moveOnPath {E : En} {G : Cx} (B : Bx E G cX9_moveOnPath 2 RX9 H_X9_moveOnPath (some .int)) (aq0 : Int32)  (σ : Mm) : KR E G 2 (ZI E G) (f_X9_moveOnPath aq0 σ) 0 [(0, .ref (ad E 18)), (1, .int aq0)] [] σ := by
  have F := B.1
  unfold f_X9_moveOnPath
  refine k_aload_n (pc := 0) F 0 0 dX9_moveOnPath_0 rfl rfl ?_
  refine gf_18_6 (pc := 1) F w_1_185 dX9_moveOnPath_1 ?_
  refine k_iload_n (pc := 4) F 1 1 dX9_moveOnPath_4 rfl rfl ?_
  refine k_iald (pc := 5) F rfl dX9_moveOnPath_5 ?_
  refine k_iconst (pc := 6) F (v := (3 : Int32)) dX9_moveOnPath_6 ci_3 ?_
  refine k_icmp_ge (pc := 7) F 19 dX9_moveOnPath_7 (by decide) (fun _ => ?_) (fun _ => ?_)
  · refine k_aload_n (pc := 19) F 0 0 dX9_moveOnPath_19 rfl rfl ?_
    refine gf_18_6 (pc := 20) F w_1_185 dX9_moveOnPath_20 ?_
    refine k_iload_n (pc := 23) F 1 1 dX9_moveOnPath_23 rfl rfl ?_
    refine k_iald (pc := 24) F rfl dX9_moveOnPath_24 ?_
    refine k_iconst (pc := 25) F (v := (3 : Int32)) dX9_moveOnPath_25 ci_3 ?_
    refine k_isub (pc := 26) F dX9_moveOnPath_26 ?_
    refine k_bipush (pc := 27) F (v := (10 : Int32)) dX9_moveOnPath_27 cb_10 ?_
    refine k_iadd (pc := 29) F dX9_moveOnPath_29 ?_
    exact k_iret (pc := 30) B dX9_moveOnPath_30
  · refine k_aload_n (pc := 10) F 0 0 dX9_moveOnPath_10 rfl rfl ?_
    refine gf_18_6 (pc := 11) F w_1_185 dX9_moveOnPath_11 ?_
    refine k_iload_n (pc := 14) F 1 1 dX9_moveOnPath_14 rfl rfl ?_
    refine k_iald (pc := 15) F rfl dX9_moveOnPath_15 ?_
    refine k_goto (pc := 16) F 30 dX9_moveOnPath_16 (by decide) ?_
    exact k_iret (pc := 30) B dX9_moveOnPath_30
set_option maxHeartbeats 4000000 in
set_option maxRecDepth 100000 in
theorem ct_X9_moveOnPath (E : En) (aq0 : Int32)  (σ : Mm) : CtI E yX9_moveOnPath cX9_moveOnPath 2 (some .int) H_X9_moveOnPath [.ref (ad E 18), .int aq0] σ (f_X9_moveOnPath aq0 σ) := ct_I (by decide) (Nat.le_of_ble_eq_true rfl) rfl (fun G B => t_X9_moveOnPath B aq0  σ)
abbrev H_J7_rangeCheck_23922 : Nat := 0
set_option maxHeartbeats 4000000 in
set_option maxRecDepth 100000 in
theorem t_J7_rangeCheck_23922 {E : En} {G : Cx} (B : Bx E G cJ7_rangeCheck_23922 3 RJ7 H_J7_rangeCheck_23922 none) (aq0 : Int32) (aq1 : Int32) (aq2 : Int32)  (σ : Mm) : KR E G 3 (ZV E G) (f_J7_rangeCheck_23922 aq0 aq1 aq2 σ) 0 [(0, .int aq0), (1, .int aq1), (2, .int aq2)] [] σ := by
  have F := B.1
  unfold f_J7_rangeCheck_23922
  refine k_iload_n (pc := 0) F 1 1 dJ7_rangeCheck_23922_0 rfl rfl ?_
  refine k_iload_n (pc := 1) F 2 2 dJ7_rangeCheck_23922_1 rfl rfl ?_
  refine k_icmp_le (pc := 2) F 46 dJ7_rangeCheck_23922_2 (by decide) (fun _ => ?_) (fun _ => ?_)
  · refine k_iload_n (pc := 46) F 1 1 dJ7_rangeCheck_23922_46 rfl rfl ?_
    refine k_if_ge (pc := 47) F 59 dJ7_rangeCheck_23922_47 (by decide) (fun _ => ?_) (fun _ => ?_)
    · refine k_iload_n (pc := 59) F 2 2 dJ7_rangeCheck_23922_59 rfl rfl ?_
      refine k_iload_n (pc := 60) F 0 0 dJ7_rangeCheck_23922_60 rfl rfl ?_
      refine k_icmp_le (pc := 61) F 73 dJ7_rangeCheck_23922_61 (by decide) (fun _ => ?_) (fun _ => ?_)
      · exact k_vret (pc := 73) B dJ7_rangeCheck_23922_73
      · exact k_none
    · exact k_none
  · exact k_none
set_option maxHeartbeats 4000000 in
set_option maxRecDepth 100000 in
theorem ct_J7_rangeCheck_23922 (E : En) (aq0 : Int32) (aq1 : Int32) (aq2 : Int32)  (σ : Mm) : CtV E yJ7_rangeCheck_23922 cJ7_rangeCheck_23922 3 none H_J7_rangeCheck_23922 [.int aq0, .int aq1, .int aq2] σ (f_J7_rangeCheck_23922 aq0 aq1 aq2 σ) := ct_V (by decide +kernel) (Nat.le_of_ble_eq_true rfl) rfl (fun G B => t_J7_rangeCheck_23922 B aq0 aq1 aq2  σ)
abbrev H_J7_fill_fda19 : Nat := 1
theorem hR_J7_fill_fda19_J7_rangeCheck_23922 : H_J7_rangeCheck_23922 + 1 ≤ H_J7_fill_fda19 ∧ 8 + (3 + 11) + 40 * H_J7_rangeCheck_23922 ≤ 40 * H_J7_fill_fda19 := by decide
set_option maxHeartbeats 4000000 in
set_option maxRecDepth 100000 in
theorem t_J7_fill_fda19_L10b {E : En} {G : Cx} (B : Bx E G cJ7_fill_fda19 5 RJ7 H_J7_fill_fda19 none) (xq2 : Int32) (xq3 : Int32)   (L10 : Int32 → Mm → Option (Unit × Mm)) (hL10 : ∀ (xq4 : Int32)  (σ : Mm), KR E G 5 (ZV E G) (L10 xq4 σ) 10 [(0, .ref (ad E 24)), (2, .int xq2), (3, .int xq3), (4, .int xq4)] [] σ) (xq4 : Int32)  (σ : Mm) : KR E G 5 (ZV E G) (f_J7_fill_fda19_L10 xq2 xq3 L10 xq4 σ) 10 [(0, .ref (ad E 24)), (2, .int xq2), (3, .int xq3), (4, .int xq4)] [] σ := by
  have F := B.1
  unfold f_J7_fill_fda19_L10
  refine k_iload (pc := 10) F 4 3 dJ7_fill_fda19_10 rfl ?_
  refine k_iload_n (pc := 12) F 2 1 dJ7_fill_fda19_12 rfl rfl ?_
  refine k_icmp_ge (pc := 13) F 27 dJ7_fill_fda19_13 (by decide) (fun _ => ?_) (fun _ => ?_)
  · exact k_vret (pc := 27) B dJ7_fill_fda19_27
  · refine k_aload_n (pc := 16) F 0 0 dJ7_fill_fda19_16 rfl rfl ?_
    refine k_iload (pc := 17) F 4 3 dJ7_fill_fda19_17 rfl ?_
    refine k_iload_n (pc := 19) F 3 2 dJ7_fill_fda19_19 rfl rfl ?_
    refine k_iast (pc := 20) F rfl dJ7_fill_fda19_20 (fun σ3 => ?_)
    refine k_iinc (pc := 21) F (c := (1 : Int32)) (lw := fun wq => [(4, .int wq), (0, .ref (ad E 24)), (2, .int xq2), (3, .int xq3)]) 4 3 dJ7_fill_fda19_21 rfl ci_1 (by decide) (fun _ => rfl) (fun vq4 => ?_)
    refine k_goto (pc := 24) F 10 dJ7_fill_fda19_24 (by decide) ?_
    exact k_sub [1, 2, 3, 0] rfl (hL10 vq4 σ3)
set_option maxHeartbeats 4000000 in
set_option maxRecDepth 100000 in
theorem t_J7_fill_fda19_L10 {E : En} {G : Cx} (B : Bx E G cJ7_fill_fda19 5 RJ7 H_J7_fill_fda19 none) (xq2 : Int32) (xq3 : Int32)   : ∀ (n : Nat) (xq4 : Int32)  (σ : Mm), KR E G 5 (ZV E G) (fx (fun _ _ => none) n (f_J7_fill_fda19_L10 xq2 xq3) xq4 σ) 10 [(0, .ref (ad E 24)), (2, .int xq2), (3, .int xq3), (4, .int xq4)] [] σ :=
  fun n => fx_ind (P := fun f => ∀ (xq4 : Int32)  (σ : Mm), KR E G 5 (ZV E G) (f xq4 σ) 10 [(0, .ref (ad E 24)), (2, .int xq2), (3, .int xq3), (4, .int xq4)] [] σ) (fun _ _ => k_none) (fun L10 hL10 xq4 σ => t_J7_fill_fda19_L10b B xq2 xq3   L10 hL10 xq4 σ) n
set_option maxHeartbeats 4000000 in
set_option maxRecDepth 100000 in
theorem t_J7_fill_fda19 {E : En} {G : Cx} (B : Bx E G cJ7_fill_fda19 5 RJ7 H_J7_fill_fda19 none) (aq1 : Int32) (aq2 : Int32) (aq3 : Int32)  (σ : Mm) : KR E G 5 (ZV E G) (f_J7_fill_fda19 aq1 aq2 aq3 σ) 0 [(0, .ref (ad E 24)), (1, .int aq1), (2, .int aq2), (3, .int aq3)] [] σ := by
  have F := B.1
  unfold f_J7_fill_fda19
  refine k_aload_n (pc := 0) F 0 0 dJ7_fill_fda19_0 rfl rfl ?_
  refine k_alen0 (pc := 1) F (v := (6000 : Int32)) rfl cn_6000 dJ7_fill_fda19_1 ?_
  refine k_iload_n (pc := 2) F 1 1 dJ7_fill_fda19_2 rfl rfl ?_
  refine k_iload_n (pc := 3) F 2 2 dJ7_fill_fda19_3 rfl rfl ?_
  refine k_callSV (pc := 4) B (As := [.int (6000 : Int32), .int aq1, .int aq2]) (rest := []) (ct_J7_rangeCheck_23922 E (6000 : Int32) aq1 aq2  σ) ms_J7_rangeCheck_23922 w_3_222 rfl hR_J7_fill_fda19_J7_rangeCheck_23922 rfl (Nat.le_of_ble_eq_true rfl) dJ7_fill_fda19_4 (fun rq2 σ1 _ => ?_)
  refine k_iload_n (pc := 7) F 1 1 dJ7_fill_fda19_7 rfl rfl ?_
  refine k_istore F (lv' := [(4, .int aq1), (0, .ref (ad E 24)), (1, .int aq1), (2, .int aq2), (3, .int aq3)]) 4 dJ7_fill_fda19_8 (by decide) rfl ?_
  exact k_sub [1, 3, 4, 0] rfl (t_J7_fill_fda19_L10 B aq2 aq3   FU aq1  σ1)
set_option maxHeartbeats 4000000 in
set_option maxRecDepth 100000 in
theorem ct_J7_fill_fda19 (E : En) (aq1 : Int32) (aq2 : Int32) (aq3 : Int32)  (σ : Mm) : CtV E yJ7_fill_fda19 cJ7_fill_fda19 5 none H_J7_fill_fda19 [.ref (ad E 24), .int aq1, .int aq2, .int aq3] σ (f_J7_fill_fda19 aq1 aq2 aq3 σ) := ct_V (by decide +kernel) (Nat.le_of_ble_eq_true rfl) rfl (fun G B => t_J7_fill_fda19 B aq1 aq2 aq3  σ)
abbrev H_X9_leadsOut : Nat := 0
set_option maxHeartbeats 4000000 in
set_option maxRecDepth 100000 in
theorem t_X9_leadsOut_45 {E : En} {G : Cx} (B : Bx E G cX9_leadsOut 4 RX9 H_X9_leadsOut (some .boolean)) (xq1 : Int32) (xq2 : Int32) (xq3 : Int32)  (L7 : Int32 → Int32 → Mm → Option (Int32 × Mm)) (hL7 : ∀ (xq2 : Int32) (xq3 : Int32)  (σ : Mm), KR E G 4 (ZI E G) (L7 xq2 xq3 σ) 7 [(0, .ref (ad E 18)), (1, .int xq1), (2, .int xq2), (3, .int xq3)] [] σ)  (σ : Mm) : KR E G 4 (ZI E G) (f_X9_leadsOut_45 L7 xq1 xq2 xq3 σ) 45 [(0, .ref (ad E 18)), (1, .int xq1), (2, .int xq2), (3, .int xq3)] [] σ := by
  have F := B.1
  unfold f_X9_leadsOut_45
  refine k_iinc (pc := 45) F (c := (1 : Int32)) (lw := fun wq => [(3, .int wq), (0, .ref (ad E 18)), (1, .int xq1), (2, .int xq2)]) 3 3 dX9_leadsOut_45 rfl ci_1 (by decide) (fun _ => rfl) (fun vq2 => ?_)
  refine k_goto (pc := 48) F 7 dX9_leadsOut_48 (by decide) ?_
  exact k_sub [1, 2, 3, 0] rfl (hL7 xq2 vq2 σ)
set_option maxHeartbeats 4000000 in
set_option maxRecDepth 100000 in
theorem t_X9_leadsOut_L7b {E : En} {G : Cx} (B : Bx E G cX9_leadsOut 4 RX9 H_X9_leadsOut (some .boolean)) (xq1 : Int32)   (L7 : Int32 → Int32 → Mm → Option (Int32 × Mm)) (hL7 : ∀ (xq2 : Int32) (xq3 : Int32)  (σ : Mm), KR E G 4 (ZI E G) (L7 xq2 xq3 σ) 7 [(0, .ref (ad E 18)), (1, .int xq1), (2, .int xq2), (3, .int xq3)] [] σ) (xq2 : Int32) (xq3 : Int32)  (σ : Mm) : KR E G 4 (ZI E G) (f_X9_leadsOut_L7 xq1 L7 xq2 xq3 σ) 7 [(0, .ref (ad E 18)), (1, .int xq1), (2, .int xq2), (3, .int xq3)] [] σ := by
  have F := B.1
  unfold f_X9_leadsOut_L7
  refine k_iload_n (pc := 7) F 3 3 dX9_leadsOut_7 rfl rfl ?_
  refine k_iload_n (pc := 8) F 1 1 dX9_leadsOut_8 rfl rfl ?_
  refine k_iconst (pc := 9) F (v := (1 : Int32)) dX9_leadsOut_9 ci_1 ?_
  refine k_iadd (pc := 10) F dX9_leadsOut_10 ?_
  refine k_bipush (pc := 11) F (v := (6 : Int32)) dX9_leadsOut_11 cb_6 ?_
  refine k_imul (pc := 13) F dX9_leadsOut_13 ?_
  refine k_icmp_ge (pc := 14) F 51 dX9_leadsOut_14 (by decide) (fun _ => ?_) (fun _ => ?_)
  · refine k_iload_n (pc := 51) F 2 2 dX9_leadsOut_51 rfl rfl ?_
    exact k_zret (pc := 52) B dX9_leadsOut_52
  · refine k_aload_n (pc := 17) F 0 0 dX9_leadsOut_17 rfl rfl ?_
    refine gf_18_4 (pc := 18) F w_1_183 dX9_leadsOut_18 ?_
    refine k_iload_n (pc := 21) F 3 3 dX9_leadsOut_21 rfl rfl ?_
    refine k_iald (pc := 22) F rfl dX9_leadsOut_22 ?_
    refine k_if_lt (pc := 23) F 45 dX9_leadsOut_23 (by decide) (fun _ => ?_) (fun _ => ?_)
    · exact k_sub [0, 1, 2, 3] rfl (t_X9_leadsOut_45 B xq1 xq2 xq3  L7 hL7  σ)
    · refine k_iconst (pc := 26) F (v := (0 : Int32)) dX9_leadsOut_26 ci_0 ?_
      refine k_istore_n F (lv' := [(2, .int (0 : Int32)), (0, .ref (ad E 18)), (1, .int xq1), (3, .int xq3)]) 2 dX9_leadsOut_27 rfl (by decide) rfl ?_
      refine k_aload_n (pc := 28) F 0 1 dX9_leadsOut_28 rfl rfl ?_
      refine gf_18_5 (pc := 29) F w_1_184 dX9_leadsOut_29 ?_
      refine k_aload_n (pc := 32) F 0 1 dX9_leadsOut_32 rfl rfl ?_
      refine gf_18_4 (pc := 33) F w_1_183 dX9_leadsOut_33 ?_
      refine k_iload_n (pc := 36) F 3 3 dX9_leadsOut_36 rfl rfl ?_
      refine k_iald (pc := 37) F rfl dX9_leadsOut_37 ?_
      refine k_iald (pc := 38) F rfl dX9_leadsOut_38 ?_
      refine k_iconst (pc := 39) F (v := (1 : Int32)) dX9_leadsOut_39 ci_1 ?_
      refine k_icmp_ne (pc := 40) F 45 dX9_leadsOut_40 (by decide) (fun _ => ?_) (fun _ => ?_)
      · refine k_iconst (pc := 43) F (v := (1 : Int32)) dX9_leadsOut_43 ci_1 ?_
        exact k_zret (pc := 44) B dX9_leadsOut_44
      · exact k_sub [1, 2, 0, 3] rfl (t_X9_leadsOut_45 B xq1 (0 : Int32) xq3  L7 hL7  σ)
set_option maxHeartbeats 4000000 in
set_option maxRecDepth 100000 in
theorem t_X9_leadsOut_L7 {E : En} {G : Cx} (B : Bx E G cX9_leadsOut 4 RX9 H_X9_leadsOut (some .boolean)) (xq1 : Int32)   : ∀ (n : Nat) (xq2 : Int32) (xq3 : Int32)  (σ : Mm), KR E G 4 (ZI E G) (fx (fun _ _ _ => none) n (f_X9_leadsOut_L7 xq1) xq2 xq3 σ) 7 [(0, .ref (ad E 18)), (1, .int xq1), (2, .int xq2), (3, .int xq3)] [] σ :=
  fun n => fx_ind (P := fun f => ∀ (xq2 : Int32) (xq3 : Int32)  (σ : Mm), KR E G 4 (ZI E G) (f xq2 xq3 σ) 7 [(0, .ref (ad E 18)), (1, .int xq1), (2, .int xq2), (3, .int xq3)] [] σ) (fun _ _ _ => k_none) (fun L7 hL7 xq2 xq3 σ => t_X9_leadsOut_L7b B xq1   L7 hL7 xq2 xq3 σ) n
set_option maxHeartbeats 4000000 in
set_option maxRecDepth 100000 in
theorem t_X9_leadsOut {E : En} {G : Cx} (B : Bx E G cX9_leadsOut 4 RX9 H_X9_leadsOut (some .boolean)) (aq0 : Int32)  (σ : Mm) : KR E G 4 (ZI E G) (f_X9_leadsOut aq0 σ) 0 [(0, .ref (ad E 18)), (1, .int aq0)] [] σ := by
  have F := B.1
  unfold f_X9_leadsOut
  refine k_iconst (pc := 0) F (v := (1 : Int32)) dX9_leadsOut_0 ci_1 ?_
  refine k_istore_n F (lv' := [(2, .int (1 : Int32)), (0, .ref (ad E 18)), (1, .int aq0)]) 2 dX9_leadsOut_1 rfl (by decide) rfl ?_
  refine k_iload_n (pc := 2) F 1 2 dX9_leadsOut_2 rfl rfl ?_
  refine k_bipush (pc := 3) F (v := (6 : Int32)) dX9_leadsOut_3 cb_6 ?_
  refine k_imul (pc := 5) F dX9_leadsOut_5 ?_
  refine k_nmI (fun vq1 => ?_)
  refine k_istore_n F (lv' := [(3, .int vq1), (2, .int (1 : Int32)), (0, .ref (ad E 18)), (1, .int aq0)]) 3 dX9_leadsOut_6 rfl (by decide) rfl ?_
  exact k_sub [2, 3, 1, 0] rfl (t_X9_leadsOut_L7 B aq0   FU (1 : Int32) vq1  σ)
set_option maxHeartbeats 4000000 in
set_option maxRecDepth 100000 in
theorem ct_X9_leadsOut (E : En) (aq0 : Int32)  (σ : Mm) : CtI E yX9_leadsOut cX9_leadsOut 4 (some .boolean) H_X9_leadsOut [.ref (ad E 18), .int aq0] σ (f_X9_leadsOut aq0 σ) := ct_I (by decide) (Nat.le_of_ble_eq_true rfl) rfl (fun G B => t_X9_leadsOut B aq0  σ)
abbrev H_X9_countStuck : Nat := 2
theorem hR_X9_countStuck_X9_leadsOut : H_X9_leadsOut + 1 ≤ H_X9_countStuck ∧ 8 + (4 + 11) + 40 * H_X9_leadsOut ≤ 40 * H_X9_countStuck := by decide
theorem hR_X9_countStuck_J7_fill_fda19 : H_J7_fill_fda19 + 1 ≤ H_X9_countStuck ∧ 8 + (5 + 11) + 40 * H_J7_fill_fda19 ≤ 40 * H_X9_countStuck := by decide
set_option maxHeartbeats 4000000 in
set_option maxRecDepth 100000 in
theorem t_X9_countStuck_78 {E : En} {G : Cx} (B : Bx E G cX9_countStuck 5 RX9 H_X9_countStuck (some .int)) (xq1 : Int32) (xq2 : Int32) (xq3 : Int32) (xq4 : Int32)  (L41 : Int32 → Int32 → Int32 → Mm → Option (Int32 × Mm)) (hL41 : ∀ (xq1 : Int32) (xq2 : Int32) (xq4 : Int32)  (σ : Mm), KR E G 5 (ZI E G) (L41 xq1 xq2 xq4 σ) 41 [(0, .ref (ad E 18)), (1, .int xq1), (2, .int xq2), (3, .int xq3), (4, .int xq4)] [] σ)  (σ : Mm) : KR E G 5 (ZI E G) (f_X9_countStuck_78 L41 xq1 xq2 xq3 xq4 σ) 78 [(0, .ref (ad E 18)), (1, .int xq1), (2, .int xq2), (3, .int xq3), (4, .int xq4)] [] σ := by
  have F := B.1
  unfold f_X9_countStuck_78
  refine k_iinc (pc := 78) F (c := (-1 : Int32)) (lw := fun wq => [(4, .int wq), (0, .ref (ad E 18)), (1, .int xq1), (2, .int xq2), (3, .int xq3)]) 4 4 dX9_countStuck_78 rfl ci_m1 (by decide) (fun _ => rfl) (fun vq4 => ?_)
  refine k_goto (pc := 81) F 41 dX9_countStuck_81 (by decide) ?_
  exact k_sub [1, 2, 3, 4, 0] rfl (hL41 xq1 xq2 vq4 σ)
set_option maxHeartbeats 4000000 in
set_option maxRecDepth 100000 in
theorem t_X9_countStuck_L41b {E : En} {G : Cx} (B : Bx E G cX9_countStuck 5 RX9 H_X9_countStuck (some .int)) (xq3 : Int32)  (K84 : Int32 → Int32 → Mm → Option (Int32 × Mm)) (hK84 : ∀ (xq1 : Int32) (xq2 : Int32)  (σ : Mm), KR E G 5 (ZI E G) (K84 xq1 xq2 σ) 84 [(0, .ref (ad E 18)), (1, .int xq1), (2, .int xq2), (3, .int xq3)] [] σ)  (L41 : Int32 → Int32 → Int32 → Mm → Option (Int32 × Mm)) (hL41 : ∀ (xq1 : Int32) (xq2 : Int32) (xq4 : Int32)  (σ : Mm), KR E G 5 (ZI E G) (L41 xq1 xq2 xq4 σ) 41 [(0, .ref (ad E 18)), (1, .int xq1), (2, .int xq2), (3, .int xq3), (4, .int xq4)] [] σ) (xq1 : Int32) (xq2 : Int32) (xq4 : Int32)  (σ : Mm) : KR E G 5 (ZI E G) (f_X9_countStuck_L41 K84 xq3 L41 xq1 xq2 xq4 σ) 41 [(0, .ref (ad E 18)), (1, .int xq1), (2, .int xq2), (3, .int xq3), (4, .int xq4)] [] σ := by
  have F := B.1
  unfold f_X9_countStuck_L41
  refine k_iload (pc := 41) F 4 4 dX9_countStuck_41 rfl ?_
  refine k_if_lt (pc := 43) F 84 dX9_countStuck_43 (by decide) (fun _ => ?_) (fun _ => ?_)
  · exact k_sub [0, 1, 2, 3] rfl (hK84 xq1 xq2 σ)
  · refine k_aload_n (pc := 46) F 0 0 dX9_countStuck_46 rfl rfl ?_
    refine gf_18_5 (pc := 47) F w_1_184 dX9_countStuck_47 ?_
    refine k_iload (pc := 50) F 4 4 dX9_countStuck_50 rfl ?_
    refine k_iald (pc := 52) F rfl dX9_countStuck_52 ?_
    refine k_if_ne (pc := 53) F 78 dX9_countStuck_53 (by decide) (fun _ => ?_) (fun _ => ?_)
    · refine k_aload_n (pc := 56) F 0 0 dX9_countStuck_56 rfl rfl ?_
      refine k_iload (pc := 57) F 4 4 dX9_countStuck_57 rfl ?_
      refine k_callVI (pc := 59) B (k := 18) (As := [.int xq4]) (rest := []) (ct_X9_leadsOut E xq4  σ) rfl rfl mv_X9_leadsOut w_3_225 rfl hR_X9_countStuck_X9_leadsOut rfl (Nat.le_of_ble_eq_true rfl) dX9_countStuck_59 (fun rq6 σ5 _ => ?_)
      refine k_if_eq (pc := 62) F 78 dX9_countStuck_62 (by decide) (fun _ => ?_) (fun _ => ?_)
      · exact k_sub [0, 1, 2, 3, 4] rfl (t_X9_countStuck_78 B xq1 xq2 xq3 xq4  L41 hL41  σ5)
      · refine k_aload_n (pc := 65) F 0 0 dX9_countStuck_65 rfl rfl ?_
        refine gf_18_5 (pc := 66) F w_1_184 dX9_countStuck_66 ?_
        refine k_iload (pc := 69) F 4 4 dX9_countStuck_69 rfl ?_
        refine k_iconst (pc := 71) F (v := (1 : Int32)) dX9_countStuck_71 ci_1 ?_
        refine k_iast (pc := 72) F rfl dX9_countStuck_72 (fun σ7 => ?_)
        refine k_iinc (pc := 73) F (c := (1 : Int32)) (lw := fun wq => [(1, .int wq), (0, .ref (ad E 18)), (2, .int xq2), (3, .int xq3), (4, .int xq4)]) 1 1 dX9_countStuck_73 rfl ci_1 (by decide) (fun _ => rfl) (fun vq8 => ?_)
        refine k_iconst (pc := 76) F (v := (1 : Int32)) dX9_countStuck_76 ci_1 ?_
        refine k_istore_n F (lv' := [(2, .int (1 : Int32)), (1, .int vq8), (0, .ref (ad E 18)), (3, .int xq3), (4, .int xq4)]) 2 dX9_countStuck_77 rfl (by decide) rfl ?_
        exact k_sub [2, 1, 0, 3, 4] rfl (t_X9_countStuck_78 B vq8 (1 : Int32) xq3 xq4  L41 hL41  σ7)
    · exact k_sub [0, 1, 2, 3, 4] rfl (t_X9_countStuck_78 B xq1 xq2 xq3 xq4  L41 hL41  σ)
set_option maxHeartbeats 4000000 in
set_option maxRecDepth 100000 in
theorem t_X9_countStuck_L41 {E : En} {G : Cx} (B : Bx E G cX9_countStuck 5 RX9 H_X9_countStuck (some .int)) (xq3 : Int32)  (K84 : Int32 → Int32 → Mm → Option (Int32 × Mm)) (hK84 : ∀ (xq1 : Int32) (xq2 : Int32)  (σ : Mm), KR E G 5 (ZI E G) (K84 xq1 xq2 σ) 84 [(0, .ref (ad E 18)), (1, .int xq1), (2, .int xq2), (3, .int xq3)] [] σ)  : ∀ (n : Nat) (xq1 : Int32) (xq2 : Int32) (xq4 : Int32)  (σ : Mm), KR E G 5 (ZI E G) (fx (fun _ _ _ _ => none) n (f_X9_countStuck_L41 K84 xq3) xq1 xq2 xq4 σ) 41 [(0, .ref (ad E 18)), (1, .int xq1), (2, .int xq2), (3, .int xq3), (4, .int xq4)] [] σ :=
  fun n => fx_ind (P := fun f => ∀ (xq1 : Int32) (xq2 : Int32) (xq4 : Int32)  (σ : Mm), KR E G 5 (ZI E G) (f xq1 xq2 xq4 σ) 41 [(0, .ref (ad E 18)), (1, .int xq1), (2, .int xq2), (3, .int xq3), (4, .int xq4)] [] σ) (fun _ _ _ _ => k_none) (fun L41 hL41 xq1 xq2 xq4 σ => t_X9_countStuck_L41b B xq3  K84 hK84  L41 hL41 xq1 xq2 xq4 σ) n
set_option maxHeartbeats 4000000 in
set_option maxRecDepth 100000 in
theorem t_X9_countStuck_84 {E : En} {G : Cx} (B : Bx E G cX9_countStuck 5 RX9 H_X9_countStuck (some .int)) (xq1 : Int32) (xq2 : Int32) (xq3 : Int32)  (L19 : Int32 → Int32 → Int32 → Mm → Option (Int32 × Mm)) (hL19 : ∀ (xq1 : Int32) (xq2 : Int32) (xq3 : Int32)  (σ : Mm), KR E G 5 (ZI E G) (L19 xq1 xq2 xq3 σ) 19 [(0, .ref (ad E 18)), (1, .int xq1), (2, .int xq2), (3, .int xq3)] [] σ)  (σ : Mm) : KR E G 5 (ZI E G) (f_X9_countStuck_84 L19 xq1 xq2 xq3 σ) 84 [(0, .ref (ad E 18)), (1, .int xq1), (2, .int xq2), (3, .int xq3)] [] σ := by
  have F := B.1
  unfold f_X9_countStuck_84
  refine k_iinc (pc := 84) F (c := (1 : Int32)) (lw := fun wq => [(3, .int wq), (0, .ref (ad E 18)), (1, .int xq1), (2, .int xq2)]) 3 3 dX9_countStuck_84 rfl ci_1 (by decide) (fun _ => rfl) (fun vq9 => ?_)
  refine k_goto (pc := 87) F 19 dX9_countStuck_87 (by decide) ?_
  exact k_sub [1, 2, 3, 0] rfl (hL19 xq1 xq2 vq9 σ)
set_option maxHeartbeats 4000000 in
set_option maxRecDepth 100000 in
theorem t_X9_countStuck_L19b {E : En} {G : Cx} (B : Bx E G cX9_countStuck 5 RX9 H_X9_countStuck (some .int))    (L19 : Int32 → Int32 → Int32 → Mm → Option (Int32 × Mm)) (hL19 : ∀ (xq1 : Int32) (xq2 : Int32) (xq3 : Int32)  (σ : Mm), KR E G 5 (ZI E G) (L19 xq1 xq2 xq3 σ) 19 [(0, .ref (ad E 18)), (1, .int xq1), (2, .int xq2), (3, .int xq3)] [] σ) (xq1 : Int32) (xq2 : Int32) (xq3 : Int32)  (σ : Mm) : KR E G 5 (ZI E G) (f_X9_countStuck_L19  L19 xq1 xq2 xq3 σ) 19 [(0, .ref (ad E 18)), (1, .int xq1), (2, .int xq2), (3, .int xq3)] [] σ := by
  have F := B.1
  unfold f_X9_countStuck_L19
  refine k_iload_n (pc := 19) F 3 3 dX9_countStuck_19 rfl rfl ?_
  refine k_aload_n (pc := 20) F 0 0 dX9_countStuck_20 rfl rfl ?_
  refine gf_18_7 (pc := 21) F w_1_186 dX9_countStuck_21 ?_
  refine k_icmp_gt (pc := 24) F 90 dX9_countStuck_24 (by decide) (fun _ => ?_) (fun _ => ?_)
  · refine k_aload_n (pc := 90) F 0 0 dX9_countStuck_90 rfl rfl ?_
    refine gf_18_7 (pc := 91) F w_1_186 dX9_countStuck_91 ?_
    refine k_iload_n (pc := 94) F 1 1 dX9_countStuck_94 rfl rfl ?_
    refine k_isub (pc := 95) F dX9_countStuck_95 ?_
    exact k_iret (pc := 96) B dX9_countStuck_96
  · refine k_iload_n (pc := 27) F 2 2 dX9_countStuck_27 rfl rfl ?_
    refine k_if_eq (pc := 28) F 90 dX9_countStuck_28 (by decide) (fun _ => ?_) (fun _ => ?_)
    · refine k_aload_n (pc := 90) F 0 0 dX9_countStuck_90 rfl rfl ?_
      refine gf_18_7 (pc := 91) F w_1_186 dX9_countStuck_91 ?_
      refine k_iload_n (pc := 94) F 1 1 dX9_countStuck_94 rfl rfl ?_
      refine k_isub (pc := 95) F dX9_countStuck_95 ?_
      exact k_iret (pc := 96) B dX9_countStuck_96
    · refine k_iconst (pc := 31) F (v := (0 : Int32)) dX9_countStuck_31 ci_0 ?_
      refine k_istore_n F (lv' := [(2, .int (0 : Int32)), (0, .ref (ad E 18)), (1, .int xq1), (3, .int xq3)]) 2 dX9_countStuck_32 rfl (by decide) rfl ?_
      refine k_aload_n (pc := 33) F 0 1 dX9_countStuck_33 rfl rfl ?_
      refine gf_18_7 (pc := 34) F w_1_186 dX9_countStuck_34 ?_
      refine k_iconst (pc := 37) F (v := (1 : Int32)) dX9_countStuck_37 ci_1 ?_
      refine k_isub (pc := 38) F dX9_countStuck_38 ?_
      refine k_nmI (fun vq3 => ?_)
      refine k_istore F (lv' := [(4, .int vq3), (2, .int (0 : Int32)), (0, .ref (ad E 18)), (1, .int xq1), (3, .int xq3)]) 4 dX9_countStuck_39 (by decide) rfl ?_
      exact k_sub [2, 3, 1, 4, 0] rfl (t_X9_countStuck_L41 B xq3  _ (fun xq1 xq2  σ => by
            exact k_sub [0, 1, 2, 3] rfl (t_X9_countStuck_84 B xq1 xq2 xq3  L19 hL19  σ)) FU xq1 (0 : Int32) vq3  σ)
set_option maxHeartbeats 4000000 in
set_option maxRecDepth 100000 in
theorem t_X9_countStuck_L19 {E : En} {G : Cx} (B : Bx E G cX9_countStuck 5 RX9 H_X9_countStuck (some .int))    : ∀ (n : Nat) (xq1 : Int32) (xq2 : Int32) (xq3 : Int32)  (σ : Mm), KR E G 5 (ZI E G) (fx (fun _ _ _ _ => none) n (f_X9_countStuck_L19 ) xq1 xq2 xq3 σ) 19 [(0, .ref (ad E 18)), (1, .int xq1), (2, .int xq2), (3, .int xq3)] [] σ :=
  fun n => fx_ind (P := fun f => ∀ (xq1 : Int32) (xq2 : Int32) (xq3 : Int32)  (σ : Mm), KR E G 5 (ZI E G) (f xq1 xq2 xq3 σ) 19 [(0, .ref (ad E 18)), (1, .int xq1), (2, .int xq2), (3, .int xq3)] [] σ) (fun _ _ _ _ => k_none) (fun L19 hL19 xq1 xq2 xq3 σ => t_X9_countStuck_L19b B    L19 hL19 xq1 xq2 xq3 σ) n
set_option maxHeartbeats 4000000 in
set_option maxRecDepth 100000 in
theorem t_X9_countStuck {E : En} {G : Cx} (B : Bx E G cX9_countStuck 5 RX9 H_X9_countStuck (some .int))   (σ : Mm) : KR E G 5 (ZI E G) (f_X9_countStuck  σ) 0 [(0, .ref (ad E 18))] [] σ := by
  have F := B.1
  unfold f_X9_countStuck
  refine k_aload_n (pc := 0) F 0 0 dX9_countStuck_0 rfl rfl ?_
  refine gf_18_5 (pc := 1) F w_1_184 dX9_countStuck_1 ?_
  refine k_iconst (pc := 4) F (v := (0 : Int32)) dX9_countStuck_4 ci_0 ?_
  refine k_aload_n (pc := 5) F 0 0 dX9_countStuck_5 rfl rfl ?_
  refine gf_18_7 (pc := 6) F w_1_186 dX9_countStuck_6 ?_
  refine k_iconst (pc := 9) F (v := (0 : Int32)) dX9_countStuck_9 ci_0 ?_
  refine k_callSV (pc := 10) B (As := [.ref (ad E 24), .int (0 : Int32), .int (σ.1 18 7), .int (0 : Int32)]) (rest := []) (ct_J7_fill_fda19 E (0 : Int32) (σ.1 18 7) (0 : Int32)  σ) ms_J7_fill_fda19 w_3_219 rfl hR_X9_countStuck_J7_fill_fda19 rfl (Nat.le_of_ble_eq_true rfl) dX9_countStuck_10 (fun rq2 σ1 _ => ?_)
  refine k_iconst (pc := 13) F (v := (0 : Int32)) dX9_countStuck_13 ci_0 ?_
  refine k_istore_n F (lv' := [(1, .int (0 : Int32)), (0, .ref (ad E 18))]) 1 dX9_countStuck_14 rfl (by decide) rfl ?_
  refine k_iconst (pc := 15) F (v := (1 : Int32)) dX9_countStuck_15 ci_1 ?_
  refine k_istore_n F (lv' := [(2, .int (1 : Int32)), (1, .int (0 : Int32)), (0, .ref (ad E 18))]) 2 dX9_countStuck_16 rfl (by decide) rfl ?_
  refine k_iconst (pc := 17) F (v := (0 : Int32)) dX9_countStuck_17 ci_0 ?_
  refine k_istore_n F (lv' := [(3, .int (0 : Int32)), (2, .int (1 : Int32)), (1, .int (0 : Int32)), (0, .ref (ad E 18))]) 3 dX9_countStuck_18 rfl (by decide) rfl ?_
  exact k_sub [3, 2, 1, 0] rfl (t_X9_countStuck_L19 B    FU (0 : Int32) (1 : Int32) (0 : Int32)  σ1)
set_option maxHeartbeats 4000000 in
set_option maxRecDepth 100000 in
theorem ct_X9_countStuck (E : En)   (σ : Mm) : CtI E yX9_countStuck cX9_countStuck 5 (some .int) H_X9_countStuck [.ref (ad E 18)] σ (f_X9_countStuck  σ) := ct_I (by decide) (Nat.le_of_ble_eq_true rfl) rfl (fun G B => t_X9_countStuck B   σ)
