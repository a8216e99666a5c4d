abbrev H_X11_badWith : Nat := 13
theorem hR_X11_badWith_X11_badMany : H_X11_badMany + 1 ≤ H_X11_badWith ∧ 8 + (3 + 11) + 40 * H_X11_badMany ≤ 40 * H_X11_badWith := by decide
theorem hR_X11_badWith_X11_findResults : H_X11_findResults + 1 ≤ H_X11_badWith ∧ 8 + (2 + 11) + 40 * H_X11_findResults ≤ 40 * H_X11_badWith := by decide
theorem hR_X11_badWith_X11_findGoods : H_X11_findGoods + 1 ≤ H_X11_badWith ∧ 8 + (1 + 11) + 40 * H_X11_findGoods ≤ 40 * H_X11_badWith := by decide
theorem hR_X11_badWith_X11_goesThrough : H_X11_goesThrough + 1 ≤ H_X11_badWith ∧ 8 + (5 + 11) + 40 * H_X11_goesThrough ≤ 40 * H_X11_badWith := by decide
set_option maxHeartbeats 4000000 in
set_option maxRecDepth 100000 in
theorem t_X11_badWith {E : En} {G : Cx} (B : Bx E G cX11_badWith 2 RX11 H_X11_badWith (some .int)) (aq0 : Int32)  (σ : Mm) : KR E G 2 (ZI E G) (f_X11_badWith aq0 σ) 0 [(0, .ref (ad E 48)), (1, .int aq0)] [] σ := by
  have F := B.1
  unfold f_X11_badWith
  refine k_aload_n (pc := 0) F 0 0 dX11_badWith_0 rfl rfl ?_
  refine k_iload_n (pc := 1) F 1 1 dX11_badWith_1 rfl rfl ?_
  refine k_callVI (pc := 2) B (k := 48) (As := [.int aq0]) (rest := []) (ct_X11_goesThrough E aq0  σ) rfl rfl mv_X11_goesThrough w_6_2 rfl hR_X11_badWith_X11_goesThrough rfl (Nat.le_of_ble_eq_true rfl) dX11_badWith_2 (fun rq2 σ1 hoq => ?_)
  refine k_if_ne (pc := 5) F 12 dX11_badWith_5 (by decide) (fun _ => ?_) (fun _ => ?_)
  · refine k_ldcw (pc := 8) F (v := (-1000000007 : Int32)) w_6_101 dX11_badWith_8 ?_
    exact k_iret (pc := 11) B dX11_badWith_11
  · refine k_aload_n (pc := 12) F 0 0 dX11_badWith_12 rfl rfl ?_
    refine k_callVV (pc := 13) B (k := 48) (As := []) (rest := []) (ct_X11_findResults E   σ1) rfl rfl mv_X11_findResults w_6_82 rfl hR_X11_badWith_X11_findResults rfl (Nat.le_of_ble_eq_true rfl) dX11_badWith_13 (fun rq4 σ3 hoq => ?_)
    refine k_aload_n (pc := 16) F 0 0 dX11_badWith_16 rfl rfl ?_
    refine k_callVV (pc := 17) B (k := 48) (As := []) (rest := []) (ct_X11_findGoods E   σ3) rfl rfl mv_X11_findGoods w_6_89 rfl hR_X11_badWith_X11_findGoods rfl (Nat.le_of_ble_eq_true rfl) dX11_badWith_17 (fun rq6 σ5 hoq => ?_)
    refine k_aload_n (pc := 20) F 0 0 dX11_badWith_20 rfl rfl ?_
    refine k_callVI (pc := 21) B (k := 48) (As := []) (rest := []) (ct_X11_badMany E   σ5) rfl rfl mv_X11_badMany w_6_123 rfl hR_X11_badWith_X11_badMany rfl (Nat.le_of_ble_eq_true rfl) dX11_badWith_21 (fun rq8 σ7 hoq => ?_)
    refine k_if_ne (pc := 24) F 31 dX11_badWith_24 (by decide) (fun _ => ?_) (fun _ => ?_)
    · refine k_iconst (pc := 27) F (v := (0 : Int32)) dX11_badWith_27 ci_0 ?_
      refine k_goto (pc := 28) F 32 dX11_badWith_28 (by decide) ?_
      exact k_iret (pc := 32) B dX11_badWith_32
    · refine k_iconst (pc := 31) F (v := (1 : Int32)) dX11_badWith_31 ci_1 ?_
      exact k_iret (pc := 32) B dX11_badWith_32
set_option maxHeartbeats 4000000 in
set_option maxRecDepth 100000 in
theorem ct_X11_badWith (E : En) (aq0 : Int32)  (σ : Mm) : CtI E yX11_badWith cX11_badWith 2 (some .int) H_X11_badWith [.ref (ad E 48), .int aq0] σ (f_X11_badWith aq0 σ) := ct_I (by decide) (Nat.le_of_ble_eq_true rfl) rfl (fun G B => t_X11_badWith B aq0  σ)
abbrev H_X11_heal : Nat := 14
theorem hR_X11_heal_X11_finds : H_X11_finds + 1 ≤ H_X11_heal ∧ 8 + (2 + 11) + 40 * H_X11_finds ≤ 40 * H_X11_heal := by decide
theorem hR_X11_heal_X11_badWith : H_X11_badWith + 1 ≤ H_X11_heal ∧ 8 + (2 + 11) + 40 * H_X11_badWith ≤ 40 * H_X11_heal := by decide
theorem hR_X11_heal_X11_hasValue : H_X11_hasValue + 1 ≤ H_X11_heal ∧ 8 + (2 + 11) + 40 * H_X11_hasValue ≤ 40 * H_X11_heal := by decide
theorem hR_X11_heal_X11_isStep : H_X11_isStep + 1 ≤ H_X11_heal ∧ 8 + (3 + 11) + 40 * H_X11_isStep ≤ 40 * H_X11_heal := by decide
theorem hR_X11_heal_X11_put : H_X11_put + 1 ≤ H_X11_heal ∧ 8 + (4 + 11) + 40 * H_X11_put ≤ 40 * H_X11_heal := by decide
set_option maxHeartbeats 4000000 in
set_option maxRecDepth 100000 in
theorem t_X11_heal_112 {E : En} {G : Cx} (B : Bx E G cX11_heal 10 RX11 H_X11_heal (some .int)) (xq3 : Int32) (xq4 : Int32) (xq6 : Int32) (xq7 : Int32) (xqs0 : Int32) (xqs1 : Int32)  (L55 : Int32 → Int32 → Int32 → Mm → Option (Int32 × Mm)) (hL55 : ∀ (xq5 : Int32) (xq6 : Int32) (xq7 : Int32)  (σ : Mm), KR E G 10 (ZI E G) (L55 xq5 xq6 xq7 σ) 55 [(0, .ref (ad E 48)), (3, .int xq3), (4, .int xq4), (5, .int xq5), (6, .int xq6), (7, .int xq7)] [] σ)  (σ : Mm) : KR E G 10 (ZI E G) (f_X11_heal_112 L55 xq3 xq4 xq6 xq7 xqs0 xqs1 σ) 112 [(0, .ref (ad E 48)), (3, .int xq3), (4, .int xq4), (6, .int xq6), (7, .int xq7)] [.int xqs1, .int xqs0] σ := by
  have F := B.1
  unfold f_X11_heal_112
  refine k_ior (pc := 112) F dX11_heal_112 ?_
  refine k_nmI (fun vq12 => ?_)
  refine k_istore F (lv' := [(5, .int vq12), (0, .ref (ad E 48)), (3, .int xq3), (4, .int xq4), (6, .int xq6), (7, .int xq7)]) 5 dX11_heal_113 (by decide) rfl ?_
  refine k_iinc (pc := 115) F (c := (1 : Int32)) (lw := fun wq => [(7, .int wq), (5, .int vq12), (0, .ref (ad E 48)), (3, .int xq3), (4, .int xq4), (6, .int xq6)]) 7 5 dX11_heal_115 rfl ci_1 (by decide) (fun _ => rfl) (fun vq13 => ?_)
  refine k_goto (pc := 118) F 55 dX11_heal_118 (by decide) ?_
  exact k_sub [2, 3, 4, 1, 5, 0] rfl (hL55 vq12 xq6 vq13 σ)
set_option maxHeartbeats 4000000 in
set_option maxRecDepth 100000 in
theorem t_X11_heal_95 {E : En} {G : Cx} (B : Bx E G cX11_heal 10 RX11 H_X11_heal (some .int)) (xq3 : Int32) (xq4 : Int32) (xq5 : Int32) (xq7 : Int32) (xq9 : Int32) (xqs0 : Int32)  (L55 : Int32 → Int32 → Int32 → Mm → Option (Int32 × Mm)) (hL55 : ∀ (xq5 : Int32) (xq6 : Int32) (xq7 : Int32)  (σ : Mm), KR E G 10 (ZI E G) (L55 xq5 xq6 xq7 σ) 55 [(0, .ref (ad E 48)), (3, .int xq3), (4, .int xq4), (5, .int xq5), (6, .int xq6), (7, .int xq7)] [] σ)  (σ : Mm) : KR E G 10 (ZI E G) (f_X11_heal_95 L55 xq3 xq4 xq5 xq7 xq9 xqs0 σ) 95 [(0, .ref (ad E 48)), (3, .int xq3), (4, .int xq4), (5, .int xq5), (7, .int xq7), (9, .int xq9)] [.int xqs0] σ := by
  have F := B.1
  unfold f_X11_heal_95
  refine k_istore F (lv' := [(6, .int xqs0), (0, .ref (ad E 48)), (3, .int xq3), (4, .int xq4), (5, .int xq5), (7, .int xq7), (9, .int xq9)]) 6 dX11_heal_95 (by decide) rfl ?_
  refine k_iload (pc := 97) F 5 4 dX11_heal_97 rfl ?_
  refine k_iload (pc := 99) F 9 6 dX11_heal_99 rfl ?_
  refine k_if_ne (pc := 101) F 111 dX11_heal_101 (by decide) (fun _ => ?_) (fun _ => ?_)
  · refine k_iconst (pc := 104) F (v := (1 : Int32)) dX11_heal_104 ci_1 ?_
    refine k_iload (pc := 105) F 7 5 dX11_heal_105 rfl ?_
    refine k_ishl (pc := 107) F dX11_heal_107 ?_
    refine k_goto (pc := 108) F 112 dX11_heal_108 (by decide) ?_
    exact k_sub [1, 2, 3, 0, 5] rfl (t_X11_heal_112 B xq3 xq4 xqs0 xq7 xq5 ((1 : Int32) <<< (xq7 &&& 31))  L55 hL55  σ)
  · refine k_iconst (pc := 111) F (v := (0 : Int32)) dX11_heal_111 ci_0 ?_
    exact k_sub [1, 2, 3, 0, 5] rfl (t_X11_heal_112 B xq3 xq4 xqs0 xq7 xq5 (0 : Int32)  L55 hL55  σ)
set_option maxHeartbeats 4000000 in
set_option maxRecDepth 100000 in
theorem t_X11_heal_L55b {E : En} {G : Cx} (B : Bx E G cX11_heal 10 RX11 H_X11_heal (some .int)) (xq3 : Int32) (xq4 : Int32)  (K121 : Int32 → Int32 → Mm → Option (Int32 × Mm)) (hK121 : ∀ (xq5 : Int32) (xq6 : Int32)  (σ : Mm), KR E G 10 (ZI E G) (K121 xq5 xq6 σ) 121 [(0, .ref (ad E 48)), (3, .int xq3), (4, .int xq4), (5, .int xq5), (6, .int xq6)] [] σ)  (L55 : Int32 → Int32 → Int32 → Mm → Option (Int32 × Mm)) (hL55 : ∀ (xq5 : Int32) (xq6 : Int32) (xq7 : Int32)  (σ : Mm), KR E G 10 (ZI E G) (L55 xq5 xq6 xq7 σ) 55 [(0, .ref (ad E 48)), (3, .int xq3), (4, .int xq4), (5, .int xq5), (6, .int xq6), (7, .int xq7)] [] σ) (xq5 : Int32) (xq6 : Int32) (xq7 : Int32)  (σ : Mm) : KR E G 10 (ZI E G) (f_X11_heal_L55 K121 xq3 xq4 L55 xq5 xq6 xq7 σ) 55 [(0, .ref (ad E 48)), (3, .int xq3), (4, .int xq4), (5, .int xq5), (6, .int xq6), (7, .int xq7)] [] σ := by
  have F := B.1
  unfold f_X11_heal_L55
  refine k_iload (pc := 55) F 7 5 dX11_heal_55 rfl ?_
  refine k_iconst (pc := 57) F (v := (4 : Int32)) dX11_heal_57 ci_4 ?_
  refine k_icmp_ge (pc := 58) F 121 dX11_heal_58 (by decide) (fun _ => ?_) (fun _ => ?_)
  · exact k_sub [0, 1, 2, 3, 4] rfl (hK121 xq5 xq6 σ)
  · refine k_iload (pc := 61) F 6 4 dX11_heal_61 rfl ?_
    refine k_if_ne (pc := 63) F 121 dX11_heal_63 (by decide) (fun _ => ?_) (fun _ => ?_)
    · refine k_aload_n (pc := 66) F 0 0 dX11_heal_66 rfl rfl ?_
      refine k_iload_n (pc := 67) F 3 1 dX11_heal_67 rfl rfl ?_
      refine k_iload (pc := 68) F 7 5 dX11_heal_68 rfl ?_
      refine k_callVI (pc := 70) B (k := 48) (As := [.int xq3, .int xq7]) (rest := []) (ct_X11_put E xq3 xq7  σ) rfl rfl mv_X11_put w_5_214 rfl hR_X11_heal_X11_put rfl (Nat.le_of_ble_eq_true rfl) dX11_heal_70 (fun rq9 σ8 hoq => ?_)
      refine k_istore F (lv' := [(8, .int rq9), (0, .ref (ad E 48)), (3, .int xq3), (4, .int xq4), (5, .int xq5), (6, .int xq6), (7, .int xq7)]) 8 dX11_heal_73 (by decide) rfl ?_
      refine k_aload_n (pc := 75) F 0 1 dX11_heal_75 rfl rfl ?_
      refine k_iconst (pc := 76) F (v := (0 : Int32)) dX11_heal_76 ci_0 ?_
      refine k_callVI (pc := 77) B (k := 48) (As := [.int (0 : Int32)]) (rest := []) (ct_X11_badWith E (0 : Int32)  σ8) rfl rfl mv_X11_badWith w_6_163 rfl hR_X11_heal_X11_badWith rfl (Nat.le_of_ble_eq_true rfl) dX11_heal_77 (fun rq11 σ10 hoq => ?_)
      refine k_istore F (lv' := [(9, .int rq11), (8, .int rq9), (0, .ref (ad E 48)), (3, .int xq3), (4, .int xq4), (5, .int xq5), (6, .int xq6), (7, .int xq7)]) 9 dX11_heal_80 (by decide) rfl ?_
      refine k_iload (pc := 82) F 9 0 dX11_heal_82 rfl ?_
      refine k_ldcw (pc := 84) F (v := (-1000000007 : Int32)) w_6_101 dX11_heal_84 ?_
      refine k_icmp_ne (pc := 87) F 94 dX11_heal_87 (by decide) (fun _ => ?_) (fun _ => ?_)
      · refine k_iconst (pc := 90) F (v := (1 : Int32)) dX11_heal_90 ci_1 ?_
        refine k_goto (pc := 91) F 95 dX11_heal_91 (by decide) ?_
        exact k_sub [2, 3, 4, 5, 7, 0] rfl (t_X11_heal_95 B xq3 xq4 xq5 xq7 rq11 (1 : Int32)  L55 hL55  σ10)
      · refine k_iconst (pc := 94) F (v := (0 : Int32)) dX11_heal_94 ci_0 ?_
        exact k_sub [2, 3, 4, 5, 7, 0] rfl (t_X11_heal_95 B xq3 xq4 xq5 xq7 rq11 (0 : Int32)  L55 hL55  σ10)
    · exact k_sub [0, 1, 2, 3, 4] rfl (hK121 xq5 xq6 σ)
set_option maxHeartbeats 4000000 in
set_option maxRecDepth 100000 in
theorem t_X11_heal_L55 {E : En} {G : Cx} (B : Bx E G cX11_heal 10 RX11 H_X11_heal (some .int)) (xq3 : Int32) (xq4 : Int32)  (K121 : Int32 → Int32 → Mm → Option (Int32 × Mm)) (hK121 : ∀ (xq5 : Int32) (xq6 : Int32)  (σ : Mm), KR E G 10 (ZI E G) (K121 xq5 xq6 σ) 121 [(0, .ref (ad E 48)), (3, .int xq3), (4, .int xq4), (5, .int xq5), (6, .int xq6)] [] σ)  : ∀ (n : Nat) (xq5 : Int32) (xq6 : Int32) (xq7 : Int32)  (σ : Mm), KR E G 10 (ZI E G) (fx (fun _ _ _ _ => none) n (f_X11_heal_L55 K121 xq3 xq4) xq5 xq6 xq7 σ) 55 [(0, .ref (ad E 48)), (3, .int xq3), (4, .int xq4), (5, .int xq5), (6, .int xq6), (7, .int xq7)] [] σ :=
  fun n => fx_ind (P := fun f => ∀ (xq5 : Int32) (xq6 : Int32) (xq7 : Int32)  (σ : Mm), KR E G 10 (ZI E G) (f xq5 xq6 xq7 σ) 55 [(0, .ref (ad E 48)), (3, .int xq3), (4, .int xq4), (5, .int xq5), (6, .int xq6), (7, .int xq7)] [] σ) (fun _ _ _ _ => k_none) (fun L55 hL55 xq5 xq6 xq7 σ => t_X11_heal_L55b B xq3 xq4  K121 hK121  L55 hL55 xq5 xq6 xq7 σ) n
set_option maxHeartbeats 4000000 in
set_option maxRecDepth 100000 in
theorem t_X11_heal_121 {E : En} {G : Cx} (B : Bx E G cX11_heal 10 RX11 H_X11_heal (some .int)) (xq3 : Int32) (xq4 : Int32) (xq5 : Int32) (xq6 : Int32)   (σ : Mm) : KR E G 10 (ZI E G) (f_X11_heal_121 xq3 xq4 xq5 xq6 σ) 121 [(0, .ref (ad E 48)), (3, .int xq3), (4, .int xq4), (5, .int xq5), (6, .int xq6)] [] σ := by
  have F := B.1
  unfold f_X11_heal_121
  refine k_aload_n (pc := 121) F 0 0 dX11_heal_121 rfl rfl ?_
  refine k_iload_n (pc := 122) F 3 1 dX11_heal_122 rfl rfl ?_
  refine k_iload (pc := 123) F 4 2 dX11_heal_123 rfl ?_
  refine k_callVI (pc := 125) B (k := 48) (As := [.int xq3, .int xq4]) (rest := []) (ct_X11_put E xq3 xq4  σ) rfl rfl mv_X11_put w_5_214 rfl hR_X11_heal_X11_put rfl (Nat.le_of_ble_eq_true rfl) dX11_heal_125 (fun rq15 σ14 hoq => ?_)
  refine k_istore F (lv' := [(7, .int rq15), (0, .ref (ad E 48)), (3, .int xq3), (4, .int xq4), (5, .int xq5), (6, .int xq6)]) 7 dX11_heal_128 (by decide) rfl ?_
  refine k_iload (pc := 130) F 6 5 dX11_heal_130 rfl ?_
  refine k_if_eq (pc := 132) F 145 dX11_heal_132 (by decide) (fun _ => ?_) (fun _ => ?_)
  · refine k_iload (pc := 145) F 5 4 dX11_heal_145 rfl ?_
    exact k_iret (pc := 147) B dX11_heal_147
  · refine k_aload_n (pc := 135) F 0 1 dX11_heal_135 rfl rfl ?_
    refine k_ldcw (pc := 136) F (v := (-1000000007 : Int32)) w_6_101 dX11_heal_136 ?_
    refine k_callVI (pc := 139) B (k := 48) (As := [.int (-1000000007 : Int32)]) (rest := []) (ct_X11_finds E (-1000000007 : Int32)  σ14) rfl rfl mv_X11_finds w_5_144 rfl hR_X11_heal_X11_finds rfl (Nat.le_of_ble_eq_true rfl) dX11_heal_139 (fun rq17 σ16 hoq => ?_)
    refine k_goto (pc := 142) F 147 dX11_heal_142 (by decide) ?_
    exact k_iret (pc := 147) B dX11_heal_147
set_option maxHeartbeats 4000000 in
set_option maxRecDepth 100000 in
theorem t_X11_heal {E : En} {G : Cx} (B : Bx E G cX11_heal 10 RX11 H_X11_heal (some .int)) (aq0 : Int32) (aq1 : Int32)  (σ : Mm) : KR E G 10 (ZI E G) (f_X11_heal aq0 aq1 σ) 0 [(0, .ref (ad E 48)), (1, .int aq0), (2, .int aq1)] [] σ := by
  have F := B.1
  unfold f_X11_heal
  refine k_aload_n (pc := 0) F 0 0 dX11_heal_0 rfl rfl ?_
  refine k_iload_n (pc := 1) F 1 1 dX11_heal_1 rfl rfl ?_
  refine k_iload_n (pc := 2) F 2 2 dX11_heal_2 rfl rfl ?_
  refine k_callVI (pc := 3) B (k := 48) (As := [.int aq0, .int aq1]) (rest := []) (ct_X11_isStep E aq0 aq1  σ) rfl rfl mv_X11_isStep w_5_197 rfl hR_X11_heal_X11_isStep rfl (Nat.le_of_ble_eq_true rfl) dX11_heal_3 (fun rq2 σ1 hoq => ?_)
  refine k_if_ne (pc := 6) F 16 dX11_heal_6 (by decide) (fun _ => ?_) (fun _ => ?_)
  · refine k_aload_n (pc := 9) F 0 0 dX11_heal_9 rfl rfl ?_
    refine k_ldc (pc := 10) F (v := (-1000000001 : Int32)) w_5_143 dX11_heal_10 ?_
    refine k_callVI (pc := 12) B (k := 48) (As := [.int (-1000000001 : Int32)]) (rest := []) (ct_X11_finds E (-1000000001 : Int32)  σ1) rfl rfl mv_X11_finds w_5_144 rfl hR_X11_heal_X11_finds rfl (Nat.le_of_ble_eq_true rfl) dX11_heal_12 (fun rq21 σ20 hoq => ?_)
    exact k_iret (pc := 15) B dX11_heal_15
  · refine k_bipush (pc := 16) F (v := (7 : Int32)) dX11_heal_16 cb_7 ?_
    refine k_iload_n (pc := 18) F 1 1 dX11_heal_18 rfl rfl ?_
    refine k_imul (pc := 19) F dX11_heal_19 ?_
    refine k_iload_n (pc := 20) F 2 2 dX11_heal_20 rfl rfl ?_
    refine k_iadd (pc := 21) F dX11_heal_21 ?_
    refine k_nmI (fun vq3 => ?_)
    refine k_istore_n F (lv' := [(3, .int vq3), (0, .ref (ad E 48)), (1, .int aq0), (2, .int aq1)]) 3 dX11_heal_22 rfl (by decide) rfl ?_
    refine k_aload_n (pc := 23) F 0 1 dX11_heal_23 rfl rfl ?_
    refine k_iload_n (pc := 24) F 3 0 dX11_heal_24 rfl rfl ?_
    refine k_callVI (pc := 25) B (k := 48) (As := [.int vq3]) (rest := []) (ct_X11_hasValue E vq3  σ1) rfl rfl mv_X11_hasValue w_5_210 rfl hR_X11_heal_X11_hasValue rfl (Nat.le_of_ble_eq_true rfl) dX11_heal_25 (fun rq5 σ4 hoq => ?_)
    refine k_if_ne (pc := 28) F 38 dX11_heal_28 (by decide) (fun _ => ?_) (fun _ => ?_)
    · refine k_aload_n (pc := 31) F 0 1 dX11_heal_31 rfl rfl ?_
      refine k_ldc (pc := 32) F (v := (-1000000003 : Int32)) w_5_201 dX11_heal_32 ?_
      refine k_callVI (pc := 34) B (k := 48) (As := [.int (-1000000003 : Int32)]) (rest := []) (ct_X11_finds E (-1000000003 : Int32)  σ4) rfl rfl mv_X11_finds w_5_144 rfl hR_X11_heal_X11_finds rfl (Nat.le_of_ble_eq_true rfl) dX11_heal_34 (fun rq19 σ18 hoq => ?_)
      exact k_iret (pc := 37) B dX11_heal_37
    · refine k_aload_n (pc := 38) F 0 1 dX11_heal_38 rfl rfl ?_
      refine k_iload_n (pc := 39) F 3 0 dX11_heal_39 rfl rfl ?_
      refine k_iconst (pc := 40) F (v := (0 : Int32)) dX11_heal_40 ci_0 ?_
      refine k_callVI (pc := 41) B (k := 48) (As := [.int vq3, .int (0 : Int32)]) (rest := []) (ct_X11_put E vq3 (0 : Int32)  σ4) rfl rfl mv_X11_put w_5_214 rfl hR_X11_heal_X11_put rfl (Nat.le_of_ble_eq_true rfl) dX11_heal_41 (fun rq7 σ6 hoq => ?_)
      refine k_istore F (lv' := [(4, .int rq7), (3, .int vq3), (0, .ref (ad E 48)), (1, .int aq0), (2, .int aq1)]) 4 dX11_heal_44 (by decide) rfl ?_
      refine k_iconst (pc := 46) F (v := (0 : Int32)) dX11_heal_46 ci_0 ?_
      refine k_istore F (lv' := [(5, .int (0 : Int32)), (4, .int rq7), (3, .int vq3), (0, .ref (ad E 48)), (1, .int aq0), (2, .int aq1)]) 5 dX11_heal_47 (by decide) rfl ?_
      refine k_iconst (pc := 49) F (v := (0 : Int32)) dX11_heal_49 ci_0 ?_
      refine k_istore F (lv' := [(6, .int (0 : Int32)), (5, .int (0 : Int32)), (4, .int rq7), (3, .int vq3), (0, .ref (ad E 48)), (1, .int aq0), (2, .int aq1)]) 6 dX11_heal_50 (by decide) rfl ?_
      refine k_iconst (pc := 52) F (v := (0 : Int32)) dX11_heal_52 ci_0 ?_
      refine k_istore F (lv' := [(7, .int (0 : Int32)), (6, .int (0 : Int32)), (5, .int (0 : Int32)), (4, .int rq7), (3, .int vq3), (0, .ref (ad E 48)), (1, .int aq0), (2, .int aq1)]) 7 dX11_heal_53 (by decide) rfl ?_
      exact k_sub [5, 4, 3, 2, 1, 0] rfl (t_X11_heal_L55 B vq3 rq7  _ (fun xq5 xq6  σ => by
            exact k_sub [0, 1, 2, 3, 4] rfl (t_X11_heal_121 B vq3 rq7 xq5 xq6   σ)) FU (0 : Int32) (0 : Int32) (0 : Int32)  σ6)
set_option maxHeartbeats 4000000 in
set_option maxRecDepth 100000 in
theorem ct_X11_heal (E : En) (aq0 : Int32) (aq1 : Int32)  (σ : Mm) : CtI E yX11_heal cX11_heal 10 (some .int) H_X11_heal [.ref (ad E 48), .int aq0, .int aq1] σ (f_X11_heal aq0 aq1 σ) := ct_I (by decide) (Nat.le_of_ble_eq_true rfl) rfl (fun G B => t_X11_heal B aq0 aq1  σ)
abbrev H_X11_ones : Nat := 0
set_option maxHeartbeats 4000000 in
set_option maxRecDepth 100000 in
theorem t_X11_ones_L4b {E : En} {G : Cx} (B : Bx E G cX11_ones 3 RX11 H_X11_ones (some .int)) (xq0 : Int32)   (L4 : Int32 → Int32 → Mm → Option (Int32 × Mm)) (hL4 : ∀ (xq1 : Int32) (xq2 : Int32)  (σ : Mm), KR E G 3 (ZI E G) (L4 xq1 xq2 σ) 4 [(0, .int xq0), (1, .int xq1), (2, .int xq2)] [] σ) (xq1 : Int32) (xq2 : Int32)  (σ : Mm) : KR E G 3 (ZI E G) (f_X11_ones_L4 xq0 L4 xq1 xq2 σ) 4 [(0, .int xq0), (1, .int xq1), (2, .int xq2)] [] σ := by
  have F := B.1
  unfold f_X11_ones_L4
  refine k_iload_n (pc := 4) F 2 2 dX11_ones_4 rfl rfl ?_
  refine k_bipush (pc := 5) F (v := (6 : Int32)) dX11_ones_5 cb_6 ?_
  refine k_icmp_ge (pc := 7) F 24 dX11_ones_7 (by decide) (fun _ => ?_) (fun _ => ?_)
  · refine k_iload_n (pc := 24) F 1 1 dX11_ones_24 rfl rfl ?_
    exact k_iret (pc := 25) B dX11_ones_25
  · refine k_iload_n (pc := 10) F 1 1 dX11_ones_10 rfl rfl ?_
    refine k_iload_n (pc := 11) F 0 0 dX11_ones_11 rfl rfl ?_
    refine k_iload_n (pc := 12) F 2 2 dX11_ones_12 rfl rfl ?_
    refine k_ishr (pc := 13) F dX11_ones_13 ?_
    refine k_iconst (pc := 14) F (v := (1 : Int32)) dX11_ones_14 ci_1 ?_
    refine k_iand (pc := 15) F dX11_ones_15 ?_
    refine k_iadd (pc := 16) F dX11_ones_16 ?_
    refine k_nmI (fun vq1 => ?_)
    refine k_istore_n F (lv' := [(1, .int vq1), (0, .int xq0), (2, .int xq2)]) 1 dX11_ones_17 rfl (by decide) rfl ?_
    refine k_iinc (pc := 18) F (c := (1 : Int32)) (lw := fun wq => [(2, .int wq), (1, .int vq1), (0, .int xq0)]) 2 2 dX11_ones_18 rfl ci_1 (by decide) (fun _ => rfl) (fun vq2 => ?_)
    refine k_goto (pc := 21) F 4 dX11_ones_21 (by decide) ?_
    exact k_sub [2, 1, 0] rfl (hL4 vq1 vq2 σ)
set_option maxHeartbeats 4000000 in
set_option maxRecDepth 100000 in
theorem t_X11_ones_L4 {E : En} {G : Cx} (B : Bx E G cX11_ones 3 RX11 H_X11_ones (some .int)) (xq0 : Int32)   : ∀ (n : Nat) (xq1 : Int32) (xq2 : Int32)  (σ : Mm), KR E G 3 (ZI E G) (fx (fun _ _ _ => none) n (f_X11_ones_L4 xq0) xq1 xq2 σ) 4 [(0, .int xq0), (1, .int xq1), (2, .int xq2)] [] σ :=
  fun n => fx_ind (P := fun f => ∀ (xq1 : Int32) (xq2 : Int32)  (σ : Mm), KR E G 3 (ZI E G) (f xq1 xq2 σ) 4 [(0, .int xq0), (1, .int xq1), (2, .int xq2)] [] σ) (fun _ _ _ => k_none) (fun L4 hL4 xq1 xq2 σ => t_X11_ones_L4b B xq0   L4 hL4 xq1 xq2 σ) n
set_option maxHeartbeats 4000000 in
set_option maxRecDepth 100000 in
theorem t_X11_ones {E : En} {G : Cx} (B : Bx E G cX11_ones 3 RX11 H_X11_ones (some .int)) (aq0 : Int32)  (σ : Mm) : KR E G 3 (ZI E G) (f_X11_ones aq0 σ) 0 [(0, .int aq0)] [] σ := by
  have F := B.1
  unfold f_X11_ones
  refine k_iconst (pc := 0) F (v := (0 : Int32)) dX11_ones_0 ci_0 ?_
  refine k_istore_n F (lv' := [(1, .int (0 : Int32)), (0, .int aq0)]) 1 dX11_ones_1 rfl (by decide) rfl ?_
  refine k_iconst (pc := 2) F (v := (0 : Int32)) dX11_ones_2 ci_0 ?_
  refine k_istore_n F (lv' := [(2, .int (0 : Int32)), (1, .int (0 : Int32)), (0, .int aq0)]) 2 dX11_ones_3 rfl (by decide) rfl ?_
  exact k_sub [2, 1, 0] rfl (t_X11_ones_L4 B aq0   FU (0 : Int32) (0 : Int32)  σ)
set_option maxHeartbeats 4000000 in
set_option maxRecDepth 100000 in
theorem ct_X11_ones (E : En) (aq0 : Int32)  (σ : Mm) : CtI E yX11_ones cX11_ones 3 (some .int) H_X11_ones [.int aq0] σ (f_X11_ones aq0 σ) := ct_I (by decide) (Nat.le_of_ble_eq_true rfl) rfl (fun G B => t_X11_ones B aq0  σ)
abbrev H_X11_fences : Nat := 14
theorem hR_X11_fences_X11_findWrites : H_X11_findWrites + 1 ≤ H_X11_fences ∧ 8 + (3 + 11) + 40 * H_X11_findWrites ≤ 40 * H_X11_fences := by decide
theorem hR_X11_fences_X11_ones : H_X11_ones + 1 ≤ H_X11_fences ∧ 8 + (3 + 11) + 40 * H_X11_ones ≤ 40 * H_X11_fences := by decide
theorem hR_X11_fences_X11_finds : H_X11_finds + 1 ≤ H_X11_fences ∧ 8 + (2 + 11) + 40 * H_X11_finds ≤ 40 * H_X11_fences := by decide
theorem hR_X11_fences_X11_badWith : H_X11_badWith + 1 ≤ H_X11_fences ∧ 8 + (2 + 11) + 40 * H_X11_badWith ≤ 40 * H_X11_fences := by decide
set_option maxHeartbeats 4000000 in
set_option maxRecDepth 100000 in
theorem t_X11_fences_72 {E : En} {G : Cx} (B : Bx E G cX11_fences 4 RX11 H_X11_fences (some .int)) (xq1 : Int32) (xq2 : Int32)  (L21 : Int32 → Mm → Option (Int32 × Mm)) (hL21 : ∀ (xq2 : Int32)  (σ : Mm), KR E G 4 (ZI E G) (L21 xq2 σ) 21 [(0, .ref (ad E 48)), (1, .int xq1), (2, .int xq2)] [] σ)  (σ : Mm) : KR E G 4 (ZI E G) (f_X11_fences_72 L21 xq1 xq2 σ) 72 [(0, .ref (ad E 48)), (1, .int xq1), (2, .int xq2)] [] σ := by
  have F := B.1
  unfold f_X11_fences_72
  refine k_iinc (pc := 72) F (c := (1 : Int32)) (lw := fun wq => [(2, .int wq), (0, .ref (ad E 48)), (1, .int xq1)]) 2 2 dX11_fences_72 rfl ci_1 (by decide) (fun _ => rfl) (fun vq10 => ?_)
  refine k_goto (pc := 75) F 21 dX11_fences_75 (by decide) ?_
  exact k_sub [1, 2, 0] rfl (hL21 vq10 σ)
set_option maxHeartbeats 4000000 in
set_option maxRecDepth 100000 in
theorem t_X11_fences_L21b {E : En} {G : Cx} (B : Bx E G cX11_fences 4 RX11 H_X11_fences (some .int)) (xq1 : Int32)  (K53 : Int32 → Int32 → Mm → Option (Int32 × Mm)) (hK53 : ∀ (xq2 : Int32) (xq3 : Int32)  (σ : Mm), KR E G 4 (ZI E G) (K53 xq2 xq3 σ) 53 [(0, .ref (ad E 48)), (2, .int xq2), (3, .int xq3)] [] σ) (K78 : Mm → Option (Int32 × Mm)) (hK78 : ∀   (σ : Mm), KR E G 4 (ZI E G) (K78  σ) 78 [(0, .ref (ad E 48)), (1, .int xq1)] [] σ)  (L21 : Int32 → Mm → Option (Int32 × Mm)) (hL21 : ∀ (xq2 : Int32)  (σ : Mm), KR E G 4 (ZI E G) (L21 xq2 σ) 21 [(0, .ref (ad E 48)), (1, .int xq1), (2, .int xq2)] [] σ) (xq2 : Int32)  (σ : Mm) : KR E G 4 (ZI E G) (f_X11_fences_L21 K53 K78 xq1 L21 xq2 σ) 21 [(0, .ref (ad E 48)), (1, .int xq1), (2, .int xq2)] [] σ := by
  have F := B.1
  unfold f_X11_fences_L21
  refine k_iload_n (pc := 21) F 2 2 dX11_fences_21 rfl rfl ?_
  refine k_iconst (pc := 22) F (v := (1 : Int32)) dX11_fences_22 ci_1 ?_
  refine k_aload_n (pc := 23) F 0 0 dX11_fences_23 rfl rfl ?_
  refine gf_48_37 (pc := 24) F w_4_207 dX11_fences_24 ?_
  refine k_ishl (pc := 27) F dX11_fences_27 ?_
  refine k_icmp_ge (pc := 28) F 78 dX11_fences_28 (by decide) (fun _ => ?_) (fun _ => ?_)
  · exact k_sub [0, 1] rfl (hK78 σ)
  · refine k_iload_n (pc := 31) F 2 2 dX11_fences_31 rfl rfl ?_
    refine k_callSI (pc := 32) B (As := [.int xq2]) (rest := []) (ct_X11_ones E xq2  σ) ms_X11_ones w_6_179 rfl hR_X11_fences_X11_ones rfl (Nat.le_of_ble_eq_true rfl) dX11_fences_32 (fun rq7 σ6 hoq => ?_)
    refine k_iload_n (pc := 35) F 1 1 dX11_fences_35 rfl rfl ?_
    refine k_icmp_eq (pc := 36) F 42 dX11_fences_36 (by decide) (fun _ => ?_) (fun _ => ?_)
    · refine k_aload_n (pc := 42) F 0 0 dX11_fences_42 rfl rfl ?_
      refine k_iload_n (pc := 43) F 2 2 dX11_fences_43 rfl rfl ?_
      refine k_callVI (pc := 44) B (k := 48) (As := [.int xq2]) (rest := []) (ct_X11_badWith E xq2  σ6) rfl rfl mv_X11_badWith w_6_163 rfl hR_X11_fences_X11_badWith rfl (Nat.le_of_ble_eq_true rfl) dX11_fences_44 (fun rq9 σ8 hoq => ?_)
      refine k_istore_n F (lv' := [(3, .int rq9), (0, .ref (ad E 48)), (1, .int xq1), (2, .int xq2)]) 3 dX11_fences_47 rfl (by decide) rfl ?_
      refine k_iload_n (pc := 48) F 3 0 dX11_fences_48 rfl rfl ?_
      refine k_iconst (pc := 49) F (v := (1 : Int32)) dX11_fences_49 ci_1 ?_
      refine k_icmp_eq (pc := 50) F 72 dX11_fences_50 (by decide) (fun _ => ?_) (fun _ => ?_)
      · exact k_sub [1, 2, 3] rfl (t_X11_fences_72 B xq1 xq2  L21 hL21  σ8)
      · exact k_sub [1, 3, 0] rfl (hK53 xq2 rq9 σ8)
    · refine k_goto (pc := 39) F 72 dX11_fences_39 (by decide) ?_
      exact k_sub [0, 1, 2] rfl (t_X11_fences_72 B xq1 xq2  L21 hL21  σ6)
set_option maxHeartbeats 4000000 in
set_option maxRecDepth 100000 in
theorem t_X11_fences_L21 {E : En} {G : Cx} (B : Bx E G cX11_fences 4 RX11 H_X11_fences (some .int)) (xq1 : Int32)  (K53 : Int32 → Int32 → Mm → Option (Int32 × Mm)) (hK53 : ∀ (xq2 : Int32) (xq3 : Int32)  (σ : Mm), KR E G 4 (ZI E G) (K53 xq2 xq3 σ) 53 [(0, .ref (ad E 48)), (2, .int xq2), (3, .int xq3)] [] σ) (K78 : Mm → Option (Int32 × Mm)) (hK78 : ∀   (σ : Mm), KR E G 4 (ZI E G) (K78  σ) 78 [(0, .ref (ad E 48)), (1, .int xq1)] [] σ)  : ∀ (n : Nat) (xq2 : Int32)  (σ : Mm), KR E G 4 (ZI E G) (fx (fun _ _ => none) n (f_X11_fences_L21 K53 K78 xq1) xq2 σ) 21 [(0, .ref (ad E 48)), (1, .int xq1), (2, .int xq2)] [] σ :=
  fun n => fx_ind (P := fun f => ∀ (xq2 : Int32)  (σ : Mm), KR E G 4 (ZI E G) (f xq2 σ) 21 [(0, .ref (ad E 48)), (1, .int xq1), (2, .int xq2)] [] σ) (fun _ _ => k_none) (fun L21 hL21 xq2 σ => t_X11_fences_L21b B xq1  K53 hK53 K78 hK78  L21 hL21 xq2 σ) n
set_option maxHeartbeats 4000000 in
set_option maxRecDepth 100000 in
theorem t_X11_fences_78 {E : En} {G : Cx} (B : Bx E G cX11_fences 4 RX11 H_X11_fences (some .int)) (xq1 : Int32)  (L11 : Int32 → Mm → Option (Int32 × Mm)) (hL11 : ∀ (xq1 : Int32)  (σ : Mm), KR E G 4 (ZI E G) (L11 xq1 σ) 11 [(0, .ref (ad E 48)), (1, .int xq1)] [] σ)  (σ : Mm) : KR E G 4 (ZI E G) (f_X11_fences_78 L11 xq1 σ) 78 [(0, .ref (ad E 48)), (1, .int xq1)] [] σ := by
  have F := B.1
  unfold f_X11_fences_78
  refine k_iinc (pc := 78) F (c := (1 : Int32)) (lw := fun wq => [(1, .int wq), (0, .ref (ad E 48))]) 1 1 dX11_fences_78 rfl ci_1 (by decide) (fun _ => rfl) (fun vq11 => ?_)
  refine k_goto (pc := 81) F 11 dX11_fences_81 (by decide) ?_
  exact k_sub [1, 0] rfl (hL11 vq11 σ)
set_option maxHeartbeats 4000000 in
set_option maxRecDepth 100000 in
theorem t_X11_fences_L11b {E : En} {G : Cx} (B : Bx E G cX11_fences 4 RX11 H_X11_fences (some .int))   (K53 : Int32 → Int32 → Mm → Option (Int32 × Mm)) (hK53 : ∀ (xq2 : Int32) (xq3 : Int32)  (σ : Mm), KR E G 4 (ZI E G) (K53 xq2 xq3 σ) 53 [(0, .ref (ad E 48)), (2, .int xq2), (3, .int xq3)] [] σ)  (L11 : Int32 → Mm → Option (Int32 × Mm)) (hL11 : ∀ (xq1 : Int32)  (σ : Mm), KR E G 4 (ZI E G) (L11 xq1 σ) 11 [(0, .ref (ad E 48)), (1, .int xq1)] [] σ) (xq1 : Int32)  (σ : Mm) : KR E G 4 (ZI E G) (f_X11_fences_L11 K53  L11 xq1 σ) 11 [(0, .ref (ad E 48)), (1, .int xq1)] [] σ := by
  have F := B.1
  unfold f_X11_fences_L11
  refine k_iload_n (pc := 11) F 1 1 dX11_fences_11 rfl rfl ?_
  refine k_aload_n (pc := 12) F 0 0 dX11_fences_12 rfl rfl ?_
  refine gf_48_37 (pc := 13) F w_4_207 dX11_fences_13 ?_
  refine k_icmp_gt (pc := 16) F 84 dX11_fences_16 (by decide) (fun _ => ?_) (fun _ => ?_)
  · refine k_aload_n (pc := 84) F 0 0 dX11_fences_84 rfl rfl ?_
    refine k_ldcw (pc := 85) F (v := (-1000000004 : Int32)) w_6_110 dX11_fences_85 ?_
    refine k_callVI (pc := 88) B (k := 48) (As := [.int (-1000000004 : Int32)]) (rest := []) (ct_X11_finds E (-1000000004 : Int32)  σ) rfl rfl mv_X11_finds w_5_144 rfl hR_X11_fences_X11_finds rfl (Nat.le_of_ble_eq_true rfl) dX11_fences_88 (fun rq5 σ4 hoq => ?_)
    exact k_iret (pc := 91) B dX11_fences_91
  · refine k_iconst (pc := 19) F (v := (0 : Int32)) dX11_fences_19 ci_0 ?_
    refine k_istore_n F (lv' := [(2, .int (0 : Int32)), (0, .ref (ad E 48)), (1, .int xq1)]) 2 dX11_fences_20 rfl (by decide) rfl ?_
    exact k_sub [1, 2, 0] rfl (t_X11_fences_L21 B xq1  _ (fun xq2 xq3  σ => by
          exact k_sub [0, 1, 2] rfl (hK53 xq2 xq3 σ)) _ (fun   σ => by
          exact k_sub [0, 1] rfl (t_X11_fences_78 B xq1  L11 hL11  σ)) FU (0 : Int32)  σ)
set_option maxHeartbeats 4000000 in
set_option maxRecDepth 100000 in
theorem t_X11_fences_L11 {E : En} {G : Cx} (B : Bx E G cX11_fences 4 RX11 H_X11_fences (some .int))   (K53 : Int32 → Int32 → Mm → Option (Int32 × Mm)) (hK53 : ∀ (xq2 : Int32) (xq3 : Int32)  (σ : Mm), KR E G 4 (ZI E G) (K53 xq2 xq3 σ) 53 [(0, .ref (ad E 48)), (2, .int xq2), (3, .int xq3)] [] σ)  : ∀ (n : Nat) (xq1 : Int32)  (σ : Mm), KR E G 4 (ZI E G) (fx (fun _ _ => none) n (f_X11_fences_L11 K53 ) xq1 σ) 11 [(0, .ref (ad E 48)), (1, .int xq1)] [] σ :=
  fun n => fx_ind (P := fun f => ∀ (xq1 : Int32)  (σ : Mm), KR E G 4 (ZI E G) (f xq1 σ) 11 [(0, .ref (ad E 48)), (1, .int xq1)] [] σ) (fun _ _ => k_none) (fun L11 hL11 xq1 σ => t_X11_fences_L11b B   K53 hK53  L11 hL11 xq1 σ) n
set_option maxHeartbeats 4000000 in
set_option maxRecDepth 100000 in
theorem t_X11_fences_53 {E : En} {G : Cx} (B : Bx E G cX11_fences 4 RX11 H_X11_fences (some .int)) (xq2 : Int32) (xq3 : Int32)   (σ : Mm) : KR E G 4 (ZI E G) (f_X11_fences_53 xq2 xq3 σ) 53 [(0, .ref (ad E 48)), (2, .int xq2), (3, .int xq3)] [] σ := by
  have F := B.1
  unfold f_X11_fences_53
  refine k_iload_n (pc := 53) F 3 2 dX11_fences_53 rfl rfl ?_
  refine k_ldcw (pc := 54) F (v := (-1000000007 : Int32)) w_6_101 dX11_fences_54 ?_
  refine k_icmp_ne (pc := 57) F 70 dX11_fences_57 (by decide) (fun _ => ?_) (fun _ => ?_)
  · refine k_aload_n (pc := 60) F 0 0 dX11_fences_60 rfl rfl ?_
    refine k_ldcw (pc := 61) F (v := (-1000000007 : Int32)) w_6_101 dX11_fences_61 ?_
    refine k_callVI (pc := 64) B (k := 48) (As := [.int (-1000000007 : Int32)]) (rest := []) (ct_X11_finds E (-1000000007 : Int32)  σ) rfl rfl mv_X11_finds w_5_144 rfl hR_X11_fences_X11_finds rfl (Nat.le_of_ble_eq_true rfl) dX11_fences_64 (fun rq13 σ12 hoq => ?_)
    refine k_goto (pc := 67) F 71 dX11_fences_67 (by decide) ?_
    exact k_iret (pc := 71) B dX11_fences_71
  · refine k_iload_n (pc := 70) F 2 1 dX11_fences_70 rfl rfl ?_
    exact k_iret (pc := 71) B dX11_fences_71
set_option maxHeartbeats 4000000 in
set_option maxRecDepth 100000 in
theorem t_X11_fences {E : En} {G : Cx} (B : Bx E G cX11_fences 4 RX11 H_X11_fences (some .int))   (σ : Mm) : KR E G 4 (ZI E G) (f_X11_fences  σ) 0 [(0, .ref (ad E 48))] [] σ := by
  have F := B.1
  unfold f_X11_fences
  refine k_aload_n (pc := 0) F 0 0 dX11_fences_0 rfl rfl ?_
  refine k_callVV (pc := 1) B (k := 48) (As := []) (rest := []) (ct_X11_findWrites E   σ) rfl rfl mv_X11_findWrites w_6_171 rfl hR_X11_fences_X11_findWrites rfl (Nat.le_of_ble_eq_true rfl) dX11_fences_1 (fun rq2 σ1 hoq => ?_)
  refine k_aload_n (pc := 4) F 0 0 dX11_fences_4 rfl rfl ?_
  refine k_iconst (pc := 5) F (v := (0 : Int32)) dX11_fences_5 ci_0 ?_
  refine pf_48_48 (pc := 6) F w_4_218 dX11_fences_6 (fun σ3 => ?_)
  refine k_iconst (pc := 9) F (v := (0 : Int32)) dX11_fences_9 ci_0 ?_
  refine k_istore_n F (lv' := [(1, .int (0 : Int32)), (0, .ref (ad E 48))]) 1 dX11_fences_10 rfl (by decide) rfl ?_
  exact k_sub [1, 0] rfl (t_X11_fences_L11 B   _ (fun xq2 xq3  σ => by
        exact k_sub [0, 1, 2] rfl (t_X11_fences_53 B xq2 xq3   σ)) FU (0 : Int32)  σ3)
set_option maxHeartbeats 4000000 in
set_option maxRecDepth 100000 in
theorem ct_X11_fences (E : En)   (σ : Mm) : CtI E yX11_fences cX11_fences 4 (some .int) H_X11_fences [.ref (ad E 48)] σ (f_X11_fences  σ) := ct_I (by decide) (Nat.le_of_ble_eq_true rfl) rfl (fun G B => t_X11_fences B   σ)
abbrev H_X11_isSheet : Nat := 1
theorem hR_X11_isSheet_X11_in : H_X11_in + 1 ≤ H_X11_isSheet ∧ 8 + (3 + 11) + 40 * H_X11_in ≤ 40 * H_X11_isSheet := by decide
set_option maxHeartbeats 4000000 in
set_option maxRecDepth 100000 in
theorem t_X11_isSheet {E : En} {G : Cx} (B : Bx E G cX11_isSheet 1 RX11 H_X11_isSheet (some .boolean)) (aq0 : Int32)  (σ : Mm) : KR E G 1 (ZI E G) (f_X11_isSheet aq0 σ) 0 [(0, .int aq0)] [] σ := by
  have F := B.1
  unfold f_X11_isSheet
  refine k_iload_n (pc := 0) F 0 0 dX11_isSheet_0 rfl rfl ?_
  refine k_iconst (pc := 1) F (v := (0 : Int32)) dX11_isSheet_1 ci_0 ?_
  refine k_iconst (pc := 2) F (v := (3 : Int32)) dX11_isSheet_2 ci_3 ?_
  refine k_callSI (pc := 3) B (As := [.int aq0, .int (0 : Int32), .int (3 : Int32)]) (rest := []) (ct_X11_in E aq0 (0 : Int32) (3 : Int32)  σ) ms_X11_in w_5_140 rfl hR_X11_isSheet_X11_in rfl (Nat.le_of_ble_eq_true rfl) dX11_isSheet_3 (fun rq2 σ1 hoq => ?_)
  exact k_zret (pc := 6) B dX11_isSheet_6
set_option maxHeartbeats 4000000 in
set_option maxRecDepth 100000 in
theorem ct_X11_isSheet (E : En) (aq0 : Int32)  (σ : Mm) : CtI E yX11_isSheet cX11_isSheet 1 (some .boolean) H_X11_isSheet [.int aq0] σ (f_X11_isSheet aq0 σ) := ct_I (by decide) (Nat.le_of_ble_eq_true rfl) rfl (fun G B => t_X11_isSheet B aq0  σ)
abbrev H_X11_plays : Nat := 3
theorem hR_X11_plays_X11_lay : H_X11_lay + 1 ≤ H_X11_plays ∧ 8 + (5 + 11) + 40 * H_X11_lay ≤ 40 * H_X11_plays := by decide
theorem hR_X11_plays_X11_can : H_X11_can + 1 ≤ H_X11_plays ∧ 8 + (4 + 11) + 40 * H_X11_can ≤ 40 * H_X11_plays := by decide
theorem hR_X11_plays_X11_does : H_X11_does + 1 ≤ H_X11_plays ∧ 8 + (4 + 11) + 40 * H_X11_does ≤ 40 * H_X11_plays := by decide
theorem hR_X11_plays_X11_begins : H_X11_begins + 1 ≤ H_X11_plays ∧ 8 + (2 + 11) + 40 * H_X11_begins ≤ 40 * H_X11_plays := by decide
set_option maxHeartbeats 4000000 in
set_option maxRecDepth 100000 in
theorem t_X11_plays_L16b {E : En} {G : Cx} (B : Bx E G cX11_plays 6 RX11 H_X11_plays (some .int)) (xq1 : Int32)  (K34 : Mm → Option (Int32 × Mm)) (hK34 : ∀   (σ : Mm), KR E G 6 (ZI E G) (K34  σ) 34 [(0, .ref (ad E 48)), (1, .int xq1)] [] σ)  (L16 : Int32 → Mm → Option (Int32 × Mm)) (hL16 : ∀ (xq2 : Int32)  (σ : Mm), KR E G 6 (ZI E G) (L16 xq2 σ) 16 [(0, .ref (ad E 48)), (1, .int xq1), (2, .int xq2)] [] σ) (xq2 : Int32)  (σ : Mm) : KR E G 6 (ZI E G) (f_X11_plays_L16 K34 xq1 L16 xq2 σ) 16 [(0, .ref (ad E 48)), (1, .int xq1), (2, .int xq2)] [] σ := by
  have F := B.1
  unfold f_X11_plays_L16
  refine k_iload_n (pc := 16) F 2 2 dX11_plays_16 rfl rfl ?_
  refine k_iconst (pc := 17) F (v := (3 : Int32)) dX11_plays_17 ci_3 ?_
  refine k_icmp_ge (pc := 18) F 34 dX11_plays_18 (by decide) (fun _ => ?_) (fun _ => ?_)
  · exact k_sub [0, 1] rfl (hK34 σ)
  · refine k_aload_n (pc := 21) F 0 0 dX11_plays_21 rfl rfl ?_
    refine gf_48_67 (pc := 22) F w_4_237 dX11_plays_22 ?_
    refine k_iload_n (pc := 25) F 2 2 dX11_plays_25 rfl rfl ?_
    refine k_iconst (pc := 26) F (v := (-1 : Int32)) dX11_plays_26 ci_m1 ?_
    refine k_iast (pc := 27) F rfl dX11_plays_27 (fun σ6 => ?_)
    refine k_iinc (pc := 28) F (c := (1 : Int32)) (lw := fun wq => [(2, .int wq), (0, .ref (ad E 48)), (1, .int xq1)]) 2 2 dX11_plays_28 rfl ci_1 (by decide) (fun _ => rfl) (fun vq7 => ?_)
    refine k_goto (pc := 31) F 16 dX11_plays_31 (by decide) ?_
    exact k_sub [1, 2, 0] rfl (hL16 vq7 σ6)
set_option maxHeartbeats 4000000 in
set_option maxRecDepth 100000 in
theorem t_X11_plays_L16 {E : En} {G : Cx} (B : Bx E G cX11_plays 6 RX11 H_X11_plays (some .int)) (xq1 : Int32)  (K34 : Mm → Option (Int32 × Mm)) (hK34 : ∀   (σ : Mm), KR E G 6 (ZI E G) (K34  σ) 34 [(0, .ref (ad E 48)), (1, .int xq1)] [] σ)  : ∀ (n : Nat) (xq2 : Int32)  (σ : Mm), KR E G 6 (ZI E G) (fx (fun _ _ => none) n (f_X11_plays_L16 K34 xq1) xq2 σ) 16 [(0, .ref (ad E 48)), (1, .int xq1), (2, .int xq2)] [] σ :=
  fun n => fx_ind (P := fun f => ∀ (xq2 : Int32)  (σ : Mm), KR E G 6 (ZI E G) (f xq2 σ) 16 [(0, .ref (ad E 48)), (1, .int xq1), (2, .int xq2)] [] σ) (fun _ _ => k_none) (fun L16 hL16 xq2 σ => t_X11_plays_L16b B xq1  K34 hK34  L16 hL16 xq2 σ) n
set_option maxHeartbeats 4000000 in
set_option maxRecDepth 100000 in
theorem t_X11_plays_172 {E : En} {G : Cx} (B : Bx E G cX11_plays 6 RX11 H_X11_plays (some .int)) (xq1 : Int32) (xq2 : Int32)  (L36 : Int32 → Mm → Option (Int32 × Mm)) (hL36 : ∀ (xq2 : Int32)  (σ : Mm), KR E G 6 (ZI E G) (L36 xq2 σ) 36 [(0, .ref (ad E 48)), (1, .int xq1), (2, .int xq2)] [] σ)  (σ : Mm) : KR E G 6 (ZI E G) (f_X11_plays_172 L36 xq1 xq2 σ) 172 [(0, .ref (ad E 48)), (1, .int xq1), (2, .int xq2)] [] σ := by
  have F := B.1
  unfold f_X11_plays_172
  refine k_iinc (pc := 172) F (c := (1 : Int32)) (lw := fun wq => [(2, .int wq), (0, .ref (ad E 48)), (1, .int xq1)]) 2 2 dX11_plays_172 rfl ci_1 (by decide) (fun _ => rfl) (fun vq14 => ?_)
  refine k_goto (pc := 175) F 36 dX11_plays_175 (by decide) ?_
  exact k_sub [1, 2, 0] rfl (hL36 vq14 σ)
set_option maxHeartbeats 4000000 in
set_option maxRecDepth 100000 in
theorem t_X11_plays_157 {E : En} {G : Cx} (B : Bx E G cX11_plays 6 RX11 H_X11_plays (some .int)) (xq1 : Int32) (xq2 : Int32) (xq5 : Int32) (xqs1 : Int32) (xqs2 : Int32)  (L36 : Int32 → Mm → Option (Int32 × Mm)) (hL36 : ∀ (xq2 : Int32)  (σ : Mm), KR E G 6 (ZI E G) (L36 xq2 σ) 36 [(0, .ref (ad E 48)), (1, .int xq1), (2, .int xq2)] [] σ)  (σ : Mm) : KR E G 6 (ZI E G) (f_X11_plays_157 L36 xq1 xq2 xq5 xqs1 xqs2 σ) 157 [(0, .ref (ad E 48)), (1, .int xq1), (2, .int xq2), (5, .int xq5)] [.int xqs2, .int xqs1, .ref (ad E 48)] σ := by
  have F := B.1
  unfold f_X11_plays_157
  refine k_iadd (pc := 157) F dX11_plays_157 ?_
  refine pf_48_66 (pc := 158) F w_4_236 dX11_plays_158 (fun σ16 => ?_)
  refine k_aload_n (pc := 161) F 0 0 dX11_plays_161 rfl rfl ?_
  refine gf_48_67 (pc := 162) F w_4_237 dX11_plays_162 ?_
  refine k_aload_n (pc := 165) F 0 0 dX11_plays_165 rfl rfl ?_
  refine gf_48_47 (pc := 166) F w_4_217 dX11_plays_166 ?_
  refine k_iload (pc := 169) F 5 3 dX11_plays_169 rfl ?_
  refine k_iast (pc := 171) F rfl dX11_plays_171 (fun σ17 => ?_)
  exact k_sub [0, 1, 2] rfl (t_X11_plays_172 B xq1 xq2  L36 hL36  σ17)
set_option maxHeartbeats 4000000 in
set_option maxRecDepth 100000 in
theorem t_X11_plays_156 {E : En} {G : Cx} (B : Bx E G cX11_plays 6 RX11 H_X11_plays (some .int)) (xq1 : Int32) (xq2 : Int32) (xq5 : Int32) (xqs1 : Int32)  (L36 : Int32 → Mm → Option (Int32 × Mm)) (hL36 : ∀ (xq2 : Int32)  (σ : Mm), KR E G 6 (ZI E G) (L36 xq2 σ) 36 [(0, .ref (ad E 48)), (1, .int xq1), (2, .int xq2)] [] σ)  (σ : Mm) : KR E G 6 (ZI E G) (f_X11_plays_156 L36 xq1 xq2 xq5 xqs1 σ) 156 [(0, .ref (ad E 48)), (1, .int xq1), (2, .int xq2), (5, .int xq5)] [.int xqs1, .ref (ad E 48)] σ := by
  have F := B.1
  unfold f_X11_plays_156
  refine k_iconst (pc := 156) F (v := (0 : Int32)) dX11_plays_156 ci_0 ?_
  exact k_sub [0, 1, 2, 3] rfl (t_X11_plays_157 B xq1 xq2 xq5 xqs1 (0 : Int32)  L36 hL36  σ)
set_option maxHeartbeats 4000000 in
set_option maxRecDepth 100000 in
theorem t_X11_plays_L36b {E : En} {G : Cx} (B : Bx E G cX11_plays 6 RX11 H_X11_plays (some .int)) (xq1 : Int32)   (L36 : Int32 → Mm → Option (Int32 × Mm)) (hL36 : ∀ (xq2 : Int32)  (σ : Mm), KR E G 6 (ZI E G) (L36 xq2 σ) 36 [(0, .ref (ad E 48)), (1, .int xq1), (2, .int xq2)] [] σ) (xq2 : Int32)  (σ : Mm) : KR E G 6 (ZI E G) (f_X11_plays_L36 xq1 L36 xq2 σ) 36 [(0, .ref (ad E 48)), (1, .int xq1), (2, .int xq2)] [] σ := by
  have F := B.1
  unfold f_X11_plays_L36
  refine k_iload_n (pc := 36) F 2 2 dX11_plays_36 rfl rfl ?_
  refine k_aload_n (pc := 37) F 0 0 dX11_plays_37 rfl rfl ?_
  refine gf_48_21 (pc := 38) F w_4_191 dX11_plays_38 ?_
  refine k_iload_n (pc := 41) F 1 1 dX11_plays_41 rfl rfl ?_
  refine k_iald (pc := 42) F rfl dX11_plays_42 ?_
  refine k_icmp_ge (pc := 43) F 178 dX11_plays_43 (by decide) (fun _ => ?_) (fun _ => ?_)
  · refine k_aload_n (pc := 178) F 0 0 dX11_plays_178 rfl rfl ?_
    refine gf_48_21 (pc := 179) F w_4_191 dX11_plays_179 ?_
    refine k_iload_n (pc := 182) F 1 1 dX11_plays_182 rfl rfl ?_
    refine k_iald (pc := 183) F rfl dX11_plays_183 ?_
    exact k_iret (pc := 184) B dX11_plays_184
  · refine k_aload_n (pc := 46) F 0 0 dX11_plays_46 rfl rfl ?_
    refine gf_48_22 (pc := 47) F w_4_192 dX11_plays_47 ?_
    refine k_bipush (pc := 50) F (v := (40 : Int32)) dX11_plays_50 cb_40 ?_
    refine k_iload_n (pc := 52) F 1 1 dX11_plays_52 rfl rfl ?_
    refine k_imul (pc := 53) F dX11_plays_53 ?_
    refine k_iload_n (pc := 54) F 2 2 dX11_plays_54 rfl rfl ?_
    refine k_iadd (pc := 55) F dX11_plays_55 ?_
    refine k_lald (pc := 56) F rfl dX11_plays_56 ?_
    refine k_nmL (fun vq8 => ?_)
    refine k_lstore_n F (lv' := [(3, .long vq8), (0, .ref (ad E 48)), (1, .int xq1), (2, .int xq2)]) 3 dX11_plays_57 rfl (by decide) rfl ?_
    refine k_lload_n (pc := 58) F 3 0 dX11_plays_58 rfl rfl ?_
    refine k_lconst (pc := 59) F (v := (0 : Int64)) dX11_plays_59 cl_0 ?_
    refine k_lcmp (pc := 60) F dX11_plays_60 ?_
    refine k_if_lt (pc := 61) F 85 dX11_plays_61 (by decide) (fun _ => ?_) (fun _ => ?_)
    · refine k_iload_n (pc := 85) F 2 3 dX11_plays_85 rfl rfl ?_
      exact k_iret (pc := 86) B dX11_plays_86
    · refine k_lload_n (pc := 64) F 3 0 dX11_plays_64 rfl rfl ?_
      refine k_ldc2 (pc := 65) F (v := (12 : Int64)) w_6_198 dX11_plays_65 ?_
      refine k_lcmp (pc := 68) F dX11_plays_68 ?_
      refine k_if_gt (pc := 69) F 85 dX11_plays_69 (by decide) (fun _ => ?_) (fun _ => ?_)
      · refine k_iload_n (pc := 85) F 2 3 dX11_plays_85 rfl rfl ?_
        exact k_iret (pc := 86) B dX11_plays_86
      · refine k_aload_n (pc := 72) F 0 1 dX11_plays_72 rfl rfl ?_
        refine k_lload_n (pc := 73) F 3 0 dX11_plays_73 rfl rfl ?_
        refine k_l2i (pc := 74) F dX11_plays_74 ?_
        refine k_aload_n (pc := 75) F 0 1 dX11_plays_75 rfl rfl ?_
        refine gf_48_11 (pc := 76) F w_4_181 dX11_plays_76 ?_
        refine k_callVI (pc := 79) B (k := 48) (As := [.int ((vq8).toInt32), .int (σ.1 48 11)]) (rest := []) (ct_X11_can E ((vq8).toInt32) (σ.1 48 11)  σ) rfl rfl mv_X11_can w_6_54 rfl hR_X11_plays_X11_can rfl (Nat.le_of_ble_eq_true rfl) dX11_plays_79 (fun rq10 σ9 hoq => ?_)
        refine k_if_ne (pc := 82) F 87 dX11_plays_82 (by decide) (fun _ => ?_) (fun _ => ?_)
        · refine k_iload_n (pc := 85) F 2 3 dX11_plays_85 rfl rfl ?_
          exact k_iret (pc := 86) B dX11_plays_86
        · refine k_aload_n (pc := 87) F 0 1 dX11_plays_87 rfl rfl ?_
          refine k_lload_n (pc := 88) F 3 0 dX11_plays_88 rfl rfl ?_
          refine k_l2i (pc := 89) F dX11_plays_89 ?_
          refine k_aload_n (pc := 90) F 0 1 dX11_plays_90 rfl rfl ?_
          refine gf_48_11 (pc := 91) F w_4_181 dX11_plays_91 ?_
          refine k_callVV (pc := 94) B (k := 48) (As := [.int ((vq8).toInt32), .int (σ9.1 48 11)]) (rest := []) (ct_X11_does E ((vq8).toInt32) (σ9.1 48 11)  σ9) rfl rfl mv_X11_does w_6_62 rfl hR_X11_plays_X11_does rfl (Nat.le_of_ble_eq_true rfl) dX11_plays_94 (fun rq12 σ11 hoq => ?_)
          refine k_aload_n (pc := 97) F 0 1 dX11_plays_97 rfl rfl ?_
          refine k_dup (pc := 98) F dX11_plays_98 rfl ?_
          refine gf_48_66 (pc := 99) F w_4_236 dX11_plays_99 ?_
          refine k_iconst (pc := 102) F (v := (1 : Int32)) dX11_plays_102 ci_1 ?_
          refine k_iadd (pc := 103) F dX11_plays_103 ?_
          refine pf_48_66 (pc := 104) F w_4_236 dX11_plays_104 (fun σ13 => ?_)
          refine k_aload_n (pc := 107) F 0 1 dX11_plays_107 rfl rfl ?_
          refine gf_48_47 (pc := 108) F w_4_217 dX11_plays_108 ?_
          refine k_if_lt (pc := 111) F 172 dX11_plays_111 (by decide) (fun _ => ?_) (fun _ => ?_)
          · exact k_sub [1, 2, 3] rfl (t_X11_plays_172 B xq1 xq2  L36 hL36  σ13)
          · refine k_lload_n (pc := 114) F 3 0 dX11_plays_114 rfl rfl ?_
            refine k_l2i (pc := 115) F dX11_plays_115 ?_
            refine k_bipush (pc := 116) F (v := (10 : Int32)) dX11_plays_116 cb_10 ?_
            refine k_irem (pc := 118) F dX11_plays_118 (by decide) ?_
            refine k_nmI (fun vq15 => ?_)
            refine k_istore F (lv' := [(5, .int vq15), (3, .long vq8), (0, .ref (ad E 48)), (1, .int xq1), (2, .int xq2)]) 5 dX11_plays_119 (by decide) rfl ?_
            refine k_aload_n (pc := 121) F 0 2 dX11_plays_121 rfl rfl ?_
            refine k_dup (pc := 122) F dX11_plays_122 rfl ?_
            refine gf_48_66 (pc := 123) F w_4_236 dX11_plays_123 ?_
            refine k_aload_n (pc := 126) F 0 2 dX11_plays_126 rfl rfl ?_
            refine gf_48_67 (pc := 127) F w_4_237 dX11_plays_127 ?_
            refine k_aload_n (pc := 130) F 0 2 dX11_plays_130 rfl rfl ?_
            refine gf_48_47 (pc := 131) F w_4_217 dX11_plays_131 ?_
            refine k_iald (pc := 134) F rfl dX11_plays_134 ?_
            refine k_if_lt (pc := 135) F 156 dX11_plays_135 (by decide) (fun _ => ?_) (fun _ => ?_)
            · exact k_sub [2, 3, 4, 0] rfl (t_X11_plays_156 B xq1 xq2 vq15 (σ13.1 48 66)  L36 hL36  σ13)
            · refine k_aload_n (pc := 138) F 0 2 dX11_plays_138 rfl rfl ?_
              refine gf_48_67 (pc := 139) F w_4_237 dX11_plays_139 ?_
              refine k_aload_n (pc := 142) F 0 2 dX11_plays_142 rfl rfl ?_
              refine gf_48_47 (pc := 143) F w_4_217 dX11_plays_143 ?_
              refine k_iald (pc := 146) F rfl dX11_plays_146 ?_
              refine k_iload (pc := 147) F 5 0 dX11_plays_147 rfl ?_
              refine k_icmp_eq (pc := 149) F 156 dX11_plays_149 (by decide) (fun _ => ?_) (fun _ => ?_)
              · exact k_sub [2, 3, 4, 0] rfl (t_X11_plays_156 B xq1 xq2 vq15 (σ13.1 48 66)  L36 hL36  σ13)
              · refine k_iconst (pc := 152) F (v := (4 : Int32)) dX11_plays_152 ci_4 ?_
                refine k_goto (pc := 153) F 157 dX11_plays_153 (by decide) ?_
                exact k_sub [2, 3, 4, 0] rfl (t_X11_plays_157 B xq1 xq2 vq15 (σ13.1 48 66) (4 : Int32)  L36 hL36  σ13)
set_option maxHeartbeats 4000000 in
set_option maxRecDepth 100000 in
theorem t_X11_plays_L36 {E : En} {G : Cx} (B : Bx E G cX11_plays 6 RX11 H_X11_plays (some .int)) (xq1 : Int32)   : ∀ (n : Nat) (xq2 : Int32)  (σ : Mm), KR E G 6 (ZI E G) (fx (fun _ _ => none) n (f_X11_plays_L36 xq1) xq2 σ) 36 [(0, .ref (ad E 48)), (1, .int xq1), (2, .int xq2)] [] σ :=
  fun n => fx_ind (P := fun f => ∀ (xq2 : Int32)  (σ : Mm), KR E G 6 (ZI E G) (f xq2 σ) 36 [(0, .ref (ad E 48)), (1, .int xq1), (2, .int xq2)] [] σ) (fun _ _ => k_none) (fun L36 hL36 xq2 σ => t_X11_plays_L36b B xq1   L36 hL36 xq2 σ) n
set_option maxHeartbeats 4000000 in
set_option maxRecDepth 100000 in
theorem t_X11_plays_34 {E : En} {G : Cx} (B : Bx E G cX11_plays 6 RX11 H_X11_plays (some .int)) (xq1 : Int32)   (σ : Mm) : KR E G 6 (ZI E G) (f_X11_plays_34 xq1 σ) 34 [(0, .ref (ad E 48)), (1, .int xq1)] [] σ := by
  have F := B.1
  unfold f_X11_plays_34
  refine k_iconst (pc := 34) F (v := (0 : Int32)) dX11_plays_34 ci_0 ?_
  refine k_istore_n F (lv' := [(2, .int (0 : Int32)), (0, .ref (ad E 48)), (1, .int xq1)]) 2 dX11_plays_35 rfl (by decide) rfl ?_
  exact k_sub [1, 2, 0] rfl (t_X11_plays_L36 B xq1   FU (0 : Int32)  σ)
set_option maxHeartbeats 4000000 in
set_option maxRecDepth 100000 in
theorem t_X11_plays {E : En} {G : Cx} (B : Bx E G cX11_plays 6 RX11 H_X11_plays (some .int)) (aq0 : Int32)  (σ : Mm) : KR E G 6 (ZI E G) (f_X11_plays aq0 σ) 0 [(0, .ref (ad E 48)), (1, .int aq0)] [] σ := by
  have F := B.1
  unfold f_X11_plays
  refine k_aload_n (pc := 0) F 0 0 dX11_plays_0 rfl rfl ?_
  refine k_iconst (pc := 1) F (v := (0 : Int32)) dX11_plays_1 ci_0 ?_
  refine k_callVV (pc := 2) B (k := 48) (As := [.int (0 : Int32)]) (rest := []) (ct_X11_lay E (0 : Int32)  σ) rfl rfl mv_X11_lay w_6_6 rfl hR_X11_plays_X11_lay rfl (Nat.le_of_ble_eq_true rfl) dX11_plays_2 (fun rq2 σ1 hoq => ?_)
  refine k_aload_n (pc := 5) F 0 0 dX11_plays_5 rfl rfl ?_
  refine k_callVV (pc := 6) B (k := 48) (As := []) (rest := []) (ct_X11_begins E   σ1) rfl rfl mv_X11_begins w_6_18 rfl hR_X11_plays_X11_begins rfl (Nat.le_of_ble_eq_true rfl) dX11_plays_6 (fun rq4 σ3 hoq => ?_)
  refine k_aload_n (pc := 9) F 0 0 dX11_plays_9 rfl rfl ?_
  refine k_iconst (pc := 10) F (v := (0 : Int32)) dX11_plays_10 ci_0 ?_
  refine pf_48_66 (pc := 11) F w_4_236 dX11_plays_11 (fun σ5 => ?_)
  refine k_iconst (pc := 14) F (v := (0 : Int32)) dX11_plays_14 ci_0 ?_
  refine k_istore_n F (lv' := [(2, .int (0 : Int32)), (0, .ref (ad E 48)), (1, .int aq0)]) 2 dX11_plays_15 rfl (by decide) rfl ?_
  exact k_sub [1, 2, 0] rfl (t_X11_plays_L16 B aq0  _ (fun   σ => by
        exact k_sub [0, 1] rfl (t_X11_plays_34 B aq0   σ)) FU (0 : Int32)  σ5)
set_option maxHeartbeats 4000000 in
set_option maxRecDepth 100000 in
theorem ct_X11_plays (E : En) (aq0 : Int32)  (σ : Mm) : CtI E yX11_plays cX11_plays 6 (some .int) H_X11_plays [.ref (ad E 48), .int aq0] σ (f_X11_plays aq0 σ) := ct_I (by decide) (Nat.le_of_ble_eq_true rfl) rfl (fun G B => t_X11_plays B aq0  σ)
abbrev H_X11_playedWhole : Nat := 4
theorem hR_X11_playedWhole_X11_plays : H_X11_plays + 1 ≤ H_X11_playedWhole ∧ 8 + (6 + 11) + 40 * H_X11_plays ≤ 40 * H_X11_playedWhole := by decide
theorem hR_X11_playedWhole_X11_isSheet : H_X11_isSheet + 1 ≤ H_X11_playedWhole ∧ 8 + (1 + 11) + 40 * H_X11_isSheet ≤ 40 * H_X11_playedWhole := by decide
set_option maxHeartbeats 4000000 in
set_option maxRecDepth 100000 in
theorem t_X11_playedWhole {E : En} {G : Cx} (B : Bx E G cX11_playedWhole 2 RX11 H_X11_playedWhole (some .int)) (aq0 : Int32)  (σ : Mm) : KR E G 2 (ZI E G) (f_X11_playedWhole aq0 σ) 0 [(0, .ref (ad E 48)), (1, .int aq0)] [] σ := by
  have F := B.1
  unfold f_X11_playedWhole
  refine k_iload_n (pc := 0) F 1 1 dX11_playedWhole_0 rfl rfl ?_
  refine k_callSI (pc := 1) B (As := [.int aq0]) (rest := []) (ct_X11_isSheet E aq0  σ) ms_X11_isSheet w_6_190 rfl hR_X11_playedWhole_X11_isSheet rfl (Nat.le_of_ble_eq_true rfl) dX11_playedWhole_1 (fun rq2 σ1 hoq => ?_)
  refine k_if_ne (pc := 4) F 10 dX11_playedWhole_4 (by decide) (fun _ => ?_) (fun _ => ?_)
  · refine k_ldc (pc := 7) F (v := (-1000000001 : Int32)) w_5_143 dX11_playedWhole_7 ?_
    exact k_iret (pc := 9) B dX11_playedWhole_9
  · refine k_aload_n (pc := 10) F 0 0 dX11_playedWhole_10 rfl rfl ?_
    refine gf_48_20 (pc := 11) F w_4_190 dX11_playedWhole_11 ?_
    refine k_iload_n (pc := 14) F 1 1 dX11_playedWhole_14 rfl rfl ?_
    refine k_iald (pc := 15) F rfl dX11_playedWhole_15 ?_
    refine k_if_ne (pc := 16) F 23 dX11_playedWhole_16 (by decide) (fun _ => ?_) (fun _ => ?_)
    · refine k_ldcw (pc := 19) F (v := (-1000000006 : Int32)) w_6_193 dX11_playedWhole_19 ?_
      exact k_iret (pc := 22) B dX11_playedWhole_22
    · refine k_aload_n (pc := 23) F 0 0 dX11_playedWhole_23 rfl rfl ?_
      refine k_iload_n (pc := 24) F 1 1 dX11_playedWhole_24 rfl rfl ?_
      refine k_callVI (pc := 25) B (k := 48) (As := [.int aq0]) (rest := []) (ct_X11_plays E aq0  σ1) rfl rfl mv_X11_plays w_6_194 rfl hR_X11_playedWhole_X11_plays rfl (Nat.le_of_ble_eq_true rfl) dX11_playedWhole_25 (fun rq4 σ3 hoq => ?_)
      refine k_aload_n (pc := 28) F 0 0 dX11_playedWhole_28 rfl rfl ?_
      refine gf_48_21 (pc := 29) F w_4_191 dX11_playedWhole_29 ?_
      refine k_iload_n (pc := 32) F 1 1 dX11_playedWhole_32 rfl rfl ?_
      refine k_iald (pc := 33) F rfl dX11_playedWhole_33 ?_
      refine k_icmp_ge (pc := 34) F 43 dX11_playedWhole_34 (by decide) (fun _ => ?_) (fun _ => ?_)
      · refine k_iconst (pc := 43) F (v := (0 : Int32)) dX11_playedWhole_43 ci_0 ?_
        exact k_iret (pc := 44) B dX11_playedWhole_44
      · refine k_ldcw (pc := 37) F (v := (-1000000005 : Int32)) w_6_199 dX11_playedWhole_37 ?_
        refine k_goto (pc := 40) F 44 dX11_playedWhole_40 (by decide) ?_
        exact k_iret (pc := 44) B dX11_playedWhole_44
set_option maxHeartbeats 4000000 in
set_option maxRecDepth 100000 in
theorem ct_X11_playedWhole (E : En) (aq0 : Int32)  (σ : Mm) : CtI E yX11_playedWhole cX11_playedWhole 2 (some .int) H_X11_playedWhole [.ref (ad E 48), .int aq0] σ (f_X11_playedWhole aq0 σ) := ct_I (by decide) (Nat.le_of_ble_eq_true rfl) rfl (fun G B => t_X11_playedWhole B aq0  σ)
abbrev H_X11_cost : Nat := 5
theorem hR_X11_cost_X11_playedWhole : H_X11_playedWhole + 1 ≤ H_X11_cost ∧ 8 + (2 + 11) + 40 * H_X11_playedWhole ≤ 40 * H_X11_cost := by decide
theorem hR_X11_cost_X11_finds : H_X11_finds + 1 ≤ H_X11_cost ∧ 8 + (2 + 11) + 40 * H_X11_finds ≤ 40 * H_X11_cost := by decide
set_option maxHeartbeats 4000000 in
set_option maxRecDepth 100000 in
theorem t_X11_cost {E : En} {G : Cx} (B : Bx E G cX11_cost 3 RX11 H_X11_cost (some .int)) (aq0 : Int32)  (σ : Mm) : KR E G 3 (ZI E G) (f_X11_cost aq0 σ) 0 [(0, .ref (ad E 48)), (1, .int aq0)] [] σ := by
  have F := B.1
  unfold f_X11_cost
  refine k_aload_n (pc := 0) F 0 0 dX11_cost_0 rfl rfl ?_
  refine k_iload_n (pc := 1) F 1 1 dX11_cost_1 rfl rfl ?_
  refine k_callVI (pc := 2) B (k := 48) (As := [.int aq0]) (rest := []) (ct_X11_playedWhole E aq0  σ) rfl rfl mv_X11_playedWhole w_6_186 rfl hR_X11_cost_X11_playedWhole rfl (Nat.le_of_ble_eq_true rfl) dX11_cost_2 (fun rq2 σ1 hoq => ?_)
  refine k_istore_n F (lv' := [(2, .int rq2), (0, .ref (ad E 48)), (1, .int aq0)]) 2 dX11_cost_5 rfl (by decide) rfl ?_
  refine k_iload_n (pc := 6) F 2 0 dX11_cost_6 rfl rfl ?_
  refine k_if_eq (pc := 7) F 18 dX11_cost_7 (by decide) (fun _ => ?_) (fun _ => ?_)
  · refine k_aload_n (pc := 18) F 0 1 dX11_cost_18 rfl rfl ?_
    refine gf_48_66 (pc := 19) F w_4_236 dX11_cost_19 ?_
    exact k_iret (pc := 22) B dX11_cost_22
  · refine k_aload_n (pc := 10) F 0 1 dX11_cost_10 rfl rfl ?_
    refine k_iload_n (pc := 11) F 2 0 dX11_cost_11 rfl rfl ?_
    refine k_callVI (pc := 12) B (k := 48) (As := [.int rq2]) (rest := []) (ct_X11_finds E rq2  σ1) rfl rfl mv_X11_finds w_5_144 rfl hR_X11_cost_X11_finds rfl (Nat.le_of_ble_eq_true rfl) dX11_cost_12 (fun rq4 σ3 hoq => ?_)
    refine k_goto (pc := 15) F 22 dX11_cost_15 (by decide) ?_
    exact k_iret (pc := 22) B dX11_cost_22
set_option maxHeartbeats 4000000 in
set_option maxRecDepth 100000 in
theorem ct_X11_cost (E : En) (aq0 : Int32)  (σ : Mm) : CtI E yX11_cost cX11_cost 3 (some .int) H_X11_cost [.ref (ad E 48), .int aq0] σ (f_X11_cost aq0 σ) := ct_I (by decide) (Nat.le_of_ble_eq_true rfl) rfl (fun G B => t_X11_cost B aq0  σ)
abbrev H_X11_played : Nat := 4
theorem hR_X11_played_X11_finds : H_X11_finds + 1 ≤ H_X11_played ∧ 8 + (2 + 11) + 40 * H_X11_finds ≤ 40 * H_X11_played := by decide
theorem hR_X11_played_X11_plays : H_X11_plays + 1 ≤ H_X11_played ∧ 8 + (6 + 11) + 40 * H_X11_plays ≤ 40 * H_X11_played := by decide
theorem hR_X11_played_X11_isSheet : H_X11_isSheet + 1 ≤ H_X11_played ∧ 8 + (1 + 11) + 40 * H_X11_isSheet ≤ 40 * H_X11_played := by decide
set_option maxHeartbeats 4000000 in
set_option maxRecDepth 100000 in
theorem t_X11_played {E : En} {G : Cx} (B : Bx E G cX11_played 2 RX11 H_X11_played (some .int)) (aq0 : Int32)  (σ : Mm) : KR E G 2 (ZI E G) (f_X11_played aq0 σ) 0 [(0, .ref (ad E 48)), (1, .int aq0)] [] σ := by
  have F := B.1
  unfold f_X11_played
  refine k_iload_n (pc := 0) F 1 1 dX11_played_0 rfl rfl ?_
  refine k_callSI (pc := 1) B (As := [.int aq0]) (rest := []) (ct_X11_isSheet E aq0  σ) ms_X11_isSheet w_6_190 rfl hR_X11_played_X11_isSheet rfl (Nat.le_of_ble_eq_true rfl) dX11_played_1 (fun rq2 σ1 hoq => ?_)
  refine k_if_ne (pc := 4) F 14 dX11_played_4 (by decide) (fun _ => ?_) (fun _ => ?_)
  · refine k_aload_n (pc := 7) F 0 0 dX11_played_7 rfl rfl ?_
    refine k_ldc (pc := 8) F (v := (-1000000001 : Int32)) w_5_143 dX11_played_8 ?_
    refine k_callVI (pc := 10) B (k := 48) (As := [.int (-1000000001 : Int32)]) (rest := []) (ct_X11_finds E (-1000000001 : Int32)  σ1) rfl rfl mv_X11_finds w_5_144 rfl hR_X11_played_X11_finds rfl (Nat.le_of_ble_eq_true rfl) dX11_played_10 (fun rq8 σ7 hoq => ?_)
    exact k_iret (pc := 13) B dX11_played_13
  · refine k_aload_n (pc := 14) F 0 0 dX11_played_14 rfl rfl ?_
    refine gf_48_20 (pc := 15) F w_4_190 dX11_played_15 ?_
    refine k_iload_n (pc := 18) F 1 1 dX11_played_18 rfl rfl ?_
    refine k_iald (pc := 19) F rfl dX11_played_19 ?_
    refine k_if_ne (pc := 20) F 33 dX11_played_20 (by decide) (fun _ => ?_) (fun _ => ?_)
    · refine k_aload_n (pc := 23) F 0 0 dX11_played_23 rfl rfl ?_
      refine k_ldcw (pc := 24) F (v := (-1000000006 : Int32)) w_6_193 dX11_played_24 ?_
      refine k_callVI (pc := 27) B (k := 48) (As := [.int (-1000000006 : Int32)]) (rest := []) (ct_X11_finds E (-1000000006 : Int32)  σ1) rfl rfl mv_X11_finds w_5_144 rfl hR_X11_played_X11_finds rfl (Nat.le_of_ble_eq_true rfl) dX11_played_27 (fun rq6 σ5 hoq => ?_)
      refine k_goto (pc := 30) F 38 dX11_played_30 (by decide) ?_
      exact k_iret (pc := 38) B dX11_played_38
    · refine k_aload_n (pc := 33) F 0 0 dX11_played_33 rfl rfl ?_
      refine k_iload_n (pc := 34) F 1 1 dX11_played_34 rfl rfl ?_
      refine k_callVI (pc := 35) B (k := 48) (As := [.int aq0]) (rest := []) (ct_X11_plays E aq0  σ1) rfl rfl mv_X11_plays w_6_194 rfl hR_X11_played_X11_plays rfl (Nat.le_of_ble_eq_true rfl) dX11_played_35 (fun rq4 σ3 hoq => ?_)
      exact k_iret (pc := 38) B dX11_played_38
set_option maxHeartbeats 4000000 in
set_option maxRecDepth 100000 in
theorem ct_X11_played (E : En) (aq0 : Int32)  (σ : Mm) : CtI E yX11_played cX11_played 2 (some .int) H_X11_played [.ref (ad E 48), .int aq0] σ (f_X11_played aq0 σ) := ct_I (by decide) (Nat.le_of_ble_eq_true rfl) rfl (fun G B => t_X11_played B aq0  σ)
abbrev H_X11_judge : Nat := 13
theorem hR_X11_judge_X11_resultNow : H_X11_resultNow + 1 ≤ H_X11_judge ∧ 8 + (3 + 11) + 40 * H_X11_resultNow ≤ 40 * H_X11_judge := by decide
theorem hR_X11_judge_X11_finds : H_X11_finds + 1 ≤ H_X11_judge ∧ 8 + (2 + 11) + 40 * H_X11_finds ≤ 40 * H_X11_judge := by decide
theorem hR_X11_judge_X11_isGood : H_X11_isGood + 1 ≤ H_X11_judge ∧ 8 + (4 + 11) + 40 * H_X11_isGood ≤ 40 * H_X11_judge := by decide
theorem hR_X11_judge_X11_findGoods : H_X11_findGoods + 1 ≤ H_X11_judge ∧ 8 + (1 + 11) + 40 * H_X11_findGoods ≤ 40 * H_X11_judge := by decide
theorem hR_X11_judge_X11_playedWhole : H_X11_playedWhole + 1 ≤ H_X11_judge ∧ 8 + (2 + 11) + 40 * H_X11_playedWhole ≤ 40 * H_X11_judge := by decide
theorem hR_X11_judge_X11_isEnd : H_X11_isEnd + 1 ≤ H_X11_judge ∧ 8 + (3 + 11) + 40 * H_X11_isEnd ≤ 40 * H_X11_judge := by decide
set_option maxHeartbeats 4000000 in
set_option maxRecDepth 100000 in
theorem t_X11_judge {E : En} {G : Cx} (B : Bx E G cX11_judge 4 RX11 H_X11_judge (some .int)) (aq0 : Int32)  (σ : Mm) : KR E G 4 (ZI E G) (f_X11_judge aq0 σ) 0 [(0, .ref (ad E 48)), (1, .int aq0)] [] σ := by
  have F := B.1
  unfold f_X11_judge
  refine k_aload_n (pc := 0) F 0 0 dX11_judge_0 rfl rfl ?_
  refine k_iload_n (pc := 1) F 1 1 dX11_judge_1 rfl rfl ?_
  refine k_callVI (pc := 2) B (k := 48) (As := [.int aq0]) (rest := []) (ct_X11_playedWhole E aq0  σ) rfl rfl mv_X11_playedWhole w_6_186 rfl hR_X11_judge_X11_playedWhole rfl (Nat.le_of_ble_eq_true rfl) dX11_judge_2 (fun rq2 σ1 hoq => ?_)
  refine k_istore_n F (lv' := [(2, .int rq2), (0, .ref (ad E 48)), (1, .int aq0)]) 2 dX11_judge_5 rfl (by decide) rfl ?_
  refine k_iload_n (pc := 6) F 2 0 dX11_judge_6 rfl rfl ?_
  refine k_if_eq (pc := 7) F 16 dX11_judge_7 (by decide) (fun _ => ?_) (fun _ => ?_)
  · refine k_aload_n (pc := 16) F 0 1 dX11_judge_16 rfl rfl ?_
    refine k_callVI (pc := 17) B (k := 48) (As := []) (rest := []) (ct_X11_isEnd E   σ1) rfl rfl mv_X11_isEnd w_6_43 rfl hR_X11_judge_X11_isEnd rfl (Nat.le_of_ble_eq_true rfl) dX11_judge_17 (fun rq4 σ3 hoq => ?_)
    refine k_if_ne (pc := 20) F 25 dX11_judge_20 (by decide) (fun _ => ?_) (fun _ => ?_)
    · refine k_iconst (pc := 23) F (v := (2 : Int32)) dX11_judge_23 ci_2 ?_
      exact k_iret (pc := 24) B dX11_judge_24
    · refine k_aload_n (pc := 25) F 0 1 dX11_judge_25 rfl rfl ?_
      refine k_callVI (pc := 26) B (k := 48) (As := []) (rest := []) (ct_X11_resultNow E   σ3) rfl rfl mv_X11_resultNow w_6_47 rfl hR_X11_judge_X11_resultNow rfl (Nat.le_of_ble_eq_true rfl) dX11_judge_26 (fun rq6 σ5 hoq => ?_)
      refine k_istore_n F (lv' := [(3, .int rq6), (2, .int rq2), (0, .ref (ad E 48)), (1, .int aq0)]) 3 dX11_judge_29 rfl (by decide) rfl ?_
      refine k_aload_n (pc := 30) F 0 2 dX11_judge_30 rfl rfl ?_
      refine k_callVV (pc := 31) B (k := 48) (As := []) (rest := []) (ct_X11_findGoods E   σ5) rfl rfl mv_X11_findGoods w_6_89 rfl hR_X11_judge_X11_findGoods rfl (Nat.le_of_ble_eq_true rfl) dX11_judge_31 (fun rq8 σ7 hoq => ?_)
      refine k_aload_n (pc := 34) F 0 2 dX11_judge_34 rfl rfl ?_
      refine k_iload_n (pc := 35) F 3 0 dX11_judge_35 rfl rfl ?_
      refine k_callVI (pc := 36) B (k := 48) (As := [.int rq6]) (rest := []) (ct_X11_isGood E rq6  σ7) rfl rfl mv_X11_isGood w_6_127 rfl hR_X11_judge_X11_isGood rfl (Nat.le_of_ble_eq_true rfl) dX11_judge_36 (fun rq10 σ9 hoq => ?_)
      refine k_if_eq (pc := 39) F 46 dX11_judge_39 (by decide) (fun _ => ?_) (fun _ => ?_)
      · refine k_iconst (pc := 46) F (v := (1 : Int32)) dX11_judge_46 ci_1 ?_
        exact k_iret (pc := 47) B dX11_judge_47
      · refine k_iconst (pc := 42) F (v := (0 : Int32)) dX11_judge_42 ci_0 ?_
        refine k_goto (pc := 43) F 47 dX11_judge_43 (by decide) ?_
        exact k_iret (pc := 47) B dX11_judge_47
  · refine k_aload_n (pc := 10) F 0 1 dX11_judge_10 rfl rfl ?_
    refine k_iload_n (pc := 11) F 2 0 dX11_judge_11 rfl rfl ?_
    refine k_callVI (pc := 12) B (k := 48) (As := [.int rq2]) (rest := []) (ct_X11_finds E rq2  σ1) rfl rfl mv_X11_finds w_5_144 rfl hR_X11_judge_X11_finds rfl (Nat.le_of_ble_eq_true rfl) dX11_judge_12 (fun rq12 σ11 hoq => ?_)
    exact k_iret (pc := 15) B dX11_judge_15
set_option maxHeartbeats 4000000 in
set_option maxRecDepth 100000 in
theorem ct_X11_judge (E : En) (aq0 : Int32)  (σ : Mm) : CtI E yX11_judge cX11_judge 4 (some .int) H_X11_judge [.ref (ad E 48), .int aq0] σ (f_X11_judge aq0 σ) := ct_I (by decide) (Nat.le_of_ble_eq_true rfl) rfl (fun G B => t_X11_judge B aq0  σ)
abbrev H_X11_moves : Nat := 5
theorem hR_X11_moves_X11_playedWhole : H_X11_playedWhole + 1 ≤ H_X11_moves ∧ 8 + (2 + 11) + 40 * H_X11_playedWhole ≤ 40 * H_X11_moves := by decide
theorem hR_X11_moves_X11_finds : H_X11_finds + 1 ≤ H_X11_moves ∧ 8 + (2 + 11) + 40 * H_X11_finds ≤ 40 * H_X11_moves := by decide
theorem hR_X11_moves_X11_moveOf : H_X11_moveOf + 1 ≤ H_X11_moves ∧ 8 + (1 + 11) + 40 * H_X11_moveOf ≤ 40 * H_X11_moves := by decide
theorem hR_X11_moves_X11_can : H_X11_can + 1 ≤ H_X11_moves ∧ 8 + (4 + 11) + 40 * H_X11_can ≤ 40 * H_X11_moves := by decide
set_option maxHeartbeats 4000000 in
set_option maxRecDepth 100000 in
theorem t_X11_moves_53 {E : En} {G : Cx} (B : Bx E G cX11_moves 5 RX11 H_X11_moves (some .int)) (xq4 : Int32) (xqs0 : Int32) (xqs1 : Int32)  (L21 : Int32 → Int32 → Mm → Option (Int32 × Mm)) (hL21 : ∀ (xq3 : Int32) (xq4 : Int32)  (σ : Mm), KR E G 5 (ZI E G) (L21 xq3 xq4 σ) 21 [(0, .ref (ad E 48)), (3, .int xq3), (4, .int xq4)] [] σ)  (σ : Mm) : KR E G 5 (ZI E G) (f_X11_moves_53 L21 xq4 xqs0 xqs1 σ) 53 [(0, .ref (ad E 48)), (4, .int xq4)] [.int xqs1, .int xqs0] σ := by
  have F := B.1
  unfold f_X11_moves_53
  refine k_ior (pc := 53) F dX11_moves_53 ?_
  refine k_nmI (fun vq7 => ?_)
  refine k_istore_n F (lv' := [(3, .int vq7), (0, .ref (ad E 48)), (4, .int xq4)]) 3 dX11_moves_54 rfl (by decide) rfl ?_
  refine k_iinc (pc := 55) F (c := (1 : Int32)) (lw := fun wq => [(4, .int wq), (3, .int vq7), (0, .ref (ad E 48))]) 4 2 dX11_moves_55 rfl ci_1 (by decide) (fun _ => rfl) (fun vq8 => ?_)
  refine k_goto (pc := 58) F 21 dX11_moves_58 (by decide) ?_
  exact k_sub [2, 1, 0] rfl (hL21 vq7 vq8 σ)
set_option maxHeartbeats 4000000 in
set_option maxRecDepth 100000 in
theorem t_X11_moves_L21b {E : En} {G : Cx} (B : Bx E G cX11_moves 5 RX11 H_X11_moves (some .int))    (L21 : Int32 → Int32 → Mm → Option (Int32 × Mm)) (hL21 : ∀ (xq3 : Int32) (xq4 : Int32)  (σ : Mm), KR E G 5 (ZI E G) (L21 xq3 xq4 σ) 21 [(0, .ref (ad E 48)), (3, .int xq3), (4, .int xq4)] [] σ) (xq3 : Int32) (xq4 : Int32)  (σ : Mm) : KR E G 5 (ZI E G) (f_X11_moves_L21  L21 xq3 xq4 σ) 21 [(0, .ref (ad E 48)), (3, .int xq3), (4, .int xq4)] [] σ := by
  have F := B.1
  unfold f_X11_moves_L21
  refine k_iload (pc := 21) F 4 2 dX11_moves_21 rfl ?_
  refine k_bipush (pc := 23) F (v := (6 : Int32)) dX11_moves_23 cb_6 ?_
  refine k_icmp_ge (pc := 25) F 61 dX11_moves_25 (by decide) (fun _ => ?_) (fun _ => ?_)
  · refine k_iload_n (pc := 61) F 3 1 dX11_moves_61 rfl rfl ?_
    exact k_iret (pc := 62) B dX11_moves_62
  · refine k_iload_n (pc := 28) F 3 1 dX11_moves_28 rfl rfl ?_
    refine k_aload_n (pc := 29) F 0 0 dX11_moves_29 rfl rfl ?_
    refine k_iload (pc := 30) F 4 2 dX11_moves_30 rfl ?_
    refine k_callSI (pc := 32) B (As := [.int xq4]) (rest := [.ref (ad E 48), .int xq3]) (ct_X11_moveOf E xq4  σ) ms_X11_moveOf w_6_51 rfl hR_X11_moves_X11_moveOf rfl (Nat.le_of_ble_eq_true rfl) dX11_moves_32 (fun rq4 σ3 hoq => ?_)
    refine k_aload_n (pc := 35) F 0 0 dX11_moves_35 rfl rfl ?_
    refine gf_48_11 (pc := 36) F w_4_181 dX11_moves_36 ?_
    refine k_callVI (pc := 39) B (k := 48) (As := [.int rq4, .int (σ3.1 48 11)]) (rest := [.int xq3]) (ct_X11_can E rq4 (σ3.1 48 11)  σ3) rfl rfl mv_X11_can w_6_54 rfl hR_X11_moves_X11_can rfl (Nat.le_of_ble_eq_true rfl) dX11_moves_39 (fun rq6 σ5 hoq => ?_)
    refine k_if_eq (pc := 42) F 52 dX11_moves_42 (by decide) (fun _ => ?_) (fun _ => ?_)
    · refine k_iconst (pc := 52) F (v := (0 : Int32)) dX11_moves_52 ci_0 ?_
      exact k_sub [0, 2] rfl (t_X11_moves_53 B xq4 xq3 (0 : Int32)  L21 hL21  σ5)
    · refine k_iconst (pc := 45) F (v := (1 : Int32)) dX11_moves_45 ci_1 ?_
      refine k_iload (pc := 46) F 4 2 dX11_moves_46 rfl ?_
      refine k_ishl (pc := 48) F dX11_moves_48 ?_
      refine k_goto (pc := 49) F 53 dX11_moves_49 (by decide) ?_
      exact k_sub [0, 2] rfl (t_X11_moves_53 B xq4 xq3 ((1 : Int32) <<< (xq4 &&& 31))  L21 hL21  σ5)
set_option maxHeartbeats 4000000 in
set_option maxRecDepth 100000 in
theorem t_X11_moves_L21 {E : En} {G : Cx} (B : Bx E G cX11_moves 5 RX11 H_X11_moves (some .int))    : ∀ (n : Nat) (xq3 : Int32) (xq4 : Int32)  (σ : Mm), KR E G 5 (ZI E G) (fx (fun _ _ _ => none) n (f_X11_moves_L21 ) xq3 xq4 σ) 21 [(0, .ref (ad E 48)), (3, .int xq3), (4, .int xq4)] [] σ :=
  fun n => fx_ind (P := fun f => ∀ (xq3 : Int32) (xq4 : Int32)  (σ : Mm), KR E G 5 (ZI E G) (f xq3 xq4 σ) 21 [(0, .ref (ad E 48)), (3, .int xq3), (4, .int xq4)] [] σ) (fun _ _ _ => k_none) (fun L21 hL21 xq3 xq4 σ => t_X11_moves_L21b B    L21 hL21 xq3 xq4 σ) n
set_option maxHeartbeats 4000000 in
set_option maxRecDepth 100000 in
theorem t_X11_moves {E : En} {G : Cx} (B : Bx E G cX11_moves 5 RX11 H_X11_moves (some .int)) (aq0 : Int32)  (σ : Mm) : KR E G 5 (ZI E G) (f_X11_moves aq0 σ) 0 [(0, .ref (ad E 48)), (1, .int aq0)] [] σ := by
  have F := B.1
  unfold f_X11_moves
  refine k_aload_n (pc := 0) F 0 0 dX11_moves_0 rfl rfl ?_
  refine k_iload_n (pc := 1) F 1 1 dX11_moves_1 rfl rfl ?_
  refine k_callVI (pc := 2) B (k := 48) (As := [.int aq0]) (rest := []) (ct_X11_playedWhole E aq0  σ) rfl rfl mv_X11_playedWhole w_6_186 rfl hR_X11_moves_X11_playedWhole rfl (Nat.le_of_ble_eq_true rfl) dX11_moves_2 (fun rq2 σ1 hoq => ?_)
  refine k_istore_n F (lv' := [(2, .int rq2), (0, .ref (ad E 48)), (1, .int aq0)]) 2 dX11_moves_5 rfl (by decide) rfl ?_
  refine k_iload_n (pc := 6) F 2 0 dX11_moves_6 rfl rfl ?_
  refine k_if_eq (pc := 7) F 16 dX11_moves_7 (by decide) (fun _ => ?_) (fun _ => ?_)
  · refine k_iconst (pc := 16) F (v := (0 : Int32)) dX11_moves_16 ci_0 ?_
    refine k_istore_n F (lv' := [(3, .int (0 : Int32)), (2, .int rq2), (0, .ref (ad E 48)), (1, .int aq0)]) 3 dX11_moves_17 rfl (by decide) rfl ?_
    refine k_iconst (pc := 18) F (v := (0 : Int32)) dX11_moves_18 ci_0 ?_
    refine k_istore F (lv' := [(4, .int (0 : Int32)), (3, .int (0 : Int32)), (2, .int rq2), (0, .ref (ad E 48)), (1, .int aq0)]) 4 dX11_moves_19 (by decide) rfl ?_
    exact k_sub [3, 1, 0] rfl (t_X11_moves_L21 B    FU (0 : Int32) (0 : Int32)  σ1)
  · refine k_aload_n (pc := 10) F 0 1 dX11_moves_10 rfl rfl ?_
    refine k_iload_n (pc := 11) F 2 0 dX11_moves_11 rfl rfl ?_
    refine k_callVI (pc := 12) B (k := 48) (As := [.int rq2]) (rest := []) (ct_X11_finds E rq2  σ1) rfl rfl mv_X11_finds w_5_144 rfl hR_X11_moves_X11_finds rfl (Nat.le_of_ble_eq_true rfl) dX11_moves_12 (fun rq10 σ9 hoq => ?_)
    exact k_iret (pc := 15) B dX11_moves_15
set_option maxHeartbeats 4000000 in
set_option maxRecDepth 100000 in
theorem ct_X11_moves (E : En) (aq0 : Int32)  (σ : Mm) : CtI E yX11_moves cX11_moves 5 (some .int) H_X11_moves [.ref (ad E 48), .int aq0] σ (f_X11_moves aq0 σ) := ct_I (by decide) (Nat.le_of_ble_eq_true rfl) rfl (fun G B => t_X11_moves B aq0  σ)
abbrev H_X11_after : Nat := 5
theorem hR_X11_after_X11_playedWhole : H_X11_playedWhole + 1 ≤ H_X11_after ∧ 8 + (2 + 11) + 40 * H_X11_playedWhole ≤ 40 * H_X11_after := by decide
theorem hR_X11_after_X11_finds : H_X11_finds + 1 ≤ H_X11_after ∧ 8 + (2 + 11) + 40 * H_X11_finds ≤ 40 * H_X11_after := by decide
theorem hR_X11_after_X11_isSheet : H_X11_isSheet + 1 ≤ H_X11_after ∧ 8 + (1 + 11) + 40 * H_X11_isSheet ≤ 40 * H_X11_after := by decide
theorem hR_X11_after_X11_in : H_X11_in + 1 ≤ H_X11_after ∧ 8 + (3 + 11) + 40 * H_X11_in ≤ 40 * H_X11_after := by decide
set_option maxHeartbeats 4000000 in
set_option maxRecDepth 100000 in
theorem t_X11_after_39 {E : En} {G : Cx} (B : Bx E G cX11_after 6 RX11 H_X11_after (some .int)) (xq1 : Int32) (xq2 : Int32) (xqs0 : Int32)   (σ : Mm) : KR E G 6 (ZI E G) (f_X11_after_39 xq1 xq2 xqs0 σ) 39 [(0, .ref (ad E 48)), (1, .int xq1), (2, .int xq2)] [.int xqs0] σ := by
  have F := B.1
  unfold f_X11_after_39
  refine k_istore_n F (lv' := [(3, .int xqs0), (0, .ref (ad E 48)), (1, .int xq1), (2, .int xq2)]) 3 dX11_after_39 rfl (by decide) rfl ?_
  refine k_iload_n (pc := 40) F 1 2 dX11_after_40 rfl rfl ?_
  refine k_callSI (pc := 41) B (As := [.int xq1]) (rest := []) (ct_X11_isSheet E xq1  σ) ms_X11_isSheet w_6_190 rfl hR_X11_after_X11_isSheet rfl (Nat.le_of_ble_eq_true rfl) dX11_after_41 (fun rq4 σ3 hoq => ?_)
  refine k_if_eq (pc := 44) F 51 dX11_after_44 (by decide) (fun _ => ?_) (fun _ => ?_)
  · refine k_aload_n (pc := 51) F 0 1 dX11_after_51 rfl rfl ?_
    refine k_ldc (pc := 52) F (v := (-1000000001 : Int32)) w_5_143 dX11_after_52 ?_
    refine k_callVI (pc := 54) B (k := 48) (As := [.int (-1000000001 : Int32)]) (rest := []) (ct_X11_finds E (-1000000001 : Int32)  σ3) rfl rfl mv_X11_finds w_5_144 rfl hR_X11_after_X11_finds rfl (Nat.le_of_ble_eq_true rfl) dX11_after_54 (fun rq6 σ5 hoq => ?_)
    exact k_iret (pc := 57) B dX11_after_57
  · refine k_iload_n (pc := 47) F 3 0 dX11_after_47 rfl rfl ?_
    refine k_if_ne (pc := 48) F 58 dX11_after_48 (by decide) (fun _ => ?_) (fun _ => ?_)
    · refine k_aload_n (pc := 51) F 0 1 dX11_after_51 rfl rfl ?_
      refine k_ldc (pc := 52) F (v := (-1000000001 : Int32)) w_5_143 dX11_after_52 ?_
      refine k_callVI (pc := 54) B (k := 48) (As := [.int (-1000000001 : Int32)]) (rest := []) (ct_X11_finds E (-1000000001 : Int32)  σ3) rfl rfl mv_X11_finds w_5_144 rfl hR_X11_after_X11_finds rfl (Nat.le_of_ble_eq_true rfl) dX11_after_54 (fun rq18 σ17 hoq => ?_)
      exact k_iret (pc := 57) B dX11_after_57
    · refine k_aload_n (pc := 58) F 0 1 dX11_after_58 rfl rfl ?_
      refine k_iload_n (pc := 59) F 1 2 dX11_after_59 rfl rfl ?_
      refine k_callVI (pc := 60) B (k := 48) (As := [.int xq1]) (rest := []) (ct_X11_playedWhole E xq1  σ3) rfl rfl mv_X11_playedWhole w_6_186 rfl hR_X11_after_X11_playedWhole rfl (Nat.le_of_ble_eq_true rfl) dX11_after_60 (fun rq8 σ7 hoq => ?_)
      refine k_istore F (lv' := [(4, .int rq8), (3, .int xqs0), (0, .ref (ad E 48)), (1, .int xq1), (2, .int xq2)]) 4 dX11_after_63 (by decide) rfl ?_
      refine k_iload (pc := 65) F 4 0 dX11_after_65 rfl ?_
      refine k_if_eq (pc := 67) F 77 dX11_after_67 (by decide) (fun _ => ?_) (fun _ => ?_)
      · refine k_iload_n (pc := 77) F 2 4 dX11_after_77 rfl rfl ?_
        refine k_bipush (pc := 78) F (v := (10 : Int32)) dX11_after_78 cb_10 ?_
        refine k_icmp_ge (pc := 80) F 90 dX11_after_80 (by decide) (fun _ => ?_) (fun _ => ?_)
        · refine k_iload_n (pc := 90) F 2 4 dX11_after_90 rfl rfl ?_
          refine k_bipush (pc := 91) F (v := (10 : Int32)) dX11_after_91 cb_10 ?_
          refine k_idiv (pc := 93) F dX11_after_93 (by decide) ?_
          refine k_iconst (pc := 94) F (v := (1 : Int32)) dX11_after_94 ci_1 ?_
          refine k_isub (pc := 95) F dX11_after_95 ?_
          refine k_nmI (fun vq9 => ?_)
          refine k_istore F (lv' := [(5, .int vq9), (4, .int rq8), (3, .int xqs0), (0, .ref (ad E 48)), (1, .int xq1), (2, .int xq2)]) 5 dX11_after_96 (by decide) rfl ?_
          refine k_iload_n (pc := 98) F 2 5 dX11_after_98 rfl rfl ?_
          refine k_bipush (pc := 99) F (v := (10 : Int32)) dX11_after_99 cb_10 ?_
          refine k_irem (pc := 101) F dX11_after_101 (by decide) ?_
          refine k_nmI (fun vq10 => ?_)
          refine k_case (fun hwq11 => ?_) (fun hwq11 => ?_)
          · refine k_tin (pc := 102) F 132 dX11_after_102 (by rw [hwq11]; decide) (by rw [hwq11]; decide) (by rw [hwq11]; rfl) (by decide) ?_
            refine k_aload_n (pc := 132) F 0 3 dX11_after_132 rfl rfl ?_
            refine gf_48_42 (pc := 133) F w_4_212 dX11_after_133 ?_
            refine k_iload (pc := 136) F 5 0 dX11_after_136 rfl ?_
            refine k_iald (pc := 138) F rfl dX11_after_138 ?_
            exact k_iret (pc := 139) B dX11_after_139
          refine k_case (fun hwq12 => ?_) (fun hwq12 => ?_)
          · refine k_tin (pc := 102) F 140 dX11_after_102 (by rw [hwq12]; decide) (by rw [hwq12]; decide) (by rw [hwq12]; rfl) (by decide) ?_
            refine k_aload_n (pc := 140) F 0 3 dX11_after_140 rfl rfl ?_
            refine gf_48_43 (pc := 141) F w_4_213 dX11_after_141 ?_
            refine k_iload (pc := 144) F 5 0 dX11_after_144 rfl ?_
            refine k_iald (pc := 146) F rfl dX11_after_146 ?_
            exact k_iret (pc := 147) B dX11_after_147
          refine k_case (fun hwq13 => ?_) (fun hwq13 => ?_)
          · refine k_tin (pc := 102) F 148 dX11_after_102 (by rw [hwq13]; decide) (by rw [hwq13]; decide) (by rw [hwq13]; rfl) (by decide) ?_
            refine k_aload_n (pc := 148) F 0 3 dX11_after_148 rfl rfl ?_
            refine gf_48_44 (pc := 149) F w_4_214 dX11_after_149 ?_
            refine k_iload (pc := 152) F 5 0 dX11_after_152 rfl ?_
            refine k_iald (pc := 154) F rfl dX11_after_154 ?_
            exact k_iret (pc := 155) B dX11_after_155
          refine k_case (fun hwq14 => ?_) (fun hwq14 => ?_)
          · refine k_tin (pc := 102) F 156 dX11_after_102 (by rw [hwq14]; decide) (by rw [hwq14]; decide) (by rw [hwq14]; rfl) (by decide) ?_
            refine k_aload_n (pc := 156) F 0 3 dX11_after_156 rfl rfl ?_
            refine gf_48_41 (pc := 157) F w_4_211 dX11_after_157 ?_
            refine k_iload (pc := 160) F 5 0 dX11_after_160 rfl ?_
            refine k_iald (pc := 162) F rfl dX11_after_162 ?_
            exact k_iret (pc := 163) B dX11_after_163
          · refine k_tout (pc := 102) F 164 dX11_after_102 (by have hwq11 := ne_i (z := 0) (by decide) hwq11; have hwq12 := ne_i (z := 1) (by decide) hwq12; have hwq13 := ne_i (z := 2) (by decide) hwq13; have hwq14 := ne_i (z := 3) (by decide) hwq14; omega) (by decide) ?_
            refine k_aload_n (pc := 164) F 0 3 dX11_after_164 rfl rfl ?_
            refine gf_48_40 (pc := 165) F w_4_210 dX11_after_165 ?_
            refine k_iload (pc := 168) F 5 0 dX11_after_168 rfl ?_
            refine k_iald (pc := 170) F rfl dX11_after_170 ?_
            exact k_iret (pc := 171) B dX11_after_171
        · refine k_aload_n (pc := 83) F 0 2 dX11_after_83 rfl rfl ?_
          refine gf_48_39 (pc := 84) F w_4_209 dX11_after_84 ?_
          refine k_iload_n (pc := 87) F 2 4 dX11_after_87 rfl rfl ?_
          refine k_iald (pc := 88) F rfl dX11_after_88 ?_
          exact k_iret (pc := 89) B dX11_after_89
      · refine k_aload_n (pc := 70) F 0 2 dX11_after_70 rfl rfl ?_
        refine k_iload (pc := 71) F 4 0 dX11_after_71 rfl ?_
        refine k_callVI (pc := 73) B (k := 48) (As := [.int rq8]) (rest := []) (ct_X11_finds E rq8  σ7) rfl rfl mv_X11_finds w_5_144 rfl hR_X11_after_X11_finds rfl (Nat.le_of_ble_eq_true rfl) dX11_after_73 (fun rq16 σ15 hoq => ?_)
        exact k_iret (pc := 76) B dX11_after_76
set_option maxHeartbeats 4000000 in
set_option maxRecDepth 100000 in
theorem t_X11_after_34 {E : En} {G : Cx} (B : Bx E G cX11_after 6 RX11 H_X11_after (some .int)) (xq1 : Int32) (xq2 : Int32)   (σ : Mm) : KR E G 6 (ZI E G) (f_X11_after_34 xq1 xq2 σ) 34 [(0, .ref (ad E 48)), (1, .int xq1), (2, .int xq2)] [] σ := by
  have F := B.1
  unfold f_X11_after_34
  refine k_iconst (pc := 34) F (v := (1 : Int32)) dX11_after_34 ci_1 ?_
  refine k_goto (pc := 35) F 39 dX11_after_35 (by decide) ?_
  exact k_sub [0, 1, 2] rfl (t_X11_after_39 B xq1 xq2 (1 : Int32)   σ)
set_option maxHeartbeats 4000000 in
set_option maxRecDepth 100000 in
theorem t_X11_after_38 {E : En} {G : Cx} (B : Bx E G cX11_after 6 RX11 H_X11_after (some .int)) (xq1 : Int32) (xq2 : Int32)   (σ : Mm) : KR E G 6 (ZI E G) (f_X11_after_38 xq1 xq2 σ) 38 [(0, .ref (ad E 48)), (1, .int xq1), (2, .int xq2)] [] σ := by
  have F := B.1
  unfold f_X11_after_38
  refine k_iconst (pc := 38) F (v := (0 : Int32)) dX11_after_38 ci_0 ?_
  exact k_sub [0, 1, 2] rfl (t_X11_after_39 B xq1 xq2 (0 : Int32)   σ)
set_option maxHeartbeats 4000000 in
set_option maxRecDepth 100000 in
theorem t_X11_after {E : En} {G : Cx} (B : Bx E G cX11_after 6 RX11 H_X11_after (some .int)) (aq0 : Int32) (aq1 : Int32)  (σ : Mm) : KR E G 6 (ZI E G) (f_X11_after aq0 aq1 σ) 0 [(0, .ref (ad E 48)), (1, .int aq0), (2, .int aq1)] [] σ := by
  have F := B.1
  unfold f_X11_after
  refine k_iload_n (pc := 0) F 2 2 dX11_after_0 rfl rfl ?_
  refine k_iconst (pc := 1) F (v := (0 : Int32)) dX11_after_1 ci_0 ?_
  refine k_iconst (pc := 2) F (v := (2 : Int32)) dX11_after_2 ci_2 ?_
  refine k_callSI (pc := 3) B (As := [.int aq1, .int (0 : Int32), .int (2 : Int32)]) (rest := []) (ct_X11_in E aq1 (0 : Int32) (2 : Int32)  σ) ms_X11_in w_5_140 rfl hR_X11_after_X11_in rfl (Nat.le_of_ble_eq_true rfl) dX11_after_3 (fun rq2 σ1 hoq => ?_)
  refine k_if_ne (pc := 6) F 34 dX11_after_6 (by decide) (fun _ => ?_) (fun _ => ?_)
  · refine k_iload_n (pc := 9) F 2 2 dX11_after_9 rfl rfl ?_
    refine k_bipush (pc := 10) F (v := (10 : Int32)) dX11_after_10 cb_10 ?_
    refine k_icmp_lt (pc := 12) F 38 dX11_after_12 (by decide) (fun _ => ?_) (fun _ => ?_)
    · exact k_sub [0, 1, 2] rfl (t_X11_after_38 B aq0 aq1   σ1)
    · refine k_iload_n (pc := 15) F 2 2 dX11_after_15 rfl rfl ?_
      refine k_bipush (pc := 16) F (v := (10 : Int32)) dX11_after_16 cb_10 ?_
      refine k_idiv (pc := 18) F dX11_after_18 (by decide) ?_
      refine k_aload_n (pc := 19) F 0 0 dX11_after_19 rfl rfl ?_
      refine gf_48_7 (pc := 20) F w_4_177 dX11_after_20 ?_
      refine k_icmp_gt (pc := 23) F 38 dX11_after_23 (by decide) (fun _ => ?_) (fun _ => ?_)
      · exact k_sub [0, 1, 2] rfl (t_X11_after_38 B aq0 aq1   σ1)
      · refine k_iload_n (pc := 26) F 2 2 dX11_after_26 rfl rfl ?_
        refine k_bipush (pc := 27) F (v := (10 : Int32)) dX11_after_27 cb_10 ?_
        refine k_irem (pc := 29) F dX11_after_29 (by decide) ?_
        refine k_iconst (pc := 30) F (v := (4 : Int32)) dX11_after_30 ci_4 ?_
        refine k_icmp_gt (pc := 31) F 38 dX11_after_31 (by decide) (fun _ => ?_) (fun _ => ?_)
        · exact k_sub [0, 1, 2] rfl (t_X11_after_38 B aq0 aq1   σ1)
        · exact k_sub [0, 1, 2] rfl (t_X11_after_34 B aq0 aq1   σ1)
  · exact k_sub [0, 1, 2] rfl (t_X11_after_34 B aq0 aq1   σ1)
set_option maxHeartbeats 4000000 in
set_option maxRecDepth 100000 in
theorem ct_X11_after (E : En) (aq0 : Int32) (aq1 : Int32)  (σ : Mm) : CtI E yX11_after cX11_after 6 (some .int) H_X11_after [.ref (ad E 48), .int aq0, .int aq1] σ (f_X11_after aq0 aq1 σ) := ct_I (by decide) (Nat.le_of_ble_eq_true rfl) rfl (fun G B => t_X11_after B aq0 aq1  σ)
abbrev H_X11_layRow : Nat := 0
set_option maxHeartbeats 4000000 in
set_option maxRecDepth 100000 in
theorem t_X11_layRow_L25b {E : En} {G : Cx} (B : Bx E G cX11_layRow 5 RX11 H_X11_layRow none) (xq1 : Int32)   (L25 : Int32 → Mm → Option (Unit × Mm)) (hL25 : ∀ (xq4 : Int32)  (σ : Mm), KR E G 5 (ZV E G) (L25 xq4 σ) 25 [(0, .ref (ad E 48)), (1, .int xq1), (4, .int xq4)] [] σ) (xq4 : Int32)  (σ : Mm) : KR E G 5 (ZV E G) (f_X11_layRow_L25 xq1 L25 xq4 σ) 25 [(0, .ref (ad E 48)), (1, .int xq1), (4, .int xq4)] [] σ := by
  have F := B.1
  unfold f_X11_layRow_L25
  refine k_iload (pc := 25) F 4 2 dX11_layRow_25 rfl ?_
  refine k_bipush (pc := 27) F (v := (40 : Int32)) dX11_layRow_27 cb_40 ?_
  refine k_icmp_ge (pc := 29) F 51 dX11_layRow_29 (by decide) (fun _ => ?_) (fun _ => ?_)
  · exact k_vret (pc := 51) B dX11_layRow_51
  · refine k_aload_n (pc := 32) F 0 0 dX11_layRow_32 rfl rfl ?_
    refine gf_48_22 (pc := 33) F w_4_192 dX11_layRow_33 ?_
    refine k_bipush (pc := 36) F (v := (40 : Int32)) dX11_layRow_36 cb_40 ?_
    refine k_iload_n (pc := 38) F 1 1 dX11_layRow_38 rfl rfl ?_
    refine k_imul (pc := 39) F dX11_layRow_39 ?_
    refine k_iload (pc := 40) F 4 2 dX11_layRow_40 rfl ?_
    refine k_iadd (pc := 42) F dX11_layRow_42 ?_
    refine k_lconst (pc := 43) F (v := (0 : Int64)) dX11_layRow_43 cl_0 ?_
    refine k_last (pc := 44) F rfl dX11_layRow_44 (fun σ3 => ?_)
    refine k_iinc (pc := 45) F (c := (1 : Int32)) (lw := fun wq => [(4, .int wq), (0, .ref (ad E 48)), (1, .int xq1)]) 4 2 dX11_layRow_45 rfl ci_1 (by decide) (fun _ => rfl) (fun vq4 => ?_)
    refine k_goto (pc := 48) F 25 dX11_layRow_48 (by decide) ?_
    exact k_sub [1, 2, 0] rfl (hL25 vq4 σ3)
set_option maxHeartbeats 4000000 in
set_option maxRecDepth 100000 in
theorem t_X11_layRow_L25 {E : En} {G : Cx} (B : Bx E G cX11_layRow 5 RX11 H_X11_layRow none) (xq1 : Int32)   : ∀ (n : Nat) (xq4 : Int32)  (σ : Mm), KR E G 5 (ZV E G) (fx (fun _ _ => none) n (f_X11_layRow_L25 xq1) xq4 σ) 25 [(0, .ref (ad E 48)), (1, .int xq1), (4, .int xq4)] [] σ :=
  fun n => fx_ind (P := fun f => ∀ (xq4 : Int32)  (σ : Mm), KR E G 5 (ZV E G) (f xq4 σ) 25 [(0, .ref (ad E 48)), (1, .int xq1), (4, .int xq4)] [] σ) (fun _ _ => k_none) (fun L25 hL25 xq4 σ => t_X11_layRow_L25b B xq1   L25 hL25 xq4 σ) n
set_option maxHeartbeats 4000000 in
set_option maxRecDepth 100000 in
theorem t_X11_layRow_21 {E : En} {G : Cx} (B : Bx E G cX11_layRow 5 RX11 H_X11_layRow none) (xq1 : Int32) (xqs1 : Int32) (xqs2 : Int32)   (σ : Mm) : KR E G 5 (ZV E G) (f_X11_layRow_21 xq1 xqs1 xqs2 σ) 21 [(0, .ref (ad E 48)), (1, .int xq1)] [.int xqs2, .int xqs1, .ref (ad E 62)] σ := by
  have F := B.1
  unfold f_X11_layRow_21
  refine k_iast (pc := 21) F rfl dX11_layRow_21 (fun σ2 => ?_)
  refine k_iconst (pc := 22) F (v := (0 : Int32)) dX11_layRow_22 ci_0 ?_
  refine k_istore F (lv' := [(4, .int (0 : Int32)), (0, .ref (ad E 48)), (1, .int xq1)]) 4 dX11_layRow_23 (by decide) rfl ?_
  exact k_sub [1, 2, 0] rfl (t_X11_layRow_L25 B xq1   FU (0 : Int32)  σ2)
set_option maxHeartbeats 4000000 in
set_option maxRecDepth 100000 in
theorem t_X11_layRow {E : En} {G : Cx} (B : Bx E G cX11_layRow 5 RX11 H_X11_layRow none) (aq0 : Int32) (aq1 : Int32) (aq2 : Int32)  (σ : Mm) : KR E G 5 (ZV E G) (f_X11_layRow aq0 aq1 aq2 σ) 0 [(0, .ref (ad E 48)), (1, .int aq0), (2, .int aq1), (3, .int aq2)] [] σ := by
  have F := B.1
  unfold f_X11_layRow
  refine k_aload_n (pc := 0) F 0 0 dX11_layRow_0 rfl rfl ?_
  refine gf_48_20 (pc := 1) F w_4_190 dX11_layRow_1 ?_
  refine k_iload_n (pc := 4) F 1 1 dX11_layRow_4 rfl rfl ?_
  refine k_iload_n (pc := 5) F 2 2 dX11_layRow_5 rfl rfl ?_
  refine k_iast (pc := 6) F rfl dX11_layRow_6 (fun σ1 => ?_)
  refine k_aload_n (pc := 7) F 0 0 dX11_layRow_7 rfl rfl ?_
  refine gf_48_21 (pc := 8) F w_4_191 dX11_layRow_8 ?_
  refine k_iload_n (pc := 11) F 1 1 dX11_layRow_11 rfl rfl ?_
  refine k_iload_n (pc := 12) F 2 2 dX11_layRow_12 rfl rfl ?_
  refine k_if_ne (pc := 13) F 20 dX11_layRow_13 (by decide) (fun _ => ?_) (fun _ => ?_)
  · refine k_iconst (pc := 16) F (v := (0 : Int32)) dX11_layRow_16 ci_0 ?_
    refine k_goto (pc := 17) F 21 dX11_layRow_17 (by decide) ?_
    exact k_sub [0, 1] rfl (t_X11_layRow_21 B aq0 aq0 (0 : Int32)   σ1)
  · refine k_iload_n (pc := 20) F 3 3 dX11_layRow_20 rfl rfl ?_
    exact k_sub [0, 1] rfl (t_X11_layRow_21 B aq0 aq0 aq2   σ1)
set_option maxHeartbeats 4000000 in
set_option maxRecDepth 100000 in
theorem ct_X11_layRow (E : En) (aq0 : Int32) (aq1 : Int32) (aq2 : Int32)  (σ : Mm) : CtV E yX11_layRow cX11_layRow 5 none H_X11_layRow [.ref (ad E 48), .int aq0, .int aq1, .int aq2] σ (f_X11_layRow aq0 aq1 aq2 σ) := ct_V (by decide) (Nat.le_of_ble_eq_true rfl) rfl (fun G B => t_X11_layRow B aq0 aq1 aq2  σ)
abbrev H_X11_sheet : Nat := 2
theorem hR_X11_sheet_X11_layRow : H_X11_layRow + 1 ≤ H_X11_sheet ∧ 8 + (5 + 11) + 40 * H_X11_layRow ≤ 40 * H_X11_sheet := by decide
theorem hR_X11_sheet_X11_finds : H_X11_finds + 1 ≤ H_X11_sheet ∧ 8 + (2 + 11) + 40 * H_X11_finds ≤ 40 * H_X11_sheet := by decide
theorem hR_X11_sheet_X11_isSheet : H_X11_isSheet + 1 ≤ H_X11_sheet ∧ 8 + (1 + 11) + 40 * H_X11_isSheet ≤ 40 * H_X11_sheet := by decide
set_option maxHeartbeats 4000000 in
set_option maxRecDepth 100000 in
theorem t_X11_sheet_36 {E : En} {G : Cx} (B : Bx E G cX11_sheet 4 RX11 H_X11_sheet (some .int)) (xq1 : Int32) (xq2 : Int32) (xq3 : Int32)   (σ : Mm) : KR E G 4 (ZI E G) (f_X11_sheet_36 xq1 xq2 xq3 σ) 36 [(0, .ref (ad E 48)), (1, .int xq1), (2, .int xq2), (3, .int xq3)] [] σ := by
  have F := B.1
  unfold f_X11_sheet_36
  refine k_iload_n (pc := 36) F 3 3 dX11_sheet_36 rfl rfl ?_
  refine k_if_ge (pc := 37) F 48 dX11_sheet_37 (by decide) (fun _ => ?_) (fun _ => ?_)
  · refine k_iload_n (pc := 48) F 3 3 dX11_sheet_48 rfl rfl ?_
    refine k_bipush (pc := 49) F (v := (40 : Int32)) dX11_sheet_49 cb_40 ?_
    refine k_icmp_le (pc := 51) F 61 dX11_sheet_51 (by decide) (fun _ => ?_) (fun _ => ?_)
    · refine k_aload_n (pc := 61) F 0 0 dX11_sheet_61 rfl rfl ?_
      refine k_iload_n (pc := 62) F 1 1 dX11_sheet_62 rfl rfl ?_
      refine k_iload_n (pc := 63) F 2 2 dX11_sheet_63 rfl rfl ?_
      refine k_iload_n (pc := 64) F 3 3 dX11_sheet_64 rfl rfl ?_
      refine k_callVV (pc := 65) B (k := 48) (As := [.int xq1, .int xq2, .int xq3]) (rest := []) (ct_X11_layRow E xq1 xq2 xq3  σ) rfl rfl mv_X11_layRow w_6_220 rfl hR_X11_sheet_X11_layRow rfl (Nat.le_of_ble_eq_true rfl) dX11_sheet_65 (fun rq6 σ5 hoq => ?_)
      refine k_aload_n (pc := 68) F 0 0 dX11_sheet_68 rfl rfl ?_
      refine gf_48_21 (pc := 69) F w_4_191 dX11_sheet_69 ?_
      refine k_iload_n (pc := 72) F 1 1 dX11_sheet_72 rfl rfl ?_
      refine k_iald (pc := 73) F rfl dX11_sheet_73 ?_
      exact k_iret (pc := 74) B dX11_sheet_74
    · refine k_aload_n (pc := 54) F 0 0 dX11_sheet_54 rfl rfl ?_
      refine k_ldc (pc := 55) F (v := (-1000000001 : Int32)) w_5_143 dX11_sheet_55 ?_
      refine k_callVI (pc := 57) B (k := 48) (As := [.int (-1000000001 : Int32)]) (rest := []) (ct_X11_finds E (-1000000001 : Int32)  σ) rfl rfl mv_X11_finds w_5_144 rfl hR_X11_sheet_X11_finds rfl (Nat.le_of_ble_eq_true rfl) dX11_sheet_57 (fun rq8 σ7 hoq => ?_)
      exact k_iret (pc := 60) B dX11_sheet_60
  · refine k_aload_n (pc := 40) F 0 0 dX11_sheet_40 rfl rfl ?_
    refine k_ldcw (pc := 41) F (v := (-1000000007 : Int32)) w_6_101 dX11_sheet_41 ?_
    refine k_callVI (pc := 44) B (k := 48) (As := [.int (-1000000007 : Int32)]) (rest := []) (ct_X11_finds E (-1000000007 : Int32)  σ) rfl rfl mv_X11_finds w_5_144 rfl hR_X11_sheet_X11_finds rfl (Nat.le_of_ble_eq_true rfl) dX11_sheet_44 (fun rq10 σ9 hoq => ?_)
    exact k_iret (pc := 47) B dX11_sheet_47
set_option maxHeartbeats 4000000 in
set_option maxRecDepth 100000 in
theorem t_X11_sheet {E : En} {G : Cx} (B : Bx E G cX11_sheet 4 RX11 H_X11_sheet (some .int)) (aq0 : Int32) (aq1 : Int32) (aq2 : Int32)  (σ : Mm) : KR E G 4 (ZI E G) (f_X11_sheet aq0 aq1 aq2 σ) 0 [(0, .ref (ad E 48)), (1, .int aq0), (2, .int aq1), (3, .int aq2)] [] σ := by
  have F := B.1
  unfold f_X11_sheet
  refine k_iload_n (pc := 0) F 1 1 dX11_sheet_0 rfl rfl ?_
  refine k_callSI (pc := 1) B (As := [.int aq0]) (rest := []) (ct_X11_isSheet E aq0  σ) ms_X11_isSheet w_6_190 rfl hR_X11_sheet_X11_isSheet rfl (Nat.le_of_ble_eq_true rfl) dX11_sheet_1 (fun rq2 σ1 hoq => ?_)
  refine k_if_eq (pc := 4) F 29 dX11_sheet_4 (by decide) (fun _ => ?_) (fun _ => ?_)
  · refine k_aload_n (pc := 29) F 0 0 dX11_sheet_29 rfl rfl ?_
    refine k_ldc (pc := 30) F (v := (-1000000001 : Int32)) w_5_143 dX11_sheet_30 ?_
    refine k_callVI (pc := 32) B (k := 48) (As := [.int (-1000000001 : Int32)]) (rest := []) (ct_X11_finds E (-1000000001 : Int32)  σ1) rfl rfl mv_X11_finds w_5_144 rfl hR_X11_sheet_X11_finds rfl (Nat.le_of_ble_eq_true rfl) dX11_sheet_32 (fun rq4 σ3 hoq => ?_)
    exact k_iret (pc := 35) B dX11_sheet_35
  · refine k_iload_n (pc := 7) F 2 2 dX11_sheet_7 rfl rfl ?_
    refine k_if_eq (pc := 8) F 36 dX11_sheet_8 (by decide) (fun _ => ?_) (fun _ => ?_)
    · exact k_sub [0, 1, 2, 3] rfl (t_X11_sheet_36 B aq0 aq1 aq2   σ1)
    · refine k_iload_n (pc := 11) F 2 2 dX11_sheet_11 rfl rfl ?_
      refine k_bipush (pc := 12) F (v := (8 : Int32)) dX11_sheet_12 cb_8 ?_
      refine k_icmp_eq (pc := 14) F 36 dX11_sheet_14 (by decide) (fun _ => ?_) (fun _ => ?_)
      · exact k_sub [0, 1, 2, 3] rfl (t_X11_sheet_36 B aq0 aq1 aq2   σ1)
      · refine k_iload_n (pc := 17) F 2 2 dX11_sheet_17 rfl rfl ?_
        refine k_bipush (pc := 18) F (v := (16 : Int32)) dX11_sheet_18 cb_16 ?_
        refine k_icmp_eq (pc := 20) F 36 dX11_sheet_20 (by decide) (fun _ => ?_) (fun _ => ?_)
        · exact k_sub [0, 1, 2, 3] rfl (t_X11_sheet_36 B aq0 aq1 aq2   σ1)
        · refine k_iload_n (pc := 23) F 2 2 dX11_sheet_23 rfl rfl ?_
          refine k_bipush (pc := 24) F (v := (64 : Int32)) dX11_sheet_24 cb_64 ?_
          refine k_icmp_eq (pc := 26) F 36 dX11_sheet_26 (by decide) (fun _ => ?_) (fun _ => ?_)
          · exact k_sub [0, 1, 2, 3] rfl (t_X11_sheet_36 B aq0 aq1 aq2   σ1)
          · refine k_aload_n (pc := 29) F 0 0 dX11_sheet_29 rfl rfl ?_
            refine k_ldc (pc := 30) F (v := (-1000000001 : Int32)) w_5_143 dX11_sheet_30 ?_
            refine k_callVI (pc := 32) B (k := 48) (As := [.int (-1000000001 : Int32)]) (rest := []) (ct_X11_finds E (-1000000001 : Int32)  σ1) rfl rfl mv_X11_finds w_5_144 rfl hR_X11_sheet_X11_finds rfl (Nat.le_of_ble_eq_true rfl) dX11_sheet_32 (fun rq12 σ11 hoq => ?_)
            exact k_iret (pc := 35) B dX11_sheet_35
set_option maxHeartbeats 4000000 in
set_option maxRecDepth 100000 in
theorem ct_X11_sheet (E : En) (aq0 : Int32) (aq1 : Int32) (aq2 : Int32)  (σ : Mm) : CtI E yX11_sheet cX11_sheet 4 (some .int) H_X11_sheet [.ref (ad E 48), .int aq0, .int aq1, .int aq2] σ (f_X11_sheet aq0 aq1 aq2 σ) := ct_I (by decide) (Nat.le_of_ble_eq_true rfl) rfl (fun G B => t_X11_sheet B aq0 aq1 aq2  σ)
