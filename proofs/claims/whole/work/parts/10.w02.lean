abbrev H_X3_spelling : Nat := 0
theorem f_X3_spelling_lt {a : Int32} {σ σ2 : Mm} {r : Nat} (h : f_X3_spelling a σ = some (r, σ2)) : r < 9 := by
  unfold f_X3_spelling at h
  repeat (split at h; (cases h; decide))
  cases h
  decide
set_option maxHeartbeats 4000000 in
set_option maxRecDepth 100000 in
theorem t_X3_spelling {E : En} {G : Cx} (B : Bx E G cX3_spelling 1 RX3 H_X3_spelling (some (.object "java/lang/String"))) (aq0 : Int32)  (σ : Mm) : KR E G 1 (ZK E G) (f_X3_spelling aq0 σ) 0 [(0, .int aq0)] [] σ := by
  have F := B.1
  unfold f_X3_spelling
  refine k_iload_n (pc := 0) F 0 0 dX3_spelling_0 rfl rfl ?_
  refine k_case (fun hwq1 => ?_) (fun hwq1 => ?_)
  · refine k_tin (pc := 1) F 48 dX3_spelling_1 (by rw [hwq1]; decide) (by rw [hwq1]; decide) (by rw [hwq1]; rfl) (by decide) ?_
    refine k_ldcS (pc := 48) F (q := (97, "read")) 0 rfl dX3_spelling_48 ?_
    exact k_kret (pc := 50) (x := 0) B dX3_spelling_50
  refine k_case (fun hwq2 => ?_) (fun hwq2 => ?_)
  · refine k_tin (pc := 1) F 51 dX3_spelling_1 (by rw [hwq2]; decide) (by rw [hwq2]; decide) (by rw [hwq2]; rfl) (by decide) ?_
    refine k_ldcS (pc := 51) F (q := (99, "write")) 1 rfl dX3_spelling_51 ?_
    exact k_kret (pc := 53) (x := 1) B dX3_spelling_53
  refine k_case (fun hwq3 => ?_) (fun hwq3 => ?_)
  · refine k_tin (pc := 1) F 54 dX3_spelling_1 (by rw [hwq3]; decide) (by rw [hwq3]; decide) (by rw [hwq3]; rfl) (by decide) ?_
    refine k_ldcS (pc := 54) F (q := (101, "put")) 2 rfl dX3_spelling_54 ?_
    exact k_kret (pc := 56) (x := 2) B dX3_spelling_56
  refine k_case (fun hwq4 => ?_) (fun hwq4 => ?_)
  · refine k_tin (pc := 1) F 57 dX3_spelling_1 (by rw [hwq4]; decide) (by rw [hwq4]; decide) (by rw [hwq4]; rfl) (by decide) ?_
    refine k_ldcS (pc := 57) F (q := (103, "swap")) 3 rfl dX3_spelling_57 ?_
    exact k_kret (pc := 59) (x := 3) B dX3_spelling_59
  refine k_case (fun hwq5 => ?_) (fun hwq5 => ?_)
  · refine k_tin (pc := 1) F 60 dX3_spelling_1 (by rw [hwq5]; decide) (by rw [hwq5]; decide) (by rw [hwq5]; rfl) (by decide) ?_
    refine k_ldcS (pc := 60) F (q := (105, "add")) 4 rfl dX3_spelling_60 ?_
    exact k_kret (pc := 62) (x := 4) B dX3_spelling_62
  refine k_case (fun hwq6 => ?_) (fun hwq6 => ?_)
  · refine k_tin (pc := 1) F 63 dX3_spelling_1 (by rw [hwq6]; decide) (by rw [hwq6]; decide) (by rw [hwq6]; rfl) (by decide) ?_
    refine k_ldcS (pc := 63) F (q := (107, "fence")) 5 rfl dX3_spelling_63 ?_
    exact k_kret (pc := 65) (x := 5) B dX3_spelling_65
  refine k_case (fun hwq7 => ?_) (fun hwq7 => ?_)
  · refine k_tin (pc := 1) F 66 dX3_spelling_1 (by rw [hwq7]; decide) (by rw [hwq7]; decide) (by rw [hwq7]; rfl) (by decide) ?_
    refine k_ldcS (pc := 66) F (q := (109, "set")) 6 rfl dX3_spelling_66 ?_
    exact k_kret (pc := 68) (x := 6) B dX3_spelling_68
  refine k_case (fun hwq8 => ?_) (fun hwq8 => ?_)
  · refine k_tin (pc := 1) F 69 dX3_spelling_1 (by rw [hwq8]; decide) (by rw [hwq8]; decide) (by rw [hwq8]; rfl) (by decide) ?_
    refine k_ldcS (pc := 69) F (q := (111, "keep")) 7 rfl dX3_spelling_69 ?_
    exact k_kret (pc := 71) (x := 7) B dX3_spelling_71
  · refine k_tout (pc := 1) F 72 dX3_spelling_1 (by have hwq1 := ne_i (z := 0) (by decide) hwq1; have hwq2 := ne_i (z := 1) (by decide) hwq2; have hwq3 := ne_i (z := 2) (by decide) hwq3; have hwq4 := ne_i (z := 3) (by decide) hwq4; have hwq5 := ne_i (z := 4) (by decide) hwq5; have hwq6 := ne_i (z := 5) (by decide) hwq6; have hwq7 := ne_i (z := 6) (by decide) hwq7; have hwq8 := ne_i (z := 7) (by decide) hwq8; omega) (by decide) ?_
    refine k_ldcS (pc := 72) F (q := (113, "again")) 8 rfl dX3_spelling_72 ?_
    exact k_kret (pc := 74) (x := 8) B dX3_spelling_74
set_option maxHeartbeats 4000000 in
set_option maxRecDepth 100000 in
theorem ct_X3_spelling (E : En) (aq0 : Int32)  (σ : Mm) : CtK E yX3_spelling cX3_spelling 1 (some (.object "java/lang/String")) H_X3_spelling [.int aq0] σ (f_X3_spelling aq0 σ) := ct_K (by decide) (Nat.le_of_ble_eq_true rfl) rfl (fun G B => t_X3_spelling B aq0  σ)
abbrev H_X3_latestWord : Nat := 5
theorem hR_X3_latestWord_X3_spelling : H_X3_spelling + 1 ≤ H_X3_latestWord ∧ 8 + (1 + 11) + 40 * H_X3_spelling ≤ 40 * H_X3_latestWord := by decide
theorem hR_X3_latestWord_X3_isLatest : H_X3_isLatest + 1 ≤ H_X3_latestWord ∧ 8 + (3 + 11) + 40 * H_X3_isLatest ≤ 40 * H_X3_latestWord := by decide
set_option maxHeartbeats 4000000 in
set_option maxRecDepth 100000 in
theorem t_X3_latestWord_L2b {E : En} {G : Cx} (B : Bx E G cX3_latestWord 2 RX3 H_X3_latestWord (some .int))    (L2 : Int32 → Mm → Option (Int32 × Mm)) (hL2 : ∀ (xq1 : Int32)  (σ : Mm), KR E G 2 (ZI E G) (L2 xq1 σ) 2 [(0, .ref (ad E 3)), (1, .int xq1)] [] σ) (xq1 : Int32)  (σ : Mm) : KR E G 2 (ZI E G) (f_X3_latestWord_L2  L2 xq1 σ) 2 [(0, .ref (ad E 3)), (1, .int xq1)] [] σ := by
  have F := B.1
  unfold f_X3_latestWord_L2
  refine k_iload_n (pc := 2) F 1 1 dX3_latestWord_2 rfl rfl ?_
  refine k_bipush (pc := 3) F (v := (9 : Int32)) dX3_latestWord_3 cb_9 ?_
  refine k_icmp_ge (pc := 5) F 27 dX3_latestWord_5 (by decide) (fun _ => ?_) (fun _ => ?_)
  · refine k_iconst (pc := 27) F (v := (-1 : Int32)) dX3_latestWord_27 ci_m1 ?_
    exact k_iret (pc := 28) B dX3_latestWord_28
  · refine k_aload_n (pc := 8) F 0 0 dX3_latestWord_8 rfl rfl ?_
    refine k_iload_n (pc := 9) F 1 1 dX3_latestWord_9 rfl rfl ?_
    refine k_callSK (pc := 10) B (As := [.int xq1]) (rest := [.ref (ad E 3)]) (ct_X3_spelling E xq1  σ) ms_X3_spelling w_2_137 rfl hR_X3_latestWord_X3_spelling rfl (Nat.le_of_ble_eq_true rfl) dX3_latestWord_10 (fun rq2 σ1 hoq => ?_)
    have hkqrq2 := f_X3_spelling_lt hoq
    refine k_callVI (pc := 13) B (k := 3) (As := [.ref (kA E rq2)]) (rest := []) (ct_X3_isLatest E rq2 hkqrq2 σ1) rfl rfl mv_X3_isLatest w_2_149 rfl hR_X3_latestWord_X3_isLatest rfl (Nat.le_of_ble_eq_true rfl) dX3_latestWord_13 (fun rq4 σ3 hoq => ?_)
    refine k_if_eq (pc := 16) F 21 dX3_latestWord_16 (by decide) (fun _ => ?_) (fun _ => ?_)
    · refine k_iinc (pc := 21) F (c := (1 : Int32)) (lw := fun wq => [(1, .int wq), (0, .ref (ad E 3))]) 1 1 dX3_latestWord_21 rfl ci_1 (by decide) (fun _ => rfl) (fun vq5 => ?_)
      refine k_goto (pc := 24) F 2 dX3_latestWord_24 (by decide) ?_
      exact k_sub [1, 0] rfl (hL2 vq5 σ3)
    · refine k_iload_n (pc := 19) F 1 1 dX3_latestWord_19 rfl rfl ?_
      exact k_iret (pc := 20) B dX3_latestWord_20
set_option maxHeartbeats 4000000 in
set_option maxRecDepth 100000 in
theorem t_X3_latestWord_L2 {E : En} {G : Cx} (B : Bx E G cX3_latestWord 2 RX3 H_X3_latestWord (some .int))    : ∀ (n : Nat) (xq1 : Int32)  (σ : Mm), KR E G 2 (ZI E G) (fx (fun _ _ => none) n (f_X3_latestWord_L2 ) xq1 σ) 2 [(0, .ref (ad E 3)), (1, .int xq1)] [] σ :=
  fun n => fx_ind (P := fun f => ∀ (xq1 : Int32)  (σ : Mm), KR E G 2 (ZI E G) (f xq1 σ) 2 [(0, .ref (ad E 3)), (1, .int xq1)] [] σ) (fun _ _ => k_none) (fun L2 hL2 xq1 σ => t_X3_latestWord_L2b B    L2 hL2 xq1 σ) n
set_option maxHeartbeats 4000000 in
set_option maxRecDepth 100000 in
theorem t_X3_latestWord {E : En} {G : Cx} (B : Bx E G cX3_latestWord 2 RX3 H_X3_latestWord (some .int))   (σ : Mm) : KR E G 2 (ZI E G) (f_X3_latestWord  σ) 0 [(0, .ref (ad E 3))] [] σ := by
  have F := B.1
  unfold f_X3_latestWord
  refine k_iconst (pc := 0) F (v := (0 : Int32)) dX3_latestWord_0 ci_0 ?_
  refine k_istore_n F (lv' := [(1, .int (0 : Int32)), (0, .ref (ad E 3))]) 1 dX3_latestWord_1 rfl (by decide) rfl ?_
  exact k_sub [1, 0] rfl (t_X3_latestWord_L2 B    FU (0 : Int32)  σ)
set_option maxHeartbeats 4000000 in
set_option maxRecDepth 100000 in
theorem ct_X3_latestWord (E : En)   (σ : Mm) : CtI E yX3_latestWord cX3_latestWord 2 (some .int) H_X3_latestWord [.ref (ad E 3)] σ (f_X3_latestWord  σ) := ct_I (by decide) (Nat.le_of_ble_eq_true rfl) rfl (fun G B => t_X3_latestWord B   σ)
abbrev H_X5_putPart : Nat := 0
set_option maxHeartbeats 4000000 in
set_option maxRecDepth 100000 in
theorem t_X5_putPart {E : En} {G : Cx} (B : Bx E G cX5_putPart 5 RX5 H_X5_putPart none) (aq0 : Int32) (aq1 : Int32) (aq2 : Int32) (aq3 : Int32)  (σ : Mm) : KR E G 5 (ZV E G) (f_X5_putPart aq0 aq1 aq2 aq3 σ) 0 [(0, .ref (ad E 7)), (1, .int aq0), (2, .int aq1), (3, .int aq2), (4, .int aq3)] [] σ := by
  have F := B.1
  unfold f_X5_putPart
  refine k_aload_n (pc := 0) F 0 0 dX5_putPart_0 rfl rfl ?_
  refine gf_7_2 (pc := 1) F w_1_105 dX5_putPart_1 ?_
  refine k_iload_n (pc := 4) F 1 1 dX5_putPart_4 rfl rfl ?_
  refine k_bipush (pc := 5) F (v := (7 : Int32)) dX5_putPart_5 cb_7 ?_
  refine k_imul (pc := 7) F dX5_putPart_7 ?_
  refine k_iload_n (pc := 8) F 2 2 dX5_putPart_8 rfl rfl ?_
  refine k_iadd (pc := 9) F dX5_putPart_9 ?_
  refine k_iconst (pc := 10) F (v := (5 : Int32)) dX5_putPart_10 ci_5 ?_
  refine k_imul (pc := 11) F dX5_putPart_11 ?_
  refine k_iload_n (pc := 12) F 3 3 dX5_putPart_12 rfl rfl ?_
  refine k_iadd (pc := 13) F dX5_putPart_13 ?_
  refine k_iload (pc := 14) F 4 4 dX5_putPart_14 rfl ?_
  refine k_iast (pc := 16) F rfl dX5_putPart_16 (fun σ1 => ?_)
  exact k_vret (pc := 17) B dX5_putPart_17
set_option maxHeartbeats 4000000 in
set_option maxRecDepth 100000 in
theorem ct_X5_putPart (E : En) (aq0 : Int32) (aq1 : Int32) (aq2 : Int32) (aq3 : Int32)  (σ : Mm) : CtV E yX5_putPart cX5_putPart 5 none H_X5_putPart [.ref (ad E 7), .int aq0, .int aq1, .int aq2, .int aq3] σ (f_X5_putPart aq0 aq1 aq2 aq3 σ) := ct_V (by decide) (Nat.le_of_ble_eq_true rfl) rfl (fun G B => t_X5_putPart B aq0 aq1 aq2 aq3  σ)
abbrev H_X3_readStep : Nat := 6
theorem hR_X3_readStep_X3_latestWord : H_X3_latestWord + 1 ≤ H_X3_readStep ∧ 8 + (2 + 11) + 40 * H_X3_latestWord ≤ 40 * H_X3_readStep := by decide
theorem hR_X3_readStep_X3_nextToken : H_X3_nextToken + 1 ≤ H_X3_readStep ∧ 8 + (1 + 11) + 40 * H_X3_nextToken ≤ 40 * H_X3_readStep := by decide
theorem hR_X3_readStep_X5_putPart : H_X5_putPart + 1 ≤ H_X3_readStep ∧ 8 + (5 + 11) + 40 * H_X5_putPart ≤ 40 * H_X3_readStep := by decide
theorem hR_X3_readStep_X3_highestOf : H_X3_highestOf + 1 ≤ H_X3_readStep ∧ 8 + (2 + 11) + 40 * H_X3_highestOf ≤ 40 * H_X3_readStep := by decide
set_option maxHeartbeats 4000000 in
set_option maxRecDepth 100000 in
theorem t_X3_readStep_105 {E : En} {G : Cx} (B : Bx E G cX3_readStep 6 RX3 H_X3_readStep (some .boolean)) (xq2 : Int32) (xq3 : Int32) (xq4 : Int32) (xq5 : Int32)  (L49 : Int32 → Mm → Option (Int32 × Mm)) (hL49 : ∀ (xq4 : Int32)  (σ : Mm), KR E G 6 (ZI E G) (L49 xq4 σ) 49 [(0, .ref (ad E 3)), (1, .ref (ad E 7)), (2, .int xq2), (3, .int xq3), (4, .int xq4)] [] σ)  (σ : Mm) : KR E G 6 (ZI E G) (f_X3_readStep_105 L49 xq2 xq3 xq4 xq5 σ) 105 [(0, .ref (ad E 3)), (1, .ref (ad E 7)), (2, .int xq2), (3, .int xq3), (4, .int xq4), (5, .int xq5)] [] σ := by
  have F := B.1
  unfold f_X3_readStep_105
  refine k_aload_n (pc := 105) F 1 1 dX3_readStep_105 rfl rfl ?_
  refine k_aload_n (pc := 106) F 1 1 dX3_readStep_106 rfl rfl ?_
  refine gf_7_0 (pc := 107) F w_1_97 dX3_readStep_107 ?_
  refine k_iload_n (pc := 110) F 2 2 dX3_readStep_110 rfl rfl ?_
  refine k_iload (pc := 111) F 4 4 dX3_readStep_111 rfl ?_
  refine k_iload (pc := 113) F 5 5 dX3_readStep_113 rfl ?_
  refine k_callVV (pc := 115) B (k := 7) (As := [.int (σ.1 7 0), .int xq2, .int xq4, .int xq5]) (rest := []) (ct_X5_putPart E (σ.1 7 0) xq2 xq4 xq5  σ) rfl rfl mv_X5_putPart w_2_203 rfl hR_X3_readStep_X5_putPart rfl (Nat.le_of_ble_eq_true rfl) dX3_readStep_115 (fun rq8 σ7 hoq => ?_)
  refine k_iinc (pc := 118) F (c := (1 : Int32)) (lw := fun wq => [(4, .int wq), (0, .ref (ad E 3)), (1, .ref (ad E 7)), (2, .int xq2), (3, .int xq3), (5, .int xq5)]) 4 4 dX3_readStep_118 rfl ci_1 (by decide) (fun _ => rfl) (fun vq9 => ?_)
  refine k_goto (pc := 121) F 49 dX3_readStep_121 (by decide) ?_
  exact k_sub [1, 2, 3, 4, 0] rfl (hL49 vq9 σ7)
set_option maxHeartbeats 4000000 in
set_option maxRecDepth 100000 in
theorem t_X3_readStep_L49b {E : En} {G : Cx} (B : Bx E G cX3_readStep 6 RX3 H_X3_readStep (some .boolean)) (xq2 : Int32) (xq3 : Int32)   (L49 : Int32 → Mm → Option (Int32 × Mm)) (hL49 : ∀ (xq4 : Int32)  (σ : Mm), KR E G 6 (ZI E G) (L49 xq4 σ) 49 [(0, .ref (ad E 3)), (1, .ref (ad E 7)), (2, .int xq2), (3, .int xq3), (4, .int xq4)] [] σ) (xq4 : Int32)  (σ : Mm) : KR E G 6 (ZI E G) (f_X3_readStep_L49 xq2 xq3 L49 xq4 σ) 49 [(0, .ref (ad E 3)), (1, .ref (ad E 7)), (2, .int xq2), (3, .int xq3), (4, .int xq4)] [] σ := by
  have F := B.1
  unfold f_X3_readStep_L49
  refine k_iload (pc := 49) F 4 4 dX3_readStep_49 rfl ?_
  refine k_iconst (pc := 51) F (v := (5 : Int32)) dX3_readStep_51 ci_5 ?_
  refine k_icmp_ge (pc := 52) F 124 dX3_readStep_52 (by decide) (fun _ => ?_) (fun _ => ?_)
  · refine k_iconst (pc := 124) F (v := (1 : Int32)) dX3_readStep_124 ci_1 ?_
    exact k_zret (pc := 125) B dX3_readStep_125
  · refine k_iconst (pc := 55) F (v := (-1 : Int32)) dX3_readStep_55 ci_m1 ?_
    refine k_istore F (lv' := [(5, .int (-1 : Int32)), (0, .ref (ad E 3)), (1, .ref (ad E 7)), (2, .int xq2), (3, .int xq3), (4, .int xq4)]) 5 dX3_readStep_56 (by decide) rfl ?_
    refine k_sget (pc := 58) F 3 (q := stQ3) rfl w_2_207 dX3_readStep_58 ?_
    refine k_iload_n (pc := 61) F 3 4 dX3_readStep_61 rfl rfl ?_
    refine k_sld (pc := 62) F 3 (q := stQ3) rfl dX3_readStep_62 ?_
    refine k_iload (pc := 63) F 4 5 dX3_readStep_63 rfl ?_
    refine k_ishr (pc := 65) F dX3_readStep_65 ?_
    refine k_iconst (pc := 66) F (v := (1 : Int32)) dX3_readStep_66 ci_1 ?_
    refine k_iand (pc := 67) F dX3_readStep_67 ?_
    refine k_iconst (pc := 68) F (v := (1 : Int32)) dX3_readStep_68 ci_1 ?_
    refine k_icmp_ne (pc := 69) F 105 dX3_readStep_69 (by decide) (fun _ => ?_) (fun _ => ?_)
    · refine k_aload_n (pc := 72) F 0 1 dX3_readStep_72 rfl rfl ?_
      refine k_callVV (pc := 73) B (k := 3) (As := []) (rest := []) (ct_X3_nextToken E   σ) rfl rfl mv_X3_nextToken w_2_123 rfl hR_X3_readStep_X3_nextToken rfl (Nat.le_of_ble_eq_true rfl) dX3_readStep_73 (fun rq11 σ10 hoq => ?_)
      refine k_aload_n (pc := 76) F 0 1 dX3_readStep_76 rfl rfl ?_
      refine gf_3_3 (pc := 77) F w_1_71 dX3_readStep_77 ?_
      refine k_iconst (pc := 80) F (v := (2 : Int32)) dX3_readStep_80 ci_2 ?_
      refine k_icmp_ne (pc := 81) F 97 dX3_readStep_81 (by decide) (fun _ => ?_) (fun _ => ?_)
      · refine k_aload_n (pc := 84) F 0 1 dX3_readStep_84 rfl rfl ?_
        refine gf_3_4 (pc := 85) F w_1_72 dX3_readStep_85 ?_
        refine k_iload (pc := 88) F 4 5 dX3_readStep_88 rfl ?_
        refine k_iload_n (pc := 90) F 2 3 dX3_readStep_90 rfl rfl ?_
        refine k_callSI (pc := 91) B (As := [.int xq4, .int xq2]) (rest := [.int (σ10.1 3 4)]) (ct_X3_highestOf E xq4 xq2  σ10) ms_X3_highestOf w_2_209 rfl hR_X3_readStep_X3_highestOf rfl (Nat.le_of_ble_eq_true rfl) dX3_readStep_91 (fun rq13 σ12 hoq => ?_)
        refine k_icmp_le (pc := 94) F 99 dX3_readStep_94 (by decide) (fun _ => ?_) (fun _ => ?_)
        · refine k_aload_n (pc := 99) F 0 1 dX3_readStep_99 rfl rfl ?_
          refine gf_3_4 (pc := 100) F w_1_72 dX3_readStep_100 ?_
          refine k_nmI (fun vq14 => ?_)
          refine k_istore F (lv' := [(5, .int vq14), (0, .ref (ad E 3)), (1, .ref (ad E 7)), (2, .int xq2), (3, .int xq3), (4, .int xq4)]) 5 dX3_readStep_103 (by decide) rfl ?_
          exact k_sub [1, 2, 3, 4, 5, 0] rfl (t_X3_readStep_105 B xq2 xq3 xq4 vq14  L49 hL49  σ12)
        · refine k_iconst (pc := 97) F (v := (0 : Int32)) dX3_readStep_97 ci_0 ?_
          exact k_zret (pc := 98) B dX3_readStep_98
      · refine k_iconst (pc := 97) F (v := (0 : Int32)) dX3_readStep_97 ci_0 ?_
        exact k_zret (pc := 98) B dX3_readStep_98
    · exact k_sub [1, 2, 3, 4, 5, 0] rfl (t_X3_readStep_105 B xq2 xq3 xq4 (-1 : Int32)  L49 hL49  σ)
set_option maxHeartbeats 4000000 in
set_option maxRecDepth 100000 in
theorem t_X3_readStep_L49 {E : En} {G : Cx} (B : Bx E G cX3_readStep 6 RX3 H_X3_readStep (some .boolean)) (xq2 : Int32) (xq3 : Int32)   : ∀ (n : Nat) (xq4 : Int32)  (σ : Mm), KR E G 6 (ZI E G) (fx (fun _ _ => none) n (f_X3_readStep_L49 xq2 xq3) xq4 σ) 49 [(0, .ref (ad E 3)), (1, .ref (ad E 7)), (2, .int xq2), (3, .int xq3), (4, .int xq4)] [] σ :=
  fun n => fx_ind (P := fun f => ∀ (xq4 : Int32)  (σ : Mm), KR E G 6 (ZI E G) (f xq4 σ) 49 [(0, .ref (ad E 3)), (1, .ref (ad E 7)), (2, .int xq2), (3, .int xq3), (4, .int xq4)] [] σ) (fun _ _ => k_none) (fun L49 hL49 xq4 σ => t_X3_readStep_L49b B xq2 xq3   L49 hL49 xq4 σ) n
set_option maxHeartbeats 4000000 in
set_option maxRecDepth 100000 in
theorem t_X3_readStep {E : En} {G : Cx} (B : Bx E G cX3_readStep 6 RX3 H_X3_readStep (some .boolean)) (aq1 : Int32)  (σ : Mm) : KR E G 6 (ZI E G) (f_X3_readStep aq1 σ) 0 [(0, .ref (ad E 3)), (1, .ref (ad E 7)), (2, .int aq1)] [] σ := by
  have F := B.1
  unfold f_X3_readStep
  refine k_aload_n (pc := 0) F 0 0 dX3_readStep_0 rfl rfl ?_
  refine k_callVV (pc := 1) B (k := 3) (As := []) (rest := []) (ct_X3_nextToken E   σ) rfl rfl mv_X3_nextToken w_2_123 rfl hR_X3_readStep_X3_nextToken rfl (Nat.le_of_ble_eq_true rfl) dX3_readStep_1 (fun rq2 σ1 hoq => ?_)
  refine k_aload_n (pc := 4) F 0 0 dX3_readStep_4 rfl rfl ?_
  refine gf_3_3 (pc := 5) F w_1_71 dX3_readStep_5 ?_
  refine k_iconst (pc := 8) F (v := (1 : Int32)) dX3_readStep_8 ci_1 ?_
  refine k_icmp_ne (pc := 9) F 18 dX3_readStep_9 (by decide) (fun _ => ?_) (fun _ => ?_)
  · refine k_iload_n (pc := 12) F 2 2 dX3_readStep_12 rfl rfl ?_
    refine k_bipush (pc := 13) F (v := (7 : Int32)) dX3_readStep_13 cb_7 ?_
    refine k_icmp_lt (pc := 15) F 20 dX3_readStep_15 (by decide) (fun _ => ?_) (fun _ => ?_)
    · refine k_aload_n (pc := 20) F 0 0 dX3_readStep_20 rfl rfl ?_
      refine k_callVI (pc := 21) B (k := 3) (As := []) (rest := []) (ct_X3_latestWord E   σ1) rfl rfl mv_X3_latestWord w_2_133 rfl hR_X3_readStep_X3_latestWord rfl (Nat.le_of_ble_eq_true rfl) dX3_readStep_21 (fun rq4 σ3 hoq => ?_)
      refine k_istore_n F (lv' := [(3, .int rq4), (0, .ref (ad E 3)), (1, .ref (ad E 7)), (2, .int aq1)]) 3 dX3_readStep_24 rfl (by decide) rfl ?_
      refine k_iload_n (pc := 25) F 3 0 dX3_readStep_25 rfl rfl ?_
      refine k_if_ge (pc := 26) F 31 dX3_readStep_26 (by decide) (fun _ => ?_) (fun _ => ?_)
      · refine k_aload_n (pc := 31) F 1 2 dX3_readStep_31 rfl rfl ?_
        refine k_aload_n (pc := 32) F 1 2 dX3_readStep_32 rfl rfl ?_
        refine gf_7_0 (pc := 33) F w_1_97 dX3_readStep_33 ?_
        refine k_iload_n (pc := 36) F 2 3 dX3_readStep_36 rfl rfl ?_
        refine k_iconst (pc := 37) F (v := (0 : Int32)) dX3_readStep_37 ci_0 ?_
        refine k_sget (pc := 38) F 2 (q := stQ2) rfl w_2_201 dX3_readStep_38 ?_
        refine k_iload_n (pc := 41) F 3 0 dX3_readStep_41 rfl rfl ?_
        refine k_sld (pc := 42) F 2 (q := stQ2) rfl dX3_readStep_42 ?_
        refine k_callVV (pc := 43) B (k := 7) (As := [.int (σ3.1 7 0), .int aq1, .int (0 : Int32), .int (stV2 (ix rq4))]) (rest := []) (ct_X5_putPart E (σ3.1 7 0) aq1 (0 : Int32) (stV2 (ix rq4))  σ3) rfl rfl mv_X5_putPart w_2_203 rfl hR_X3_readStep_X5_putPart rfl (Nat.le_of_ble_eq_true rfl) dX3_readStep_43 (fun rq6 σ5 hoq => ?_)
        refine k_iconst (pc := 46) F (v := (1 : Int32)) dX3_readStep_46 ci_1 ?_
        refine k_istore F (lv' := [(4, .int (1 : Int32)), (3, .int rq4), (0, .ref (ad E 3)), (1, .ref (ad E 7)), (2, .int aq1)]) 4 dX3_readStep_47 (by decide) rfl ?_
        exact k_sub [2, 3, 4, 1, 0] rfl (t_X3_readStep_L49 B aq1 rq4   FU (1 : Int32)  σ5)
      · refine k_iconst (pc := 29) F (v := (0 : Int32)) dX3_readStep_29 ci_0 ?_
        exact k_zret (pc := 30) B dX3_readStep_30
    · refine k_iconst (pc := 18) F (v := (0 : Int32)) dX3_readStep_18 ci_0 ?_
      exact k_zret (pc := 19) B dX3_readStep_19
  · refine k_iconst (pc := 18) F (v := (0 : Int32)) dX3_readStep_18 ci_0 ?_
    exact k_zret (pc := 19) B dX3_readStep_19
set_option maxHeartbeats 4000000 in
set_option maxRecDepth 100000 in
theorem ct_X3_readStep (E : En) (aq1 : Int32)  (σ : Mm) : CtI E yX3_readStep cX3_readStep 6 (some .boolean) H_X3_readStep [.ref (ad E 3), .ref (ad E 7), .int aq1] σ (f_X3_readStep aq1 σ) := ct_I (by decide) (Nat.le_of_ble_eq_true rfl) rfl (fun G B => t_X3_readStep B aq1  σ)
abbrev H_X3_faultOfNewCall : Nat := 7
theorem hR_X3_faultOfNewCall_X3_readStep : H_X3_readStep + 1 ≤ H_X3_faultOfNewCall ∧ 8 + (6 + 11) + 40 * H_X3_readStep ≤ 40 * H_X3_faultOfNewCall := by decide
theorem hR_X3_faultOfNewCall_X3_nextToken : H_X3_nextToken + 1 ≤ H_X3_faultOfNewCall ∧ 8 + (1 + 11) + 40 * H_X3_nextToken ≤ 40 * H_X3_faultOfNewCall := by decide
set_option maxHeartbeats 4000000 in
set_option maxRecDepth 100000 in
theorem t_X3_faultOfNewCall_L7b {E : En} {G : Cx} (B : Bx E G cX3_faultOfNewCall 3 RX3 H_X3_faultOfNewCall (some .int))   (K38 : Int32 → Mm → Option (Int32 × Mm)) (hK38 : ∀ (xq2 : Int32)  (σ : Mm), KR E G 3 (ZI E G) (K38 xq2 σ) 38 [(1, .ref (ad E 7)), (2, .int xq2)] [] σ)  (L7 : Int32 → Mm → Option (Int32 × Mm)) (hL7 : ∀ (xq2 : Int32)  (σ : Mm), KR E G 3 (ZI E G) (L7 xq2 σ) 7 [(0, .ref (ad E 3)), (1, .ref (ad E 7)), (2, .int xq2)] [] σ) (xq2 : Int32)  (σ : Mm) : KR E G 3 (ZI E G) (f_X3_faultOfNewCall_L7 K38  L7 xq2 σ) 7 [(0, .ref (ad E 3)), (1, .ref (ad E 7)), (2, .int xq2)] [] σ := by
  have F := B.1
  unfold f_X3_faultOfNewCall_L7
  refine k_iload_n (pc := 7) F 2 2 dX3_faultOfNewCall_7 rfl rfl ?_
  refine k_bipush (pc := 8) F (v := (7 : Int32)) dX3_faultOfNewCall_8 cb_7 ?_
  refine k_icmp_gt (pc := 10) F 81 dX3_faultOfNewCall_10 (by decide) (fun _ => ?_) (fun _ => ?_)
  · refine k_aload_n (pc := 81) F 0 0 dX3_faultOfNewCall_81 rfl rfl ?_
    refine gf_3_2 (pc := 82) F w_1_70 dX3_faultOfNewCall_82 ?_
    exact k_iret (pc := 85) B dX3_faultOfNewCall_85
  · refine k_aload_n (pc := 13) F 0 0 dX3_faultOfNewCall_13 rfl rfl ?_
    refine k_aload_n (pc := 14) F 1 1 dX3_faultOfNewCall_14 rfl rfl ?_
    refine k_iload_n (pc := 15) F 2 2 dX3_faultOfNewCall_15 rfl rfl ?_
    refine k_callVI (pc := 16) B (k := 3) (As := [.ref (ad E 7), .int xq2]) (rest := []) (ct_X3_readStep E xq2  σ) rfl rfl mv_X3_readStep w_2_119 rfl hR_X3_faultOfNewCall_X3_readStep rfl (Nat.le_of_ble_eq_true rfl) dX3_faultOfNewCall_16 (fun rq3 σ2 hoq => ?_)
    refine k_if_ne (pc := 19) F 27 dX3_faultOfNewCall_19 (by decide) (fun _ => ?_) (fun _ => ?_)
    · refine k_aload_n (pc := 22) F 0 0 dX3_faultOfNewCall_22 rfl rfl ?_
      refine gf_3_2 (pc := 23) F w_1_70 dX3_faultOfNewCall_23 ?_
      exact k_iret (pc := 26) B dX3_faultOfNewCall_26
    · refine k_aload_n (pc := 27) F 0 0 dX3_faultOfNewCall_27 rfl rfl ?_
      refine k_callVV (pc := 28) B (k := 3) (As := []) (rest := []) (ct_X3_nextToken E   σ2) rfl rfl mv_X3_nextToken w_2_123 rfl hR_X3_faultOfNewCall_X3_nextToken rfl (Nat.le_of_ble_eq_true rfl) dX3_faultOfNewCall_28 (fun rq5 σ4 hoq => ?_)
      refine k_aload_n (pc := 31) F 0 0 dX3_faultOfNewCall_31 rfl rfl ?_
      refine gf_3_3 (pc := 32) F w_1_71 dX3_faultOfNewCall_32 ?_
      refine k_if_ne (pc := 35) F 62 dX3_faultOfNewCall_35 (by decide) (fun _ => ?_) (fun _ => ?_)
      · exact k_sub [1, 2] rfl (hK38 xq2 σ4)
      · refine k_aload_n (pc := 62) F 0 0 dX3_faultOfNewCall_62 rfl rfl ?_
        refine gf_3_3 (pc := 63) F w_1_71 dX3_faultOfNewCall_63 ?_
        refine k_iconst (pc := 66) F (v := (3 : Int32)) dX3_faultOfNewCall_66 ci_3 ?_
        refine k_icmp_eq (pc := 67) F 75 dX3_faultOfNewCall_67 (by decide) (fun _ => ?_) (fun _ => ?_)
        · refine k_iinc (pc := 75) F (c := (1 : Int32)) (lw := fun wq => [(2, .int wq), (0, .ref (ad E 3)), (1, .ref (ad E 7))]) 2 2 dX3_faultOfNewCall_75 rfl ci_1 (by decide) (fun _ => rfl) (fun vq6 => ?_)
          refine k_goto (pc := 78) F 7 dX3_faultOfNewCall_78 (by decide) ?_
          exact k_sub [1, 2, 0] rfl (hL7 vq6 σ4)
        · refine k_aload_n (pc := 70) F 0 0 dX3_faultOfNewCall_70 rfl rfl ?_
          refine gf_3_2 (pc := 71) F w_1_70 dX3_faultOfNewCall_71 ?_
          exact k_iret (pc := 74) B dX3_faultOfNewCall_74
set_option maxHeartbeats 4000000 in
set_option maxRecDepth 100000 in
theorem t_X3_faultOfNewCall_L7 {E : En} {G : Cx} (B : Bx E G cX3_faultOfNewCall 3 RX3 H_X3_faultOfNewCall (some .int))   (K38 : Int32 → Mm → Option (Int32 × Mm)) (hK38 : ∀ (xq2 : Int32)  (σ : Mm), KR E G 3 (ZI E G) (K38 xq2 σ) 38 [(1, .ref (ad E 7)), (2, .int xq2)] [] σ)  : ∀ (n : Nat) (xq2 : Int32)  (σ : Mm), KR E G 3 (ZI E G) (fx (fun _ _ => none) n (f_X3_faultOfNewCall_L7 K38 ) xq2 σ) 7 [(0, .ref (ad E 3)), (1, .ref (ad E 7)), (2, .int xq2)] [] σ :=
  fun n => fx_ind (P := fun f => ∀ (xq2 : Int32)  (σ : Mm), KR E G 3 (ZI E G) (f xq2 σ) 7 [(0, .ref (ad E 3)), (1, .ref (ad E 7)), (2, .int xq2)] [] σ) (fun _ _ => k_none) (fun L7 hL7 xq2 σ => t_X3_faultOfNewCall_L7b B   K38 hK38  L7 hL7 xq2 σ) n
set_option maxHeartbeats 4000000 in
set_option maxRecDepth 100000 in
theorem t_X3_faultOfNewCall_38 {E : En} {G : Cx} (B : Bx E G cX3_faultOfNewCall 3 RX3 H_X3_faultOfNewCall (some .int)) (xq2 : Int32)   (σ : Mm) : KR E G 3 (ZI E G) (f_X3_faultOfNewCall_38 xq2 σ) 38 [(1, .ref (ad E 7)), (2, .int xq2)] [] σ := by
  have F := B.1
  unfold f_X3_faultOfNewCall_38
  refine k_aload_n (pc := 38) F 1 0 dX3_faultOfNewCall_38 rfl rfl ?_
  refine gf_7_1 (pc := 39) F w_1_101 dX3_faultOfNewCall_39 ?_
  refine k_aload_n (pc := 42) F 1 0 dX3_faultOfNewCall_42 rfl rfl ?_
  refine gf_7_0 (pc := 43) F w_1_97 dX3_faultOfNewCall_43 ?_
  refine k_iload_n (pc := 46) F 2 1 dX3_faultOfNewCall_46 rfl rfl ?_
  refine k_iconst (pc := 47) F (v := (1 : Int32)) dX3_faultOfNewCall_47 ci_1 ?_
  refine k_iadd (pc := 48) F dX3_faultOfNewCall_48 ?_
  refine k_iast (pc := 49) F rfl dX3_faultOfNewCall_49 (fun σ7 => ?_)
  refine k_aload_n (pc := 50) F 1 0 dX3_faultOfNewCall_50 rfl rfl ?_
  refine k_dup (pc := 51) F dX3_faultOfNewCall_51 rfl ?_
  refine gf_7_0 (pc := 52) F w_1_97 dX3_faultOfNewCall_52 ?_
  refine k_iconst (pc := 55) F (v := (1 : Int32)) dX3_faultOfNewCall_55 ci_1 ?_
  refine k_iadd (pc := 56) F dX3_faultOfNewCall_56 ?_
  refine pf_7_0 (pc := 57) F w_1_97 dX3_faultOfNewCall_57 (fun σ8 => ?_)
  refine k_iconst (pc := 60) F (v := (-1 : Int32)) dX3_faultOfNewCall_60 ci_m1 ?_
  exact k_iret (pc := 61) B dX3_faultOfNewCall_61
set_option maxHeartbeats 4000000 in
set_option maxRecDepth 100000 in
theorem t_X3_faultOfNewCall {E : En} {G : Cx} (B : Bx E G cX3_faultOfNewCall 3 RX3 H_X3_faultOfNewCall (some .int))   (σ : Mm) : KR E G 3 (ZI E G) (f_X3_faultOfNewCall  σ) 0 [(0, .ref (ad E 3)), (1, .ref (ad E 7))] [] σ := by
  have F := B.1
  unfold f_X3_faultOfNewCall
  refine k_aload_n (pc := 0) F 0 0 dX3_faultOfNewCall_0 rfl rfl ?_
  refine k_iconst (pc := 1) F (v := (0 : Int32)) dX3_faultOfNewCall_1 ci_0 ?_
  refine pf_3_1 (pc := 2) F w_1_69 dX3_faultOfNewCall_2 (fun σ1 => ?_)
  refine k_iconst (pc := 5) F (v := (0 : Int32)) dX3_faultOfNewCall_5 ci_0 ?_
  refine k_istore_n F (lv' := [(2, .int (0 : Int32)), (0, .ref (ad E 3)), (1, .ref (ad E 7))]) 2 dX3_faultOfNewCall_6 rfl (by decide) rfl ?_
  exact k_sub [1, 2, 0] rfl (t_X3_faultOfNewCall_L7 B   _ (fun xq2  σ => by
        exact k_sub [0, 1] rfl (t_X3_faultOfNewCall_38 B xq2   σ)) FU (0 : Int32)  σ1)
set_option maxHeartbeats 4000000 in
set_option maxRecDepth 100000 in
theorem ct_X3_faultOfNewCall (E : En)   (σ : Mm) : CtI E yX3_faultOfNewCall cX3_faultOfNewCall 3 (some .int) H_X3_faultOfNewCall [.ref (ad E 3), .ref (ad E 7)] σ (f_X3_faultOfNewCall  σ) := ct_I (by decide) (Nat.le_of_ble_eq_true rfl) rfl (fun G B => t_X3_faultOfNewCall B   σ)
abbrev H_X4_placeFor : Nat := 0
set_option maxHeartbeats 4000000 in
set_option maxRecDepth 100000 in
theorem t_X4_placeFor_51 {E : En} {G : Cx} (B : Bx E G cX4_placeFor 6 RX4 H_X4_placeFor (some .int)) (kq0 : Nat) (xq1 : Int32) (xq2 : Int32) (xq3 : Int32) (xq4 : Int32) (hkq0 : isRow kq0) (L10 : Int32 → Int32 → Int32 → Mm → Option (Int32 × Mm)) (hL10 : ∀ (xq2 : Int32) (xq3 : Int32) (xq4 : Int32)  (σ : Mm), KR E G 6 (ZI E G) (L10 xq2 xq3 xq4 σ) 10 [(0, .ref (ad E kq0)), (1, .int xq1), (2, .int xq2), (3, .int xq3), (4, .int xq4)] [] σ)  (σ : Mm) : KR E G 6 (ZI E G) (f_X4_placeFor_51 L10 kq0 xq1 xq2 xq3 xq4 σ) 51 [(0, .ref (ad E kq0)), (1, .int xq1), (2, .int xq2), (3, .int xq3), (4, .int xq4)] [] σ := by
  have F := B.1
  unfold f_X4_placeFor_51
  refine k_iinc (pc := 51) F (c := (1 : Int32)) (lw := fun wq => [(4, .int wq), (0, .ref (ad E kq0)), (1, .int xq1), (2, .int xq2), (3, .int xq3)]) 4 4 dX4_placeFor_51 rfl ci_1 (by decide) (fun _ => rfl) (fun vq3 => ?_)
  refine k_goto (pc := 54) F 10 dX4_placeFor_54 (by decide) ?_
  exact k_sub [1, 2, 3, 4, 0] rfl (hL10 xq2 xq3 vq3 σ)
set_option maxHeartbeats 4000000 in
set_option maxRecDepth 100000 in
theorem t_X4_placeFor_L10b {E : En} {G : Cx} (B : Bx E G cX4_placeFor 6 RX4 H_X4_placeFor (some .int)) (kq0 : Nat) (xq1 : Int32) (hkq0 : isRow kq0)  (L10 : Int32 → Int32 → Int32 → Mm → Option (Int32 × Mm)) (hL10 : ∀ (xq2 : Int32) (xq3 : Int32) (xq4 : Int32)  (σ : Mm), KR E G 6 (ZI E G) (L10 xq2 xq3 xq4 σ) 10 [(0, .ref (ad E kq0)), (1, .int xq1), (2, .int xq2), (3, .int xq3), (4, .int xq4)] [] σ) (xq2 : Int32) (xq3 : Int32) (xq4 : Int32)  (σ : Mm) : KR E G 6 (ZI E G) (f_X4_placeFor_L10 kq0 xq1 L10 xq2 xq3 xq4 σ) 10 [(0, .ref (ad E kq0)), (1, .int xq1), (2, .int xq2), (3, .int xq3), (4, .int xq4)] [] σ := by
  have F := B.1
  unfold f_X4_placeFor_L10
  refine k_iload (pc := 10) F 4 4 dX4_placeFor_10 rfl ?_
  refine k_bipush (pc := 12) F (v := (32 : Int32)) dX4_placeFor_12 cb_32 ?_
  refine k_icmp_ge (pc := 14) F 57 dX4_placeFor_14 (by decide) (fun _ => ?_) (fun _ => ?_)
  · refine k_iload_n (pc := 57) F 2 2 dX4_placeFor_57 rfl rfl ?_
    exact k_iret (pc := 58) B dX4_placeFor_58
  · refine k_iload_n (pc := 17) F 2 2 dX4_placeFor_17 rfl rfl ?_
    refine k_iload_n (pc := 18) F 3 3 dX4_placeFor_18 rfl rfl ?_
    refine k_icmp_ge (pc := 19) F 57 dX4_placeFor_19 (by decide) (fun _ => ?_) (fun _ => ?_)
    · refine k_iload_n (pc := 57) F 2 2 dX4_placeFor_57 rfl rfl ?_
      exact k_iret (pc := 58) B dX4_placeFor_58
    · refine k_iload_n (pc := 22) F 2 2 dX4_placeFor_22 rfl rfl ?_
      refine k_iload_n (pc := 23) F 3 3 dX4_placeFor_23 rfl rfl ?_
      refine k_iadd (pc := 24) F dX4_placeFor_24 ?_
      refine k_iconst (pc := 25) F (v := (2 : Int32)) dX4_placeFor_25 ci_2 ?_
      refine k_idiv (pc := 26) F dX4_placeFor_26 (by decide) ?_
      refine k_nmI (fun vq2 => ?_)
      refine k_istore F (lv' := [(5, .int vq2), (0, .ref (ad E kq0)), (1, .int xq1), (2, .int xq2), (3, .int xq3), (4, .int xq4)]) 5 dX4_placeFor_27 (by decide) rfl ?_
      refine k_aload_n (pc := 29) F 0 1 dX4_placeFor_29 rfl rfl ?_
      refine gf_isRow_0 (pc := 30) F hkq0 w_1_219 dX4_placeFor_30 ?_
      refine k_iload (pc := 33) F 5 0 dX4_placeFor_33 rfl ?_
      refine k_iald (pc := 35) F (isRow_a1 hkq0) dX4_placeFor_35 ?_
      refine k_iload_n (pc := 36) F 1 2 dX4_placeFor_36 rfl rfl ?_
      refine k_icmp_ge (pc := 37) F 48 dX4_placeFor_37 (by decide) (fun _ => ?_) (fun _ => ?_)
      · refine k_iload (pc := 48) F 5 0 dX4_placeFor_48 rfl ?_
        refine k_istore_n F (lv' := [(3, .int vq2), (5, .int vq2), (0, .ref (ad E kq0)), (1, .int xq1), (2, .int xq2), (4, .int xq4)]) 3 dX4_placeFor_50 rfl (by decide) rfl ?_
        exact k_sub [2, 3, 4, 0, 5] rfl (t_X4_placeFor_51 B kq0 xq1 xq2 vq2 xq4 hkq0 L10 hL10  σ)
      · refine k_iload (pc := 40) F 5 0 dX4_placeFor_40 rfl ?_
        refine k_iconst (pc := 42) F (v := (1 : Int32)) dX4_placeFor_42 ci_1 ?_
        refine k_iadd (pc := 43) F dX4_placeFor_43 ?_
        refine k_nmI (fun vq4 => ?_)
        refine k_istore_n F (lv' := [(2, .int vq4), (5, .int vq2), (0, .ref (ad E kq0)), (1, .int xq1), (3, .int xq3), (4, .int xq4)]) 2 dX4_placeFor_44 rfl (by decide) rfl ?_
        refine k_goto (pc := 45) F 51 dX4_placeFor_45 (by decide) ?_
        exact k_sub [2, 3, 0, 4, 5] rfl (t_X4_placeFor_51 B kq0 xq1 vq4 xq3 xq4 hkq0 L10 hL10  σ)
set_option maxHeartbeats 4000000 in
set_option maxRecDepth 100000 in
theorem t_X4_placeFor_L10 {E : En} {G : Cx} (B : Bx E G cX4_placeFor 6 RX4 H_X4_placeFor (some .int)) (kq0 : Nat) (xq1 : Int32) (hkq0 : isRow kq0)  : ∀ (n : Nat) (xq2 : Int32) (xq3 : Int32) (xq4 : Int32)  (σ : Mm), KR E G 6 (ZI E G) (fx (fun _ _ _ _ => none) n (f_X4_placeFor_L10 kq0 xq1) xq2 xq3 xq4 σ) 10 [(0, .ref (ad E kq0)), (1, .int xq1), (2, .int xq2), (3, .int xq3), (4, .int xq4)] [] σ :=
  fun n => fx_ind (P := fun f => ∀ (xq2 : Int32) (xq3 : Int32) (xq4 : Int32)  (σ : Mm), KR E G 6 (ZI E G) (f xq2 xq3 xq4 σ) 10 [(0, .ref (ad E kq0)), (1, .int xq1), (2, .int xq2), (3, .int xq3), (4, .int xq4)] [] σ) (fun _ _ _ _ => k_none) (fun L10 hL10 xq2 xq3 xq4 σ => t_X4_placeFor_L10b B kq0 xq1 hkq0  L10 hL10 xq2 xq3 xq4 σ) n
set_option maxHeartbeats 4000000 in
set_option maxRecDepth 100000 in
theorem t_X4_placeFor {E : En} {G : Cx} (B : Bx E G cX4_placeFor 6 RX4 H_X4_placeFor (some .int)) (kq : Nat) (aq0 : Int32) (hkq : isRow kq) (σ : Mm) : KR E G 6 (ZI E G) (f_X4_placeFor kq aq0 σ) 0 [(0, .ref (ad E kq)), (1, .int aq0)] [] σ := by
  have F := B.1
  unfold f_X4_placeFor
  refine k_iconst (pc := 0) F (v := (0 : Int32)) dX4_placeFor_0 ci_0 ?_
  refine k_istore_n F (lv' := [(2, .int (0 : Int32)), (0, .ref (ad E kq)), (1, .int aq0)]) 2 dX4_placeFor_1 rfl (by decide) rfl ?_
  refine k_aload_n (pc := 2) F 0 1 dX4_placeFor_2 rfl rfl ?_
  refine gf_isRow_1 (pc := 3) F hkq w_1_222 dX4_placeFor_3 ?_
  refine k_nmI (fun vq1 => ?_)
  refine k_istore_n F (lv' := [(3, .int vq1), (2, .int (0 : Int32)), (0, .ref (ad E kq)), (1, .int aq0)]) 3 dX4_placeFor_6 rfl (by decide) rfl ?_
  refine k_iconst (pc := 7) F (v := (0 : Int32)) dX4_placeFor_7 ci_0 ?_
  refine k_istore F (lv' := [(4, .int (0 : Int32)), (3, .int vq1), (2, .int (0 : Int32)), (0, .ref (ad E kq)), (1, .int aq0)]) 4 dX4_placeFor_8 (by decide) rfl ?_
  exact k_sub [3, 4, 2, 1, 0] rfl (t_X4_placeFor_L10 B kq aq0 hkq  FU (0 : Int32) vq1 (0 : Int32)  σ)
set_option maxHeartbeats 4000000 in
set_option maxRecDepth 100000 in
theorem ct_X4_placeFor (E : En) (kq : Nat) (aq0 : Int32) (hkq : isRow kq) (σ : Mm) : CtI E yX4_placeFor cX4_placeFor 6 (some .int) H_X4_placeFor [.ref (ad E kq), .int aq0] σ (f_X4_placeFor kq aq0 σ) := ct_I (by decide) (Nat.le_of_ble_eq_true rfl) rfl (fun G B => t_X4_placeFor B kq aq0 hkq σ)
abbrev H_X4_holds : Nat := 1
theorem hR_X4_holds_X4_placeFor : H_X4_placeFor + 1 ≤ H_X4_holds ∧ 8 + (6 + 11) + 40 * H_X4_placeFor ≤ 40 * H_X4_holds := by decide
set_option maxHeartbeats 4000000 in
set_option maxRecDepth 100000 in
theorem t_X4_holds_28 {E : En} {G : Cx} (B : Bx E G cX4_holds 3 RX4 H_X4_holds (some .boolean))    (σ : Mm) : KR E G 3 (ZI E G) (f_X4_holds_28  σ) 28 [] [] σ := by
  have F := B.1
  unfold f_X4_holds_28
  refine k_iconst (pc := 28) F (v := (0 : Int32)) dX4_holds_28 ci_0 ?_
  exact k_zret (pc := 29) B dX4_holds_29
set_option maxHeartbeats 4000000 in
set_option maxRecDepth 100000 in
theorem t_X4_holds {E : En} {G : Cx} (B : Bx E G cX4_holds 3 RX4 H_X4_holds (some .boolean)) (aq0 : Int32)  (σ : Mm) : KR E G 3 (ZI E G) (f_X4_holds aq0 σ) 0 [(0, .ref (ad E 28)), (1, .int aq0)] [] σ := by
  have F := B.1
  unfold f_X4_holds
  refine k_aload_n (pc := 0) F 0 0 dX4_holds_0 rfl rfl ?_
  refine k_iload_n (pc := 1) F 1 1 dX4_holds_1 rfl rfl ?_
  refine k_callVI (pc := 2) B (k := 28) (As := [.int aq0]) (rest := []) (ct_X4_placeFor E 28 aq0 isRow_28 σ) rfl rfl mv_X4_placeFor w_3_134 rfl hR_X4_holds_X4_placeFor rfl (Nat.le_of_ble_eq_true rfl) dX4_holds_2 (fun rq2 σ1 hoq => ?_)
  refine k_istore_n F (lv' := [(2, .int rq2), (0, .ref (ad E 28)), (1, .int aq0)]) 2 dX4_holds_5 rfl (by decide) rfl ?_
  refine k_iload_n (pc := 6) F 2 0 dX4_holds_6 rfl rfl ?_
  refine k_aload_n (pc := 7) F 0 1 dX4_holds_7 rfl rfl ?_
  refine gf_isRow_1 (pc := 8) F isRow_28 w_1_222 dX4_holds_8 ?_
  refine k_icmp_ge (pc := 11) F 28 dX4_holds_11 (by decide) (fun _ => ?_) (fun _ => ?_)
  · exact k_sub [] rfl (t_X4_holds_28 B    σ1)
  · refine k_aload_n (pc := 14) F 0 1 dX4_holds_14 rfl rfl ?_
    refine gf_isRow_0 (pc := 15) F isRow_28 w_1_219 dX4_holds_15 ?_
    refine k_iload_n (pc := 18) F 2 0 dX4_holds_18 rfl rfl ?_
    refine k_iald (pc := 19) F rfl dX4_holds_19 ?_
    refine k_iload_n (pc := 20) F 1 2 dX4_holds_20 rfl rfl ?_
    refine k_icmp_ne (pc := 21) F 28 dX4_holds_21 (by decide) (fun _ => ?_) (fun _ => ?_)
    · refine k_iconst (pc := 24) F (v := (1 : Int32)) dX4_holds_24 ci_1 ?_
      refine k_goto (pc := 25) F 29 dX4_holds_25 (by decide) ?_
      exact k_zret (pc := 29) B dX4_holds_29
    · exact k_sub [] rfl (t_X4_holds_28 B    σ1)
set_option maxHeartbeats 4000000 in
set_option maxRecDepth 100000 in
theorem ct_X4_holds (E : En) (aq0 : Int32)  (σ : Mm) : CtI E yX4_holds cX4_holds 3 (some .boolean) H_X4_holds [.ref (ad E 28), .int aq0] σ (f_X4_holds aq0 σ) := ct_I (by decide) (Nat.le_of_ble_eq_true rfl) rfl (fun G B => t_X4_holds B aq0  σ)
abbrev H_X4_include : Nat := 1
theorem hR_X4_include_X4_placeFor : H_X4_placeFor + 1 ≤ H_X4_include ∧ 8 + (6 + 11) + 40 * H_X4_placeFor ≤ 40 * H_X4_include := by decide
set_option maxHeartbeats 4000000 in
set_option maxRecDepth 100000 in
theorem t_X4_include_24 {E : En} {G : Cx} (B : Bx E G cX4_include 3 RX4 H_X4_include none) (kq0 : Nat) (xq1 : Int32) (xq2 : Int32) (hkq0 : isRow kq0)  (σ : Mm) : KR E G 3 (ZV E G) (f_X4_include_24 kq0 xq1 xq2 σ) 24 [(0, .ref (ad E kq0)), (1, .int xq1), (2, .int xq2)] [] σ := by
  have F := B.1
  unfold f_X4_include_24
  refine k_aload_n (pc := 24) F 0 0 dX4_include_24 rfl rfl ?_
  refine gf_isRow_1 (pc := 25) F hkq0 w_1_222 dX4_include_25 ?_
  refine k_aload_n (pc := 28) F 0 0 dX4_include_28 rfl rfl ?_
  refine gf_isRow_0 (pc := 29) F hkq0 w_1_219 dX4_include_29 ?_
  refine k_alen0 (pc := 32) F (v := Int32.ofNat (alen (kq0 + 1))) (isRow_a1 hkq0) rfl dX4_include_32 ?_
  refine k_icmp_lt (pc := 33) F 37 dX4_include_33 (by decide) (fun _ => ?_) (fun _ => ?_)
  · refine k_aload_n (pc := 37) F 0 0 dX4_include_37 rfl rfl ?_
    refine gf_isRow_0 (pc := 38) F hkq0 w_1_219 dX4_include_38 ?_
    refine k_iload_n (pc := 41) F 2 2 dX4_include_41 rfl rfl ?_
    refine k_aload_n (pc := 42) F 0 0 dX4_include_42 rfl rfl ?_
    refine gf_isRow_0 (pc := 43) F hkq0 w_1_219 dX4_include_43 ?_
    refine k_iload_n (pc := 46) F 2 2 dX4_include_46 rfl rfl ?_
    refine k_iconst (pc := 47) F (v := (1 : Int32)) dX4_include_47 ci_1 ?_
    refine k_iadd (pc := 48) F dX4_include_48 ?_
    refine k_aload_n (pc := 49) F 0 0 dX4_include_49 rfl rfl ?_
    refine gf_isRow_1 (pc := 50) F hkq0 w_1_222 dX4_include_50 ?_
    refine k_iload_n (pc := 53) F 2 2 dX4_include_53 rfl rfl ?_
    refine k_isub (pc := 54) F dX4_include_54 ?_
    refine k_cpI (pc := 55) B (isRow_a1 hkq0) (isRow_a1 hkq0) w_3_138 (by decide) (Nat.le_of_ble_eq_true rfl) dX4_include_55 (fun σ3 => ?_)
    refine k_aload_n (pc := 58) F 0 0 dX4_include_58 rfl rfl ?_
    refine gf_isRow_0 (pc := 59) F hkq0 w_1_219 dX4_include_59 ?_
    refine k_iload_n (pc := 62) F 2 2 dX4_include_62 rfl rfl ?_
    refine k_iload_n (pc := 63) F 1 1 dX4_include_63 rfl rfl ?_
    refine k_iast (pc := 64) F (isRow_a1 hkq0) dX4_include_64 (fun σ4 => ?_)
    refine k_aload_n (pc := 65) F 0 0 dX4_include_65 rfl rfl ?_
    refine k_dup (pc := 66) F dX4_include_66 rfl ?_
    refine gf_isRow_1 (pc := 67) F hkq0 w_1_222 dX4_include_67 ?_
    refine k_iconst (pc := 70) F (v := (1 : Int32)) dX4_include_70 ci_1 ?_
    refine k_iadd (pc := 71) F dX4_include_71 ?_
    refine pf_isRow_1 (pc := 72) F hkq0 w_1_222 dX4_include_72 (fun σ5 => ?_)
    exact k_vret (pc := 75) B dX4_include_75
  · exact k_vret (pc := 36) B dX4_include_36
set_option maxHeartbeats 4000000 in
set_option maxRecDepth 100000 in
theorem t_X4_include {E : En} {G : Cx} (B : Bx E G cX4_include 3 RX4 H_X4_include none) (kq : Nat) (aq0 : Int32) (hkq : isRow kq) (σ : Mm) : KR E G 3 (ZV E G) (f_X4_include kq aq0 σ) 0 [(0, .ref (ad E kq)), (1, .int aq0)] [] σ := by
  have F := B.1
  unfold f_X4_include
  refine k_aload_n (pc := 0) F 0 0 dX4_include_0 rfl rfl ?_
  refine k_iload_n (pc := 1) F 1 1 dX4_include_1 rfl rfl ?_
  refine k_callVI (pc := 2) B (k := kq) (As := [.int aq0]) (rest := []) (ct_X4_placeFor E kq aq0 hkq σ) (isRow_l hkq) rfl mv_X4_placeFor w_3_134 rfl hR_X4_include_X4_placeFor rfl (Nat.le_of_ble_eq_true rfl) dX4_include_2 (fun rq2 σ1 hoq => ?_)
  refine k_istore_n F (lv' := [(2, .int rq2), (0, .ref (ad E kq)), (1, .int aq0)]) 2 dX4_include_5 rfl (by decide) rfl ?_
  refine k_iload_n (pc := 6) F 2 0 dX4_include_6 rfl rfl ?_
  refine k_aload_n (pc := 7) F 0 1 dX4_include_7 rfl rfl ?_
  refine gf_isRow_1 (pc := 8) F hkq w_1_222 dX4_include_8 ?_
  refine k_icmp_ge (pc := 11) F 24 dX4_include_11 (by decide) (fun _ => ?_) (fun _ => ?_)
  · exact k_sub [1, 2, 0] rfl (t_X4_include_24 B kq aq0 rq2 hkq  σ1)
  · refine k_aload_n (pc := 14) F 0 1 dX4_include_14 rfl rfl ?_
    refine gf_isRow_0 (pc := 15) F hkq w_1_219 dX4_include_15 ?_
    refine k_iload_n (pc := 18) F 2 0 dX4_include_18 rfl rfl ?_
    refine k_iald (pc := 19) F (isRow_a1 hkq) dX4_include_19 ?_
    refine k_iload_n (pc := 20) F 1 2 dX4_include_20 rfl rfl ?_
    refine k_icmp_eq (pc := 21) F 36 dX4_include_21 (by decide) (fun _ => ?_) (fun _ => ?_)
    · exact k_vret (pc := 36) B dX4_include_36
    · exact k_sub [1, 2, 0] rfl (t_X4_include_24 B kq aq0 rq2 hkq  σ1)
set_option maxHeartbeats 4000000 in
set_option maxRecDepth 100000 in
theorem ct_X4_include (E : En) (kq : Nat) (aq0 : Int32) (hkq : isRow kq) (σ : Mm) : CtV E yX4_include cX4_include 3 none H_X4_include [.ref (ad E kq), .int aq0] σ (f_X4_include kq aq0 σ) := ct_V (by decide) (Nat.le_of_ble_eq_true rfl) rfl (fun G B => t_X4_include B kq aq0 hkq σ)
abbrev H_X5_hasCall : Nat := 0
set_option maxHeartbeats 4000000 in
set_option maxRecDepth 100000 in
theorem t_X5_hasCall_16 {E : En} {G : Cx} (B : Bx E G cX5_hasCall 2 RX5 H_X5_hasCall (some .boolean))    (σ : Mm) : KR E G 2 (ZI E G) (f_X5_hasCall_16  σ) 16 [] [] σ := by
  have F := B.1
  unfold f_X5_hasCall_16
  refine k_iconst (pc := 16) F (v := (0 : Int32)) dX5_hasCall_16 ci_0 ?_
  exact k_zret (pc := 17) B dX5_hasCall_17
set_option maxHeartbeats 4000000 in
set_option maxRecDepth 100000 in
theorem t_X5_hasCall {E : En} {G : Cx} (B : Bx E G cX5_hasCall 2 RX5 H_X5_hasCall (some .boolean)) (aq0 : Int32)  (σ : Mm) : KR E G 2 (ZI E G) (f_X5_hasCall aq0 σ) 0 [(0, .ref (ad E 7)), (1, .int aq0)] [] σ := by
  have F := B.1
  unfold f_X5_hasCall
  refine k_iload_n (pc := 0) F 1 1 dX5_hasCall_0 rfl rfl ?_
  refine k_if_lt (pc := 1) F 16 dX5_hasCall_1 (by decide) (fun _ => ?_) (fun _ => ?_)
  · exact k_sub [] rfl (t_X5_hasCall_16 B    σ)
  · refine k_iload_n (pc := 4) F 1 1 dX5_hasCall_4 rfl rfl ?_
    refine k_aload_n (pc := 5) F 0 0 dX5_hasCall_5 rfl rfl ?_
    refine gf_7_0 (pc := 6) F w_1_96 dX5_hasCall_6 ?_
    refine k_icmp_ge (pc := 9) F 16 dX5_hasCall_9 (by decide) (fun _ => ?_) (fun _ => ?_)
    · exact k_sub [] rfl (t_X5_hasCall_16 B    σ)
    · refine k_iconst (pc := 12) F (v := (1 : Int32)) dX5_hasCall_12 ci_1 ?_
      refine k_goto (pc := 13) F 17 dX5_hasCall_13 (by decide) ?_
      exact k_zret (pc := 17) B dX5_hasCall_17
set_option maxHeartbeats 4000000 in
set_option maxRecDepth 100000 in
theorem ct_X5_hasCall (E : En) (aq0 : Int32)  (σ : Mm) : CtI E yX5_hasCall cX5_hasCall 2 (some .boolean) H_X5_hasCall [.ref (ad E 7), .int aq0] σ (f_X5_hasCall aq0 σ) := ct_I (by decide) (Nat.le_of_ble_eq_true rfl) rfl (fun G B => t_X5_hasCall B aq0  σ)
abbrev H_X5_hasStep : Nat := 1
theorem hR_X5_hasStep_X5_hasCall : H_X5_hasCall + 1 ≤ H_X5_hasStep ∧ 8 + (2 + 11) + 40 * H_X5_hasCall ≤ 40 * H_X5_hasStep := by decide
set_option maxHeartbeats 4000000 in
set_option maxRecDepth 100000 in
theorem t_X5_hasStep_26 {E : En} {G : Cx} (B : Bx E G cX5_hasStep 3 RX5 H_X5_hasStep (some .boolean))    (σ : Mm) : KR E G 3 (ZI E G) (f_X5_hasStep_26  σ) 26 [] [] σ := by
  have F := B.1
  unfold f_X5_hasStep_26
  refine k_iconst (pc := 26) F (v := (0 : Int32)) dX5_hasStep_26 ci_0 ?_
  exact k_zret (pc := 27) B dX5_hasStep_27
set_option maxHeartbeats 4000000 in
set_option maxRecDepth 100000 in
theorem t_X5_hasStep {E : En} {G : Cx} (B : Bx E G cX5_hasStep 3 RX5 H_X5_hasStep (some .boolean)) (aq0 : Int32) (aq1 : Int32)  (σ : Mm) : KR E G 3 (ZI E G) (f_X5_hasStep aq0 aq1 σ) 0 [(0, .ref (ad E 7)), (1, .int aq0), (2, .int aq1)] [] σ := by
  have F := B.1
  unfold f_X5_hasStep
  refine k_aload_n (pc := 0) F 0 0 dX5_hasStep_0 rfl rfl ?_
  refine k_iload_n (pc := 1) F 1 1 dX5_hasStep_1 rfl rfl ?_
  refine k_callVI (pc := 2) B (k := 7) (As := [.int aq0]) (rest := []) (ct_X5_hasCall E aq0  σ) rfl rfl mv_X5_hasCall w_2_233 rfl hR_X5_hasStep_X5_hasCall rfl (Nat.le_of_ble_eq_true rfl) dX5_hasStep_2 (fun rq2 σ1 hoq => ?_)
  refine k_if_eq (pc := 5) F 26 dX5_hasStep_5 (by decide) (fun _ => ?_) (fun _ => ?_)
  · exact k_sub [] rfl (t_X5_hasStep_26 B    σ1)
  · refine k_iload_n (pc := 8) F 2 2 dX5_hasStep_8 rfl rfl ?_
    refine k_if_lt (pc := 9) F 26 dX5_hasStep_9 (by decide) (fun _ => ?_) (fun _ => ?_)
    · exact k_sub [] rfl (t_X5_hasStep_26 B    σ1)
    · refine k_iload_n (pc := 12) F 2 2 dX5_hasStep_12 rfl rfl ?_
      refine k_aload_n (pc := 13) F 0 0 dX5_hasStep_13 rfl rfl ?_
      refine gf_7_1 (pc := 14) F w_1_100 dX5_hasStep_14 ?_
      refine k_iload_n (pc := 17) F 1 1 dX5_hasStep_17 rfl rfl ?_
      refine k_iald (pc := 18) F rfl dX5_hasStep_18 ?_
      refine k_icmp_ge (pc := 19) F 26 dX5_hasStep_19 (by decide) (fun _ => ?_) (fun _ => ?_)
      · exact k_sub [] rfl (t_X5_hasStep_26 B    σ1)
      · refine k_iconst (pc := 22) F (v := (1 : Int32)) dX5_hasStep_22 ci_1 ?_
        refine k_goto (pc := 23) F 27 dX5_hasStep_23 (by decide) ?_
        exact k_zret (pc := 27) B dX5_hasStep_27
set_option maxHeartbeats 4000000 in
set_option maxRecDepth 100000 in
theorem ct_X5_hasStep (E : En) (aq0 : Int32) (aq1 : Int32)  (σ : Mm) : CtI E yX5_hasStep cX5_hasStep 3 (some .boolean) H_X5_hasStep [.ref (ad E 7), .int aq0, .int aq1] σ (f_X5_hasStep aq0 aq1 σ) := ct_I (by decide) (Nat.le_of_ble_eq_true rfl) rfl (fun G B => t_X5_hasStep B aq0 aq1  σ)
abbrev H_X5_changeablePart : Nat := 1
theorem hR_X5_changeablePart_X5_partOf : H_X5_partOf + 1 ≤ H_X5_changeablePart ∧ 8 + (4 + 11) + 40 * H_X5_partOf ≤ 40 * H_X5_changeablePart := by decide
set_option maxHeartbeats 4000000 in
set_option maxRecDepth 100000 in
theorem t_X5_changeablePart {E : En} {G : Cx} (B : Bx E G cX5_changeablePart 3 RX5 H_X5_changeablePart (some .int)) (aq0 : Int32) (aq1 : Int32)  (σ : Mm) : KR E G 3 (ZI E G) (f_X5_changeablePart aq0 aq1 σ) 0 [(0, .ref (ad E 7)), (1, .int aq0), (2, .int aq1)] [] σ := by
  have F := B.1
  unfold f_X5_changeablePart
  refine k_aload_n (pc := 0) F 0 0 dX5_changeablePart_0 rfl rfl ?_
  refine k_iload_n (pc := 1) F 1 1 dX5_changeablePart_1 rfl rfl ?_
  refine k_iload_n (pc := 2) F 2 2 dX5_changeablePart_2 rfl rfl ?_
  refine k_iconst (pc := 3) F (v := (0 : Int32)) dX5_changeablePart_3 ci_0 ?_
  refine k_callVI (pc := 4) B (k := 7) (As := [.int aq0, .int aq1, .int (0 : Int32)]) (rest := []) (ct_X5_partOf E aq0 aq1 (0 : Int32)  σ) rfl rfl mv_X5_partOf w_3_20 rfl hR_X5_changeablePart_X5_partOf rfl (Nat.le_of_ble_eq_true rfl) dX5_changeablePart_4 (fun rq2 σ1 hoq => ?_)
  refine k_case (fun hwq3 => ?_) (fun hwq3 => ?_)
  · refine k_tin (pc := 7) F 48 dX5_changeablePart_7 (by rw [hwq3]; decide) (by rw [hwq3]; decide) (by rw [hwq3]; rfl) (by decide) ?_
    refine k_aload_n (pc := 48) F 0 0 dX5_changeablePart_48 rfl rfl ?_
    refine k_iload_n (pc := 49) F 1 1 dX5_changeablePart_49 rfl rfl ?_
    refine k_iload_n (pc := 50) F 2 2 dX5_changeablePart_50 rfl rfl ?_
    refine k_iconst (pc := 51) F (v := (2 : Int32)) dX5_changeablePart_51 ci_2 ?_
    refine k_callVI (pc := 52) B (k := 7) (As := [.int aq0, .int aq1, .int (2 : Int32)]) (rest := []) (ct_X5_partOf E aq0 aq1 (2 : Int32)  σ1) rfl rfl mv_X5_partOf w_3_20 rfl hR_X5_changeablePart_X5_partOf rfl (Nat.le_of_ble_eq_true rfl) dX5_changeablePart_52 (fun rq5 σ4 hoq => ?_)
    refine k_if_ge (pc := 55) F 62 dX5_changeablePart_55 (by decide) (fun _ => ?_) (fun _ => ?_)
    · refine k_iconst (pc := 62) F (v := (2 : Int32)) dX5_changeablePart_62 ci_2 ?_
      exact k_iret (pc := 63) B dX5_changeablePart_63
    · refine k_iconst (pc := 58) F (v := (-1 : Int32)) dX5_changeablePart_58 ci_m1 ?_
      refine k_goto (pc := 59) F 63 dX5_changeablePart_59 (by decide) ?_
      exact k_iret (pc := 63) B dX5_changeablePart_63
  refine k_case (fun hwq6 => ?_) (fun hwq6 => ?_)
  · refine k_tin (pc := 7) F 44 dX5_changeablePart_7 (by rw [hwq6]; decide) (by rw [hwq6]; decide) (by rw [hwq6]; rfl) (by decide) ?_
    refine k_iconst (pc := 44) F (v := (3 : Int32)) dX5_changeablePart_44 ci_3 ?_
    exact k_iret (pc := 45) B dX5_changeablePart_45
  refine k_case (fun hwq7 => ?_) (fun hwq7 => ?_)
  · refine k_tin (pc := 7) F 46 dX5_changeablePart_7 (by rw [hwq7]; decide) (by rw [hwq7]; decide) (by rw [hwq7]; rfl) (by decide) ?_
    refine k_iconst (pc := 46) F (v := (2 : Int32)) dX5_changeablePart_46 ci_2 ?_
    exact k_iret (pc := 47) B dX5_changeablePart_47
  refine k_case (fun hwq8 => ?_) (fun hwq8 => ?_)
  · refine k_tin (pc := 7) F 64 dX5_changeablePart_7 (by rw [hwq8]; decide) (by rw [hwq8]; decide) (by rw [hwq8]; rfl) (by decide) ?_
    refine k_iconst (pc := 64) F (v := (-1 : Int32)) dX5_changeablePart_64 ci_m1 ?_
    exact k_iret (pc := 65) B dX5_changeablePart_65
  refine k_case (fun hwq9 => ?_) (fun hwq9 => ?_)
  · refine k_tin (pc := 7) F 64 dX5_changeablePart_7 (by rw [hwq9]; decide) (by rw [hwq9]; decide) (by rw [hwq9]; rfl) (by decide) ?_
    refine k_iconst (pc := 64) F (v := (-1 : Int32)) dX5_changeablePart_64 ci_m1 ?_
    exact k_iret (pc := 65) B dX5_changeablePart_65
  refine k_case (fun hwq10 => ?_) (fun hwq10 => ?_)
  · refine k_tin (pc := 7) F 46 dX5_changeablePart_7 (by rw [hwq10]; decide) (by rw [hwq10]; decide) (by rw [hwq10]; rfl) (by decide) ?_
    refine k_iconst (pc := 46) F (v := (2 : Int32)) dX5_changeablePart_46 ci_2 ?_
    exact k_iret (pc := 47) B dX5_changeablePart_47
  · refine k_tout (pc := 7) F 64 dX5_changeablePart_7 (by have hwq3 := ne_i (z := 2) (by decide) hwq3; have hwq6 := ne_i (z := 3) (by decide) hwq6; have hwq7 := ne_i (z := 4) (by decide) hwq7; have hwq8 := ne_i (z := 5) (by decide) hwq8; have hwq9 := ne_i (z := 6) (by decide) hwq9; have hwq10 := ne_i (z := 7) (by decide) hwq10; omega) (by decide) ?_
    refine k_iconst (pc := 64) F (v := (-1 : Int32)) dX5_changeablePart_64 ci_m1 ?_
    exact k_iret (pc := 65) B dX5_changeablePart_65
set_option maxHeartbeats 4000000 in
set_option maxRecDepth 100000 in
theorem ct_X5_changeablePart (E : En) (aq0 : Int32) (aq1 : Int32)  (σ : Mm) : CtI E yX5_changeablePart cX5_changeablePart 3 (some .int) H_X5_changeablePart [.ref (ad E 7), .int aq0, .int aq1] σ (f_X5_changeablePart aq0 aq1 σ) := ct_I (by decide) (Nat.le_of_ble_eq_true rfl) rfl (fun G B => t_X5_changeablePart B aq0 aq1  σ)
abbrev H_X5_isDone : Nat := 0
set_option maxHeartbeats 4000000 in
set_option maxRecDepth 100000 in
theorem t_X5_isDone_L2b {E : En} {G : Cx} (B : Bx E G cX5_isDone 3 RX5 H_X5_isDone (some .boolean)) (xq1 : Int32)   (L2 : Int32 → Mm → Option (Int32 × Mm)) (hL2 : ∀ (xq2 : Int32)  (σ : Mm), KR E G 3 (ZI E G) (L2 xq2 σ) 2 [(0, .ref (ad E 7)), (1, .int xq1), (2, .int xq2)] [] σ) (xq2 : Int32)  (σ : Mm) : KR E G 3 (ZI E G) (f_X5_isDone_L2 xq1 L2 xq2 σ) 2 [(0, .ref (ad E 7)), (1, .int xq1), (2, .int xq2)] [] σ := by
  have F := B.1
  unfold f_X5_isDone_L2
  refine k_iload_n (pc := 2) F 2 2 dX5_isDone_2 rfl rfl ?_
  refine k_aload_n (pc := 3) F 0 0 dX5_isDone_3 rfl rfl ?_
  refine gf_7_3 (pc := 4) F w_1_107 dX5_isDone_4 ?_
  refine k_icmp_ge (pc := 7) F 38 dX5_isDone_7 (by decide) (fun _ => ?_) (fun _ => ?_)
  · refine k_iconst (pc := 38) F (v := (0 : Int32)) dX5_isDone_38 ci_0 ?_
    exact k_zret (pc := 39) B dX5_isDone_39
  · refine k_aload_n (pc := 10) F 0 0 dX5_isDone_10 rfl rfl ?_
    refine gf_7_4 (pc := 11) F w_1_109 dX5_isDone_11 ?_
    refine k_iload_n (pc := 14) F 2 2 dX5_isDone_14 rfl rfl ?_
    refine k_iald (pc := 15) F rfl dX5_isDone_15 ?_
    refine k_iload_n (pc := 16) F 1 1 dX5_isDone_16 rfl rfl ?_
    refine k_icmp_eq (pc := 17) F 30 dX5_isDone_17 (by decide) (fun _ => ?_) (fun _ => ?_)
    · refine k_iconst (pc := 30) F (v := (1 : Int32)) dX5_isDone_30 ci_1 ?_
      exact k_zret (pc := 31) B dX5_isDone_31
    · refine k_aload_n (pc := 20) F 0 0 dX5_isDone_20 rfl rfl ?_
      refine gf_7_5 (pc := 21) F w_1_112 dX5_isDone_21 ?_
      refine k_iload_n (pc := 24) F 2 2 dX5_isDone_24 rfl rfl ?_
      refine k_iald (pc := 25) F rfl dX5_isDone_25 ?_
      refine k_iload_n (pc := 26) F 1 1 dX5_isDone_26 rfl rfl ?_
      refine k_icmp_ne (pc := 27) F 32 dX5_isDone_27 (by decide) (fun _ => ?_) (fun _ => ?_)
      · refine k_iconst (pc := 30) F (v := (1 : Int32)) dX5_isDone_30 ci_1 ?_
        exact k_zret (pc := 31) B dX5_isDone_31
      · refine k_iinc (pc := 32) F (c := (1 : Int32)) (lw := fun wq => [(2, .int wq), (0, .ref (ad E 7)), (1, .int xq1)]) 2 2 dX5_isDone_32 rfl ci_1 (by decide) (fun _ => rfl) (fun vq1 => ?_)
        refine k_goto (pc := 35) F 2 dX5_isDone_35 (by decide) ?_
        exact k_sub [1, 2, 0] rfl (hL2 vq1 σ)
set_option maxHeartbeats 4000000 in
set_option maxRecDepth 100000 in
theorem t_X5_isDone_L2 {E : En} {G : Cx} (B : Bx E G cX5_isDone 3 RX5 H_X5_isDone (some .boolean)) (xq1 : Int32)   : ∀ (n : Nat) (xq2 : Int32)  (σ : Mm), KR E G 3 (ZI E G) (fx (fun _ _ => none) n (f_X5_isDone_L2 xq1) xq2 σ) 2 [(0, .ref (ad E 7)), (1, .int xq1), (2, .int xq2)] [] σ :=
  fun n => fx_ind (P := fun f => ∀ (xq2 : Int32)  (σ : Mm), KR E G 3 (ZI E G) (f xq2 σ) 2 [(0, .ref (ad E 7)), (1, .int xq1), (2, .int xq2)] [] σ) (fun _ _ => k_none) (fun L2 hL2 xq2 σ => t_X5_isDone_L2b B xq1   L2 hL2 xq2 σ) n
set_option maxHeartbeats 4000000 in
set_option maxRecDepth 100000 in
theorem t_X5_isDone {E : En} {G : Cx} (B : Bx E G cX5_isDone 3 RX5 H_X5_isDone (some .boolean)) (aq0 : Int32)  (σ : Mm) : KR E G 3 (ZI E G) (f_X5_isDone aq0 σ) 0 [(0, .ref (ad E 7)), (1, .int aq0)] [] σ := by
  have F := B.1
  unfold f_X5_isDone
  refine k_iconst (pc := 0) F (v := (0 : Int32)) dX5_isDone_0 ci_0 ?_
  refine k_istore_n F (lv' := [(2, .int (0 : Int32)), (0, .ref (ad E 7)), (1, .int aq0)]) 2 dX5_isDone_1 rfl (by decide) rfl ?_
  exact k_sub [1, 2, 0] rfl (t_X5_isDone_L2 B aq0   FU (0 : Int32)  σ)
set_option maxHeartbeats 4000000 in
set_option maxRecDepth 100000 in
theorem ct_X5_isDone (E : En) (aq0 : Int32)  (σ : Mm) : CtI E yX5_isDone cX5_isDone 3 (some .boolean) H_X5_isDone [.ref (ad E 7), .int aq0] σ (f_X5_isDone aq0 σ) := ct_I (by decide) (Nat.le_of_ble_eq_true rfl) rfl (fun G B => t_X5_isDone B aq0  σ)
abbrev H_X5_takeFrom : Nat := 1
set_option maxHeartbeats 4000000 in
set_option maxRecDepth 100000 in
theorem t_X5_takeFrom {E : En} {G : Cx} (B : Bx E G cX5_takeFrom 2 RX5 H_X5_takeFrom none) (kq : Nat) (kq0 : Nat) (hkq : isSe kq) (hkq0 : isSe kq0) (σ : Mm) : KR E G 2 (ZV E G) (f_X5_takeFrom kq kq0 σ) 0 [(0, .ref (ad E kq)), (1, .ref (ad E kq0))] [] σ := by
  have F := B.1
  unfold f_X5_takeFrom
  refine k_aload_n (pc := 0) F 0 0 dX5_takeFrom_0 rfl rfl ?_
  refine k_aload_n (pc := 1) F 1 1 dX5_takeFrom_1 rfl rfl ?_
  refine gf_isSe_0 (pc := 2) F hkq0 w_1_96 dX5_takeFrom_2 ?_
  refine pf_isSe_0 (pc := 5) F hkq w_1_96 dX5_takeFrom_5 (fun σ1 => ?_)
  refine k_aload_n (pc := 8) F 0 0 dX5_takeFrom_8 rfl rfl ?_
  refine k_aload_n (pc := 9) F 1 1 dX5_takeFrom_9 rfl rfl ?_
  refine gf_isSe_3 (pc := 10) F hkq0 w_1_107 dX5_takeFrom_10 ?_
  refine pf_isSe_3 (pc := 13) F hkq w_1_107 dX5_takeFrom_13 (fun σ2 => ?_)
  refine k_aload_n (pc := 16) F 0 0 dX5_takeFrom_16 rfl rfl ?_
  refine k_aload_n (pc := 17) F 1 1 dX5_takeFrom_17 rfl rfl ?_
  refine gf_isSe_7 (pc := 18) F hkq0 w_1_119 dX5_takeFrom_18 ?_
  refine pf_isSe_7 (pc := 21) F hkq w_1_119 dX5_takeFrom_21 (fun σ3 => ?_)
  refine k_aload_n (pc := 24) F 1 1 dX5_takeFrom_24 rfl rfl ?_
  refine gf_isSe_1 (pc := 25) F hkq0 w_1_100 dX5_takeFrom_25 ?_
  refine k_iconst (pc := 28) F (v := (0 : Int32)) dX5_takeFrom_28 ci_0 ?_
  refine k_aload_n (pc := 29) F 0 0 dX5_takeFrom_29 rfl rfl ?_
  refine gf_isSe_1 (pc := 30) F hkq w_1_100 dX5_takeFrom_30 ?_
  refine k_iconst (pc := 33) F (v := (0 : Int32)) dX5_takeFrom_33 ci_0 ?_
  refine k_bipush (pc := 34) F (v := (6 : Int32)) dX5_takeFrom_34 cb_6 ?_
  refine k_cpI (pc := 36) B (isSe_a1 hkq0) (isSe_a1 hkq) w_4_142 (by decide) (Nat.le_of_ble_eq_true rfl) dX5_takeFrom_36 (fun σ4 => ?_)
  refine k_aload_n (pc := 39) F 1 1 dX5_takeFrom_39 rfl rfl ?_
  refine gf_isSe_2 (pc := 40) F hkq0 w_1_105 dX5_takeFrom_40 ?_
  refine k_iconst (pc := 43) F (v := (0 : Int32)) dX5_takeFrom_43 ci_0 ?_
  refine k_aload_n (pc := 44) F 0 0 dX5_takeFrom_44 rfl rfl ?_
  refine gf_isSe_2 (pc := 45) F hkq w_1_105 dX5_takeFrom_45 ?_
  refine k_iconst (pc := 48) F (v := (0 : Int32)) dX5_takeFrom_48 ci_0 ?_
  refine k_aload_n (pc := 49) F 0 0 dX5_takeFrom_49 rfl rfl ?_
  refine gf_isSe_2 (pc := 50) F hkq w_1_105 dX5_takeFrom_50 ?_
  refine k_alen0 (pc := 53) F (v := (210 : Int32)) (isSe_a2 hkq) cn_210 dX5_takeFrom_53 ?_
  refine k_cpI (pc := 54) B (isSe_a2 hkq0) (isSe_a2 hkq) w_4_142 (by decide) (Nat.le_of_ble_eq_true rfl) dX5_takeFrom_54 (fun σ5 => ?_)
  refine k_aload_n (pc := 57) F 1 1 dX5_takeFrom_57 rfl rfl ?_
  refine gf_isSe_4 (pc := 58) F hkq0 w_1_109 dX5_takeFrom_58 ?_
  refine k_iconst (pc := 61) F (v := (0 : Int32)) dX5_takeFrom_61 ci_0 ?_
  refine k_aload_n (pc := 62) F 0 0 dX5_takeFrom_62 rfl rfl ?_
  refine gf_isSe_4 (pc := 63) F hkq w_1_109 dX5_takeFrom_63 ?_
  refine k_iconst (pc := 66) F (v := (0 : Int32)) dX5_takeFrom_66 ci_0 ?_
  refine k_iconst (pc := 67) F (v := (3 : Int32)) dX5_takeFrom_67 ci_3 ?_
  refine k_cpI (pc := 68) B (isSe_a3 hkq0) (isSe_a3 hkq) w_4_142 (by decide) (Nat.le_of_ble_eq_true rfl) dX5_takeFrom_68 (fun σ6 => ?_)
  refine k_aload_n (pc := 71) F 1 1 dX5_takeFrom_71 rfl rfl ?_
  refine gf_isSe_5 (pc := 72) F hkq0 w_1_112 dX5_takeFrom_72 ?_
  refine k_iconst (pc := 75) F (v := (0 : Int32)) dX5_takeFrom_75 ci_0 ?_
  refine k_aload_n (pc := 76) F 0 0 dX5_takeFrom_76 rfl rfl ?_
  refine gf_isSe_5 (pc := 77) F hkq w_1_112 dX5_takeFrom_77 ?_
  refine k_iconst (pc := 80) F (v := (0 : Int32)) dX5_takeFrom_80 ci_0 ?_
  refine k_iconst (pc := 81) F (v := (3 : Int32)) dX5_takeFrom_81 ci_3 ?_
  refine k_cpI (pc := 82) B (isSe_a4 hkq0) (isSe_a4 hkq) w_4_142 (by decide) (Nat.le_of_ble_eq_true rfl) dX5_takeFrom_82 (fun σ7 => ?_)
  refine k_aload_n (pc := 85) F 1 1 dX5_takeFrom_85 rfl rfl ?_
  refine gf_isSe_6 (pc := 86) F hkq0 w_1_115 dX5_takeFrom_86 ?_
  refine k_iconst (pc := 89) F (v := (0 : Int32)) dX5_takeFrom_89 ci_0 ?_
  refine k_aload_n (pc := 90) F 0 0 dX5_takeFrom_90 rfl rfl ?_
  refine gf_isSe_6 (pc := 91) F hkq w_1_115 dX5_takeFrom_91 ?_
  refine k_iconst (pc := 94) F (v := (0 : Int32)) dX5_takeFrom_94 ci_0 ?_
  refine k_iconst (pc := 95) F (v := (3 : Int32)) dX5_takeFrom_95 ci_3 ?_
  refine k_cpI (pc := 96) B (isSe_a5 hkq0) (isSe_a5 hkq) w_4_142 (by decide) (Nat.le_of_ble_eq_true rfl) dX5_takeFrom_96 (fun σ8 => ?_)
  exact k_vret (pc := 99) B dX5_takeFrom_99
set_option maxHeartbeats 4000000 in
set_option maxRecDepth 100000 in
theorem ct_X5_takeFrom (E : En) (kq : Nat) (kq0 : Nat) (hkq : isSe kq) (hkq0 : isSe kq0) (σ : Mm) : CtV E yX5_takeFrom cX5_takeFrom 2 none H_X5_takeFrom [.ref (ad E kq), .ref (ad E kq0)] σ (f_X5_takeFrom kq kq0 σ) := ct_V (by decide) (Nat.le_of_ble_eq_true rfl) rfl (fun G B => t_X5_takeFrom B kq kq0 hkq hkq0 σ)
abbrev H_J7_fill_d0a16 : Nat := 0
set_option maxHeartbeats 4000000 in
set_option maxRecDepth 100000 in
theorem t_J7_fill_d0a16_L6b {E : En} {G : Cx} (B : Bx E G cJ7_fill_d0a16 5 RJ7 H_J7_fill_d0a16 none) (kq0 : Nat) (xq1 : Int64) (xq4 : Int32) (hkq0 : isSh kq0)  (L6 : Int32 → Mm → Option (Unit × Mm)) (hL6 : ∀ (xq3 : Int32)  (σ : Mm), KR E G 5 (ZV E G) (L6 xq3 σ) 6 [(0, .ref (ad E (kq0 + 1))), (1, .long xq1), (3, .int xq3), (4, .int xq4)] [] σ) (xq3 : Int32)  (σ : Mm) : KR E G 5 (ZV E G) (f_J7_fill_d0a16_L6 kq0 xq1 xq4 L6 xq3 σ) 6 [(0, .ref (ad E (kq0 + 1))), (1, .long xq1), (3, .int xq3), (4, .int xq4)] [] σ := by
  have F := B.1
  unfold f_J7_fill_d0a16_L6
  refine k_iload_n (pc := 6) F 3 2 dJ7_fill_d0a16_6 rfl rfl ?_
  refine k_iload (pc := 7) F 4 3 dJ7_fill_d0a16_7 rfl ?_
  refine k_icmp_ge (pc := 9) F 22 dJ7_fill_d0a16_9 (by decide) (fun _ => ?_) (fun _ => ?_)
  · exact k_vret (pc := 22) B dJ7_fill_d0a16_22
  · refine k_aload_n (pc := 12) F 0 0 dJ7_fill_d0a16_12 rfl rfl ?_
    refine k_iload_n (pc := 13) F 3 2 dJ7_fill_d0a16_13 rfl rfl ?_
    refine k_lload_n (pc := 14) F 1 1 dJ7_fill_d0a16_14 rfl rfl ?_
    refine k_last (pc := 15) F (isSh_a1 hkq0) dJ7_fill_d0a16_15 (fun σ1 => ?_)
    refine k_iinc (pc := 16) F (c := (1 : Int32)) (lw := fun wq => [(3, .int wq), (0, .ref (ad E (kq0 + 1))), (1, .long xq1), (4, .int xq4)]) 3 2 dJ7_fill_d0a16_16 rfl ci_1 (by decide) (fun _ => rfl) (fun vq2 => ?_)
    refine k_goto (pc := 19) F 6 dJ7_fill_d0a16_19 (by decide) ?_
    exact k_sub [1, 2, 0, 3] rfl (hL6 vq2 σ1)
set_option maxHeartbeats 4000000 in
set_option maxRecDepth 100000 in
theorem t_J7_fill_d0a16_L6 {E : En} {G : Cx} (B : Bx E G cJ7_fill_d0a16 5 RJ7 H_J7_fill_d0a16 none) (kq0 : Nat) (xq1 : Int64) (xq4 : Int32) (hkq0 : isSh kq0)  : ∀ (n : Nat) (xq3 : Int32)  (σ : Mm), KR E G 5 (ZV E G) (fx (fun _ _ => none) n (f_J7_fill_d0a16_L6 kq0 xq1 xq4) xq3 σ) 6 [(0, .ref (ad E (kq0 + 1))), (1, .long xq1), (3, .int xq3), (4, .int xq4)] [] σ :=
  fun n => fx_ind (P := fun f => ∀ (xq3 : Int32)  (σ : Mm), KR E G 5 (ZV E G) (f xq3 σ) 6 [(0, .ref (ad E (kq0 + 1))), (1, .long xq1), (3, .int xq3), (4, .int xq4)] [] σ) (fun _ _ => k_none) (fun L6 hL6 xq3 σ => t_J7_fill_d0a16_L6b B kq0 xq1 xq4 hkq0  L6 hL6 xq3 σ) n
set_option maxHeartbeats 4000000 in
set_option maxRecDepth 100000 in
theorem t_J7_fill_d0a16 {E : En} {G : Cx} (B : Bx E G cJ7_fill_d0a16 5 RJ7 H_J7_fill_d0a16 none) (kq0 : Nat) (aq1 : Int64) (hkq0 : isSh kq0) (σ : Mm) : KR E G 5 (ZV E G) (f_J7_fill_d0a16 kq0 aq1 σ) 0 [(0, .ref (ad E (kq0 + 1))), (1, .long aq1)] [] σ := by
  have F := B.1
  unfold f_J7_fill_d0a16
  refine k_iconst (pc := 0) F (v := (0 : Int32)) dJ7_fill_d0a16_0 ci_0 ?_
  refine k_istore_n F (lv' := [(3, .int (0 : Int32)), (0, .ref (ad E (kq0 + 1))), (1, .long aq1)]) 3 dJ7_fill_d0a16_1 rfl (by decide) rfl ?_
  refine k_aload_n (pc := 2) F 0 1 dJ7_fill_d0a16_2 rfl rfl ?_
  refine k_alen2 (pc := 3) F (v := (40 : Int32)) (isSh_a1 hkq0) cn_40 dJ7_fill_d0a16_3 ?_
  refine k_istore F (lv' := [(4, .int (40 : Int32)), (3, .int (0 : Int32)), (0, .ref (ad E (kq0 + 1))), (1, .long aq1)]) 4 dJ7_fill_d0a16_4 (by decide) rfl ?_
  exact k_sub [2, 3, 1, 0] rfl (t_J7_fill_d0a16_L6 B kq0 aq1 (40 : Int32) hkq0  FU (0 : Int32)  σ)
set_option maxHeartbeats 4000000 in
set_option maxRecDepth 100000 in
theorem ct_J7_fill_d0a16 (E : En) (kq0 : Nat) (aq1 : Int64) (hkq0 : isSh kq0) (σ : Mm) : CtV E yJ7_fill_d0a16 cJ7_fill_d0a16 5 none H_J7_fill_d0a16 [.ref (ad E (kq0 + 1)), .long aq1] σ (f_J7_fill_d0a16 kq0 aq1 σ) := ct_V (by decide +kernel) (Nat.le_of_ble_eq_true rfl) rfl (fun G B => t_J7_fill_d0a16 B kq0 aq1 hkq0 σ)
abbrev H_X6_begin : Nat := 1
theorem hR_X6_begin_J7_fill_d0a16 : H_J7_fill_d0a16 + 1 ≤ H_X6_begin ∧ 8 + (5 + 11) + 40 * H_J7_fill_d0a16 ≤ 40 * H_X6_begin := by decide
set_option maxHeartbeats 4000000 in
set_option maxRecDepth 100000 in
theorem t_X6_begin {E : En} {G : Cx} (B : Bx E G cX6_begin 3 RX6 H_X6_begin none) (kq : Nat) (aq0 : Int32) (aq1 : Int32) (hkq : isSh kq) (σ : Mm) : KR E G 3 (ZV E G) (f_X6_begin kq aq0 aq1 σ) 0 [(0, .ref (ad E kq)), (1, .int aq0), (2, .int aq1)] [] σ := by
  have F := B.1
  unfold f_X6_begin
  refine k_aload_n (pc := 0) F 0 0 dX6_begin_0 rfl rfl ?_
  refine k_iload_n (pc := 1) F 1 1 dX6_begin_1 rfl rfl ?_
  refine pf_isSh_0 (pc := 2) F hkq w_2_51 dX6_begin_2 (fun σ1 => ?_)
  refine k_aload_n (pc := 5) F 0 0 dX6_begin_5 rfl rfl ?_
  refine k_iload_n (pc := 6) F 2 2 dX6_begin_6 rfl rfl ?_
  refine pf_isSh_1 (pc := 7) F hkq w_2_53 dX6_begin_7 (fun σ2 => ?_)
  refine k_aload_n (pc := 10) F 0 0 dX6_begin_10 rfl rfl ?_
  refine gf_isSh_2 (pc := 11) F hkq w_2_56 dX6_begin_11 ?_
  refine k_lconst (pc := 14) F (v := (0 : Int64)) dX6_begin_14 cl_0 ?_
  refine k_callSV (pc := 15) B (As := [.ref (ad E (kq + 1)), .long (0 : Int64)]) (rest := []) (ct_J7_fill_d0a16 E kq (0 : Int64) hkq σ2) ms_J7_fill_d0a16 w_4_110 rfl hR_X6_begin_J7_fill_d0a16 rfl (Nat.le_of_ble_eq_true rfl) dX6_begin_15 (fun rq4 σ3 hoq => ?_)
  exact k_vret (pc := 18) B dX6_begin_18
set_option maxHeartbeats 4000000 in
set_option maxRecDepth 100000 in
theorem ct_X6_begin (E : En) (kq : Nat) (aq0 : Int32) (aq1 : Int32) (hkq : isSh kq) (σ : Mm) : CtV E yX6_begin cX6_begin 3 none H_X6_begin [.ref (ad E kq), .int aq0, .int aq1] σ (f_X6_begin kq aq0 aq1 σ) := ct_V (by decide) (Nat.le_of_ble_eq_true rfl) rfl (fun G B => t_X6_begin B kq aq0 aq1 hkq σ)
abbrev H_X6_put : Nat := 0
set_option maxHeartbeats 4000000 in
set_option maxRecDepth 100000 in
theorem t_X6_put {E : En} {G : Cx} (B : Bx E G cX6_put 4 RX6 H_X6_put none) (kq : Nat) (aq0 : Int32) (aq1 : Int64) (hkq : isSh kq) (σ : Mm) : KR E G 4 (ZV E G) (f_X6_put kq aq0 aq1 σ) 0 [(0, .ref (ad E kq)), (1, .int aq0), (2, .long aq1)] [] σ := by
  have F := B.1
  unfold f_X6_put
  refine k_aload_n (pc := 0) F 0 0 dX6_put_0 rfl rfl ?_
  refine gf_isSh_2 (pc := 1) F hkq w_2_56 dX6_put_1 ?_
  refine k_iload_n (pc := 4) F 1 1 dX6_put_4 rfl rfl ?_
  refine k_aload_n (pc := 5) F 0 0 dX6_put_5 rfl rfl ?_
  refine gf_isSh_0 (pc := 6) F hkq w_2_51 dX6_put_6 ?_
  refine k_bipush (pc := 9) F (v := (8 : Int32)) dX6_put_9 cb_8 ?_
  refine k_icmp_ne (pc := 11) F 21 dX6_put_11 (by decide) (fun _ => ?_) (fun _ => ?_)
  · refine k_lload_n (pc := 14) F 2 2 dX6_put_14 rfl rfl ?_
    refine k_l2i (pc := 15) F dX6_put_15 ?_
    refine k_i2b (pc := 16) F dX6_put_16 ?_
    refine k_i2l (pc := 17) F dX6_put_17 ?_
    refine k_goto (pc := 18) F 38 dX6_put_18 (by decide) ?_
    refine k_last (pc := 38) F (isSh_a1 hkq) dX6_put_38 (fun σ3 => ?_)
    exact k_vret (pc := 39) B dX6_put_39
  · refine k_aload_n (pc := 21) F 0 0 dX6_put_21 rfl rfl ?_
    refine gf_isSh_0 (pc := 22) F hkq w_2_51 dX6_put_22 ?_
    refine k_bipush (pc := 25) F (v := (16 : Int32)) dX6_put_25 cb_16 ?_
    refine k_icmp_ne (pc := 27) F 37 dX6_put_27 (by decide) (fun _ => ?_) (fun _ => ?_)
    · refine k_lload_n (pc := 30) F 2 2 dX6_put_30 rfl rfl ?_
      refine k_l2i (pc := 31) F dX6_put_31 ?_
      refine k_i2s (pc := 32) F dX6_put_32 ?_
      refine k_i2l (pc := 33) F dX6_put_33 ?_
      refine k_goto (pc := 34) F 38 dX6_put_34 (by decide) ?_
      refine k_last (pc := 38) F (isSh_a1 hkq) dX6_put_38 (fun σ2 => ?_)
      exact k_vret (pc := 39) B dX6_put_39
    · refine k_lload_n (pc := 37) F 2 2 dX6_put_37 rfl rfl ?_
      refine k_last (pc := 38) F (isSh_a1 hkq) dX6_put_38 (fun σ1 => ?_)
      exact k_vret (pc := 39) B dX6_put_39
set_option maxHeartbeats 4000000 in
set_option maxRecDepth 100000 in
theorem ct_X6_put (E : En) (kq : Nat) (aq0 : Int32) (aq1 : Int64) (hkq : isSh kq) (σ : Mm) : CtV E yX6_put cX6_put 4 none H_X6_put [.ref (ad E kq), .int aq0, .long aq1] σ (f_X6_put kq aq0 aq1 σ) := ct_V (by decide) (Nat.le_of_ble_eq_true rfl) rfl (fun G B => t_X6_put B kq aq0 aq1 hkq σ)
abbrev H_X6_hasRange : Nat := 0
set_option maxHeartbeats 4000000 in
set_option maxRecDepth 100000 in
theorem t_X6_hasRange_30 {E : En} {G : Cx} (B : Bx E G cX6_hasRange 3 RX6 H_X6_hasRange (some .boolean))    (σ : Mm) : KR E G 3 (ZI E G) (f_X6_hasRange_30  σ) 30 [] [] σ := by
  have F := B.1
  unfold f_X6_hasRange_30
  refine k_iconst (pc := 30) F (v := (0 : Int32)) dX6_hasRange_30 ci_0 ?_
  exact k_zret (pc := 31) B dX6_hasRange_31
set_option maxHeartbeats 4000000 in
set_option maxRecDepth 100000 in
theorem t_X6_hasRange {E : En} {G : Cx} (B : Bx E G cX6_hasRange 3 RX6 H_X6_hasRange (some .boolean)) (kq : Nat) (aq0 : Int32) (aq1 : Int32) (hkq : isSh kq) (σ : Mm) : KR E G 3 (ZI E G) (f_X6_hasRange kq aq0 aq1 σ) 0 [(0, .ref (ad E kq)), (1, .int aq0), (2, .int aq1)] [] σ := by
  have F := B.1
  unfold f_X6_hasRange
  refine k_iload_n (pc := 0) F 1 1 dX6_hasRange_0 rfl rfl ?_
  refine k_if_lt (pc := 1) F 30 dX6_hasRange_1 (by decide) (fun _ => ?_) (fun _ => ?_)
  · exact k_sub [] rfl (t_X6_hasRange_30 B    σ)
  · refine k_iload_n (pc := 4) F 2 2 dX6_hasRange_4 rfl rfl ?_
    refine k_if_lt (pc := 5) F 30 dX6_hasRange_5 (by decide) (fun _ => ?_) (fun _ => ?_)
    · exact k_sub [] rfl (t_X6_hasRange_30 B    σ)
    · refine k_iload_n (pc := 8) F 2 2 dX6_hasRange_8 rfl rfl ?_
      refine k_aload_n (pc := 9) F 0 0 dX6_hasRange_9 rfl rfl ?_
      refine gf_isSh_1 (pc := 10) F hkq w_2_53 dX6_hasRange_10 ?_
      refine k_icmp_gt (pc := 13) F 30 dX6_hasRange_13 (by decide) (fun _ => ?_) (fun _ => ?_)
      · exact k_sub [] rfl (t_X6_hasRange_30 B    σ)
      · refine k_iload_n (pc := 16) F 1 1 dX6_hasRange_16 rfl rfl ?_
        refine k_aload_n (pc := 17) F 0 0 dX6_hasRange_17 rfl rfl ?_
        refine gf_isSh_1 (pc := 18) F hkq w_2_53 dX6_hasRange_18 ?_
        refine k_iload_n (pc := 21) F 2 2 dX6_hasRange_21 rfl rfl ?_
        refine k_isub (pc := 22) F dX6_hasRange_22 ?_
        refine k_icmp_gt (pc := 23) F 30 dX6_hasRange_23 (by decide) (fun _ => ?_) (fun _ => ?_)
        · exact k_sub [] rfl (t_X6_hasRange_30 B    σ)
        · refine k_iconst (pc := 26) F (v := (1 : Int32)) dX6_hasRange_26 ci_1 ?_
          refine k_goto (pc := 27) F 31 dX6_hasRange_27 (by decide) ?_
          exact k_zret (pc := 31) B dX6_hasRange_31
set_option maxHeartbeats 4000000 in
set_option maxRecDepth 100000 in
theorem ct_X6_hasRange (E : En) (kq : Nat) (aq0 : Int32) (aq1 : Int32) (hkq : isSh kq) (σ : Mm) : CtI E yX6_hasRange cX6_hasRange 3 (some .boolean) H_X6_hasRange [.ref (ad E kq), .int aq0, .int aq1] σ (f_X6_hasRange kq aq0 aq1 σ) := ct_I (by decide) (Nat.le_of_ble_eq_true rfl) rfl (fun G B => t_X6_hasRange B kq aq0 aq1 hkq σ)
abbrev H_X7_forget : Nat := 0
set_option maxHeartbeats 4000000 in
set_option maxRecDepth 100000 in
theorem t_X7_forget {E : En} {G : Cx} (B : Bx E G cX7_forget 1 RX7 H_X7_forget none)   (σ : Mm) : KR E G 1 (ZV E G) (f_X7_forget  σ) 0 [(0, .ref (ad E 6))] [] σ := by
  have F := B.1
  unfold f_X7_forget
  refine k_aload_n (pc := 0) F 0 0 dX7_forget_0 rfl rfl ?_
  refine k_iconst (pc := 1) F (v := (0 : Int32)) dX7_forget_1 ci_0 ?_
  refine pf_6_6 (pc := 2) F w_2_1 dX7_forget_2 (fun σ1 => ?_)
  refine k_aload_n (pc := 5) F 0 0 dX7_forget_5 rfl rfl ?_
  refine k_iconst (pc := 6) F (v := (0 : Int32)) dX7_forget_6 ci_0 ?_
  refine pf_6_7 (pc := 7) F w_2_2 dX7_forget_7 (fun σ2 => ?_)
  exact k_vret (pc := 10) B dX7_forget_10
set_option maxHeartbeats 4000000 in
set_option maxRecDepth 100000 in
theorem ct_X7_forget (E : En)   (σ : Mm) : CtV E yX7_forget cX7_forget 1 none H_X7_forget [.ref (ad E 6)] σ (f_X7_forget  σ) := ct_V (by decide) (Nat.le_of_ble_eq_true rfl) rfl (fun G B => t_X7_forget B   σ)
abbrev HBX7_followOrders : Nat := 4
abbrev H_X7_followOrders : Nat := 12
set_option maxHeartbeats 4000000 in
set_option maxRecDepth 100000 in
theorem t_X7_followOrders_64 {E : En} {G : Cx} {dr d : Nat} (B : Bx E G cX7_followOrders 9 RX7 d none) (hd : dr + 1 ≤ d ∧ HBX7_followOrders ≤ dr) (S : Int64 → Int32 → Mm → Option (Unit × Mm)) (hS : ∀ (aq2 : Int64) (aq3 : Int32) (σ : Mm), CtV E yX7_followOrders cX7_followOrders 9 none dr [.ref (ad E 13), .ref (ad E 28), .long aq2, .int aq3] σ (S aq2 aq3 σ)) (xq2 : Int64) (xq4 : Int32) (xq5 : Int32) (xq6 : Int32)  (L6 : Int32 → Int32 → Mm → Option (Unit × Mm)) (hL6 : ∀ (xq5 : Int32) (xq6 : Int32)  (σ : Mm), KR E G 9 (ZV E G) (L6 xq5 xq6 σ) 6 [(0, .ref (ad E 13)), (1, .ref (ad E 28)), (2, .long xq2), (4, .int xq4), (5, .int xq5), (6, .int xq6)] [] σ)  (σ : Mm) : KR E G 9 (ZV E G) (f_X7_followOrders_64 S L6 xq2 xq4 xq5 xq6 σ) 64 [(0, .ref (ad E 13)), (1, .ref (ad E 28)), (2, .long xq2), (4, .int xq4), (5, .int xq5), (6, .int xq6)] [] σ := by
  have F := B.1
  unfold f_X7_followOrders_64
  refine k_iinc (pc := 64) F (c := (1 : Int32)) (lw := fun wq => [(6, .int wq), (0, .ref (ad E 13)), (1, .ref (ad E 28)), (2, .long xq2), (4, .int xq4), (5, .int xq5)]) 6 5 dX7_followOrders_64 rfl ci_1 (by decide) (fun _ => rfl) (fun vq3 => ?_)
  refine k_goto (pc := 67) F 6 dX7_followOrders_67 (by decide) ?_
  exact k_sub [1, 2, 3, 4, 5, 0] rfl (hL6 xq5 vq3 σ)
set_option maxHeartbeats 4000000 in
set_option maxRecDepth 100000 in
theorem t_X7_followOrders_L6b {E : En} {G : Cx} {dr d : Nat} (B : Bx E G cX7_followOrders 9 RX7 d none) (hd : dr + 1 ≤ d ∧ HBX7_followOrders ≤ dr) (S : Int64 → Int32 → Mm → Option (Unit × Mm)) (hS : ∀ (aq2 : Int64) (aq3 : Int32) (σ : Mm), CtV E yX7_followOrders cX7_followOrders 9 none dr [.ref (ad E 13), .ref (ad E 28), .long aq2, .int aq3] σ (S aq2 aq3 σ)) (xq2 : Int64) (xq4 : Int32)  (K70 : Int32 → Mm → Option (Unit × Mm)) (hK70 : ∀ (xq5 : Int32)  (σ : Mm), KR E G 9 (ZV E G) (K70 xq5 σ) 70 [(0, .ref (ad E 13)), (1, .ref (ad E 28)), (2, .long xq2), (5, .int xq5)] [] σ)  (L6 : Int32 → Int32 → Mm → Option (Unit × Mm)) (hL6 : ∀ (xq5 : Int32) (xq6 : Int32)  (σ : Mm), KR E G 9 (ZV E G) (L6 xq5 xq6 σ) 6 [(0, .ref (ad E 13)), (1, .ref (ad E 28)), (2, .long xq2), (4, .int xq4), (5, .int xq5), (6, .int xq6)] [] σ) (xq5 : Int32) (xq6 : Int32)  (σ : Mm) : KR E G 9 (ZV E G) (f_X7_followOrders_L6 S K70 xq2 xq4 L6 xq5 xq6 σ) 6 [(0, .ref (ad E 13)), (1, .ref (ad E 28)), (2, .long xq2), (4, .int xq4), (5, .int xq5), (6, .int xq6)] [] σ := by
  have F := B.1
  unfold f_X7_followOrders_L6
  refine k_iload (pc := 6) F 6 5 dX7_followOrders_6 rfl ?_
  refine k_aload_n (pc := 8) F 0 0 dX7_followOrders_8 rfl rfl ?_
  refine gf_13_0 (pc := 9) F w_1_145 dX7_followOrders_9 ?_
  refine k_icmp_ge (pc := 12) F 70 dX7_followOrders_12 (by decide) (fun _ => ?_) (fun _ => ?_)
  · exact k_sub [0, 1, 2, 4] rfl (hK70 xq5 σ)
  · refine k_aload_n (pc := 15) F 0 0 dX7_followOrders_15 rfl rfl ?_
    refine k_lload_n (pc := 16) F 2 2 dX7_followOrders_16 rfl rfl ?_
    refine k_iload (pc := 17) F 6 5 dX7_followOrders_17 rfl ?_
    refine k_callVI (pc := 19) B (k := 13) (As := [.long xq2, .int xq6]) (rest := []) (ct_X1_hasCallLeft E xq2 xq6  σ) rfl rfl mv_X1_hasCallLeft w_3_160 rfl (rec_h (d2 := H_X1_hasCallLeft) hd (by decide)) rfl (Nat.le_of_ble_eq_true rfl) dX7_followOrders_19 (fun rq2 σ1 hoq => ?_)
    refine k_if_eq (pc := 22) F 64 dX7_followOrders_22 (by decide) (fun _ => ?_) (fun _ => ?_)
    · exact k_sub [0, 1, 2, 3, 4, 5] rfl (t_X7_followOrders_64 B hd S hS xq2 xq4 xq5 xq6  L6 hL6  σ1)
    · refine k_iconst (pc := 25) F (v := (0 : Int32)) dX7_followOrders_25 ci_0 ?_
      refine k_istore F (lv' := [(5, .int (0 : Int32)), (0, .ref (ad E 13)), (1, .ref (ad E 28)), (2, .long xq2), (4, .int xq4), (6, .int xq6)]) 5 dX7_followOrders_26 (by decide) rfl ?_
      refine k_aload_n (pc := 28) F 0 1 dX7_followOrders_28 rfl rfl ?_
      refine k_lload_n (pc := 29) F 2 3 dX7_followOrders_29 rfl rfl ?_
      refine k_iload (pc := 30) F 6 5 dX7_followOrders_30 rfl ?_
      refine k_callVL (pc := 32) B (k := 13) (As := [.long xq2, .int xq6]) (rest := []) (ct_X1_withCallDone E xq2 xq6  σ1) rfl rfl mv_X1_withCallDone w_3_161 rfl (rec_h (d2 := H_X1_withCallDone) hd (by decide)) rfl (Nat.le_of_ble_eq_true rfl) dX7_followOrders_32 (fun rq5 σ4 hoq => ?_)
      refine k_lstore F (lv' := [(7, .long rq5), (5, .int (0 : Int32)), (0, .ref (ad E 13)), (1, .ref (ad E 28)), (2, .long xq2), (4, .int xq4), (6, .int xq6)]) 7 dX7_followOrders_35 (by decide) rfl ?_
      refine k_lload (pc := 37) F 7 0 dX7_followOrders_37 rfl ?_
      refine k_ldc2 (pc := 39) F (v := (-1 : Int64)) w_3_166 dX7_followOrders_39 ?_
      refine k_lcmp (pc := 42) F dX7_followOrders_42 ?_
      refine k_if_eq (pc := 43) F 64 dX7_followOrders_43 (by decide) (fun _ => ?_) (fun _ => ?_)
      · exact k_sub [2, 3, 4, 5, 1, 6] rfl (t_X7_followOrders_64 B hd S hS xq2 xq4 (0 : Int32) xq6  L6 hL6  σ4)
      · refine k_iload (pc := 46) F 4 5 dX7_followOrders_46 rfl ?_
        refine k_bipush (pc := 48) F (v := (6 : Int32)) dX7_followOrders_48 cb_6 ?_
        refine k_icmp_ge (pc := 50) F 64 dX7_followOrders_50 (by decide) (fun _ => ?_) (fun _ => ?_)
        · exact k_sub [2, 3, 4, 5, 1, 6] rfl (t_X7_followOrders_64 B hd S hS xq2 xq4 (0 : Int32) xq6  L6 hL6  σ4)
        · refine k_aload_n (pc := 53) F 0 2 dX7_followOrders_53 rfl rfl ?_
          refine k_aload_n (pc := 54) F 1 3 dX7_followOrders_54 rfl rfl ?_
          refine k_lload (pc := 55) F 7 0 dX7_followOrders_55 rfl ?_
          refine k_iload (pc := 57) F 4 5 dX7_followOrders_57 rfl ?_
          refine k_iconst (pc := 59) F (v := (1 : Int32)) dX7_followOrders_59 ci_1 ?_
          refine k_iadd (pc := 60) F dX7_followOrders_60 ?_
          refine k_callSV (pc := 61) B (As := [.ref (ad E 13), .ref (ad E 28), .long rq5, .int (xq4 + (1 : Int32))]) (rest := []) (hS rq5 (xq4 + (1 : Int32)) σ4) ms_X7_followOrders w_3_157 rfl ⟨hd.1, by omega⟩ rfl (Nat.le_of_ble_eq_true rfl) dX7_followOrders_61 (fun rq7 σ6 hoq => ?_)
          exact k_sub [2, 3, 4, 5, 1, 6] rfl (t_X7_followOrders_64 B hd S hS xq2 xq4 (0 : Int32) xq6  L6 hL6  σ6)
set_option maxHeartbeats 4000000 in
set_option maxRecDepth 100000 in
theorem t_X7_followOrders_L6 {E : En} {G : Cx} {dr d : Nat} (B : Bx E G cX7_followOrders 9 RX7 d none) (hd : dr + 1 ≤ d ∧ HBX7_followOrders ≤ dr) (S : Int64 → Int32 → Mm → Option (Unit × Mm)) (hS : ∀ (aq2 : Int64) (aq3 : Int32) (σ : Mm), CtV E yX7_followOrders cX7_followOrders 9 none dr [.ref (ad E 13), .ref (ad E 28), .long aq2, .int aq3] σ (S aq2 aq3 σ)) (xq2 : Int64) (xq4 : Int32)  (K70 : Int32 → Mm → Option (Unit × Mm)) (hK70 : ∀ (xq5 : Int32)  (σ : Mm), KR E G 9 (ZV E G) (K70 xq5 σ) 70 [(0, .ref (ad E 13)), (1, .ref (ad E 28)), (2, .long xq2), (5, .int xq5)] [] σ)  : ∀ (n : Nat) (xq5 : Int32) (xq6 : Int32)  (σ : Mm), KR E G 9 (ZV E G) (fx (fun _ _ _ => none) n (f_X7_followOrders_L6 S K70 xq2 xq4) xq5 xq6 σ) 6 [(0, .ref (ad E 13)), (1, .ref (ad E 28)), (2, .long xq2), (4, .int xq4), (5, .int xq5), (6, .int xq6)] [] σ :=
  fun n => fx_ind (P := fun f => ∀ (xq5 : Int32) (xq6 : Int32)  (σ : Mm), KR E G 9 (ZV E G) (f xq5 xq6 σ) 6 [(0, .ref (ad E 13)), (1, .ref (ad E 28)), (2, .long xq2), (4, .int xq4), (5, .int xq5), (6, .int xq6)] [] σ) (fun _ _ _ => k_none) (fun L6 hL6 xq5 xq6 σ => t_X7_followOrders_L6b B hd S hS xq2 xq4  K70 hK70  L6 hL6 xq5 xq6 σ) n
set_option maxHeartbeats 4000000 in
set_option maxRecDepth 100000 in
theorem t_X7_followOrders_70 {E : En} {G : Cx} {dr d : Nat} (B : Bx E G cX7_followOrders 9 RX7 d none) (hd : dr + 1 ≤ d ∧ HBX7_followOrders ≤ dr) (S : Int64 → Int32 → Mm → Option (Unit × Mm)) (hS : ∀ (aq2 : Int64) (aq3 : Int32) (σ : Mm), CtV E yX7_followOrders cX7_followOrders 9 none dr [.ref (ad E 13), .ref (ad E 28), .long aq2, .int aq3] σ (S aq2 aq3 σ)) (xq2 : Int64) (xq5 : Int32)   (σ : Mm) : KR E G 9 (ZV E G) (f_X7_followOrders_70 S xq2 xq5 σ) 70 [(0, .ref (ad E 13)), (1, .ref (ad E 28)), (2, .long xq2), (5, .int xq5)] [] σ := by
  have F := B.1
  unfold f_X7_followOrders_70
  refine k_iload (pc := 70) F 5 3 dX7_followOrders_70 rfl ?_
  refine k_if_eq (pc := 72) F 84 dX7_followOrders_72 (by decide) (fun _ => ?_) (fun _ => ?_)
  · exact k_vret (pc := 84) B dX7_followOrders_84
  · refine k_aload_n (pc := 75) F 1 1 dX7_followOrders_75 rfl rfl ?_
    refine k_aload_n (pc := 76) F 0 0 dX7_followOrders_76 rfl rfl ?_
    refine k_lload_n (pc := 77) F 2 2 dX7_followOrders_77 rfl rfl ?_
    refine k_callVI (pc := 78) B (k := 13) (As := [.long xq2]) (rest := [.ref (ad E 28)]) (ct_X1_resultOf E xq2  σ) rfl rfl mv_X1_resultOf w_3_167 rfl (rec_h (d2 := H_X1_resultOf) hd (by decide)) rfl (Nat.le_of_ble_eq_true rfl) dX7_followOrders_78 (fun rq9 σ8 hoq => ?_)
    refine k_callVV (pc := 81) B (k := 28) (As := [.int rq9]) (rest := []) (ct_X4_include E 28 rq9 isRow_28 σ8) rfl rfl mv_X4_include w_3_168 rfl (rec_h (d2 := H_X4_include) hd (by decide)) rfl (Nat.le_of_ble_eq_true rfl) dX7_followOrders_81 (fun rq11 σ10 hoq => ?_)
    exact k_vret (pc := 84) B dX7_followOrders_84
set_option maxHeartbeats 4000000 in
set_option maxRecDepth 100000 in
theorem t_X7_followOrders {E : En} {G : Cx} {dr d : Nat} (B : Bx E G cX7_followOrders 9 RX7 d none) (hd : dr + 1 ≤ d ∧ HBX7_followOrders ≤ dr) (S : Int64 → Int32 → Mm → Option (Unit × Mm)) (hS : ∀ (aq2 : Int64) (aq3 : Int32) (σ : Mm), CtV E yX7_followOrders cX7_followOrders 9 none dr [.ref (ad E 13), .ref (ad E 28), .long aq2, .int aq3] σ (S aq2 aq3 σ)) (aq2 : Int64) (aq3 : Int32)  (σ : Mm) : KR E G 9 (ZV E G) (f_X7_followOrders_b S aq2 aq3 σ) 0 [(0, .ref (ad E 13)), (1, .ref (ad E 28)), (2, .long aq2), (4, .int aq3)] [] σ := by
  have F := B.1
  unfold f_X7_followOrders_b
  refine k_iconst (pc := 0) F (v := (1 : Int32)) dX7_followOrders_0 ci_1 ?_
  refine k_istore F (lv' := [(5, .int (1 : Int32)), (0, .ref (ad E 13)), (1, .ref (ad E 28)), (2, .long aq2), (4, .int aq3)]) 5 dX7_followOrders_1 (by decide) rfl ?_
  refine k_iconst (pc := 3) F (v := (0 : Int32)) dX7_followOrders_3 ci_0 ?_
  refine k_istore F (lv' := [(6, .int (0 : Int32)), (5, .int (1 : Int32)), (0, .ref (ad E 13)), (1, .ref (ad E 28)), (2, .long aq2), (4, .int aq3)]) 6 dX7_followOrders_4 (by decide) rfl ?_
  exact k_sub [2, 3, 4, 5, 1, 0] rfl (t_X7_followOrders_L6 B hd S hS aq2 aq3  _ (fun xq5  σ => by
        exact k_sub [0, 1, 2, 3] rfl (t_X7_followOrders_70 B hd S hS aq2 xq5   σ)) FU (1 : Int32) (0 : Int32)  σ)
set_option maxHeartbeats 4000000 in
set_option maxRecDepth 100000 in
theorem ct_X7_followOrders_n (E : En) : ∀ (n : Nat) (aq2 : Int64) (aq3 : Int32) (σ : Mm), CtV E yX7_followOrders cX7_followOrders 9 none (HBX7_followOrders + n) [.ref (ad E 13), .ref (ad E 28), .long aq2, .int aq3] σ (f_X7_followOrders n aq2 aq3 σ)
  | 0 => fun aq2 aq3 σ r σ2 ho => by cases ho
  | n + 1 => fun aq2 aq3 σ => ct_V (by decide) (Nat.le_of_ble_eq_true rfl) rfl (fun G B => t_X7_followOrders (dr := HBX7_followOrders + n) B ⟨by omega, by omega⟩ (f_X7_followOrders n) (fun aq2 aq3 σ => ct_X7_followOrders_n E n aq2 aq3 σ) aq2 aq3 σ)
set_option maxHeartbeats 4000000 in
set_option maxRecDepth 100000 in
theorem ct_X7_followOrders (E : En) (aq2 : Int64) (aq3 : Int32) (σ : Mm) : CtV E yX7_followOrders cX7_followOrders 9 none H_X7_followOrders [.ref (ad E 13), .ref (ad E 28), .long aq2, .int aq3] σ (f_X7_followOrders 8 aq2 aq3 σ) := ct_X7_followOrders_n E 8 aq2 aq3 σ
abbrev H_X7_orderedResults : Nat := 13
theorem hR_X7_orderedResults_X7_followOrders : H_X7_followOrders + 1 ≤ H_X7_orderedResults ∧ 8 + (9 + 11) + 40 * H_X7_followOrders ≤ 40 * H_X7_orderedResults := by decide
theorem hR_X7_orderedResults_X1_load : H_X1_load + 1 ≤ H_X7_orderedResults ∧ 8 + (5 + 11) + 40 * H_X1_load ≤ 40 * H_X7_orderedResults := by decide
set_option maxHeartbeats 4000000 in
set_option maxRecDepth 100000 in
theorem t_X7_orderedResults {E : En} {G : Cx} (B : Bx E G cX7_orderedResults 1 RX7 H_X7_orderedResults (some (.object "ManyHands$Row")))   (σ : Mm) : KR E G 1 (ZU E G (ad E 28)) (f_X7_orderedResults  σ) 0 [(0, .ref (ad E 6))] [] σ := by
  have F := B.1
  unfold f_X7_orderedResults
  refine k_aload_n (pc := 0) F 0 0 dX7_orderedResults_0 rfl rfl ?_
  refine gf_6_7 (pc := 1) F w_2_2 dX7_orderedResults_1 ?_
  refine k_if_ne (pc := 4) F 51 dX7_orderedResults_4 (by decide) (fun _ => ?_) (fun _ => ?_)
  · refine k_aload_n (pc := 7) F 0 0 dX7_orderedResults_7 rfl rfl ?_
    refine gf_6_1 (pc := 8) F w_1_233 dX7_orderedResults_8 ?_
    refine k_aload_n (pc := 11) F 0 0 dX7_orderedResults_11 rfl rfl ?_
    refine gf_6_0 (pc := 12) F w_1_231 dX7_orderedResults_12 ?_
    refine k_lconst (pc := 15) F (v := (0 : Int64)) dX7_orderedResults_15 cl_0 ?_
    refine k_callVV (pc := 16) B (k := 13) (As := [.ref (ad E 7), .long (0 : Int64)]) (rest := []) (ct_X1_load E (0 : Int64)  σ) rfl rfl mv_X1_load w_3_50 rfl hR_X7_orderedResults_X1_load rfl (Nat.le_of_ble_eq_true rfl) dX7_orderedResults_16 (fun rq2 σ1 hoq => ?_)
    refine k_aload_n (pc := 19) F 0 0 dX7_orderedResults_19 rfl rfl ?_
    refine gf_6_4 (pc := 20) F w_1_239 dX7_orderedResults_20 ?_
    refine k_iconst (pc := 23) F (v := (0 : Int32)) dX7_orderedResults_23 ci_0 ?_
    refine pf_isRow_1 (pc := 24) F isRow_28 w_1_223 dX7_orderedResults_24 (fun σ3 => ?_)
    refine k_aload_n (pc := 27) F 0 0 dX7_orderedResults_27 rfl rfl ?_
    refine gf_6_1 (pc := 28) F w_1_233 dX7_orderedResults_28 ?_
    refine k_aload_n (pc := 31) F 0 0 dX7_orderedResults_31 rfl rfl ?_
    refine gf_6_4 (pc := 32) F w_1_239 dX7_orderedResults_32 ?_
    refine k_aload_n (pc := 35) F 0 0 dX7_orderedResults_35 rfl rfl ?_
    refine gf_6_1 (pc := 36) F w_1_233 dX7_orderedResults_36 ?_
    refine gf_13_2 (pc := 39) F w_1_152 dX7_orderedResults_39 ?_
    refine k_iconst (pc := 42) F (v := (0 : Int32)) dX7_orderedResults_42 ci_0 ?_
    refine k_callSV (pc := 43) B (As := [.ref (ad E 13), .ref (ad E 28), .long (σ3.2 13 2), .int (0 : Int32)]) (rest := []) (ct_X7_followOrders E (σ3.2 13 2) (0 : Int32)  σ3) ms_X7_followOrders w_3_157 rfl hR_X7_orderedResults_X7_followOrders rfl (Nat.le_of_ble_eq_true rfl) dX7_orderedResults_43 (fun rq5 σ4 hoq => ?_)
    refine k_aload_n (pc := 46) F 0 0 dX7_orderedResults_46 rfl rfl ?_
    refine k_iconst (pc := 47) F (v := (1 : Int32)) dX7_orderedResults_47 ci_1 ?_
    refine pf_6_7 (pc := 48) F w_2_2 dX7_orderedResults_48 (fun σ6 => ?_)
    refine k_aload_n (pc := 51) F 0 0 dX7_orderedResults_51 rfl rfl ?_
    refine gf_6_4 (pc := 52) F w_1_239 dX7_orderedResults_52 ?_
    exact k_uret (pc := 55) B dX7_orderedResults_55
  · refine k_aload_n (pc := 51) F 0 0 dX7_orderedResults_51 rfl rfl ?_
    refine gf_6_4 (pc := 52) F w_1_239 dX7_orderedResults_52 ?_
    exact k_uret (pc := 55) B dX7_orderedResults_55
set_option maxHeartbeats 4000000 in
set_option maxRecDepth 100000 in
theorem ct_X7_orderedResults (E : En)   (σ : Mm) : CtU E yX7_orderedResults cX7_orderedResults 1 (some (.object "ManyHands$Row")) H_X7_orderedResults [.ref (ad E 6)] σ (ad E 28) (f_X7_orderedResults  σ) := ct_U (by decide) (Nat.le_of_ble_eq_true rfl) rfl (fun G B => t_X7_orderedResults B   σ)
abbrev H_X9_include : Nat := 0
set_option maxHeartbeats 4000000 in
set_option maxRecDepth 100000 in
theorem t_X9_include {E : En} {G : Cx} (B : Bx E G cX9_include 5 RX9 H_X9_include (some .int)) (aq0 : Int64) (aq1 : Int32) (aq2 : Int32)  (σ : Mm) : KR E G 5 (ZI E G) (f_X9_include aq0 aq1 aq2 σ) 0 [(0, .ref (ad E 18)), (1, .long aq0), (3, .int aq1), (4, .int aq2)] [] σ := by
  have F := B.1
  unfold f_X9_include
  refine k_aload_n (pc := 0) F 0 0 dX9_include_0 rfl rfl ?_
  refine gf_18_7 (pc := 1) F w_1_186 dX9_include_1 ?_
  refine k_sipush (pc := 4) F (v := (6000 : Int32)) dX9_include_4 cs_6000 ?_
  refine k_icmp_lt (pc := 7) F 17 dX9_include_7 (by decide) (fun _ => ?_) (fun _ => ?_)
  · refine k_aload_n (pc := 17) F 0 0 dX9_include_17 rfl rfl ?_
    refine gf_18_0 (pc := 18) F w_1_179 dX9_include_18 ?_
    refine k_aload_n (pc := 21) F 0 0 dX9_include_21 rfl rfl ?_
    refine gf_18_7 (pc := 22) F w_1_186 dX9_include_22 ?_
    refine k_lload_n (pc := 25) F 1 1 dX9_include_25 rfl rfl ?_
    refine k_last (pc := 26) F rfl dX9_include_26 (fun σ1 => ?_)
    refine k_aload_n (pc := 27) F 0 0 dX9_include_27 rfl rfl ?_
    refine gf_18_1 (pc := 28) F w_1_180 dX9_include_28 ?_
    refine k_iload_n (pc := 31) F 3 2 dX9_include_31 rfl rfl ?_
    refine k_aload_n (pc := 32) F 0 0 dX9_include_32 rfl rfl ?_
    refine gf_18_7 (pc := 33) F w_1_186 dX9_include_33 ?_
    refine k_iast (pc := 36) F rfl dX9_include_36 (fun σ2 => ?_)
    refine k_aload_n (pc := 37) F 0 0 dX9_include_37 rfl rfl ?_
    refine gf_18_2 (pc := 38) F w_1_181 dX9_include_38 ?_
    refine k_aload_n (pc := 41) F 0 0 dX9_include_41 rfl rfl ?_
    refine gf_18_7 (pc := 42) F w_1_186 dX9_include_42 ?_
    refine k_iload_n (pc := 45) F 3 2 dX9_include_45 rfl rfl ?_
    refine k_iast (pc := 46) F rfl dX9_include_46 (fun σ3 => ?_)
    refine k_aload_n (pc := 47) F 0 0 dX9_include_47 rfl rfl ?_
    refine gf_18_3 (pc := 48) F w_1_182 dX9_include_48 ?_
    refine k_aload_n (pc := 51) F 0 0 dX9_include_51 rfl rfl ?_
    refine gf_18_7 (pc := 52) F w_1_186 dX9_include_52 ?_
    refine k_iload (pc := 55) F 4 3 dX9_include_55 rfl ?_
    refine k_iast (pc := 57) F rfl dX9_include_57 (fun σ4 => ?_)
    refine k_aload_n (pc := 58) F 0 0 dX9_include_58 rfl rfl ?_
    refine k_dup (pc := 59) F dX9_include_59 rfl ?_
    refine gf_18_7 (pc := 60) F w_1_186 dX9_include_60 ?_
    refine k_iconst (pc := 63) F (v := (1 : Int32)) dX9_include_63 ci_1 ?_
    refine k_iadd (pc := 64) F dX9_include_64 ?_
    refine pf_18_7 (pc := 65) F w_1_186 dX9_include_65 (fun σ5 => ?_)
    refine k_aload_n (pc := 68) F 0 0 dX9_include_68 rfl rfl ?_
    refine gf_18_7 (pc := 69) F w_1_186 dX9_include_69 ?_
    refine k_iconst (pc := 72) F (v := (1 : Int32)) dX9_include_72 ci_1 ?_
    refine k_isub (pc := 73) F dX9_include_73 ?_
    exact k_iret (pc := 74) B dX9_include_74
  · refine k_aload_n (pc := 10) F 0 0 dX9_include_10 rfl rfl ?_
    refine k_iconst (pc := 11) F (v := (1 : Int32)) dX9_include_11 ci_1 ?_
    refine pf_18_8 (pc := 12) F w_1_188 dX9_include_12 (fun σ6 => ?_)
    refine k_iconst (pc := 15) F (v := (-1 : Int32)) dX9_include_15 ci_m1 ?_
    exact k_iret (pc := 16) B dX9_include_16
set_option maxHeartbeats 4000000 in
set_option maxRecDepth 100000 in
theorem ct_X9_include (E : En) (aq0 : Int64) (aq1 : Int32) (aq2 : Int32)  (σ : Mm) : CtI E yX9_include cX9_include 5 (some .int) H_X9_include [.ref (ad E 18), .long aq0, .int aq1, .int aq2] σ (f_X9_include aq0 aq1 aq2 σ) := ct_I (by decide) (Nat.le_of_ble_eq_true rfl) rfl (fun G B => t_X9_include B aq0 aq1 aq2  σ)
abbrev H_X9_indexOf : Nat := 1
theorem hR_X9_indexOf_X9_include : H_X9_include + 1 ≤ H_X9_indexOf ∧ 8 + (5 + 11) + 40 * H_X9_include ≤ 40 * H_X9_indexOf := by decide
set_option maxHeartbeats 4000000 in
set_option maxRecDepth 100000 in
theorem t_X9_indexOf_L14b {E : En} {G : Cx} (B : Bx E G cX9_indexOf 7 RX9 H_X9_indexOf (some .int)) (xq1 : Int64) (xq3 : Int32)   (L14 : Int32 → Int32 → Mm → Option (Int32 × Mm)) (hL14 : ∀ (xq4 : Int32) (xq5 : Int32)  (σ : Mm), KR E G 7 (ZI E G) (L14 xq4 xq5 σ) 14 [(0, .ref (ad E 18)), (1, .long xq1), (3, .int xq3), (4, .int xq4), (5, .int xq5)] [] σ) (xq4 : Int32) (xq5 : Int32)  (σ : Mm) : KR E G 7 (ZI E G) (f_X9_indexOf_L14 xq1 xq3 L14 xq4 xq5 σ) 14 [(0, .ref (ad E 18)), (1, .long xq1), (3, .int xq3), (4, .int xq4), (5, .int xq5)] [] σ := by
  have F := B.1
  unfold f_X9_indexOf_L14
  refine k_iload (pc := 14) F 5 4 dX9_indexOf_14 rfl ?_
  refine k_sipush (pc := 16) F (v := (16384 : Int32)) dX9_indexOf_16 cs_16384 ?_
  refine k_icmp_ge (pc := 19) F 92 dX9_indexOf_19 (by decide) (fun _ => ?_) (fun _ => ?_)
  · refine k_iconst (pc := 92) F (v := (-1 : Int32)) dX9_indexOf_92 ci_m1 ?_
    exact k_iret (pc := 93) B dX9_indexOf_93
  · refine k_aload_n (pc := 22) F 0 0 dX9_indexOf_22 rfl rfl ?_
    refine gf_18_1 (pc := 23) F w_1_180 dX9_indexOf_23 ?_
    refine k_iload (pc := 26) F 4 3 dX9_indexOf_26 rfl ?_
    refine k_iald (pc := 28) F rfl dX9_indexOf_28 ?_
    refine k_nmI (fun vq2 => ?_)
    refine k_istore F (lv' := [(6, .int vq2), (0, .ref (ad E 18)), (1, .long xq1), (3, .int xq3), (4, .int xq4), (5, .int xq5)]) 6 dX9_indexOf_29 (by decide) rfl ?_
    refine k_iload (pc := 31) F 6 0 dX9_indexOf_31 rfl ?_
    refine k_aload_n (pc := 33) F 0 1 dX9_indexOf_33 rfl rfl ?_
    refine gf_18_7 (pc := 34) F w_1_186 dX9_indexOf_34 ?_
    refine k_icmp_ge (pc := 37) F 52 dX9_indexOf_37 (by decide) (fun _ => ?_) (fun _ => ?_)
    · refine k_aload_n (pc := 52) F 0 1 dX9_indexOf_52 rfl rfl ?_
      refine k_lload_n (pc := 53) F 1 2 dX9_indexOf_53 rfl rfl ?_
      refine k_iload (pc := 54) F 4 4 dX9_indexOf_54 rfl ?_
      refine k_iload_n (pc := 56) F 3 3 dX9_indexOf_56 rfl rfl ?_
      refine k_callVI (pc := 57) B (k := 18) (As := [.long xq1, .int xq4, .int xq3]) (rest := []) (ct_X9_include E xq1 xq4 xq3  σ) rfl rfl mv_X9_include w_3_68 rfl hR_X9_indexOf_X9_include rfl (Nat.le_of_ble_eq_true rfl) dX9_indexOf_57 (fun rq4 σ3 hoq => ?_)
      exact k_iret (pc := 60) B dX9_indexOf_60
    · refine k_aload_n (pc := 40) F 0 1 dX9_indexOf_40 rfl rfl ?_
      refine gf_18_2 (pc := 41) F w_1_181 dX9_indexOf_41 ?_
      refine k_iload (pc := 44) F 6 0 dX9_indexOf_44 rfl ?_
      refine k_iald (pc := 46) F rfl dX9_indexOf_46 ?_
      refine k_iload (pc := 47) F 4 4 dX9_indexOf_47 rfl ?_
      refine k_icmp_eq (pc := 49) F 61 dX9_indexOf_49 (by decide) (fun _ => ?_) (fun _ => ?_)
      · refine k_aload_n (pc := 61) F 0 1 dX9_indexOf_61 rfl rfl ?_
        refine gf_18_0 (pc := 62) F w_1_179 dX9_indexOf_62 ?_
        refine k_iload (pc := 65) F 6 0 dX9_indexOf_65 rfl ?_
        refine k_lald (pc := 67) F rfl dX9_indexOf_67 ?_
        refine k_lload_n (pc := 68) F 1 2 dX9_indexOf_68 rfl rfl ?_
        refine k_lcmp (pc := 69) F dX9_indexOf_69 ?_
        refine k_if_ne (pc := 70) F 76 dX9_indexOf_70 (by decide) (fun _ => ?_) (fun _ => ?_)
        · refine k_iload (pc := 73) F 6 0 dX9_indexOf_73 rfl ?_
          exact k_iret (pc := 75) B dX9_indexOf_75
        · refine k_iload (pc := 76) F 4 4 dX9_indexOf_76 rfl ?_
          refine k_iconst (pc := 78) F (v := (1 : Int32)) dX9_indexOf_78 ci_1 ?_
          refine k_iadd (pc := 79) F dX9_indexOf_79 ?_
          refine k_sipush (pc := 80) F (v := (16383 : Int32)) dX9_indexOf_80 cs_16383 ?_
          refine k_iand (pc := 83) F dX9_indexOf_83 ?_
          refine k_nmI (fun vq5 => ?_)
          refine k_istore F (lv' := [(4, .int vq5), (6, .int vq2), (0, .ref (ad E 18)), (1, .long xq1), (3, .int xq3), (5, .int xq5)]) 4 dX9_indexOf_84 (by decide) rfl ?_
          refine k_iinc (pc := 86) F (c := (1 : Int32)) (lw := fun wq => [(5, .int wq), (4, .int vq5), (6, .int vq2), (0, .ref (ad E 18)), (1, .long xq1), (3, .int xq3)]) 5 5 dX9_indexOf_86 rfl ci_1 (by decide) (fun _ => rfl) (fun vq6 => ?_)
          refine k_goto (pc := 89) F 14 dX9_indexOf_89 (by decide) ?_
          exact k_sub [3, 4, 5, 1, 0] rfl (hL14 vq5 vq6 σ)
      · refine k_aload_n (pc := 52) F 0 1 dX9_indexOf_52 rfl rfl ?_
        refine k_lload_n (pc := 53) F 1 2 dX9_indexOf_53 rfl rfl ?_
        refine k_iload (pc := 54) F 4 4 dX9_indexOf_54 rfl ?_
        refine k_iload_n (pc := 56) F 3 3 dX9_indexOf_56 rfl rfl ?_
        refine k_callVI (pc := 57) B (k := 18) (As := [.long xq1, .int xq4, .int xq3]) (rest := []) (ct_X9_include E xq1 xq4 xq3  σ) rfl rfl mv_X9_include w_3_68 rfl hR_X9_indexOf_X9_include rfl (Nat.le_of_ble_eq_true rfl) dX9_indexOf_57 (fun rq8 σ7 hoq => ?_)
        exact k_iret (pc := 60) B dX9_indexOf_60
set_option maxHeartbeats 4000000 in
set_option maxRecDepth 100000 in
theorem t_X9_indexOf_L14 {E : En} {G : Cx} (B : Bx E G cX9_indexOf 7 RX9 H_X9_indexOf (some .int)) (xq1 : Int64) (xq3 : Int32)   : ∀ (n : Nat) (xq4 : Int32) (xq5 : Int32)  (σ : Mm), KR E G 7 (ZI E G) (fx (fun _ _ _ => none) n (f_X9_indexOf_L14 xq1 xq3) xq4 xq5 σ) 14 [(0, .ref (ad E 18)), (1, .long xq1), (3, .int xq3), (4, .int xq4), (5, .int xq5)] [] σ :=
  fun n => fx_ind (P := fun f => ∀ (xq4 : Int32) (xq5 : Int32)  (σ : Mm), KR E G 7 (ZI E G) (f xq4 xq5 σ) 14 [(0, .ref (ad E 18)), (1, .long xq1), (3, .int xq3), (4, .int xq4), (5, .int xq5)] [] σ) (fun _ _ _ => k_none) (fun L14 hL14 xq4 xq5 σ => t_X9_indexOf_L14b B xq1 xq3   L14 hL14 xq4 xq5 σ) n
set_option maxHeartbeats 4000000 in
set_option maxRecDepth 100000 in
theorem t_X9_indexOf {E : En} {G : Cx} (B : Bx E G cX9_indexOf 7 RX9 H_X9_indexOf (some .int)) (aq0 : Int64) (aq1 : Int32)  (σ : Mm) : KR E G 7 (ZI E G) (f_X9_indexOf aq0 aq1 σ) 0 [(0, .ref (ad E 18)), (1, .long aq0), (3, .int aq1)] [] σ := by
  have F := B.1
  unfold f_X9_indexOf
  refine k_lload_n (pc := 0) F 1 1 dX9_indexOf_0 rfl rfl ?_
  refine k_ldc2 (pc := 1) F (v := (-7046029254386353131 : Int64)) w_3_67 dX9_indexOf_1 ?_
  refine k_lmul (pc := 4) F dX9_indexOf_4 ?_
  refine k_bipush (pc := 5) F (v := (50 : Int32)) dX9_indexOf_5 cb_50 ?_
  refine k_lushr (pc := 7) F dX9_indexOf_7 ?_
  refine k_l2i (pc := 8) F dX9_indexOf_8 ?_
  refine k_nmI (fun vq1 => ?_)
  refine k_istore F (lv' := [(4, .int vq1), (0, .ref (ad E 18)), (1, .long aq0), (3, .int aq1)]) 4 dX9_indexOf_9 (by decide) rfl ?_
  refine k_iconst (pc := 11) F (v := (0 : Int32)) dX9_indexOf_11 ci_0 ?_
  refine k_istore F (lv' := [(5, .int (0 : Int32)), (4, .int vq1), (0, .ref (ad E 18)), (1, .long aq0), (3, .int aq1)]) 5 dX9_indexOf_12 (by decide) rfl ?_
  exact k_sub [2, 3, 4, 1, 0] rfl (t_X9_indexOf_L14 B aq0 aq1   FU vq1 (0 : Int32)  σ)
set_option maxHeartbeats 4000000 in
set_option maxRecDepth 100000 in
theorem ct_X9_indexOf (E : En) (aq0 : Int64) (aq1 : Int32)  (σ : Mm) : CtI E yX9_indexOf cX9_indexOf 7 (some .int) H_X9_indexOf [.ref (ad E 18), .long aq0, .int aq1] σ (f_X9_indexOf aq0 aq1 σ) := ct_I (by decide) (Nat.le_of_ble_eq_true rfl) rfl (fun G B => t_X9_indexOf B aq0 aq1  σ)
