abbrev H_X11_ends : Nat := 14
theorem hR_X11_ends_X11_finds : H_X11_finds + 1 ≤ H_X11_ends ∧ 8 + (2 + 11) + 40 * H_X11_finds ≤ 40 * H_X11_ends := by decide
theorem hR_X11_ends_X11_lookAll : H_X11_lookAll + 1 ≤ H_X11_ends ∧ 8 + (1 + 11) + 40 * H_X11_lookAll ≤ 40 * H_X11_ends := by decide
set_option maxHeartbeats 4000000 in
set_option maxRecDepth 100000 in
theorem t_X11_ends {E : En} {G : Cx} (B : Bx E G cX11_ends 1 RX11 H_X11_ends (some .int))   (σ : Mm) : KR E G 1 (ZI E G) (f_X11_ends  σ) 0 [(0, .ref (ad E 48))] [] σ := by
  have F := B.1
  unfold f_X11_ends
  refine k_aload_n (pc := 0) F 0 0 dX11_ends_0 rfl rfl ?_
  refine k_callVV (pc := 1) B (k := 48) (As := []) (rest := []) (ct_X11_lookAll E   σ) rfl rfl mv_X11_lookAll w_5_238 rfl hR_X11_ends_X11_lookAll rfl (Nat.le_of_ble_eq_true rfl) dX11_ends_1 (fun rq2 σ1 hoq => ?_)
  refine k_aload_n (pc := 4) F 0 0 dX11_ends_4 rfl rfl ?_
  refine gf_48_49 (pc := 5) F w_4_219 dX11_ends_5 ?_
  refine k_if_eq (pc := 8) F 21 dX11_ends_8 (by decide) (fun _ => ?_) (fun _ => ?_)
  · refine k_aload_n (pc := 21) F 0 0 dX11_ends_21 rfl rfl ?_
    refine gf_48_58 (pc := 22) F w_4_228 dX11_ends_22 ?_
    exact k_iret (pc := 25) B dX11_ends_25
  · refine k_aload_n (pc := 11) F 0 0 dX11_ends_11 rfl rfl ?_
    refine k_ldcw (pc := 12) F (v := (-1000000007 : Int32)) w_6_101 dX11_ends_12 ?_
    refine k_callVI (pc := 15) B (k := 48) (As := [.int (-1000000007 : Int32)]) (rest := []) (ct_X11_finds E (-1000000007 : Int32)  σ1) rfl rfl mv_X11_finds w_5_144 rfl hR_X11_ends_X11_finds rfl (Nat.le_of_ble_eq_true rfl) dX11_ends_15 (fun rq4 σ3 hoq => ?_)
    refine k_goto (pc := 18) F 25 dX11_ends_18 (by decide) ?_
    exact k_iret (pc := 25) B dX11_ends_25
set_option maxHeartbeats 4000000 in
set_option maxRecDepth 100000 in
theorem ct_X11_ends (E : En)   (σ : Mm) : CtI E yX11_ends cX11_ends 1 (some .int) H_X11_ends [.ref (ad E 48)] σ (f_X11_ends  σ) := ct_I (by decide) (Nat.le_of_ble_eq_true rfl) rfl (fun G B => t_X11_ends B   σ)
abbrev H_X11_result : Nat := 14
theorem hR_X11_result_X11_finds : H_X11_finds + 1 ≤ H_X11_result ∧ 8 + (2 + 11) + 40 * H_X11_finds ≤ 40 * H_X11_result := by decide
theorem hR_X11_result_X11_lookAll : H_X11_lookAll + 1 ≤ H_X11_result ∧ 8 + (1 + 11) + 40 * H_X11_lookAll ≤ 40 * H_X11_result := by decide
set_option maxHeartbeats 4000000 in
set_option maxRecDepth 100000 in
theorem t_X11_result {E : En} {G : Cx} (B : Bx E G cX11_result 2 RX11 H_X11_result (some .int)) (aq0 : Int32)  (σ : Mm) : KR E G 2 (ZI E G) (f_X11_result aq0 σ) 0 [(0, .ref (ad E 48)), (1, .int aq0)] [] σ := by
  have F := B.1
  unfold f_X11_result
  refine k_iload_n (pc := 0) F 1 1 dX11_result_0 rfl rfl ?_
  refine k_if_ge (pc := 1) F 11 dX11_result_1 (by decide) (fun _ => ?_) (fun _ => ?_)
  · refine k_aload_n (pc := 11) F 0 0 dX11_result_11 rfl rfl ?_
    refine k_callVV (pc := 12) B (k := 48) (As := []) (rest := []) (ct_X11_lookAll E   σ) rfl rfl mv_X11_lookAll w_5_238 rfl hR_X11_result_X11_lookAll rfl (Nat.le_of_ble_eq_true rfl) dX11_result_12 (fun rq2 σ1 hoq => ?_)
    refine k_aload_n (pc := 15) F 0 0 dX11_result_15 rfl rfl ?_
    refine gf_48_49 (pc := 16) F w_4_219 dX11_result_16 ?_
    refine k_if_eq (pc := 19) F 32 dX11_result_19 (by decide) (fun _ => ?_) (fun _ => ?_)
    · refine k_iload_n (pc := 32) F 1 1 dX11_result_32 rfl rfl ?_
      refine k_aload_n (pc := 33) F 0 0 dX11_result_33 rfl rfl ?_
      refine gf_48_58 (pc := 34) F w_4_228 dX11_result_34 ?_
      refine k_icmp_ge (pc := 37) F 49 dX11_result_37 (by decide) (fun _ => ?_) (fun _ => ?_)
      · refine k_aload_n (pc := 49) F 0 0 dX11_result_49 rfl rfl ?_
        refine k_ldcw (pc := 50) F (v := (-1000000004 : Int32)) w_6_110 dX11_result_50 ?_
        refine k_callVI (pc := 53) B (k := 48) (As := [.int (-1000000004 : Int32)]) (rest := []) (ct_X11_finds E (-1000000004 : Int32)  σ1) rfl rfl mv_X11_finds w_5_144 rfl hR_X11_result_X11_finds rfl (Nat.le_of_ble_eq_true rfl) dX11_result_53 (fun rq4 σ3 hoq => ?_)
        exact k_iret (pc := 56) B dX11_result_56
      · refine k_aload_n (pc := 40) F 0 0 dX11_result_40 rfl rfl ?_
        refine gf_48_57 (pc := 41) F w_4_227 dX11_result_41 ?_
        refine k_iload_n (pc := 44) F 1 1 dX11_result_44 rfl rfl ?_
        refine k_iald (pc := 45) F rfl dX11_result_45 ?_
        refine k_goto (pc := 46) F 56 dX11_result_46 (by decide) ?_
        exact k_iret (pc := 56) B dX11_result_56
    · refine k_aload_n (pc := 22) F 0 0 dX11_result_22 rfl rfl ?_
      refine k_ldcw (pc := 23) F (v := (-1000000007 : Int32)) w_6_101 dX11_result_23 ?_
      refine k_callVI (pc := 26) B (k := 48) (As := [.int (-1000000007 : Int32)]) (rest := []) (ct_X11_finds E (-1000000007 : Int32)  σ1) rfl rfl mv_X11_finds w_5_144 rfl hR_X11_result_X11_finds rfl (Nat.le_of_ble_eq_true rfl) dX11_result_26 (fun rq6 σ5 hoq => ?_)
      refine k_goto (pc := 29) F 56 dX11_result_29 (by decide) ?_
      exact k_iret (pc := 56) B dX11_result_56
  · refine k_aload_n (pc := 4) F 0 0 dX11_result_4 rfl rfl ?_
    refine k_ldc (pc := 5) F (v := (-1000000001 : Int32)) w_5_143 dX11_result_5 ?_
    refine k_callVI (pc := 7) B (k := 48) (As := [.int (-1000000001 : Int32)]) (rest := []) (ct_X11_finds E (-1000000001 : Int32)  σ) rfl rfl mv_X11_finds w_5_144 rfl hR_X11_result_X11_finds rfl (Nat.le_of_ble_eq_true rfl) dX11_result_7 (fun rq8 σ7 hoq => ?_)
    exact k_iret (pc := 10) B dX11_result_10
set_option maxHeartbeats 4000000 in
set_option maxRecDepth 100000 in
theorem ct_X11_result (E : En) (aq0 : Int32)  (σ : Mm) : CtI E yX11_result cX11_result 2 (some .int) H_X11_result [.ref (ad E 48), .int aq0] σ (f_X11_result aq0 σ) := ct_I (by decide) (Nat.le_of_ble_eq_true rfl) rfl (fun G B => t_X11_result B aq0  σ)
abbrev H_X11_orders : Nat := 14
theorem hR_X11_orders_X11_lookAll : H_X11_lookAll + 1 ≤ H_X11_orders ∧ 8 + (1 + 11) + 40 * H_X11_lookAll ≤ 40 * H_X11_orders := by decide
set_option maxHeartbeats 4000000 in
set_option maxRecDepth 100000 in
theorem t_X11_orders {E : En} {G : Cx} (B : Bx E G cX11_orders 1 RX11 H_X11_orders (some .int))   (σ : Mm) : KR E G 1 (ZI E G) (f_X11_orders  σ) 0 [(0, .ref (ad E 48))] [] σ := by
  have F := B.1
  unfold f_X11_orders
  refine k_aload_n (pc := 0) F 0 0 dX11_orders_0 rfl rfl ?_
  refine k_callVV (pc := 1) B (k := 48) (As := []) (rest := []) (ct_X11_lookAll E   σ) rfl rfl mv_X11_lookAll w_5_238 rfl hR_X11_orders_X11_lookAll rfl (Nat.le_of_ble_eq_true rfl) dX11_orders_1 (fun rq2 σ1 hoq => ?_)
  refine k_aload_n (pc := 4) F 0 0 dX11_orders_4 rfl rfl ?_
  refine gf_48_60 (pc := 5) F w_4_230 dX11_orders_5 ?_
  exact k_iret (pc := 8) B dX11_orders_8
set_option maxHeartbeats 4000000 in
set_option maxRecDepth 100000 in
theorem ct_X11_orders (E : En)   (σ : Mm) : CtI E yX11_orders cX11_orders 1 (some .int) H_X11_orders [.ref (ad E 48)] σ (f_X11_orders  σ) := ct_I (by decide) (Nat.le_of_ble_eq_true rfl) rfl (fun G B => t_X11_orders B   σ)
abbrev H_X11_inOrder : Nat := 14
theorem hR_X11_inOrder_X11_finds : H_X11_finds + 1 ≤ H_X11_inOrder ∧ 8 + (2 + 11) + 40 * H_X11_finds ≤ 40 * H_X11_inOrder := by decide
theorem hR_X11_inOrder_X11_lookAll : H_X11_lookAll + 1 ≤ H_X11_inOrder ∧ 8 + (1 + 11) + 40 * H_X11_lookAll ≤ 40 * H_X11_inOrder := by decide
set_option maxHeartbeats 4000000 in
set_option maxRecDepth 100000 in
theorem t_X11_inOrder {E : En} {G : Cx} (B : Bx E G cX11_inOrder 2 RX11 H_X11_inOrder (some .int)) (aq0 : Int32)  (σ : Mm) : KR E G 2 (ZI E G) (f_X11_inOrder aq0 σ) 0 [(0, .ref (ad E 48)), (1, .int aq0)] [] σ := by
  have F := B.1
  unfold f_X11_inOrder
  refine k_iload_n (pc := 0) F 1 1 dX11_inOrder_0 rfl rfl ?_
  refine k_if_ge (pc := 1) F 11 dX11_inOrder_1 (by decide) (fun _ => ?_) (fun _ => ?_)
  · refine k_aload_n (pc := 11) F 0 0 dX11_inOrder_11 rfl rfl ?_
    refine k_callVV (pc := 12) B (k := 48) (As := []) (rest := []) (ct_X11_lookAll E   σ) rfl rfl mv_X11_lookAll w_5_238 rfl hR_X11_inOrder_X11_lookAll rfl (Nat.le_of_ble_eq_true rfl) dX11_inOrder_12 (fun rq2 σ1 hoq => ?_)
    refine k_iload_n (pc := 15) F 1 1 dX11_inOrder_15 rfl rfl ?_
    refine k_aload_n (pc := 16) F 0 0 dX11_inOrder_16 rfl rfl ?_
    refine gf_48_60 (pc := 17) F w_4_230 dX11_inOrder_17 ?_
    refine k_icmp_ge (pc := 20) F 32 dX11_inOrder_20 (by decide) (fun _ => ?_) (fun _ => ?_)
    · refine k_aload_n (pc := 32) F 0 0 dX11_inOrder_32 rfl rfl ?_
      refine k_ldcw (pc := 33) F (v := (-1000000004 : Int32)) w_6_110 dX11_inOrder_33 ?_
      refine k_callVI (pc := 36) B (k := 48) (As := [.int (-1000000004 : Int32)]) (rest := []) (ct_X11_finds E (-1000000004 : Int32)  σ1) rfl rfl mv_X11_finds w_5_144 rfl hR_X11_inOrder_X11_finds rfl (Nat.le_of_ble_eq_true rfl) dX11_inOrder_36 (fun rq4 σ3 hoq => ?_)
      exact k_iret (pc := 39) B dX11_inOrder_39
    · refine k_aload_n (pc := 23) F 0 0 dX11_inOrder_23 rfl rfl ?_
      refine gf_48_59 (pc := 24) F w_4_229 dX11_inOrder_24 ?_
      refine k_iload_n (pc := 27) F 1 1 dX11_inOrder_27 rfl rfl ?_
      refine k_iald (pc := 28) F rfl dX11_inOrder_28 ?_
      refine k_goto (pc := 29) F 39 dX11_inOrder_29 (by decide) ?_
      exact k_iret (pc := 39) B dX11_inOrder_39
  · refine k_aload_n (pc := 4) F 0 0 dX11_inOrder_4 rfl rfl ?_
    refine k_ldc (pc := 5) F (v := (-1000000001 : Int32)) w_5_143 dX11_inOrder_5 ?_
    refine k_callVI (pc := 7) B (k := 48) (As := [.int (-1000000001 : Int32)]) (rest := []) (ct_X11_finds E (-1000000001 : Int32)  σ) rfl rfl mv_X11_finds w_5_144 rfl hR_X11_inOrder_X11_finds rfl (Nat.le_of_ble_eq_true rfl) dX11_inOrder_7 (fun rq6 σ5 hoq => ?_)
    exact k_iret (pc := 10) B dX11_inOrder_10
set_option maxHeartbeats 4000000 in
set_option maxRecDepth 100000 in
theorem ct_X11_inOrder (E : En) (aq0 : Int32)  (σ : Mm) : CtI E yX11_inOrder cX11_inOrder 2 (some .int) H_X11_inOrder [.ref (ad E 48), .int aq0] σ (f_X11_inOrder aq0 σ) := ct_I (by decide) (Nat.le_of_ble_eq_true rfl) rfl (fun G B => t_X11_inOrder B aq0  σ)
abbrev H_X11_bad : Nat := 14
theorem hR_X11_bad_X11_finds : H_X11_finds + 1 ≤ H_X11_bad ∧ 8 + (2 + 11) + 40 * H_X11_finds ≤ 40 * H_X11_bad := by decide
theorem hR_X11_bad_X11_badMany : H_X11_badMany + 1 ≤ H_X11_bad ∧ 8 + (3 + 11) + 40 * H_X11_badMany ≤ 40 * H_X11_bad := by decide
theorem hR_X11_bad_X11_lookAll : H_X11_lookAll + 1 ≤ H_X11_bad ∧ 8 + (1 + 11) + 40 * H_X11_lookAll ≤ 40 * H_X11_bad := by decide
set_option maxHeartbeats 4000000 in
set_option maxRecDepth 100000 in
theorem t_X11_bad {E : En} {G : Cx} (B : Bx E G cX11_bad 1 RX11 H_X11_bad (some .int))   (σ : Mm) : KR E G 1 (ZI E G) (f_X11_bad  σ) 0 [(0, .ref (ad E 48))] [] σ := by
  have F := B.1
  unfold f_X11_bad
  refine k_aload_n (pc := 0) F 0 0 dX11_bad_0 rfl rfl ?_
  refine k_callVV (pc := 1) B (k := 48) (As := []) (rest := []) (ct_X11_lookAll E   σ) rfl rfl mv_X11_lookAll w_5_238 rfl hR_X11_bad_X11_lookAll rfl (Nat.le_of_ble_eq_true rfl) dX11_bad_1 (fun rq2 σ1 hoq => ?_)
  refine k_aload_n (pc := 4) F 0 0 dX11_bad_4 rfl rfl ?_
  refine gf_48_49 (pc := 5) F w_4_219 dX11_bad_5 ?_
  refine k_if_eq (pc := 8) F 21 dX11_bad_8 (by decide) (fun _ => ?_) (fun _ => ?_)
  · refine k_aload_n (pc := 21) F 0 0 dX11_bad_21 rfl rfl ?_
    refine k_callVI (pc := 22) B (k := 48) (As := []) (rest := []) (ct_X11_badMany E   σ1) rfl rfl mv_X11_badMany w_6_123 rfl hR_X11_bad_X11_badMany rfl (Nat.le_of_ble_eq_true rfl) dX11_bad_22 (fun rq4 σ3 hoq => ?_)
    exact k_iret (pc := 25) B dX11_bad_25
  · refine k_aload_n (pc := 11) F 0 0 dX11_bad_11 rfl rfl ?_
    refine k_ldcw (pc := 12) F (v := (-1000000007 : Int32)) w_6_101 dX11_bad_12 ?_
    refine k_callVI (pc := 15) B (k := 48) (As := [.int (-1000000007 : Int32)]) (rest := []) (ct_X11_finds E (-1000000007 : Int32)  σ1) rfl rfl mv_X11_finds w_5_144 rfl hR_X11_bad_X11_finds rfl (Nat.le_of_ble_eq_true rfl) dX11_bad_15 (fun rq6 σ5 hoq => ?_)
    refine k_goto (pc := 18) F 25 dX11_bad_18 (by decide) ?_
    exact k_iret (pc := 25) B dX11_bad_25
set_option maxHeartbeats 4000000 in
set_option maxRecDepth 100000 in
theorem ct_X11_bad (E : En)   (σ : Mm) : CtI E yX11_bad cX11_bad 1 (some .int) H_X11_bad [.ref (ad E 48)] σ (f_X11_bad  σ) := ct_I (by decide) (Nat.le_of_ble_eq_true rfl) rfl (fun G B => t_X11_bad B   σ)
abbrev H_X11_worst : Nat := 14
theorem hR_X11_worst_X11_finds : H_X11_finds + 1 ≤ H_X11_worst ∧ 8 + (2 + 11) + 40 * H_X11_finds ≤ 40 * H_X11_worst := by decide
theorem hR_X11_worst_X11_leastBad : H_X11_leastBad + 1 ≤ H_X11_worst ∧ 8 + (2 + 11) + 40 * H_X11_leastBad ≤ 40 * H_X11_worst := by decide
theorem hR_X11_worst_X11_lookAll : H_X11_lookAll + 1 ≤ H_X11_worst ∧ 8 + (1 + 11) + 40 * H_X11_lookAll ≤ 40 * H_X11_worst := by decide
set_option maxHeartbeats 4000000 in
set_option maxRecDepth 100000 in
theorem t_X11_worst {E : En} {G : Cx} (B : Bx E G cX11_worst 2 RX11 H_X11_worst (some .int))   (σ : Mm) : KR E G 2 (ZI E G) (f_X11_worst  σ) 0 [(0, .ref (ad E 48))] [] σ := by
  have F := B.1
  unfold f_X11_worst
  refine k_aload_n (pc := 0) F 0 0 dX11_worst_0 rfl rfl ?_
  refine k_callVV (pc := 1) B (k := 48) (As := []) (rest := []) (ct_X11_lookAll E   σ) rfl rfl mv_X11_lookAll w_5_238 rfl hR_X11_worst_X11_lookAll rfl (Nat.le_of_ble_eq_true rfl) dX11_worst_1 (fun rq2 σ1 hoq => ?_)
  refine k_aload_n (pc := 4) F 0 0 dX11_worst_4 rfl rfl ?_
  refine gf_48_49 (pc := 5) F w_4_219 dX11_worst_5 ?_
  refine k_if_eq (pc := 8) F 19 dX11_worst_8 (by decide) (fun _ => ?_) (fun _ => ?_)
  · refine k_aload_n (pc := 19) F 0 0 dX11_worst_19 rfl rfl ?_
    refine k_callVI (pc := 20) B (k := 48) (As := []) (rest := []) (ct_X11_leastBad E   σ1) rfl rfl mv_X11_leastBad w_6_135 rfl hR_X11_worst_X11_leastBad rfl (Nat.le_of_ble_eq_true rfl) dX11_worst_20 (fun rq4 σ3 hoq => ?_)
    refine k_istore_n F (lv' := [(1, .int rq4), (0, .ref (ad E 48))]) 1 dX11_worst_23 rfl (by decide) rfl ?_
    refine k_iload_n (pc := 24) F 1 0 dX11_worst_24 rfl rfl ?_
    refine k_if_ge (pc := 25) F 38 dX11_worst_25 (by decide) (fun _ => ?_) (fun _ => ?_)
    · refine k_iload_n (pc := 38) F 1 0 dX11_worst_38 rfl rfl ?_
      exact k_iret (pc := 39) B dX11_worst_39
    · refine k_aload_n (pc := 28) F 0 1 dX11_worst_28 rfl rfl ?_
      refine k_ldcw (pc := 29) F (v := (-1000000004 : Int32)) w_6_110 dX11_worst_29 ?_
      refine k_callVI (pc := 32) B (k := 48) (As := [.int (-1000000004 : Int32)]) (rest := []) (ct_X11_finds E (-1000000004 : Int32)  σ3) rfl rfl mv_X11_finds w_5_144 rfl hR_X11_worst_X11_finds rfl (Nat.le_of_ble_eq_true rfl) dX11_worst_32 (fun rq6 σ5 hoq => ?_)
      refine k_goto (pc := 35) F 39 dX11_worst_35 (by decide) ?_
      exact k_iret (pc := 39) B dX11_worst_39
  · refine k_aload_n (pc := 11) F 0 0 dX11_worst_11 rfl rfl ?_
    refine k_ldcw (pc := 12) F (v := (-1000000007 : Int32)) w_6_101 dX11_worst_12 ?_
    refine k_callVI (pc := 15) B (k := 48) (As := [.int (-1000000007 : Int32)]) (rest := []) (ct_X11_finds E (-1000000007 : Int32)  σ1) rfl rfl mv_X11_finds w_5_144 rfl hR_X11_worst_X11_finds rfl (Nat.le_of_ble_eq_true rfl) dX11_worst_15 (fun rq8 σ7 hoq => ?_)
    exact k_iret (pc := 18) B dX11_worst_18
set_option maxHeartbeats 4000000 in
set_option maxRecDepth 100000 in
theorem ct_X11_worst (E : En)   (σ : Mm) : CtI E yX11_worst cX11_worst 2 (some .int) H_X11_worst [.ref (ad E 48)] σ (f_X11_worst  σ) := ct_I (by decide) (Nat.le_of_ble_eq_true rfl) rfl (fun G B => t_X11_worst B   σ)
abbrev H_X11_findWay : Nat := 1
theorem hR_X11_findWay_X11_moveOf : H_X11_moveOf + 1 ≤ H_X11_findWay ∧ 8 + (1 + 11) + 40 * H_X11_moveOf ≤ 40 * H_X11_findWay := by decide
set_option maxHeartbeats 4000000 in
set_option maxRecDepth 100000 in
theorem t_X11_findWay_106 {E : En} {G : Cx} (B : Bx E G cX11_findWay 5 RX11 H_X11_findWay none) (xq1 : Int32) (xq2 : Int32) (xq3 : Int32) (xqs1 : Int32) (xqs2 : Int32)  (L34 : Int32 → Mm → Option (Unit × Mm)) (hL34 : ∀ (xq3 : Int32)  (σ : Mm), KR E G 5 (ZV E G) (L34 xq3 σ) 34 [(0, .ref (ad E 48)), (1, .int xq1), (2, .int xq2), (3, .int xq3)] [] σ)  (σ : Mm) : KR E G 5 (ZV E G) (f_X11_findWay_106 L34 xq1 xq2 xq3 xqs1 xqs2 σ) 106 [(0, .ref (ad E 48)), (1, .int xq1), (2, .int xq2), (3, .int xq3)] [.int xqs2, .int xqs1, .ref (ad E 86)] σ := by
  have F := B.1
  unfold f_X11_findWay_106
  refine k_zast (pc := 106) F rfl dX11_findWay_106 (fun σ4 => ?_)
  refine k_iinc (pc := 107) F (c := (1 : Int32)) (lw := fun wq => [(3, .int wq), (0, .ref (ad E 48)), (1, .int xq1), (2, .int xq2)]) 3 3 dX11_findWay_107 rfl ci_1 (by decide) (fun _ => rfl) (fun vq5 => ?_)
  refine k_goto (pc := 110) F 34 dX11_findWay_110 (by decide) ?_
  exact k_sub [1, 2, 3, 0] rfl (hL34 vq5 σ4)
set_option maxHeartbeats 4000000 in
set_option maxRecDepth 100000 in
theorem t_X11_findWay_101 {E : En} {G : Cx} (B : Bx E G cX11_findWay 5 RX11 H_X11_findWay none) (xq1 : Int32) (xq2 : Int32) (xq3 : Int32) (xqs1 : Int32)  (L34 : Int32 → Mm → Option (Unit × Mm)) (hL34 : ∀ (xq3 : Int32)  (σ : Mm), KR E G 5 (ZV E G) (L34 xq3 σ) 34 [(0, .ref (ad E 48)), (1, .int xq1), (2, .int xq2), (3, .int xq3)] [] σ)  (σ : Mm) : KR E G 5 (ZV E G) (f_X11_findWay_101 L34 xq1 xq2 xq3 xqs1 σ) 101 [(0, .ref (ad E 48)), (1, .int xq1), (2, .int xq2), (3, .int xq3)] [.int xqs1, .ref (ad E 86)] σ := by
  have F := B.1
  unfold f_X11_findWay_101
  refine k_iconst (pc := 101) F (v := (1 : Int32)) dX11_findWay_101 ci_1 ?_
  refine k_goto (pc := 102) F 106 dX11_findWay_102 (by decide) ?_
  exact k_sub [0, 1, 2, 3] rfl (t_X11_findWay_106 B xq1 xq2 xq3 xqs1 (1 : Int32)  L34 hL34  σ)
set_option maxHeartbeats 4000000 in
set_option maxRecDepth 100000 in
theorem t_X11_findWay_105 {E : En} {G : Cx} (B : Bx E G cX11_findWay 5 RX11 H_X11_findWay none) (xq1 : Int32) (xq2 : Int32) (xq3 : Int32) (xqs1 : Int32)  (L34 : Int32 → Mm → Option (Unit × Mm)) (hL34 : ∀ (xq3 : Int32)  (σ : Mm), KR E G 5 (ZV E G) (L34 xq3 σ) 34 [(0, .ref (ad E 48)), (1, .int xq1), (2, .int xq2), (3, .int xq3)] [] σ)  (σ : Mm) : KR E G 5 (ZV E G) (f_X11_findWay_105 L34 xq1 xq2 xq3 xqs1 σ) 105 [(0, .ref (ad E 48)), (1, .int xq1), (2, .int xq2), (3, .int xq3)] [.int xqs1, .ref (ad E 86)] σ := by
  have F := B.1
  unfold f_X11_findWay_105
  refine k_iconst (pc := 105) F (v := (0 : Int32)) dX11_findWay_105 ci_0 ?_
  exact k_sub [0, 1, 2, 3] rfl (t_X11_findWay_106 B xq1 xq2 xq3 xqs1 (0 : Int32)  L34 hL34  σ)
set_option maxHeartbeats 4000000 in
set_option maxRecDepth 100000 in
theorem t_X11_findWay_L34b {E : En} {G : Cx} (B : Bx E G cX11_findWay 5 RX11 H_X11_findWay none) (xq1 : Int32) (xq2 : Int32)  (K113 : Mm → Option (Unit × Mm)) (hK113 : ∀   (σ : Mm), KR E G 5 (ZV E G) (K113  σ) 113 [(0, .ref (ad E 48)), (1, .int xq1), (2, .int xq2)] [] σ)  (L34 : Int32 → Mm → Option (Unit × Mm)) (hL34 : ∀ (xq3 : Int32)  (σ : Mm), KR E G 5 (ZV E G) (L34 xq3 σ) 34 [(0, .ref (ad E 48)), (1, .int xq1), (2, .int xq2), (3, .int xq3)] [] σ) (xq3 : Int32)  (σ : Mm) : KR E G 5 (ZV E G) (f_X11_findWay_L34 K113 xq1 xq2 L34 xq3 σ) 34 [(0, .ref (ad E 48)), (1, .int xq1), (2, .int xq2), (3, .int xq3)] [] σ := by
  have F := B.1
  unfold f_X11_findWay_L34
  refine k_iload_n (pc := 34) F 3 3 dX11_findWay_34 rfl rfl ?_
  refine k_bipush (pc := 35) F (v := (6 : Int32)) dX11_findWay_35 cb_6 ?_
  refine k_icmp_ge (pc := 37) F 113 dX11_findWay_37 (by decide) (fun _ => ?_) (fun _ => ?_)
  · exact k_sub [0, 1, 2] rfl (hK113 σ)
  · refine k_aload_n (pc := 40) F 0 0 dX11_findWay_40 rfl rfl ?_
    refine gf_48_52 (pc := 41) F w_4_222 dX11_findWay_41 ?_
    refine k_bipush (pc := 44) F (v := (6 : Int32)) dX11_findWay_44 cb_6 ?_
    refine k_iload_n (pc := 46) F 2 2 dX11_findWay_46 rfl rfl ?_
    refine k_imul (pc := 47) F dX11_findWay_47 ?_
    refine k_iload_n (pc := 48) F 3 3 dX11_findWay_48 rfl rfl ?_
    refine k_iadd (pc := 49) F dX11_findWay_49 ?_
    refine k_iald (pc := 50) F rfl dX11_findWay_50 ?_
    refine k_nmI (fun vq3 => ?_)
    refine k_istore F (lv' := [(4, .int vq3), (0, .ref (ad E 48)), (1, .int xq1), (2, .int xq2), (3, .int xq3)]) 4 dX11_findWay_51 (by decide) rfl ?_
    refine k_aload_n (pc := 53) F 0 1 dX11_findWay_53 rfl rfl ?_
    refine gf_48_55 (pc := 54) F w_4_225 dX11_findWay_54 ?_
    refine k_iload_n (pc := 57) F 2 3 dX11_findWay_57 rfl rfl ?_
    refine k_aload_n (pc := 58) F 0 1 dX11_findWay_58 rfl rfl ?_
    refine gf_48_55 (pc := 59) F w_4_225 dX11_findWay_59 ?_
    refine k_iload_n (pc := 62) F 2 3 dX11_findWay_62 rfl rfl ?_
    refine k_zald (pc := 63) F rfl dX11_findWay_63 ?_
    refine k_if_ne (pc := 64) F 101 dX11_findWay_64 (by decide) (fun _ => ?_) (fun _ => ?_)
    · refine k_iload (pc := 67) F 4 0 dX11_findWay_67 rfl ?_
      refine k_iload_n (pc := 69) F 2 3 dX11_findWay_69 rfl rfl ?_
      refine k_icmp_le (pc := 70) F 105 dX11_findWay_70 (by decide) (fun _ => ?_) (fun _ => ?_)
      · exact k_sub [1, 2, 3, 4] rfl (t_X11_findWay_105 B xq1 xq2 xq3 xq2  L34 hL34  σ)
      · refine k_aload_n (pc := 73) F 0 1 dX11_findWay_73 rfl rfl ?_
        refine gf_48_55 (pc := 74) F w_4_225 dX11_findWay_74 ?_
        refine k_iload (pc := 77) F 4 0 dX11_findWay_77 rfl ?_
        refine k_zald (pc := 79) F rfl dX11_findWay_79 ?_
        refine k_if_eq (pc := 80) F 105 dX11_findWay_80 (by decide) (fun _ => ?_) (fun _ => ?_)
        · exact k_sub [1, 2, 3, 4] rfl (t_X11_findWay_105 B xq1 xq2 xq3 xq2  L34 hL34  σ)
        · refine k_aload_n (pc := 83) F 0 1 dX11_findWay_83 rfl rfl ?_
          refine gf_48_53 (pc := 84) F w_4_223 dX11_findWay_84 ?_
          refine k_iload (pc := 87) F 4 0 dX11_findWay_87 rfl ?_
          refine k_iald (pc := 89) F rfl dX11_findWay_89 ?_
          refine k_aload_n (pc := 90) F 0 1 dX11_findWay_90 rfl rfl ?_
          refine gf_48_53 (pc := 91) F w_4_223 dX11_findWay_91 ?_
          refine k_iload_n (pc := 94) F 2 3 dX11_findWay_94 rfl rfl ?_
          refine k_iald (pc := 95) F rfl dX11_findWay_95 ?_
          refine k_iconst (pc := 96) F (v := (1 : Int32)) dX11_findWay_96 ci_1 ?_
          refine k_iadd (pc := 97) F dX11_findWay_97 ?_
          refine k_icmp_ne (pc := 98) F 105 dX11_findWay_98 (by decide) (fun _ => ?_) (fun _ => ?_)
          · exact k_sub [1, 2, 3, 4] rfl (t_X11_findWay_101 B xq1 xq2 xq3 xq2  L34 hL34  σ)
          · exact k_sub [1, 2, 3, 4] rfl (t_X11_findWay_105 B xq1 xq2 xq3 xq2  L34 hL34  σ)
    · exact k_sub [1, 2, 3, 4] rfl (t_X11_findWay_101 B xq1 xq2 xq3 xq2  L34 hL34  σ)
set_option maxHeartbeats 4000000 in
set_option maxRecDepth 100000 in
theorem t_X11_findWay_L34 {E : En} {G : Cx} (B : Bx E G cX11_findWay 5 RX11 H_X11_findWay none) (xq1 : Int32) (xq2 : Int32)  (K113 : Mm → Option (Unit × Mm)) (hK113 : ∀   (σ : Mm), KR E G 5 (ZV E G) (K113  σ) 113 [(0, .ref (ad E 48)), (1, .int xq1), (2, .int xq2)] [] σ)  : ∀ (n : Nat) (xq3 : Int32)  (σ : Mm), KR E G 5 (ZV E G) (fx (fun _ _ => none) n (f_X11_findWay_L34 K113 xq1 xq2) xq3 σ) 34 [(0, .ref (ad E 48)), (1, .int xq1), (2, .int xq2), (3, .int xq3)] [] σ :=
  fun n => fx_ind (P := fun f => ∀ (xq3 : Int32)  (σ : Mm), KR E G 5 (ZV E G) (f xq3 σ) 34 [(0, .ref (ad E 48)), (1, .int xq1), (2, .int xq2), (3, .int xq3)] [] σ) (fun _ _ => k_none) (fun L34 hL34 xq3 σ => t_X11_findWay_L34b B xq1 xq2  K113 hK113  L34 hL34 xq3 σ) n
set_option maxHeartbeats 4000000 in
set_option maxRecDepth 100000 in
theorem t_X11_findWay_113 {E : En} {G : Cx} (B : Bx E G cX11_findWay 5 RX11 H_X11_findWay none) (xq1 : Int32) (xq2 : Int32)  (L7 : Int32 → Mm → Option (Unit × Mm)) (hL7 : ∀ (xq2 : Int32)  (σ : Mm), KR E G 5 (ZV E G) (L7 xq2 σ) 7 [(0, .ref (ad E 48)), (1, .int xq1), (2, .int xq2)] [] σ)  (σ : Mm) : KR E G 5 (ZV E G) (f_X11_findWay_113 L7 xq1 xq2 σ) 113 [(0, .ref (ad E 48)), (1, .int xq1), (2, .int xq2)] [] σ := by
  have F := B.1
  unfold f_X11_findWay_113
  refine k_iinc (pc := 113) F (c := (-1 : Int32)) (lw := fun wq => [(2, .int wq), (0, .ref (ad E 48)), (1, .int xq1)]) 2 2 dX11_findWay_113 rfl ci_m1 (by decide) (fun _ => rfl) (fun vq6 => ?_)
  refine k_goto (pc := 116) F 7 dX11_findWay_116 (by decide) ?_
  exact k_sub [1, 2, 0] rfl (hL7 vq6 σ)
set_option maxHeartbeats 4000000 in
set_option maxRecDepth 100000 in
theorem t_X11_findWay_31 {E : En} {G : Cx} (B : Bx E G cX11_findWay 5 RX11 H_X11_findWay none) (xq1 : Int32) (xq2 : Int32) (xqs1 : Int32) (xqs2 : Int32)  (L7 : Int32 → Mm → Option (Unit × Mm)) (hL7 : ∀ (xq2 : Int32)  (σ : Mm), KR E G 5 (ZV E G) (L7 xq2 σ) 7 [(0, .ref (ad E 48)), (1, .int xq1), (2, .int xq2)] [] σ)  (σ : Mm) : KR E G 5 (ZV E G) (f_X11_findWay_31 L7 xq1 xq2 xqs1 xqs2 σ) 31 [(0, .ref (ad E 48)), (1, .int xq1), (2, .int xq2)] [.int xqs2, .int xqs1, .ref (ad E 86)] σ := by
  have F := B.1
  unfold f_X11_findWay_31
  refine k_zast (pc := 31) F rfl dX11_findWay_31 (fun σ2 => ?_)
  refine k_iconst (pc := 32) F (v := (0 : Int32)) dX11_findWay_32 ci_0 ?_
  refine k_istore_n F (lv' := [(3, .int (0 : Int32)), (0, .ref (ad E 48)), (1, .int xq1), (2, .int xq2)]) 3 dX11_findWay_33 rfl (by decide) rfl ?_
  exact k_sub [1, 2, 3, 0] rfl (t_X11_findWay_L34 B xq1 xq2  _ (fun   σ => by
        exact k_sub [0, 1, 2] rfl (t_X11_findWay_113 B xq1 xq2  L7 hL7  σ)) FU (0 : Int32)  σ2)
set_option maxHeartbeats 4000000 in
set_option maxRecDepth 100000 in
theorem t_X11_findWay_L7b {E : En} {G : Cx} (B : Bx E G cX11_findWay 5 RX11 H_X11_findWay none) (xq1 : Int32)  (K119 : Mm → Option (Unit × Mm)) (hK119 : ∀   (σ : Mm), KR E G 5 (ZV E G) (K119  σ) 119 [(0, .ref (ad E 48)), (1, .int xq1)] [] σ)  (L7 : Int32 → Mm → Option (Unit × Mm)) (hL7 : ∀ (xq2 : Int32)  (σ : Mm), KR E G 5 (ZV E G) (L7 xq2 σ) 7 [(0, .ref (ad E 48)), (1, .int xq1), (2, .int xq2)] [] σ) (xq2 : Int32)  (σ : Mm) : KR E G 5 (ZV E G) (f_X11_findWay_L7 K119 xq1 L7 xq2 σ) 7 [(0, .ref (ad E 48)), (1, .int xq1), (2, .int xq2)] [] σ := by
  have F := B.1
  unfold f_X11_findWay_L7
  refine k_iload_n (pc := 7) F 2 2 dX11_findWay_7 rfl rfl ?_
  refine k_if_lt (pc := 8) F 119 dX11_findWay_8 (by decide) (fun _ => ?_) (fun _ => ?_)
  · exact k_sub [0, 1] rfl (hK119 σ)
  · refine k_aload_n (pc := 11) F 0 0 dX11_findWay_11 rfl rfl ?_
    refine gf_48_55 (pc := 12) F w_4_225 dX11_findWay_12 ?_
    refine k_iload_n (pc := 15) F 2 2 dX11_findWay_15 rfl rfl ?_
    refine k_aload_n (pc := 16) F 0 0 dX11_findWay_16 rfl rfl ?_
    refine gf_48_56 (pc := 17) F w_4_226 dX11_findWay_17 ?_
    refine k_iload_n (pc := 20) F 2 2 dX11_findWay_20 rfl rfl ?_
    refine k_iald (pc := 21) F rfl dX11_findWay_21 ?_
    refine k_iload_n (pc := 22) F 1 1 dX11_findWay_22 rfl rfl ?_
    refine k_icmp_ne (pc := 23) F 30 dX11_findWay_23 (by decide) (fun _ => ?_) (fun _ => ?_)
    · refine k_iconst (pc := 26) F (v := (1 : Int32)) dX11_findWay_26 ci_1 ?_
      refine k_goto (pc := 27) F 31 dX11_findWay_27 (by decide) ?_
      exact k_sub [0, 1, 2] rfl (t_X11_findWay_31 B xq1 xq2 xq2 (1 : Int32)  L7 hL7  σ)
    · refine k_iconst (pc := 30) F (v := (0 : Int32)) dX11_findWay_30 ci_0 ?_
      exact k_sub [0, 1, 2] rfl (t_X11_findWay_31 B xq1 xq2 xq2 (0 : Int32)  L7 hL7  σ)
set_option maxHeartbeats 4000000 in
set_option maxRecDepth 100000 in
theorem t_X11_findWay_L7 {E : En} {G : Cx} (B : Bx E G cX11_findWay 5 RX11 H_X11_findWay none) (xq1 : Int32)  (K119 : Mm → Option (Unit × Mm)) (hK119 : ∀   (σ : Mm), KR E G 5 (ZV E G) (K119  σ) 119 [(0, .ref (ad E 48)), (1, .int xq1)] [] σ)  : ∀ (n : Nat) (xq2 : Int32)  (σ : Mm), KR E G 5 (ZV E G) (fx (fun _ _ => none) n (f_X11_findWay_L7 K119 xq1) xq2 σ) 7 [(0, .ref (ad E 48)), (1, .int xq1), (2, .int xq2)] [] σ :=
  fun n => fx_ind (P := fun f => ∀ (xq2 : Int32)  (σ : Mm), KR E G 5 (ZV E G) (f xq2 σ) 7 [(0, .ref (ad E 48)), (1, .int xq1), (2, .int xq2)] [] σ) (fun _ _ => k_none) (fun L7 hL7 xq2 σ => t_X11_findWay_L7b B xq1  K119 hK119  L7 hL7 xq2 σ) n
set_option maxHeartbeats 4000000 in
set_option maxRecDepth 100000 in
theorem t_X11_findWay_198 {E : En} {G : Cx} (B : Bx E G cX11_findWay 5 RX11 H_X11_findWay none) (xq1 : Int32) (xq2 : Int32) (xq3 : Int32)  (L138 : Int32 → Mm → Option (Unit × Mm)) (hL138 : ∀ (xq3 : Int32)  (σ : Mm), KR E G 5 (ZV E G) (L138 xq3 σ) 138 [(0, .ref (ad E 48)), (1, .int xq1), (2, .int xq2), (3, .int xq3)] [] σ)  (σ : Mm) : KR E G 5 (ZV E G) (f_X11_findWay_198 L138 xq1 xq2 xq3 σ) 198 [(0, .ref (ad E 48)), (1, .int xq1), (2, .int xq2), (3, .int xq3)] [] σ := by
  have F := B.1
  unfold f_X11_findWay_198
  refine k_iinc (pc := 198) F (c := (1 : Int32)) (lw := fun wq => [(3, .int wq), (0, .ref (ad E 48)), (1, .int xq1), (2, .int xq2)]) 3 3 dX11_findWay_198 rfl ci_1 (by decide) (fun _ => rfl) (fun vq8 => ?_)
  refine k_goto (pc := 201) F 138 dX11_findWay_201 (by decide) ?_
  exact k_sub [1, 2, 3, 0] rfl (hL138 vq8 σ)
set_option maxHeartbeats 4000000 in
set_option maxRecDepth 100000 in
theorem t_X11_findWay_L138b {E : En} {G : Cx} (B : Bx E G cX11_findWay 5 RX11 H_X11_findWay none) (xq1 : Int32) (xq2 : Int32)  (K204 : Int32 → Mm → Option (Unit × Mm)) (hK204 : ∀ (xq3 : Int32)  (σ : Mm), KR E G 5 (ZV E G) (K204 xq3 σ) 204 [(0, .ref (ad E 48)), (1, .int xq1), (2, .int xq2), (3, .int xq3)] [] σ)  (L138 : Int32 → Mm → Option (Unit × Mm)) (hL138 : ∀ (xq3 : Int32)  (σ : Mm), KR E G 5 (ZV E G) (L138 xq3 σ) 138 [(0, .ref (ad E 48)), (1, .int xq1), (2, .int xq2), (3, .int xq3)] [] σ) (xq3 : Int32)  (σ : Mm) : KR E G 5 (ZV E G) (f_X11_findWay_L138 K204 xq1 xq2 L138 xq3 σ) 138 [(0, .ref (ad E 48)), (1, .int xq1), (2, .int xq2), (3, .int xq3)] [] σ := by
  have F := B.1
  unfold f_X11_findWay_L138
  refine k_aload_n (pc := 138) F 0 0 dX11_findWay_138 rfl rfl ?_
  refine gf_48_52 (pc := 139) F w_4_222 dX11_findWay_139 ?_
  refine k_bipush (pc := 142) F (v := (6 : Int32)) dX11_findWay_142 cb_6 ?_
  refine k_iload_n (pc := 144) F 2 2 dX11_findWay_144 rfl rfl ?_
  refine k_imul (pc := 145) F dX11_findWay_145 ?_
  refine k_iload_n (pc := 146) F 3 3 dX11_findWay_146 rfl rfl ?_
  refine k_iadd (pc := 147) F dX11_findWay_147 ?_
  refine k_iald (pc := 148) F rfl dX11_findWay_148 ?_
  refine k_if_lt (pc := 149) F 198 dX11_findWay_149 (by decide) (fun _ => ?_) (fun _ => ?_)
  · exact k_sub [0, 1, 2, 3] rfl (t_X11_findWay_198 B xq1 xq2 xq3  L138 hL138  σ)
  · refine k_aload_n (pc := 152) F 0 0 dX11_findWay_152 rfl rfl ?_
    refine gf_48_55 (pc := 153) F w_4_225 dX11_findWay_153 ?_
    refine k_aload_n (pc := 156) F 0 0 dX11_findWay_156 rfl rfl ?_
    refine gf_48_52 (pc := 157) F w_4_222 dX11_findWay_157 ?_
    refine k_bipush (pc := 160) F (v := (6 : Int32)) dX11_findWay_160 cb_6 ?_
    refine k_iload_n (pc := 162) F 2 2 dX11_findWay_162 rfl rfl ?_
    refine k_imul (pc := 163) F dX11_findWay_163 ?_
    refine k_iload_n (pc := 164) F 3 3 dX11_findWay_164 rfl rfl ?_
    refine k_iadd (pc := 165) F dX11_findWay_165 ?_
    refine k_iald (pc := 166) F rfl dX11_findWay_166 ?_
    refine k_zald (pc := 167) F rfl dX11_findWay_167 ?_
    refine k_if_eq (pc := 168) F 198 dX11_findWay_168 (by decide) (fun _ => ?_) (fun _ => ?_)
    · exact k_sub [0, 1, 2, 3] rfl (t_X11_findWay_198 B xq1 xq2 xq3  L138 hL138  σ)
    · refine k_aload_n (pc := 171) F 0 0 dX11_findWay_171 rfl rfl ?_
      refine gf_48_53 (pc := 172) F w_4_223 dX11_findWay_172 ?_
      refine k_aload_n (pc := 175) F 0 0 dX11_findWay_175 rfl rfl ?_
      refine gf_48_52 (pc := 176) F w_4_222 dX11_findWay_176 ?_
      refine k_bipush (pc := 179) F (v := (6 : Int32)) dX11_findWay_179 cb_6 ?_
      refine k_iload_n (pc := 181) F 2 2 dX11_findWay_181 rfl rfl ?_
      refine k_imul (pc := 182) F dX11_findWay_182 ?_
      refine k_iload_n (pc := 183) F 3 3 dX11_findWay_183 rfl rfl ?_
      refine k_iadd (pc := 184) F dX11_findWay_184 ?_
      refine k_iald (pc := 185) F rfl dX11_findWay_185 ?_
      refine k_iald (pc := 186) F rfl dX11_findWay_186 ?_
      refine k_aload_n (pc := 187) F 0 0 dX11_findWay_187 rfl rfl ?_
      refine gf_48_53 (pc := 188) F w_4_223 dX11_findWay_188 ?_
      refine k_iload_n (pc := 191) F 2 2 dX11_findWay_191 rfl rfl ?_
      refine k_iald (pc := 192) F rfl dX11_findWay_192 ?_
      refine k_iconst (pc := 193) F (v := (1 : Int32)) dX11_findWay_193 ci_1 ?_
      refine k_iadd (pc := 194) F dX11_findWay_194 ?_
      refine k_icmp_eq (pc := 195) F 204 dX11_findWay_195 (by decide) (fun _ => ?_) (fun _ => ?_)
      · exact k_sub [0, 1, 2, 3] rfl (hK204 xq3 σ)
      · exact k_sub [0, 1, 2, 3] rfl (t_X11_findWay_198 B xq1 xq2 xq3  L138 hL138  σ)
set_option maxHeartbeats 4000000 in
set_option maxRecDepth 100000 in
theorem t_X11_findWay_L138 {E : En} {G : Cx} (B : Bx E G cX11_findWay 5 RX11 H_X11_findWay none) (xq1 : Int32) (xq2 : Int32)  (K204 : Int32 → Mm → Option (Unit × Mm)) (hK204 : ∀ (xq3 : Int32)  (σ : Mm), KR E G 5 (ZV E G) (K204 xq3 σ) 204 [(0, .ref (ad E 48)), (1, .int xq1), (2, .int xq2), (3, .int xq3)] [] σ)  : ∀ (n : Nat) (xq3 : Int32)  (σ : Mm), KR E G 5 (ZV E G) (fx (fun _ _ => none) n (f_X11_findWay_L138 K204 xq1 xq2) xq3 σ) 138 [(0, .ref (ad E 48)), (1, .int xq1), (2, .int xq2), (3, .int xq3)] [] σ :=
  fun n => fx_ind (P := fun f => ∀ (xq3 : Int32)  (σ : Mm), KR E G 5 (ZV E G) (f xq3 σ) 138 [(0, .ref (ad E 48)), (1, .int xq1), (2, .int xq2), (3, .int xq3)] [] σ) (fun _ _ => k_none) (fun L138 hL138 xq3 σ => t_X11_findWay_L138b B xq1 xq2  K204 hK204  L138 hL138 xq3 σ) n
set_option maxHeartbeats 4000000 in
set_option maxRecDepth 100000 in
theorem t_X11_findWay_204 {E : En} {G : Cx} (B : Bx E G cX11_findWay 5 RX11 H_X11_findWay none) (xq1 : Int32) (xq2 : Int32) (xq3 : Int32)  (L126 : Int32 → Mm → Option (Unit × Mm)) (hL126 : ∀ (xq2 : Int32)  (σ : Mm), KR E G 5 (ZV E G) (L126 xq2 σ) 126 [(0, .ref (ad E 48)), (1, .int xq1), (2, .int xq2)] [] σ)  (σ : Mm) : KR E G 5 (ZV E G) (f_X11_findWay_204 L126 xq1 xq2 xq3 σ) 204 [(0, .ref (ad E 48)), (1, .int xq1), (2, .int xq2), (3, .int xq3)] [] σ := by
  have F := B.1
  unfold f_X11_findWay_204
  refine k_aload_n (pc := 204) F 0 0 dX11_findWay_204 rfl rfl ?_
  refine gf_48_62 (pc := 205) F w_4_232 dX11_findWay_205 ?_
  refine k_aload_n (pc := 208) F 0 0 dX11_findWay_208 rfl rfl ?_
  refine gf_48_63 (pc := 209) F w_4_233 dX11_findWay_209 ?_
  refine k_iload_n (pc := 212) F 3 3 dX11_findWay_212 rfl rfl ?_
  refine k_callSI (pc := 213) B (As := [.int xq3]) (rest := [.int (σ.1 48 63), .ref (ad E 91)]) (ct_X11_moveOf E xq3  σ) ms_X11_moveOf w_6_51 rfl hR_X11_findWay_X11_moveOf rfl (Nat.le_of_ble_eq_true rfl) dX11_findWay_213 (fun rq10 σ9 hoq => ?_)
  refine k_iast (pc := 216) F rfl dX11_findWay_216 (fun σ11 => ?_)
  refine k_aload_n (pc := 217) F 0 0 dX11_findWay_217 rfl rfl ?_
  refine k_dup (pc := 218) F dX11_findWay_218 rfl ?_
  refine gf_48_63 (pc := 219) F w_4_233 dX11_findWay_219 ?_
  refine k_iconst (pc := 222) F (v := (1 : Int32)) dX11_findWay_222 ci_1 ?_
  refine k_iadd (pc := 223) F dX11_findWay_223 ?_
  refine pf_48_63 (pc := 224) F w_4_233 dX11_findWay_224 (fun σ12 => ?_)
  refine k_aload_n (pc := 227) F 0 0 dX11_findWay_227 rfl rfl ?_
  refine gf_48_52 (pc := 228) F w_4_222 dX11_findWay_228 ?_
  refine k_bipush (pc := 231) F (v := (6 : Int32)) dX11_findWay_231 cb_6 ?_
  refine k_iload_n (pc := 233) F 2 2 dX11_findWay_233 rfl rfl ?_
  refine k_imul (pc := 234) F dX11_findWay_234 ?_
  refine k_iload_n (pc := 235) F 3 3 dX11_findWay_235 rfl rfl ?_
  refine k_iadd (pc := 236) F dX11_findWay_236 ?_
  refine k_iald (pc := 237) F rfl dX11_findWay_237 ?_
  refine k_nmI (fun vq13 => ?_)
  refine k_istore_n F (lv' := [(2, .int vq13), (0, .ref (ad E 48)), (1, .int xq1), (3, .int xq3)]) 2 dX11_findWay_238 rfl (by decide) rfl ?_
  refine k_goto (pc := 239) F 126 dX11_findWay_239 (by decide) ?_
  exact k_sub [1, 2, 0] rfl (hL126 vq13 σ12)
set_option maxHeartbeats 4000000 in
set_option maxRecDepth 100000 in
theorem t_X11_findWay_L126b {E : En} {G : Cx} (B : Bx E G cX11_findWay 5 RX11 H_X11_findWay none) (xq1 : Int32)   (L126 : Int32 → Mm → Option (Unit × Mm)) (hL126 : ∀ (xq2 : Int32)  (σ : Mm), KR E G 5 (ZV E G) (L126 xq2 σ) 126 [(0, .ref (ad E 48)), (1, .int xq1), (2, .int xq2)] [] σ) (xq2 : Int32)  (σ : Mm) : KR E G 5 (ZV E G) (f_X11_findWay_L126 xq1 L126 xq2 σ) 126 [(0, .ref (ad E 48)), (1, .int xq1), (2, .int xq2)] [] σ := by
  have F := B.1
  unfold f_X11_findWay_L126
  refine k_aload_n (pc := 126) F 0 0 dX11_findWay_126 rfl rfl ?_
  refine gf_48_56 (pc := 127) F w_4_226 dX11_findWay_127 ?_
  refine k_iload_n (pc := 130) F 2 2 dX11_findWay_130 rfl rfl ?_
  refine k_iald (pc := 131) F rfl dX11_findWay_131 ?_
  refine k_iload_n (pc := 132) F 1 1 dX11_findWay_132 rfl rfl ?_
  refine k_icmp_eq (pc := 133) F 242 dX11_findWay_133 (by decide) (fun _ => ?_) (fun _ => ?_)
  · exact k_vret (pc := 242) B dX11_findWay_242
  · refine k_iconst (pc := 136) F (v := (0 : Int32)) dX11_findWay_136 ci_0 ?_
    refine k_istore_n F (lv' := [(3, .int (0 : Int32)), (0, .ref (ad E 48)), (1, .int xq1), (2, .int xq2)]) 3 dX11_findWay_137 rfl (by decide) rfl ?_
    exact k_sub [1, 2, 3, 0] rfl (t_X11_findWay_L138 B xq1 xq2  _ (fun xq3  σ => by
          exact k_sub [0, 1, 2, 3] rfl (t_X11_findWay_204 B xq1 xq2 xq3  L126 hL126  σ)) FU (0 : Int32)  σ)
set_option maxHeartbeats 4000000 in
set_option maxRecDepth 100000 in
theorem t_X11_findWay_L126 {E : En} {G : Cx} (B : Bx E G cX11_findWay 5 RX11 H_X11_findWay none) (xq1 : Int32)   : ∀ (n : Nat) (xq2 : Int32)  (σ : Mm), KR E G 5 (ZV E G) (fx (fun _ _ => none) n (f_X11_findWay_L126 xq1) xq2 σ) 126 [(0, .ref (ad E 48)), (1, .int xq1), (2, .int xq2)] [] σ :=
  fun n => fx_ind (P := fun f => ∀ (xq2 : Int32)  (σ : Mm), KR E G 5 (ZV E G) (f xq2 σ) 126 [(0, .ref (ad E 48)), (1, .int xq1), (2, .int xq2)] [] σ) (fun _ _ => k_none) (fun L126 hL126 xq2 σ => t_X11_findWay_L126b B xq1   L126 hL126 xq2 σ) n
set_option maxHeartbeats 4000000 in
set_option maxRecDepth 100000 in
theorem t_X11_findWay_119 {E : En} {G : Cx} (B : Bx E G cX11_findWay 5 RX11 H_X11_findWay none) (xq1 : Int32)   (σ : Mm) : KR E G 5 (ZV E G) (f_X11_findWay_119 xq1 σ) 119 [(0, .ref (ad E 48)), (1, .int xq1)] [] σ := by
  have F := B.1
  unfold f_X11_findWay_119
  refine k_aload_n (pc := 119) F 0 0 dX11_findWay_119 rfl rfl ?_
  refine k_iconst (pc := 120) F (v := (0 : Int32)) dX11_findWay_120 ci_0 ?_
  refine pf_48_63 (pc := 121) F w_4_233 dX11_findWay_121 (fun σ7 => ?_)
  refine k_iconst (pc := 124) F (v := (0 : Int32)) dX11_findWay_124 ci_0 ?_
  refine k_istore_n F (lv' := [(2, .int (0 : Int32)), (0, .ref (ad E 48)), (1, .int xq1)]) 2 dX11_findWay_125 rfl (by decide) rfl ?_
  exact k_sub [1, 2, 0] rfl (t_X11_findWay_L126 B xq1   FU (0 : Int32)  σ7)
set_option maxHeartbeats 4000000 in
set_option maxRecDepth 100000 in
theorem t_X11_findWay {E : En} {G : Cx} (B : Bx E G cX11_findWay 5 RX11 H_X11_findWay none) (aq0 : Int32)  (σ : Mm) : KR E G 5 (ZV E G) (f_X11_findWay aq0 σ) 0 [(0, .ref (ad E 48)), (1, .int aq0)] [] σ := by
  have F := B.1
  unfold f_X11_findWay
  refine k_aload_n (pc := 0) F 0 0 dX11_findWay_0 rfl rfl ?_
  refine gf_48_50 (pc := 1) F w_4_220 dX11_findWay_1 ?_
  refine k_iconst (pc := 4) F (v := (1 : Int32)) dX11_findWay_4 ci_1 ?_
  refine k_isub (pc := 5) F dX11_findWay_5 ?_
  refine k_nmI (fun vq1 => ?_)
  refine k_istore_n F (lv' := [(2, .int vq1), (0, .ref (ad E 48)), (1, .int aq0)]) 2 dX11_findWay_6 rfl (by decide) rfl ?_
  exact k_sub [1, 2, 0] rfl (t_X11_findWay_L7 B aq0  _ (fun   σ => by
        exact k_sub [0, 1] rfl (t_X11_findWay_119 B aq0   σ)) FU vq1  σ)
set_option maxHeartbeats 4000000 in
set_option maxRecDepth 100000 in
theorem ct_X11_findWay (E : En) (aq0 : Int32)  (σ : Mm) : CtV E yX11_findWay cX11_findWay 5 none H_X11_findWay [.ref (ad E 48), .int aq0] σ (f_X11_findWay aq0 σ) := ct_V (by decide) (Nat.le_of_ble_eq_true rfl) rfl (fun G B => t_X11_findWay B aq0  σ)
abbrev H_X11_leads : Nat := 14
theorem hR_X11_leads_X11_findWay : H_X11_findWay + 1 ≤ H_X11_leads ∧ 8 + (5 + 11) + 40 * H_X11_findWay ≤ 40 * H_X11_leads := by decide
theorem hR_X11_leads_X11_leastBad : H_X11_leastBad + 1 ≤ H_X11_leads ∧ 8 + (2 + 11) + 40 * H_X11_leastBad ≤ 40 * H_X11_leads := by decide
theorem hR_X11_leads_X11_lookAll : H_X11_lookAll + 1 ≤ H_X11_leads ∧ 8 + (1 + 11) + 40 * H_X11_lookAll ≤ 40 * H_X11_leads := by decide
set_option maxHeartbeats 4000000 in
set_option maxRecDepth 100000 in
theorem t_X11_leads {E : En} {G : Cx} (B : Bx E G cX11_leads 2 RX11 H_X11_leads (some .int))   (σ : Mm) : KR E G 2 (ZI E G) (f_X11_leads  σ) 0 [(0, .ref (ad E 48))] [] σ := by
  have F := B.1
  unfold f_X11_leads
  refine k_aload_n (pc := 0) F 0 0 dX11_leads_0 rfl rfl ?_
  refine k_callVV (pc := 1) B (k := 48) (As := []) (rest := []) (ct_X11_lookAll E   σ) rfl rfl mv_X11_lookAll w_5_238 rfl hR_X11_leads_X11_lookAll rfl (Nat.le_of_ble_eq_true rfl) dX11_leads_1 (fun rq2 σ1 hoq => ?_)
  refine k_aload_n (pc := 4) F 0 0 dX11_leads_4 rfl rfl ?_
  refine gf_48_49 (pc := 5) F w_4_219 dX11_leads_5 ?_
  refine k_if_eq (pc := 8) F 15 dX11_leads_8 (by decide) (fun _ => ?_) (fun _ => ?_)
  · refine k_aload_n (pc := 15) F 0 0 dX11_leads_15 rfl rfl ?_
    refine k_callVI (pc := 16) B (k := 48) (As := []) (rest := []) (ct_X11_leastBad E   σ1) rfl rfl mv_X11_leastBad w_6_135 rfl hR_X11_leads_X11_leastBad rfl (Nat.le_of_ble_eq_true rfl) dX11_leads_16 (fun rq4 σ3 hoq => ?_)
    refine k_istore_n F (lv' := [(1, .int rq4), (0, .ref (ad E 48))]) 1 dX11_leads_19 rfl (by decide) rfl ?_
    refine k_iload_n (pc := 20) F 1 0 dX11_leads_20 rfl rfl ?_
    refine k_if_ge (pc := 21) F 28 dX11_leads_21 (by decide) (fun _ => ?_) (fun _ => ?_)
    · refine k_aload_n (pc := 28) F 0 1 dX11_leads_28 rfl rfl ?_
      refine k_iload_n (pc := 29) F 1 0 dX11_leads_29 rfl rfl ?_
      refine k_callVV (pc := 30) B (k := 48) (As := [.int rq4]) (rest := []) (ct_X11_findWay E rq4  σ3) rfl rfl mv_X11_findWay w_6_147 rfl hR_X11_leads_X11_findWay rfl (Nat.le_of_ble_eq_true rfl) dX11_leads_30 (fun rq6 σ5 hoq => ?_)
      refine k_iconst (pc := 33) F (v := (0 : Int32)) dX11_leads_33 ci_0 ?_
      exact k_iret (pc := 34) B dX11_leads_34
    · refine k_ldcw (pc := 24) F (v := (-1000000004 : Int32)) w_6_110 dX11_leads_24 ?_
      exact k_iret (pc := 27) B dX11_leads_27
  · refine k_ldcw (pc := 11) F (v := (-1000000007 : Int32)) w_6_101 dX11_leads_11 ?_
    exact k_iret (pc := 14) B dX11_leads_14
set_option maxHeartbeats 4000000 in
set_option maxRecDepth 100000 in
theorem ct_X11_leads (E : En)   (σ : Mm) : CtI E yX11_leads cX11_leads 2 (some .int) H_X11_leads [.ref (ad E 48)] σ (f_X11_leads  σ) := ct_I (by decide) (Nat.le_of_ble_eq_true rfl) rfl (fun G B => t_X11_leads B   σ)
abbrev H_X11_turn : Nat := 15
theorem hR_X11_turn_X11_leads : H_X11_leads + 1 ≤ H_X11_turn ∧ 8 + (2 + 11) + 40 * H_X11_leads ≤ 40 * H_X11_turn := by decide
theorem hR_X11_turn_X11_finds : H_X11_finds + 1 ≤ H_X11_turn ∧ 8 + (2 + 11) + 40 * H_X11_finds ≤ 40 * H_X11_turn := by decide
set_option maxHeartbeats 4000000 in
set_option maxRecDepth 100000 in
theorem t_X11_turn {E : En} {G : Cx} (B : Bx E G cX11_turn 3 RX11 H_X11_turn (some .int)) (aq0 : Int32)  (σ : Mm) : KR E G 3 (ZI E G) (f_X11_turn aq0 σ) 0 [(0, .ref (ad E 48)), (1, .int aq0)] [] σ := by
  have F := B.1
  unfold f_X11_turn
  refine k_iload_n (pc := 0) F 1 1 dX11_turn_0 rfl rfl ?_
  refine k_iconst (pc := 1) F (v := (-1 : Int32)) dX11_turn_1 ci_m1 ?_
  refine k_icmp_ge (pc := 2) F 12 dX11_turn_2 (by decide) (fun _ => ?_) (fun _ => ?_)
  · refine k_aload_n (pc := 12) F 0 0 dX11_turn_12 rfl rfl ?_
    refine k_callVI (pc := 13) B (k := 48) (As := []) (rest := []) (ct_X11_leads E   σ) rfl rfl mv_X11_leads w_6_143 rfl hR_X11_turn_X11_leads rfl (Nat.le_of_ble_eq_true rfl) dX11_turn_13 (fun rq2 σ1 hoq => ?_)
    refine k_istore_n F (lv' := [(2, .int rq2), (0, .ref (ad E 48)), (1, .int aq0)]) 2 dX11_turn_16 rfl (by decide) rfl ?_
    refine k_iload_n (pc := 17) F 2 0 dX11_turn_17 rfl rfl ?_
    refine k_if_eq (pc := 18) F 27 dX11_turn_18 (by decide) (fun _ => ?_) (fun _ => ?_)
    · refine k_iload_n (pc := 27) F 1 2 dX11_turn_27 rfl rfl ?_
      refine k_iconst (pc := 28) F (v := (-1 : Int32)) dX11_turn_28 ci_m1 ?_
      refine k_icmp_ne (pc := 29) F 39 dX11_turn_29 (by decide) (fun _ => ?_) (fun _ => ?_)
      · refine k_aload_n (pc := 32) F 0 1 dX11_turn_32 rfl rfl ?_
        refine gf_48_63 (pc := 33) F w_4_233 dX11_turn_33 ?_
        refine k_goto (pc := 36) F 63 dX11_turn_36 (by decide) ?_
        exact k_iret (pc := 63) B dX11_turn_63
      · refine k_iload_n (pc := 39) F 1 2 dX11_turn_39 rfl rfl ?_
        refine k_aload_n (pc := 40) F 0 1 dX11_turn_40 rfl rfl ?_
        refine gf_48_63 (pc := 41) F w_4_233 dX11_turn_41 ?_
        refine k_icmp_ge (pc := 44) F 56 dX11_turn_44 (by decide) (fun _ => ?_) (fun _ => ?_)
        · refine k_aload_n (pc := 56) F 0 1 dX11_turn_56 rfl rfl ?_
          refine k_ldcw (pc := 57) F (v := (-1000000004 : Int32)) w_6_110 dX11_turn_57 ?_
          refine k_callVI (pc := 60) B (k := 48) (As := [.int (-1000000004 : Int32)]) (rest := []) (ct_X11_finds E (-1000000004 : Int32)  σ1) rfl rfl mv_X11_finds w_5_144 rfl hR_X11_turn_X11_finds rfl (Nat.le_of_ble_eq_true rfl) dX11_turn_60 (fun rq4 σ3 hoq => ?_)
          exact k_iret (pc := 63) B dX11_turn_63
        · refine k_aload_n (pc := 47) F 0 1 dX11_turn_47 rfl rfl ?_
          refine gf_48_62 (pc := 48) F w_4_232 dX11_turn_48 ?_
          refine k_iload_n (pc := 51) F 1 2 dX11_turn_51 rfl rfl ?_
          refine k_iald (pc := 52) F rfl dX11_turn_52 ?_
          refine k_goto (pc := 53) F 63 dX11_turn_53 (by decide) ?_
          exact k_iret (pc := 63) B dX11_turn_63
    · refine k_aload_n (pc := 21) F 0 1 dX11_turn_21 rfl rfl ?_
      refine k_iload_n (pc := 22) F 2 0 dX11_turn_22 rfl rfl ?_
      refine k_callVI (pc := 23) B (k := 48) (As := [.int rq2]) (rest := []) (ct_X11_finds E rq2  σ1) rfl rfl mv_X11_finds w_5_144 rfl hR_X11_turn_X11_finds rfl (Nat.le_of_ble_eq_true rfl) dX11_turn_23 (fun rq6 σ5 hoq => ?_)
      exact k_iret (pc := 26) B dX11_turn_26
  · refine k_aload_n (pc := 5) F 0 0 dX11_turn_5 rfl rfl ?_
    refine k_ldc (pc := 6) F (v := (-1000000001 : Int32)) w_5_143 dX11_turn_6 ?_
    refine k_callVI (pc := 8) B (k := 48) (As := [.int (-1000000001 : Int32)]) (rest := []) (ct_X11_finds E (-1000000001 : Int32)  σ) rfl rfl mv_X11_finds w_5_144 rfl hR_X11_turn_X11_finds rfl (Nat.le_of_ble_eq_true rfl) dX11_turn_8 (fun rq8 σ7 hoq => ?_)
    exact k_iret (pc := 11) B dX11_turn_11
set_option maxHeartbeats 4000000 in
set_option maxRecDepth 100000 in
theorem ct_X11_turn (E : En) (aq0 : Int32)  (σ : Mm) : CtI E yX11_turn cX11_turn 3 (some .int) H_X11_turn [.ref (ad E 48), .int aq0] σ (f_X11_turn aq0 σ) := ct_I (by decide) (Nat.le_of_ble_eq_true rfl) rfl (fun G B => t_X11_turn B aq0  σ)
abbrev H_X11_stuck : Nat := 14
theorem hR_X11_stuck_X11_finds : H_X11_finds + 1 ≤ H_X11_stuck ∧ 8 + (2 + 11) + 40 * H_X11_finds ≤ 40 * H_X11_stuck := by decide
theorem hR_X11_stuck_X11_lookAll : H_X11_lookAll + 1 ≤ H_X11_stuck ∧ 8 + (1 + 11) + 40 * H_X11_lookAll ≤ 40 * H_X11_stuck := by decide
set_option maxHeartbeats 4000000 in
set_option maxRecDepth 100000 in
theorem t_X11_stuck_48 {E : En} {G : Cx} (B : Bx E G cX11_stuck 5 RX11 H_X11_stuck (some .int)) (xq1 : Int32) (xqs1 : Int32) (xqs2 : Int32)  (L21 : Int32 → Mm → Option (Int32 × Mm)) (hL21 : ∀ (xq1 : Int32)  (σ : Mm), KR E G 5 (ZI E G) (L21 xq1 σ) 21 [(0, .ref (ad E 48)), (1, .int xq1)] [] σ)  (σ : Mm) : KR E G 5 (ZI E G) (f_X11_stuck_48 L21 xq1 xqs1 xqs2 σ) 48 [(0, .ref (ad E 48)), (1, .int xq1)] [.int xqs2, .int xqs1, .ref (ad E 86)] σ := by
  have F := B.1
  unfold f_X11_stuck_48
  refine k_zast (pc := 48) F rfl dX11_stuck_48 (fun σ3 => ?_)
  refine k_iinc (pc := 49) F (c := (1 : Int32)) (lw := fun wq => [(1, .int wq), (0, .ref (ad E 48))]) 1 1 dX11_stuck_49 rfl ci_1 (by decide) (fun _ => rfl) (fun vq4 => ?_)
  refine k_goto (pc := 52) F 21 dX11_stuck_52 (by decide) ?_
  exact k_sub [1, 0] rfl (hL21 vq4 σ3)
set_option maxHeartbeats 4000000 in
set_option maxRecDepth 100000 in
theorem t_X11_stuck_L21b {E : En} {G : Cx} (B : Bx E G cX11_stuck 5 RX11 H_X11_stuck (some .int))   (K55 : Mm → Option (Int32 × Mm)) (hK55 : ∀   (σ : Mm), KR E G 5 (ZI E G) (K55  σ) 55 [(0, .ref (ad E 48))] [] σ)  (L21 : Int32 → Mm → Option (Int32 × Mm)) (hL21 : ∀ (xq1 : Int32)  (σ : Mm), KR E G 5 (ZI E G) (L21 xq1 σ) 21 [(0, .ref (ad E 48)), (1, .int xq1)] [] σ) (xq1 : Int32)  (σ : Mm) : KR E G 5 (ZI E G) (f_X11_stuck_L21 K55  L21 xq1 σ) 21 [(0, .ref (ad E 48)), (1, .int xq1)] [] σ := by
  have F := B.1
  unfold f_X11_stuck_L21
  refine k_iload_n (pc := 21) F 1 1 dX11_stuck_21 rfl rfl ?_
  refine k_aload_n (pc := 22) F 0 0 dX11_stuck_22 rfl rfl ?_
  refine gf_48_50 (pc := 23) F w_4_220 dX11_stuck_23 ?_
  refine k_icmp_ge (pc := 26) F 55 dX11_stuck_26 (by decide) (fun _ => ?_) (fun _ => ?_)
  · exact k_sub [0] rfl (hK55 σ)
  · refine k_aload_n (pc := 29) F 0 0 dX11_stuck_29 rfl rfl ?_
    refine gf_48_55 (pc := 30) F w_4_225 dX11_stuck_30 ?_
    refine k_iload_n (pc := 33) F 1 1 dX11_stuck_33 rfl rfl ?_
    refine k_aload_n (pc := 34) F 0 0 dX11_stuck_34 rfl rfl ?_
    refine gf_48_56 (pc := 35) F w_4_226 dX11_stuck_35 ?_
    refine k_iload_n (pc := 38) F 1 1 dX11_stuck_38 rfl rfl ?_
    refine k_iald (pc := 39) F rfl dX11_stuck_39 ?_
    refine k_if_lt (pc := 40) F 47 dX11_stuck_40 (by decide) (fun _ => ?_) (fun _ => ?_)
    · refine k_iconst (pc := 47) F (v := (0 : Int32)) dX11_stuck_47 ci_0 ?_
      exact k_sub [0, 1] rfl (t_X11_stuck_48 B xq1 xq1 (0 : Int32)  L21 hL21  σ)
    · refine k_iconst (pc := 43) F (v := (1 : Int32)) dX11_stuck_43 ci_1 ?_
      refine k_goto (pc := 44) F 48 dX11_stuck_44 (by decide) ?_
      exact k_sub [0, 1] rfl (t_X11_stuck_48 B xq1 xq1 (1 : Int32)  L21 hL21  σ)
set_option maxHeartbeats 4000000 in
set_option maxRecDepth 100000 in
theorem t_X11_stuck_L21 {E : En} {G : Cx} (B : Bx E G cX11_stuck 5 RX11 H_X11_stuck (some .int))   (K55 : Mm → Option (Int32 × Mm)) (hK55 : ∀   (σ : Mm), KR E G 5 (ZI E G) (K55  σ) 55 [(0, .ref (ad E 48))] [] σ)  : ∀ (n : Nat) (xq1 : Int32)  (σ : Mm), KR E G 5 (ZI E G) (fx (fun _ _ => none) n (f_X11_stuck_L21 K55 ) xq1 σ) 21 [(0, .ref (ad E 48)), (1, .int xq1)] [] σ :=
  fun n => fx_ind (P := fun f => ∀ (xq1 : Int32)  (σ : Mm), KR E G 5 (ZI E G) (f xq1 σ) 21 [(0, .ref (ad E 48)), (1, .int xq1)] [] σ) (fun _ _ => k_none) (fun L21 hL21 xq1 σ => t_X11_stuck_L21b B   K55 hK55  L21 hL21 xq1 σ) n
set_option maxHeartbeats 4000000 in
set_option maxRecDepth 100000 in
theorem t_X11_stuck_148 {E : En} {G : Cx} (B : Bx E G cX11_stuck 5 RX11 H_X11_stuck (some .int)) (xq2 : Int32) (xq3 : Int32) (xqs0 : Int32)  (L76 : Int32 → Int32 → Mm → Option (Int32 × Mm)) (hL76 : ∀ (xq1 : Int32) (xq3 : Int32)  (σ : Mm), KR E G 5 (ZI E G) (L76 xq1 xq3 σ) 76 [(0, .ref (ad E 48)), (1, .int xq1), (2, .int xq2), (3, .int xq3)] [] σ)  (σ : Mm) : KR E G 5 (ZI E G) (f_X11_stuck_148 L76 xq2 xq3 xqs0 σ) 148 [(0, .ref (ad E 48)), (2, .int xq2), (3, .int xq3)] [.int xqs0] σ := by
  have F := B.1
  unfold f_X11_stuck_148
  refine k_istore_n F (lv' := [(1, .int xqs0), (0, .ref (ad E 48)), (2, .int xq2), (3, .int xq3)]) 1 dX11_stuck_148 rfl (by decide) rfl ?_
  refine k_iinc (pc := 149) F (c := (1 : Int32)) (lw := fun wq => [(3, .int wq), (1, .int xqs0), (0, .ref (ad E 48)), (2, .int xq2)]) 3 3 dX11_stuck_149 rfl ci_1 (by decide) (fun _ => rfl) (fun vq8 => ?_)
  refine k_goto (pc := 152) F 76 dX11_stuck_152 (by decide) ?_
  exact k_sub [2, 1, 3, 0] rfl (hL76 xqs0 vq8 σ)
set_option maxHeartbeats 4000000 in
set_option maxRecDepth 100000 in
theorem t_X11_stuck_143 {E : En} {G : Cx} (B : Bx E G cX11_stuck 5 RX11 H_X11_stuck (some .int)) (xq2 : Int32) (xq3 : Int32)  (L76 : Int32 → Int32 → Mm → Option (Int32 × Mm)) (hL76 : ∀ (xq1 : Int32) (xq3 : Int32)  (σ : Mm), KR E G 5 (ZI E G) (L76 xq1 xq3 σ) 76 [(0, .ref (ad E 48)), (1, .int xq1), (2, .int xq2), (3, .int xq3)] [] σ)  (σ : Mm) : KR E G 5 (ZI E G) (f_X11_stuck_143 L76 xq2 xq3 σ) 143 [(0, .ref (ad E 48)), (2, .int xq2), (3, .int xq3)] [] σ := by
  have F := B.1
  unfold f_X11_stuck_143
  refine k_iconst (pc := 143) F (v := (1 : Int32)) dX11_stuck_143 ci_1 ?_
  refine k_goto (pc := 144) F 148 dX11_stuck_144 (by decide) ?_
  exact k_sub [0, 1, 2] rfl (t_X11_stuck_148 B xq2 xq3 (1 : Int32)  L76 hL76  σ)
set_option maxHeartbeats 4000000 in
set_option maxRecDepth 100000 in
theorem t_X11_stuck_129 {E : En} {G : Cx} (B : Bx E G cX11_stuck 5 RX11 H_X11_stuck (some .int)) (xq1 : Int32) (xq2 : Int32) (xq3 : Int32) (xqs1 : Int32) (xqs2 : Int32)  (L76 : Int32 → Int32 → Mm → Option (Int32 × Mm)) (hL76 : ∀ (xq1 : Int32) (xq3 : Int32)  (σ : Mm), KR E G 5 (ZI E G) (L76 xq1 xq3 σ) 76 [(0, .ref (ad E 48)), (1, .int xq1), (2, .int xq2), (3, .int xq3)] [] σ)  (σ : Mm) : KR E G 5 (ZI E G) (f_X11_stuck_129 L76 xq1 xq2 xq3 xqs1 xqs2 σ) 129 [(0, .ref (ad E 48)), (1, .int xq1), (2, .int xq2), (3, .int xq3)] [.int xqs2, .int xqs1, .ref (ad E 86)] σ := by
  have F := B.1
  unfold f_X11_stuck_129
  refine k_zast (pc := 129) F rfl dX11_stuck_129 (fun σ7 => ?_)
  refine k_iload_n (pc := 130) F 1 1 dX11_stuck_130 rfl rfl ?_
  refine k_if_ne (pc := 131) F 143 dX11_stuck_131 (by decide) (fun _ => ?_) (fun _ => ?_)
  · refine k_aload_n (pc := 134) F 0 0 dX11_stuck_134 rfl rfl ?_
    refine gf_48_55 (pc := 135) F w_4_225 dX11_stuck_135 ?_
    refine k_iload_n (pc := 138) F 2 2 dX11_stuck_138 rfl rfl ?_
    refine k_zald (pc := 139) F rfl dX11_stuck_139 ?_
    refine k_if_eq (pc := 140) F 147 dX11_stuck_140 (by decide) (fun _ => ?_) (fun _ => ?_)
    · refine k_iconst (pc := 147) F (v := (0 : Int32)) dX11_stuck_147 ci_0 ?_
      exact k_sub [0, 2, 3] rfl (t_X11_stuck_148 B xq2 xq3 (0 : Int32)  L76 hL76  σ7)
    · exact k_sub [0, 2, 3] rfl (t_X11_stuck_143 B xq2 xq3  L76 hL76  σ7)
  · exact k_sub [0, 2, 3] rfl (t_X11_stuck_143 B xq2 xq3  L76 hL76  σ7)
set_option maxHeartbeats 4000000 in
set_option maxRecDepth 100000 in
theorem t_X11_stuck_128 {E : En} {G : Cx} (B : Bx E G cX11_stuck 5 RX11 H_X11_stuck (some .int)) (xq1 : Int32) (xq2 : Int32) (xq3 : Int32) (xqs1 : Int32)  (L76 : Int32 → Int32 → Mm → Option (Int32 × Mm)) (hL76 : ∀ (xq1 : Int32) (xq3 : Int32)  (σ : Mm), KR E G 5 (ZI E G) (L76 xq1 xq3 σ) 76 [(0, .ref (ad E 48)), (1, .int xq1), (2, .int xq2), (3, .int xq3)] [] σ)  (σ : Mm) : KR E G 5 (ZI E G) (f_X11_stuck_128 L76 xq1 xq2 xq3 xqs1 σ) 128 [(0, .ref (ad E 48)), (1, .int xq1), (2, .int xq2), (3, .int xq3)] [.int xqs1, .ref (ad E 86)] σ := by
  have F := B.1
  unfold f_X11_stuck_128
  refine k_iconst (pc := 128) F (v := (0 : Int32)) dX11_stuck_128 ci_0 ?_
  exact k_sub [0, 1, 2, 3] rfl (t_X11_stuck_129 B xq1 xq2 xq3 xqs1 (0 : Int32)  L76 hL76  σ)
set_option maxHeartbeats 4000000 in
set_option maxRecDepth 100000 in
theorem t_X11_stuck_L76b {E : En} {G : Cx} (B : Bx E G cX11_stuck 5 RX11 H_X11_stuck (some .int)) (xq2 : Int32)  (K155 : Int32 → Mm → Option (Int32 × Mm)) (hK155 : ∀ (xq1 : Int32)  (σ : Mm), KR E G 5 (ZI E G) (K155 xq1 σ) 155 [(0, .ref (ad E 48)), (1, .int xq1), (2, .int xq2)] [] σ)  (L76 : Int32 → Int32 → Mm → Option (Int32 × Mm)) (hL76 : ∀ (xq1 : Int32) (xq3 : Int32)  (σ : Mm), KR E G 5 (ZI E G) (L76 xq1 xq3 σ) 76 [(0, .ref (ad E 48)), (1, .int xq1), (2, .int xq2), (3, .int xq3)] [] σ) (xq1 : Int32) (xq3 : Int32)  (σ : Mm) : KR E G 5 (ZI E G) (f_X11_stuck_L76 K155 xq2 L76 xq1 xq3 σ) 76 [(0, .ref (ad E 48)), (1, .int xq1), (2, .int xq2), (3, .int xq3)] [] σ := by
  have F := B.1
  unfold f_X11_stuck_L76
  refine k_iload_n (pc := 76) F 3 3 dX11_stuck_76 rfl rfl ?_
  refine k_bipush (pc := 77) F (v := (6 : Int32)) dX11_stuck_77 cb_6 ?_
  refine k_icmp_ge (pc := 79) F 155 dX11_stuck_79 (by decide) (fun _ => ?_) (fun _ => ?_)
  · exact k_sub [0, 1, 2] rfl (hK155 xq1 σ)
  · refine k_aload_n (pc := 82) F 0 0 dX11_stuck_82 rfl rfl ?_
    refine gf_48_55 (pc := 83) F w_4_225 dX11_stuck_83 ?_
    refine k_iload_n (pc := 86) F 2 2 dX11_stuck_86 rfl rfl ?_
    refine k_zald (pc := 87) F rfl dX11_stuck_87 ?_
    refine k_if_ne (pc := 88) F 155 dX11_stuck_88 (by decide) (fun _ => ?_) (fun _ => ?_)
    · refine k_aload_n (pc := 91) F 0 0 dX11_stuck_91 rfl rfl ?_
      refine gf_48_52 (pc := 92) F w_4_222 dX11_stuck_92 ?_
      refine k_bipush (pc := 95) F (v := (6 : Int32)) dX11_stuck_95 cb_6 ?_
      refine k_iload_n (pc := 97) F 2 2 dX11_stuck_97 rfl rfl ?_
      refine k_imul (pc := 98) F dX11_stuck_98 ?_
      refine k_iload_n (pc := 99) F 3 3 dX11_stuck_99 rfl rfl ?_
      refine k_iadd (pc := 100) F dX11_stuck_100 ?_
      refine k_iald (pc := 101) F rfl dX11_stuck_101 ?_
      refine k_nmI (fun vq6 => ?_)
      refine k_istore F (lv' := [(4, .int vq6), (0, .ref (ad E 48)), (1, .int xq1), (2, .int xq2), (3, .int xq3)]) 4 dX11_stuck_102 (by decide) rfl ?_
      refine k_aload_n (pc := 104) F 0 1 dX11_stuck_104 rfl rfl ?_
      refine gf_48_55 (pc := 105) F w_4_225 dX11_stuck_105 ?_
      refine k_iload_n (pc := 108) F 2 3 dX11_stuck_108 rfl rfl ?_
      refine k_iload (pc := 109) F 4 0 dX11_stuck_109 rfl ?_
      refine k_if_lt (pc := 111) F 128 dX11_stuck_111 (by decide) (fun _ => ?_) (fun _ => ?_)
      · exact k_sub [1, 2, 3, 4] rfl (t_X11_stuck_128 B xq1 xq2 xq3 xq2  L76 hL76  σ)
      · refine k_aload_n (pc := 114) F 0 1 dX11_stuck_114 rfl rfl ?_
        refine gf_48_55 (pc := 115) F w_4_225 dX11_stuck_115 ?_
        refine k_iload (pc := 118) F 4 0 dX11_stuck_118 rfl ?_
        refine k_zald (pc := 120) F rfl dX11_stuck_120 ?_
        refine k_if_eq (pc := 121) F 128 dX11_stuck_121 (by decide) (fun _ => ?_) (fun _ => ?_)
        · exact k_sub [1, 2, 3, 4] rfl (t_X11_stuck_128 B xq1 xq2 xq3 xq2  L76 hL76  σ)
        · refine k_iconst (pc := 124) F (v := (1 : Int32)) dX11_stuck_124 ci_1 ?_
          refine k_goto (pc := 125) F 129 dX11_stuck_125 (by decide) ?_
          exact k_sub [1, 2, 3, 4] rfl (t_X11_stuck_129 B xq1 xq2 xq3 xq2 (1 : Int32)  L76 hL76  σ)
    · exact k_sub [0, 1, 2] rfl (hK155 xq1 σ)
set_option maxHeartbeats 4000000 in
set_option maxRecDepth 100000 in
theorem t_X11_stuck_L76 {E : En} {G : Cx} (B : Bx E G cX11_stuck 5 RX11 H_X11_stuck (some .int)) (xq2 : Int32)  (K155 : Int32 → Mm → Option (Int32 × Mm)) (hK155 : ∀ (xq1 : Int32)  (σ : Mm), KR E G 5 (ZI E G) (K155 xq1 σ) 155 [(0, .ref (ad E 48)), (1, .int xq1), (2, .int xq2)] [] σ)  : ∀ (n : Nat) (xq1 : Int32) (xq3 : Int32)  (σ : Mm), KR E G 5 (ZI E G) (fx (fun _ _ _ => none) n (f_X11_stuck_L76 K155 xq2) xq1 xq3 σ) 76 [(0, .ref (ad E 48)), (1, .int xq1), (2, .int xq2), (3, .int xq3)] [] σ :=
  fun n => fx_ind (P := fun f => ∀ (xq1 : Int32) (xq3 : Int32)  (σ : Mm), KR E G 5 (ZI E G) (f xq1 xq3 σ) 76 [(0, .ref (ad E 48)), (1, .int xq1), (2, .int xq2), (3, .int xq3)] [] σ) (fun _ _ _ => k_none) (fun L76 hL76 xq1 xq3 σ => t_X11_stuck_L76b B xq2  K155 hK155  L76 hL76 xq1 xq3 σ) n
set_option maxHeartbeats 4000000 in
set_option maxRecDepth 100000 in
theorem t_X11_stuck_155 {E : En} {G : Cx} (B : Bx E G cX11_stuck 5 RX11 H_X11_stuck (some .int)) (xq1 : Int32) (xq2 : Int32)  (L70 : Int32 → Int32 → Mm → Option (Int32 × Mm)) (hL70 : ∀ (xq1 : Int32) (xq2 : Int32)  (σ : Mm), KR E G 5 (ZI E G) (L70 xq1 xq2 σ) 70 [(0, .ref (ad E 48)), (1, .int xq1), (2, .int xq2)] [] σ)  (σ : Mm) : KR E G 5 (ZI E G) (f_X11_stuck_155 L70 xq1 xq2 σ) 155 [(0, .ref (ad E 48)), (1, .int xq1), (2, .int xq2)] [] σ := by
  have F := B.1
  unfold f_X11_stuck_155
  refine k_iinc (pc := 155) F (c := (-1 : Int32)) (lw := fun wq => [(2, .int wq), (0, .ref (ad E 48)), (1, .int xq1)]) 2 2 dX11_stuck_155 rfl ci_m1 (by decide) (fun _ => rfl) (fun vq9 => ?_)
  refine k_goto (pc := 158) F 70 dX11_stuck_158 (by decide) ?_
  exact k_sub [1, 2, 0] rfl (hL70 xq1 vq9 σ)
set_option maxHeartbeats 4000000 in
set_option maxRecDepth 100000 in
theorem t_X11_stuck_L70b {E : En} {G : Cx} (B : Bx E G cX11_stuck 5 RX11 H_X11_stuck (some .int))   (K161 : Int32 → Mm → Option (Int32 × Mm)) (hK161 : ∀ (xq1 : Int32)  (σ : Mm), KR E G 5 (ZI E G) (K161 xq1 σ) 161 [(0, .ref (ad E 48)), (1, .int xq1)] [] σ)  (L70 : Int32 → Int32 → Mm → Option (Int32 × Mm)) (hL70 : ∀ (xq1 : Int32) (xq2 : Int32)  (σ : Mm), KR E G 5 (ZI E G) (L70 xq1 xq2 σ) 70 [(0, .ref (ad E 48)), (1, .int xq1), (2, .int xq2)] [] σ) (xq1 : Int32) (xq2 : Int32)  (σ : Mm) : KR E G 5 (ZI E G) (f_X11_stuck_L70 K161  L70 xq1 xq2 σ) 70 [(0, .ref (ad E 48)), (1, .int xq1), (2, .int xq2)] [] σ := by
  have F := B.1
  unfold f_X11_stuck_L70
  refine k_iload_n (pc := 70) F 2 2 dX11_stuck_70 rfl rfl ?_
  refine k_if_lt (pc := 71) F 161 dX11_stuck_71 (by decide) (fun _ => ?_) (fun _ => ?_)
  · exact k_sub [0, 1] rfl (hK161 xq1 σ)
  · refine k_iconst (pc := 74) F (v := (0 : Int32)) dX11_stuck_74 ci_0 ?_
    refine k_istore_n F (lv' := [(3, .int (0 : Int32)), (0, .ref (ad E 48)), (1, .int xq1), (2, .int xq2)]) 3 dX11_stuck_75 rfl (by decide) rfl ?_
    exact k_sub [1, 2, 3, 0] rfl (t_X11_stuck_L76 B xq2  _ (fun xq1  σ => by
          exact k_sub [0, 1, 2] rfl (t_X11_stuck_155 B xq1 xq2  L70 hL70  σ)) FU xq1 (0 : Int32)  σ)
set_option maxHeartbeats 4000000 in
set_option maxRecDepth 100000 in
theorem t_X11_stuck_L70 {E : En} {G : Cx} (B : Bx E G cX11_stuck 5 RX11 H_X11_stuck (some .int))   (K161 : Int32 → Mm → Option (Int32 × Mm)) (hK161 : ∀ (xq1 : Int32)  (σ : Mm), KR E G 5 (ZI E G) (K161 xq1 σ) 161 [(0, .ref (ad E 48)), (1, .int xq1)] [] σ)  : ∀ (n : Nat) (xq1 : Int32) (xq2 : Int32)  (σ : Mm), KR E G 5 (ZI E G) (fx (fun _ _ _ => none) n (f_X11_stuck_L70 K161 ) xq1 xq2 σ) 70 [(0, .ref (ad E 48)), (1, .int xq1), (2, .int xq2)] [] σ :=
  fun n => fx_ind (P := fun f => ∀ (xq1 : Int32) (xq2 : Int32)  (σ : Mm), KR E G 5 (ZI E G) (f xq1 xq2 σ) 70 [(0, .ref (ad E 48)), (1, .int xq1), (2, .int xq2)] [] σ) (fun _ _ _ => k_none) (fun L70 hL70 xq1 xq2 σ => t_X11_stuck_L70b B   K161 hK161  L70 hL70 xq1 xq2 σ) n
set_option maxHeartbeats 4000000 in
set_option maxRecDepth 100000 in
theorem t_X11_stuck_161 {E : En} {G : Cx} (B : Bx E G cX11_stuck 5 RX11 H_X11_stuck (some .int)) (xq1 : Int32)  (L57 : Int32 → Mm → Option (Int32 × Mm)) (hL57 : ∀ (xq1 : Int32)  (σ : Mm), KR E G 5 (ZI E G) (L57 xq1 σ) 57 [(0, .ref (ad E 48)), (1, .int xq1)] [] σ)  (σ : Mm) : KR E G 5 (ZI E G) (f_X11_stuck_161 L57 xq1 σ) 161 [(0, .ref (ad E 48)), (1, .int xq1)] [] σ := by
  have F := B.1
  unfold f_X11_stuck_161
  refine k_goto (pc := 161) F 57 dX11_stuck_161 (by decide) ?_
  exact k_sub [0, 1] rfl (hL57 xq1 σ)
set_option maxHeartbeats 4000000 in
set_option maxRecDepth 100000 in
theorem t_X11_stuck_L57b {E : En} {G : Cx} (B : Bx E G cX11_stuck 5 RX11 H_X11_stuck (some .int))   (K164 : Mm → Option (Int32 × Mm)) (hK164 : ∀   (σ : Mm), KR E G 5 (ZI E G) (K164  σ) 164 [(0, .ref (ad E 48))] [] σ)  (L57 : Int32 → Mm → Option (Int32 × Mm)) (hL57 : ∀ (xq1 : Int32)  (σ : Mm), KR E G 5 (ZI E G) (L57 xq1 σ) 57 [(0, .ref (ad E 48)), (1, .int xq1)] [] σ) (xq1 : Int32)  (σ : Mm) : KR E G 5 (ZI E G) (f_X11_stuck_L57 K164  L57 xq1 σ) 57 [(0, .ref (ad E 48)), (1, .int xq1)] [] σ := by
  have F := B.1
  unfold f_X11_stuck_L57
  refine k_iload_n (pc := 57) F 1 1 dX11_stuck_57 rfl rfl ?_
  refine k_if_eq (pc := 58) F 164 dX11_stuck_58 (by decide) (fun _ => ?_) (fun _ => ?_)
  · exact k_sub [0] rfl (hK164 σ)
  · refine k_iconst (pc := 61) F (v := (0 : Int32)) dX11_stuck_61 ci_0 ?_
    refine k_istore_n F (lv' := [(1, .int (0 : Int32)), (0, .ref (ad E 48))]) 1 dX11_stuck_62 rfl (by decide) rfl ?_
    refine k_aload_n (pc := 63) F 0 1 dX11_stuck_63 rfl rfl ?_
    refine gf_48_50 (pc := 64) F w_4_220 dX11_stuck_64 ?_
    refine k_iconst (pc := 67) F (v := (1 : Int32)) dX11_stuck_67 ci_1 ?_
    refine k_isub (pc := 68) F dX11_stuck_68 ?_
    refine k_nmI (fun vq5 => ?_)
    refine k_istore_n F (lv' := [(2, .int vq5), (1, .int (0 : Int32)), (0, .ref (ad E 48))]) 2 dX11_stuck_69 rfl (by decide) rfl ?_
    exact k_sub [2, 1, 0] rfl (t_X11_stuck_L70 B   _ (fun xq1  σ => by
          exact k_sub [0, 1] rfl (t_X11_stuck_161 B xq1  L57 hL57  σ)) FU (0 : Int32) vq5  σ)
set_option maxHeartbeats 4000000 in
set_option maxRecDepth 100000 in
theorem t_X11_stuck_L57 {E : En} {G : Cx} (B : Bx E G cX11_stuck 5 RX11 H_X11_stuck (some .int))   (K164 : Mm → Option (Int32 × Mm)) (hK164 : ∀   (σ : Mm), KR E G 5 (ZI E G) (K164  σ) 164 [(0, .ref (ad E 48))] [] σ)  : ∀ (n : Nat) (xq1 : Int32)  (σ : Mm), KR E G 5 (ZI E G) (fx (fun _ _ => none) n (f_X11_stuck_L57 K164 ) xq1 σ) 57 [(0, .ref (ad E 48)), (1, .int xq1)] [] σ :=
  fun n => fx_ind (P := fun f => ∀ (xq1 : Int32)  (σ : Mm), KR E G 5 (ZI E G) (f xq1 σ) 57 [(0, .ref (ad E 48)), (1, .int xq1)] [] σ) (fun _ _ => k_none) (fun L57 hL57 xq1 σ => t_X11_stuck_L57b B   K164 hK164  L57 hL57 xq1 σ) n
set_option maxHeartbeats 4000000 in
set_option maxRecDepth 100000 in
theorem t_X11_stuck_191 {E : En} {G : Cx} (B : Bx E G cX11_stuck 5 RX11 H_X11_stuck (some .int)) (xq3 : Int32) (xqs0 : Int32) (xqs1 : Int32)  (L168 : Int32 → Int32 → Mm → Option (Int32 × Mm)) (hL168 : ∀ (xq2 : Int32) (xq3 : Int32)  (σ : Mm), KR E G 5 (ZI E G) (L168 xq2 xq3 σ) 168 [(0, .ref (ad E 48)), (2, .int xq2), (3, .int xq3)] [] σ)  (σ : Mm) : KR E G 5 (ZI E G) (f_X11_stuck_191 L168 xq3 xqs0 xqs1 σ) 191 [(0, .ref (ad E 48)), (3, .int xq3)] [.int xqs1, .int xqs0] σ := by
  have F := B.1
  unfold f_X11_stuck_191
  refine k_iadd (pc := 191) F dX11_stuck_191 ?_
  refine k_nmI (fun vq10 => ?_)
  refine k_istore_n F (lv' := [(2, .int vq10), (0, .ref (ad E 48)), (3, .int xq3)]) 2 dX11_stuck_192 rfl (by decide) rfl ?_
  refine k_iinc (pc := 193) F (c := (1 : Int32)) (lw := fun wq => [(3, .int wq), (2, .int vq10), (0, .ref (ad E 48))]) 3 2 dX11_stuck_193 rfl ci_1 (by decide) (fun _ => rfl) (fun vq11 => ?_)
  refine k_goto (pc := 196) F 168 dX11_stuck_196 (by decide) ?_
  exact k_sub [2, 1, 0] rfl (hL168 vq10 vq11 σ)
set_option maxHeartbeats 4000000 in
set_option maxRecDepth 100000 in
theorem t_X11_stuck_L168b {E : En} {G : Cx} (B : Bx E G cX11_stuck 5 RX11 H_X11_stuck (some .int))    (L168 : Int32 → Int32 → Mm → Option (Int32 × Mm)) (hL168 : ∀ (xq2 : Int32) (xq3 : Int32)  (σ : Mm), KR E G 5 (ZI E G) (L168 xq2 xq3 σ) 168 [(0, .ref (ad E 48)), (2, .int xq2), (3, .int xq3)] [] σ) (xq2 : Int32) (xq3 : Int32)  (σ : Mm) : KR E G 5 (ZI E G) (f_X11_stuck_L168  L168 xq2 xq3 σ) 168 [(0, .ref (ad E 48)), (2, .int xq2), (3, .int xq3)] [] σ := by
  have F := B.1
  unfold f_X11_stuck_L168
  refine k_iload_n (pc := 168) F 3 2 dX11_stuck_168 rfl rfl ?_
  refine k_aload_n (pc := 169) F 0 0 dX11_stuck_169 rfl rfl ?_
  refine gf_48_50 (pc := 170) F w_4_220 dX11_stuck_170 ?_
  refine k_icmp_ge (pc := 173) F 199 dX11_stuck_173 (by decide) (fun _ => ?_) (fun _ => ?_)
  · refine k_iload_n (pc := 199) F 2 1 dX11_stuck_199 rfl rfl ?_
    exact k_iret (pc := 200) B dX11_stuck_200
  · refine k_iload_n (pc := 176) F 2 1 dX11_stuck_176 rfl rfl ?_
    refine k_aload_n (pc := 177) F 0 0 dX11_stuck_177 rfl rfl ?_
    refine gf_48_55 (pc := 178) F w_4_225 dX11_stuck_178 ?_
    refine k_iload_n (pc := 181) F 3 2 dX11_stuck_181 rfl rfl ?_
    refine k_zald (pc := 182) F rfl dX11_stuck_182 ?_
    refine k_if_eq (pc := 183) F 190 dX11_stuck_183 (by decide) (fun _ => ?_) (fun _ => ?_)
    · refine k_iconst (pc := 190) F (v := (1 : Int32)) dX11_stuck_190 ci_1 ?_
      exact k_sub [0, 2] rfl (t_X11_stuck_191 B xq3 xq2 (1 : Int32)  L168 hL168  σ)
    · refine k_iconst (pc := 186) F (v := (0 : Int32)) dX11_stuck_186 ci_0 ?_
      refine k_goto (pc := 187) F 191 dX11_stuck_187 (by decide) ?_
      exact k_sub [0, 2] rfl (t_X11_stuck_191 B xq3 xq2 (0 : Int32)  L168 hL168  σ)
set_option maxHeartbeats 4000000 in
set_option maxRecDepth 100000 in
theorem t_X11_stuck_L168 {E : En} {G : Cx} (B : Bx E G cX11_stuck 5 RX11 H_X11_stuck (some .int))    : ∀ (n : Nat) (xq2 : Int32) (xq3 : Int32)  (σ : Mm), KR E G 5 (ZI E G) (fx (fun _ _ _ => none) n (f_X11_stuck_L168 ) xq2 xq3 σ) 168 [(0, .ref (ad E 48)), (2, .int xq2), (3, .int xq3)] [] σ :=
  fun n => fx_ind (P := fun f => ∀ (xq2 : Int32) (xq3 : Int32)  (σ : Mm), KR E G 5 (ZI E G) (f xq2 xq3 σ) 168 [(0, .ref (ad E 48)), (2, .int xq2), (3, .int xq3)] [] σ) (fun _ _ _ => k_none) (fun L168 hL168 xq2 xq3 σ => t_X11_stuck_L168b B    L168 hL168 xq2 xq3 σ) n
set_option maxHeartbeats 4000000 in
set_option maxRecDepth 100000 in
theorem t_X11_stuck_164 {E : En} {G : Cx} (B : Bx E G cX11_stuck 5 RX11 H_X11_stuck (some .int))    (σ : Mm) : KR E G 5 (ZI E G) (f_X11_stuck_164  σ) 164 [(0, .ref (ad E 48))] [] σ := by
  have F := B.1
  unfold f_X11_stuck_164
  refine k_iconst (pc := 164) F (v := (0 : Int32)) dX11_stuck_164 ci_0 ?_
  refine k_istore_n F (lv' := [(2, .int (0 : Int32)), (0, .ref (ad E 48))]) 2 dX11_stuck_165 rfl (by decide) rfl ?_
  refine k_iconst (pc := 166) F (v := (0 : Int32)) dX11_stuck_166 ci_0 ?_
  refine k_istore_n F (lv' := [(3, .int (0 : Int32)), (2, .int (0 : Int32)), (0, .ref (ad E 48))]) 3 dX11_stuck_167 rfl (by decide) rfl ?_
  exact k_sub [2, 1, 0] rfl (t_X11_stuck_L168 B    FU (0 : Int32) (0 : Int32)  σ)
set_option maxHeartbeats 4000000 in
set_option maxRecDepth 100000 in
theorem t_X11_stuck_55 {E : En} {G : Cx} (B : Bx E G cX11_stuck 5 RX11 H_X11_stuck (some .int))    (σ : Mm) : KR E G 5 (ZI E G) (f_X11_stuck_55  σ) 55 [(0, .ref (ad E 48))] [] σ := by
  have F := B.1
  unfold f_X11_stuck_55
  refine k_iconst (pc := 55) F (v := (1 : Int32)) dX11_stuck_55 ci_1 ?_
  refine k_istore_n F (lv' := [(1, .int (1 : Int32)), (0, .ref (ad E 48))]) 1 dX11_stuck_56 rfl (by decide) rfl ?_
  exact k_sub [1, 0] rfl (t_X11_stuck_L57 B   _ (fun   σ => by
        exact k_sub [0] rfl (t_X11_stuck_164 B    σ)) FU (1 : Int32)  σ)
set_option maxHeartbeats 4000000 in
set_option maxRecDepth 100000 in
theorem t_X11_stuck {E : En} {G : Cx} (B : Bx E G cX11_stuck 5 RX11 H_X11_stuck (some .int))   (σ : Mm) : KR E G 5 (ZI E G) (f_X11_stuck  σ) 0 [(0, .ref (ad E 48))] [] σ := by
  have F := B.1
  unfold f_X11_stuck
  refine k_aload_n (pc := 0) F 0 0 dX11_stuck_0 rfl rfl ?_
  refine k_callVV (pc := 1) B (k := 48) (As := []) (rest := []) (ct_X11_lookAll E   σ) rfl rfl mv_X11_lookAll w_5_238 rfl hR_X11_stuck_X11_lookAll rfl (Nat.le_of_ble_eq_true rfl) dX11_stuck_1 (fun rq2 σ1 hoq => ?_)
  refine k_aload_n (pc := 4) F 0 0 dX11_stuck_4 rfl rfl ?_
  refine gf_48_49 (pc := 5) F w_4_219 dX11_stuck_5 ?_
  refine k_if_eq (pc := 8) F 19 dX11_stuck_8 (by decide) (fun _ => ?_) (fun _ => ?_)
  · refine k_iconst (pc := 19) F (v := (0 : Int32)) dX11_stuck_19 ci_0 ?_
    refine k_istore_n F (lv' := [(1, .int (0 : Int32)), (0, .ref (ad E 48))]) 1 dX11_stuck_20 rfl (by decide) rfl ?_
    exact k_sub [1, 0] rfl (t_X11_stuck_L21 B   _ (fun   σ => by
          exact k_sub [0] rfl (t_X11_stuck_55 B    σ)) FU (0 : Int32)  σ1)
  · refine k_aload_n (pc := 11) F 0 0 dX11_stuck_11 rfl rfl ?_
    refine k_ldcw (pc := 12) F (v := (-1000000007 : Int32)) w_6_101 dX11_stuck_12 ?_
    refine k_callVI (pc := 15) B (k := 48) (As := [.int (-1000000007 : Int32)]) (rest := []) (ct_X11_finds E (-1000000007 : Int32)  σ1) rfl rfl mv_X11_finds w_5_144 rfl hR_X11_stuck_X11_finds rfl (Nat.le_of_ble_eq_true rfl) dX11_stuck_15 (fun rq13 σ12 hoq => ?_)
    exact k_iret (pc := 18) B dX11_stuck_18
set_option maxHeartbeats 4000000 in
set_option maxRecDepth 100000 in
theorem ct_X11_stuck (E : En)   (σ : Mm) : CtI E yX11_stuck cX11_stuck 5 (some .int) H_X11_stuck [.ref (ad E 48)] σ (f_X11_stuck  σ) := ct_I (by decide) (Nat.le_of_ble_eq_true rfl) rfl (fun G B => t_X11_stuck B   σ)
abbrev H_X11_round : Nat := 14
theorem hR_X11_round_X11_finds : H_X11_finds + 1 ≤ H_X11_round ∧ 8 + (2 + 11) + 40 * H_X11_finds ≤ 40 * H_X11_round := by decide
theorem hR_X11_round_X11_lookAll : H_X11_lookAll + 1 ≤ H_X11_round ∧ 8 + (1 + 11) + 40 * H_X11_lookAll ≤ 40 * H_X11_round := by decide
set_option maxHeartbeats 4000000 in
set_option maxRecDepth 100000 in
theorem t_X11_round_L21b {E : En} {G : Cx} (B : Bx E G cX11_round 5 RX11 H_X11_round (some .int))   (K42 : Mm → Option (Int32 × Mm)) (hK42 : ∀   (σ : Mm), KR E G 5 (ZI E G) (K42  σ) 42 [(0, .ref (ad E 48))] [] σ)  (L21 : Int32 → Mm → Option (Int32 × Mm)) (hL21 : ∀ (xq1 : Int32)  (σ : Mm), KR E G 5 (ZI E G) (L21 xq1 σ) 21 [(0, .ref (ad E 48)), (1, .int xq1)] [] σ) (xq1 : Int32)  (σ : Mm) : KR E G 5 (ZI E G) (f_X11_round_L21 K42  L21 xq1 σ) 21 [(0, .ref (ad E 48)), (1, .int xq1)] [] σ := by
  have F := B.1
  unfold f_X11_round_L21
  refine k_iload_n (pc := 21) F 1 1 dX11_round_21 rfl rfl ?_
  refine k_aload_n (pc := 22) F 0 0 dX11_round_22 rfl rfl ?_
  refine gf_48_50 (pc := 23) F w_4_220 dX11_round_23 ?_
  refine k_icmp_ge (pc := 26) F 42 dX11_round_26 (by decide) (fun _ => ?_) (fun _ => ?_)
  · exact k_sub [0] rfl (hK42 σ)
  · refine k_aload_n (pc := 29) F 0 0 dX11_round_29 rfl rfl ?_
    refine gf_48_64 (pc := 30) F w_4_234 dX11_round_30 ?_
    refine k_iload_n (pc := 33) F 1 1 dX11_round_33 rfl rfl ?_
    refine k_iconst (pc := 34) F (v := (0 : Int32)) dX11_round_34 ci_0 ?_
    refine k_iast (pc := 35) F rfl dX11_round_35 (fun σ3 => ?_)
    refine k_iinc (pc := 36) F (c := (1 : Int32)) (lw := fun wq => [(1, .int wq), (0, .ref (ad E 48))]) 1 1 dX11_round_36 rfl ci_1 (by decide) (fun _ => rfl) (fun vq4 => ?_)
    refine k_goto (pc := 39) F 21 dX11_round_39 (by decide) ?_
    exact k_sub [1, 0] rfl (hL21 vq4 σ3)
set_option maxHeartbeats 4000000 in
set_option maxRecDepth 100000 in
theorem t_X11_round_L21 {E : En} {G : Cx} (B : Bx E G cX11_round 5 RX11 H_X11_round (some .int))   (K42 : Mm → Option (Int32 × Mm)) (hK42 : ∀   (σ : Mm), KR E G 5 (ZI E G) (K42  σ) 42 [(0, .ref (ad E 48))] [] σ)  : ∀ (n : Nat) (xq1 : Int32)  (σ : Mm), KR E G 5 (ZI E G) (fx (fun _ _ => none) n (f_X11_round_L21 K42 ) xq1 σ) 21 [(0, .ref (ad E 48)), (1, .int xq1)] [] σ :=
  fun n => fx_ind (P := fun f => ∀ (xq1 : Int32)  (σ : Mm), KR E G 5 (ZI E G) (f xq1 σ) 21 [(0, .ref (ad E 48)), (1, .int xq1)] [] σ) (fun _ _ => k_none) (fun L21 hL21 xq1 σ => t_X11_round_L21b B   K42 hK42  L21 hL21 xq1 σ) n
set_option maxHeartbeats 4000000 in
set_option maxRecDepth 100000 in
theorem t_X11_round_79 {E : En} {G : Cx} (B : Bx E G cX11_round 5 RX11 H_X11_round (some .int)) (xq1 : Int32)  (L44 : Int32 → Mm → Option (Int32 × Mm)) (hL44 : ∀ (xq1 : Int32)  (σ : Mm), KR E G 5 (ZI E G) (L44 xq1 σ) 44 [(0, .ref (ad E 48)), (1, .int xq1)] [] σ)  (σ : Mm) : KR E G 5 (ZI E G) (f_X11_round_79 L44 xq1 σ) 79 [(0, .ref (ad E 48)), (1, .int xq1)] [] σ := by
  have F := B.1
  unfold f_X11_round_79
  refine k_iinc (pc := 79) F (c := (1 : Int32)) (lw := fun wq => [(1, .int wq), (0, .ref (ad E 48))]) 1 1 dX11_round_79 rfl ci_1 (by decide) (fun _ => rfl) (fun vq5 => ?_)
  refine k_goto (pc := 82) F 44 dX11_round_82 (by decide) ?_
  exact k_sub [1, 0] rfl (hL44 vq5 σ)
set_option maxHeartbeats 4000000 in
set_option maxRecDepth 100000 in
theorem t_X11_round_L44b {E : En} {G : Cx} (B : Bx E G cX11_round 5 RX11 H_X11_round (some .int))   (K85 : Mm → Option (Int32 × Mm)) (hK85 : ∀   (σ : Mm), KR E G 5 (ZI E G) (K85  σ) 85 [(0, .ref (ad E 48))] [] σ)  (L44 : Int32 → Mm → Option (Int32 × Mm)) (hL44 : ∀ (xq1 : Int32)  (σ : Mm), KR E G 5 (ZI E G) (L44 xq1 σ) 44 [(0, .ref (ad E 48)), (1, .int xq1)] [] σ) (xq1 : Int32)  (σ : Mm) : KR E G 5 (ZI E G) (f_X11_round_L44 K85  L44 xq1 σ) 44 [(0, .ref (ad E 48)), (1, .int xq1)] [] σ := by
  have F := B.1
  unfold f_X11_round_L44
  refine k_iload_n (pc := 44) F 1 1 dX11_round_44 rfl rfl ?_
  refine k_bipush (pc := 45) F (v := (6 : Int32)) dX11_round_45 cb_6 ?_
  refine k_aload_n (pc := 47) F 0 0 dX11_round_47 rfl rfl ?_
  refine gf_48_50 (pc := 48) F w_4_220 dX11_round_48 ?_
  refine k_imul (pc := 51) F dX11_round_51 ?_
  refine k_icmp_ge (pc := 52) F 85 dX11_round_52 (by decide) (fun _ => ?_) (fun _ => ?_)
  · exact k_sub [0] rfl (hK85 σ)
  · refine k_aload_n (pc := 55) F 0 0 dX11_round_55 rfl rfl ?_
    refine gf_48_52 (pc := 56) F w_4_222 dX11_round_56 ?_
    refine k_iload_n (pc := 59) F 1 1 dX11_round_59 rfl rfl ?_
    refine k_iald (pc := 60) F rfl dX11_round_60 ?_
    refine k_if_lt (pc := 61) F 79 dX11_round_61 (by decide) (fun _ => ?_) (fun _ => ?_)
    · exact k_sub [0, 1] rfl (t_X11_round_79 B xq1  L44 hL44  σ)
    · refine k_aload_n (pc := 64) F 0 0 dX11_round_64 rfl rfl ?_
      refine gf_48_64 (pc := 65) F w_4_234 dX11_round_65 ?_
      refine k_aload_n (pc := 68) F 0 0 dX11_round_68 rfl rfl ?_
      refine gf_48_52 (pc := 69) F w_4_222 dX11_round_69 ?_
      refine k_iload_n (pc := 72) F 1 1 dX11_round_72 rfl rfl ?_
      refine k_iald (pc := 73) F rfl dX11_round_73 ?_
      refine k_nmI (fun vq6 => ?_)
      refine k_dup2 (pc := 74) F dX11_round_74 rfl rfl ?_
      refine k_iald (pc := 75) F rfl dX11_round_75 ?_
      refine k_iconst (pc := 76) F (v := (1 : Int32)) dX11_round_76 ci_1 ?_
      refine k_iadd (pc := 77) F dX11_round_77 ?_
      refine k_iast (pc := 78) F rfl dX11_round_78 (fun σ7 => ?_)
      exact k_sub [0, 1] rfl (t_X11_round_79 B xq1  L44 hL44  σ7)
set_option maxHeartbeats 4000000 in
set_option maxRecDepth 100000 in
theorem t_X11_round_L44 {E : En} {G : Cx} (B : Bx E G cX11_round 5 RX11 H_X11_round (some .int))   (K85 : Mm → Option (Int32 × Mm)) (hK85 : ∀   (σ : Mm), KR E G 5 (ZI E G) (K85  σ) 85 [(0, .ref (ad E 48))] [] σ)  : ∀ (n : Nat) (xq1 : Int32)  (σ : Mm), KR E G 5 (ZI E G) (fx (fun _ _ => none) n (f_X11_round_L44 K85 ) xq1 σ) 44 [(0, .ref (ad E 48)), (1, .int xq1)] [] σ :=
  fun n => fx_ind (P := fun f => ∀ (xq1 : Int32)  (σ : Mm), KR E G 5 (ZI E G) (f xq1 σ) 44 [(0, .ref (ad E 48)), (1, .int xq1)] [] σ) (fun _ _ => k_none) (fun L44 hL44 xq1 σ => t_X11_round_L44b B   K85 hK85  L44 hL44 xq1 σ) n
set_option maxHeartbeats 4000000 in
set_option maxRecDepth 100000 in
theorem t_X11_round_116 {E : En} {G : Cx} (B : Bx E G cX11_round 5 RX11 H_X11_round (some .int)) (xq1 : Int32) (xq2 : Int32)  (L89 : Int32 → Int32 → Mm → Option (Int32 × Mm)) (hL89 : ∀ (xq1 : Int32) (xq2 : Int32)  (σ : Mm), KR E G 5 (ZI E G) (L89 xq1 xq2 σ) 89 [(0, .ref (ad E 48)), (1, .int xq1), (2, .int xq2)] [] σ)  (σ : Mm) : KR E G 5 (ZI E G) (f_X11_round_116 L89 xq1 xq2 σ) 116 [(0, .ref (ad E 48)), (1, .int xq1), (2, .int xq2)] [] σ := by
  have F := B.1
  unfold f_X11_round_116
  refine k_iinc (pc := 116) F (c := (1 : Int32)) (lw := fun wq => [(2, .int wq), (0, .ref (ad E 48)), (1, .int xq1)]) 2 2 dX11_round_116 rfl ci_1 (by decide) (fun _ => rfl) (fun vq8 => ?_)
  refine k_goto (pc := 119) F 89 dX11_round_119 (by decide) ?_
  exact k_sub [1, 2, 0] rfl (hL89 xq1 vq8 σ)
set_option maxHeartbeats 4000000 in
set_option maxRecDepth 100000 in
theorem t_X11_round_L89b {E : En} {G : Cx} (B : Bx E G cX11_round 5 RX11 H_X11_round (some .int))   (K122 : Int32 → Mm → Option (Int32 × Mm)) (hK122 : ∀ (xq1 : Int32)  (σ : Mm), KR E G 5 (ZI E G) (K122 xq1 σ) 122 [(0, .ref (ad E 48)), (1, .int xq1)] [] σ)  (L89 : Int32 → Int32 → Mm → Option (Int32 × Mm)) (hL89 : ∀ (xq1 : Int32) (xq2 : Int32)  (σ : Mm), KR E G 5 (ZI E G) (L89 xq1 xq2 σ) 89 [(0, .ref (ad E 48)), (1, .int xq1), (2, .int xq2)] [] σ) (xq1 : Int32) (xq2 : Int32)  (σ : Mm) : KR E G 5 (ZI E G) (f_X11_round_L89 K122  L89 xq1 xq2 σ) 89 [(0, .ref (ad E 48)), (1, .int xq1), (2, .int xq2)] [] σ := by
  have F := B.1
  unfold f_X11_round_L89
  refine k_iload_n (pc := 89) F 2 2 dX11_round_89 rfl rfl ?_
  refine k_aload_n (pc := 90) F 0 0 dX11_round_90 rfl rfl ?_
  refine gf_48_50 (pc := 91) F w_4_220 dX11_round_91 ?_
  refine k_icmp_ge (pc := 94) F 122 dX11_round_94 (by decide) (fun _ => ?_) (fun _ => ?_)
  · exact k_sub [0, 1] rfl (hK122 xq1 σ)
  · refine k_aload_n (pc := 97) F 0 0 dX11_round_97 rfl rfl ?_
    refine gf_48_64 (pc := 98) F w_4_234 dX11_round_98 ?_
    refine k_iload_n (pc := 101) F 2 2 dX11_round_101 rfl rfl ?_
    refine k_iald (pc := 102) F rfl dX11_round_102 ?_
    refine k_if_ne (pc := 103) F 116 dX11_round_103 (by decide) (fun _ => ?_) (fun _ => ?_)
    · refine k_aload_n (pc := 106) F 0 0 dX11_round_106 rfl rfl ?_
      refine gf_48_65 (pc := 107) F w_4_235 dX11_round_107 ?_
      refine k_iload_n (pc := 110) F 1 1 dX11_round_110 rfl rfl ?_
      refine k_iload_n (pc := 111) F 2 2 dX11_round_111 rfl rfl ?_
      refine k_iast (pc := 112) F rfl dX11_round_112 (fun σ9 => ?_)
      refine k_iinc (pc := 113) F (c := (1 : Int32)) (lw := fun wq => [(1, .int wq), (0, .ref (ad E 48)), (2, .int xq2)]) 1 1 dX11_round_113 rfl ci_1 (by decide) (fun _ => rfl) (fun vq10 => ?_)
      exact k_sub [1, 0, 2] rfl (t_X11_round_116 B vq10 xq2  L89 hL89  σ9)
    · exact k_sub [0, 1, 2] rfl (t_X11_round_116 B xq1 xq2  L89 hL89  σ)
set_option maxHeartbeats 4000000 in
set_option maxRecDepth 100000 in
theorem t_X11_round_L89 {E : En} {G : Cx} (B : Bx E G cX11_round 5 RX11 H_X11_round (some .int))   (K122 : Int32 → Mm → Option (Int32 × Mm)) (hK122 : ∀ (xq1 : Int32)  (σ : Mm), KR E G 5 (ZI E G) (K122 xq1 σ) 122 [(0, .ref (ad E 48)), (1, .int xq1)] [] σ)  : ∀ (n : Nat) (xq1 : Int32) (xq2 : Int32)  (σ : Mm), KR E G 5 (ZI E G) (fx (fun _ _ _ => none) n (f_X11_round_L89 K122 ) xq1 xq2 σ) 89 [(0, .ref (ad E 48)), (1, .int xq1), (2, .int xq2)] [] σ :=
  fun n => fx_ind (P := fun f => ∀ (xq1 : Int32) (xq2 : Int32)  (σ : Mm), KR E G 5 (ZI E G) (f xq1 xq2 σ) 89 [(0, .ref (ad E 48)), (1, .int xq1), (2, .int xq2)] [] σ) (fun _ _ _ => k_none) (fun L89 hL89 xq1 xq2 σ => t_X11_round_L89b B   K122 hK122  L89 hL89 xq1 xq2 σ) n
set_option maxHeartbeats 4000000 in
set_option maxRecDepth 100000 in
theorem t_X11_round_195 {E : En} {G : Cx} (B : Bx E G cX11_round 5 RX11 H_X11_round (some .int)) (xq1 : Int32) (xq2 : Int32) (xq3 : Int32)  (L131 : Int32 → Int32 → Mm → Option (Int32 × Mm)) (hL131 : ∀ (xq1 : Int32) (xq3 : Int32)  (σ : Mm), KR E G 5 (ZI E G) (L131 xq1 xq3 σ) 131 [(0, .ref (ad E 48)), (1, .int xq1), (2, .int xq2), (3, .int xq3)] [] σ)  (σ : Mm) : KR E G 5 (ZI E G) (f_X11_round_195 L131 xq1 xq2 xq3 σ) 195 [(0, .ref (ad E 48)), (1, .int xq1), (2, .int xq2), (3, .int xq3)] [] σ := by
  have F := B.1
  unfold f_X11_round_195
  refine k_iinc (pc := 195) F (c := (1 : Int32)) (lw := fun wq => [(3, .int wq), (0, .ref (ad E 48)), (1, .int xq1), (2, .int xq2)]) 3 3 dX11_round_195 rfl ci_1 (by decide) (fun _ => rfl) (fun vq13 => ?_)
  refine k_goto (pc := 198) F 131 dX11_round_198 (by decide) ?_
  exact k_sub [1, 2, 3, 0] rfl (hL131 xq1 vq13 σ)
set_option maxHeartbeats 4000000 in
set_option maxRecDepth 100000 in
theorem t_X11_round_L131b {E : En} {G : Cx} (B : Bx E G cX11_round 5 RX11 H_X11_round (some .int)) (xq2 : Int32)  (K201 : Int32 → Mm → Option (Int32 × Mm)) (hK201 : ∀ (xq1 : Int32)  (σ : Mm), KR E G 5 (ZI E G) (K201 xq1 σ) 201 [(0, .ref (ad E 48)), (1, .int xq1), (2, .int xq2)] [] σ)  (L131 : Int32 → Int32 → Mm → Option (Int32 × Mm)) (hL131 : ∀ (xq1 : Int32) (xq3 : Int32)  (σ : Mm), KR E G 5 (ZI E G) (L131 xq1 xq3 σ) 131 [(0, .ref (ad E 48)), (1, .int xq1), (2, .int xq2), (3, .int xq3)] [] σ) (xq1 : Int32) (xq3 : Int32)  (σ : Mm) : KR E G 5 (ZI E G) (f_X11_round_L131 K201 xq2 L131 xq1 xq3 σ) 131 [(0, .ref (ad E 48)), (1, .int xq1), (2, .int xq2), (3, .int xq3)] [] σ := by
  have F := B.1
  unfold f_X11_round_L131
  refine k_iload_n (pc := 131) F 3 3 dX11_round_131 rfl rfl ?_
  refine k_bipush (pc := 132) F (v := (6 : Int32)) dX11_round_132 cb_6 ?_
  refine k_icmp_ge (pc := 134) F 201 dX11_round_134 (by decide) (fun _ => ?_) (fun _ => ?_)
  · exact k_sub [0, 1, 2] rfl (hK201 xq1 σ)
  · refine k_aload_n (pc := 137) F 0 0 dX11_round_137 rfl rfl ?_
    refine gf_48_52 (pc := 138) F w_4_222 dX11_round_138 ?_
    refine k_bipush (pc := 141) F (v := (6 : Int32)) dX11_round_141 cb_6 ?_
    refine k_aload_n (pc := 143) F 0 0 dX11_round_143 rfl rfl ?_
    refine gf_48_65 (pc := 144) F w_4_235 dX11_round_144 ?_
    refine k_iload_n (pc := 147) F 2 2 dX11_round_147 rfl rfl ?_
    refine k_iald (pc := 148) F rfl dX11_round_148 ?_
    refine k_imul (pc := 149) F dX11_round_149 ?_
    refine k_iload_n (pc := 150) F 3 3 dX11_round_150 rfl rfl ?_
    refine k_iadd (pc := 151) F dX11_round_151 ?_
    refine k_iald (pc := 152) F rfl dX11_round_152 ?_
    refine k_nmI (fun vq11 => ?_)
    refine k_istore F (lv' := [(4, .int vq11), (0, .ref (ad E 48)), (1, .int xq1), (2, .int xq2), (3, .int xq3)]) 4 dX11_round_153 (by decide) rfl ?_
    refine k_iload (pc := 155) F 4 0 dX11_round_155 rfl ?_
    refine k_if_ge (pc := 157) F 163 dX11_round_157 (by decide) (fun _ => ?_) (fun _ => ?_)
    · refine k_aload_n (pc := 163) F 0 1 dX11_round_163 rfl rfl ?_
      refine gf_48_64 (pc := 164) F w_4_234 dX11_round_164 ?_
      refine k_iload (pc := 167) F 4 0 dX11_round_167 rfl ?_
      refine k_dup2 (pc := 169) F dX11_round_169 rfl rfl ?_
      refine k_iald (pc := 170) F rfl dX11_round_170 ?_
      refine k_iconst (pc := 171) F (v := (1 : Int32)) dX11_round_171 ci_1 ?_
      refine k_isub (pc := 172) F dX11_round_172 ?_
      refine k_iast (pc := 173) F rfl dX11_round_173 (fun σ12 => ?_)
      refine k_aload_n (pc := 174) F 0 1 dX11_round_174 rfl rfl ?_
      refine gf_48_64 (pc := 175) F w_4_234 dX11_round_175 ?_
      refine k_iload (pc := 178) F 4 0 dX11_round_178 rfl ?_
      refine k_iald (pc := 180) F rfl dX11_round_180 ?_
      refine k_if_ne (pc := 181) F 195 dX11_round_181 (by decide) (fun _ => ?_) (fun _ => ?_)
      · refine k_aload_n (pc := 184) F 0 1 dX11_round_184 rfl rfl ?_
        refine gf_48_65 (pc := 185) F w_4_235 dX11_round_185 ?_
        refine k_iload_n (pc := 188) F 1 2 dX11_round_188 rfl rfl ?_
        refine k_iload (pc := 189) F 4 0 dX11_round_189 rfl ?_
        refine k_iast (pc := 191) F rfl dX11_round_191 (fun σ14 => ?_)
        refine k_iinc (pc := 192) F (c := (1 : Int32)) (lw := fun wq => [(1, .int wq), (4, .int vq11), (0, .ref (ad E 48)), (2, .int xq2), (3, .int xq3)]) 1 2 dX11_round_192 rfl ci_1 (by decide) (fun _ => rfl) (fun vq15 => ?_)
        exact k_sub [2, 0, 3, 4] rfl (t_X11_round_195 B vq15 xq2 xq3  L131 hL131  σ14)
      · exact k_sub [1, 2, 3, 4] rfl (t_X11_round_195 B xq1 xq2 xq3  L131 hL131  σ12)
    · refine k_goto (pc := 160) F 195 dX11_round_160 (by decide) ?_
      exact k_sub [1, 2, 3, 4] rfl (t_X11_round_195 B xq1 xq2 xq3  L131 hL131  σ)
set_option maxHeartbeats 4000000 in
set_option maxRecDepth 100000 in
theorem t_X11_round_L131 {E : En} {G : Cx} (B : Bx E G cX11_round 5 RX11 H_X11_round (some .int)) (xq2 : Int32)  (K201 : Int32 → Mm → Option (Int32 × Mm)) (hK201 : ∀ (xq1 : Int32)  (σ : Mm), KR E G 5 (ZI E G) (K201 xq1 σ) 201 [(0, .ref (ad E 48)), (1, .int xq1), (2, .int xq2)] [] σ)  : ∀ (n : Nat) (xq1 : Int32) (xq3 : Int32)  (σ : Mm), KR E G 5 (ZI E G) (fx (fun _ _ _ => none) n (f_X11_round_L131 K201 xq2) xq1 xq3 σ) 131 [(0, .ref (ad E 48)), (1, .int xq1), (2, .int xq2), (3, .int xq3)] [] σ :=
  fun n => fx_ind (P := fun f => ∀ (xq1 : Int32) (xq3 : Int32)  (σ : Mm), KR E G 5 (ZI E G) (f xq1 xq3 σ) 131 [(0, .ref (ad E 48)), (1, .int xq1), (2, .int xq2), (3, .int xq3)] [] σ) (fun _ _ _ => k_none) (fun L131 hL131 xq1 xq3 σ => t_X11_round_L131b B xq2  K201 hK201  L131 hL131 xq1 xq3 σ) n
set_option maxHeartbeats 4000000 in
set_option maxRecDepth 100000 in
theorem t_X11_round_201 {E : En} {G : Cx} (B : Bx E G cX11_round 5 RX11 H_X11_round (some .int)) (xq1 : Int32) (xq2 : Int32)  (L124 : Int32 → Int32 → Mm → Option (Int32 × Mm)) (hL124 : ∀ (xq1 : Int32) (xq2 : Int32)  (σ : Mm), KR E G 5 (ZI E G) (L124 xq1 xq2 σ) 124 [(0, .ref (ad E 48)), (1, .int xq1), (2, .int xq2)] [] σ)  (σ : Mm) : KR E G 5 (ZI E G) (f_X11_round_201 L124 xq1 xq2 σ) 201 [(0, .ref (ad E 48)), (1, .int xq1), (2, .int xq2)] [] σ := by
  have F := B.1
  unfold f_X11_round_201
  refine k_iinc (pc := 201) F (c := (1 : Int32)) (lw := fun wq => [(2, .int wq), (0, .ref (ad E 48)), (1, .int xq1)]) 2 2 dX11_round_201 rfl ci_1 (by decide) (fun _ => rfl) (fun vq16 => ?_)
  refine k_goto (pc := 204) F 124 dX11_round_204 (by decide) ?_
  exact k_sub [1, 2, 0] rfl (hL124 xq1 vq16 σ)
set_option maxHeartbeats 4000000 in
set_option maxRecDepth 100000 in
theorem t_X11_round_L124b {E : En} {G : Cx} (B : Bx E G cX11_round 5 RX11 H_X11_round (some .int))   (K207 : Int32 → Mm → Option (Int32 × Mm)) (hK207 : ∀ (xq1 : Int32)  (σ : Mm), KR E G 5 (ZI E G) (K207 xq1 σ) 207 [(0, .ref (ad E 48)), (1, .int xq1)] [] σ)  (L124 : Int32 → Int32 → Mm → Option (Int32 × Mm)) (hL124 : ∀ (xq1 : Int32) (xq2 : Int32)  (σ : Mm), KR E G 5 (ZI E G) (L124 xq1 xq2 σ) 124 [(0, .ref (ad E 48)), (1, .int xq1), (2, .int xq2)] [] σ) (xq1 : Int32) (xq2 : Int32)  (σ : Mm) : KR E G 5 (ZI E G) (f_X11_round_L124 K207  L124 xq1 xq2 σ) 124 [(0, .ref (ad E 48)), (1, .int xq1), (2, .int xq2)] [] σ := by
  have F := B.1
  unfold f_X11_round_L124
  refine k_iload_n (pc := 124) F 2 2 dX11_round_124 rfl rfl ?_
  refine k_iload_n (pc := 125) F 1 1 dX11_round_125 rfl rfl ?_
  refine k_icmp_ge (pc := 126) F 207 dX11_round_126 (by decide) (fun _ => ?_) (fun _ => ?_)
  · exact k_sub [0, 1] rfl (hK207 xq1 σ)
  · refine k_iconst (pc := 129) F (v := (0 : Int32)) dX11_round_129 ci_0 ?_
    refine k_istore_n F (lv' := [(3, .int (0 : Int32)), (0, .ref (ad E 48)), (1, .int xq1), (2, .int xq2)]) 3 dX11_round_130 rfl (by decide) rfl ?_
    exact k_sub [1, 2, 3, 0] rfl (t_X11_round_L131 B xq2  _ (fun xq1  σ => by
          exact k_sub [0, 1, 2] rfl (t_X11_round_201 B xq1 xq2  L124 hL124  σ)) FU xq1 (0 : Int32)  σ)
set_option maxHeartbeats 4000000 in
set_option maxRecDepth 100000 in
theorem t_X11_round_L124 {E : En} {G : Cx} (B : Bx E G cX11_round 5 RX11 H_X11_round (some .int))   (K207 : Int32 → Mm → Option (Int32 × Mm)) (hK207 : ∀ (xq1 : Int32)  (σ : Mm), KR E G 5 (ZI E G) (K207 xq1 σ) 207 [(0, .ref (ad E 48)), (1, .int xq1)] [] σ)  : ∀ (n : Nat) (xq1 : Int32) (xq2 : Int32)  (σ : Mm), KR E G 5 (ZI E G) (fx (fun _ _ _ => none) n (f_X11_round_L124 K207 ) xq1 xq2 σ) 124 [(0, .ref (ad E 48)), (1, .int xq1), (2, .int xq2)] [] σ :=
  fun n => fx_ind (P := fun f => ∀ (xq1 : Int32) (xq2 : Int32)  (σ : Mm), KR E G 5 (ZI E G) (f xq1 xq2 σ) 124 [(0, .ref (ad E 48)), (1, .int xq1), (2, .int xq2)] [] σ) (fun _ _ _ => k_none) (fun L124 hL124 xq1 xq2 σ => t_X11_round_L124b B   K207 hK207  L124 hL124 xq1 xq2 σ) n
set_option maxHeartbeats 4000000 in
set_option maxRecDepth 100000 in
theorem t_X11_round_207 {E : En} {G : Cx} (B : Bx E G cX11_round 5 RX11 H_X11_round (some .int)) (xq1 : Int32)   (σ : Mm) : KR E G 5 (ZI E G) (f_X11_round_207 xq1 σ) 207 [(0, .ref (ad E 48)), (1, .int xq1)] [] σ := by
  have F := B.1
  unfold f_X11_round_207
  refine k_iload_n (pc := 207) F 1 1 dX11_round_207 rfl rfl ?_
  refine k_aload_n (pc := 208) F 0 0 dX11_round_208 rfl rfl ?_
  refine gf_48_50 (pc := 209) F w_4_220 dX11_round_209 ?_
  refine k_icmp_ge (pc := 212) F 219 dX11_round_212 (by decide) (fun _ => ?_) (fun _ => ?_)
  · refine k_iconst (pc := 219) F (v := (0 : Int32)) dX11_round_219 ci_0 ?_
    exact k_iret (pc := 220) B dX11_round_220
  · refine k_iconst (pc := 215) F (v := (1 : Int32)) dX11_round_215 ci_1 ?_
    refine k_goto (pc := 216) F 220 dX11_round_216 (by decide) ?_
    exact k_iret (pc := 220) B dX11_round_220
set_option maxHeartbeats 4000000 in
set_option maxRecDepth 100000 in
theorem t_X11_round_122 {E : En} {G : Cx} (B : Bx E G cX11_round 5 RX11 H_X11_round (some .int)) (xq1 : Int32)   (σ : Mm) : KR E G 5 (ZI E G) (f_X11_round_122 xq1 σ) 122 [(0, .ref (ad E 48)), (1, .int xq1)] [] σ := by
  have F := B.1
  unfold f_X11_round_122
  refine k_iconst (pc := 122) F (v := (0 : Int32)) dX11_round_122 ci_0 ?_
  refine k_istore_n F (lv' := [(2, .int (0 : Int32)), (0, .ref (ad E 48)), (1, .int xq1)]) 2 dX11_round_123 rfl (by decide) rfl ?_
  exact k_sub [1, 2, 0] rfl (t_X11_round_L124 B   _ (fun xq1  σ => by
        exact k_sub [0, 1] rfl (t_X11_round_207 B xq1   σ)) FU xq1 (0 : Int32)  σ)
set_option maxHeartbeats 4000000 in
set_option maxRecDepth 100000 in
theorem t_X11_round_85 {E : En} {G : Cx} (B : Bx E G cX11_round 5 RX11 H_X11_round (some .int))    (σ : Mm) : KR E G 5 (ZI E G) (f_X11_round_85  σ) 85 [(0, .ref (ad E 48))] [] σ := by
  have F := B.1
  unfold f_X11_round_85
  refine k_iconst (pc := 85) F (v := (0 : Int32)) dX11_round_85 ci_0 ?_
  refine k_istore_n F (lv' := [(1, .int (0 : Int32)), (0, .ref (ad E 48))]) 1 dX11_round_86 rfl (by decide) rfl ?_
  refine k_iconst (pc := 87) F (v := (0 : Int32)) dX11_round_87 ci_0 ?_
  refine k_istore_n F (lv' := [(2, .int (0 : Int32)), (1, .int (0 : Int32)), (0, .ref (ad E 48))]) 2 dX11_round_88 rfl (by decide) rfl ?_
  exact k_sub [2, 1, 0] rfl (t_X11_round_L89 B   _ (fun xq1  σ => by
        exact k_sub [0, 1] rfl (t_X11_round_122 B xq1   σ)) FU (0 : Int32) (0 : Int32)  σ)
set_option maxHeartbeats 4000000 in
set_option maxRecDepth 100000 in
theorem t_X11_round_42 {E : En} {G : Cx} (B : Bx E G cX11_round 5 RX11 H_X11_round (some .int))    (σ : Mm) : KR E G 5 (ZI E G) (f_X11_round_42  σ) 42 [(0, .ref (ad E 48))] [] σ := by
  have F := B.1
  unfold f_X11_round_42
  refine k_iconst (pc := 42) F (v := (0 : Int32)) dX11_round_42 ci_0 ?_
  refine k_istore_n F (lv' := [(1, .int (0 : Int32)), (0, .ref (ad E 48))]) 1 dX11_round_43 rfl (by decide) rfl ?_
  exact k_sub [1, 0] rfl (t_X11_round_L44 B   _ (fun   σ => by
        exact k_sub [0] rfl (t_X11_round_85 B    σ)) FU (0 : Int32)  σ)
set_option maxHeartbeats 4000000 in
set_option maxRecDepth 100000 in
theorem t_X11_round {E : En} {G : Cx} (B : Bx E G cX11_round 5 RX11 H_X11_round (some .int))   (σ : Mm) : KR E G 5 (ZI E G) (f_X11_round  σ) 0 [(0, .ref (ad E 48))] [] σ := by
  have F := B.1
  unfold f_X11_round
  refine k_aload_n (pc := 0) F 0 0 dX11_round_0 rfl rfl ?_
  refine k_callVV (pc := 1) B (k := 48) (As := []) (rest := []) (ct_X11_lookAll E   σ) rfl rfl mv_X11_lookAll w_5_238 rfl hR_X11_round_X11_lookAll rfl (Nat.le_of_ble_eq_true rfl) dX11_round_1 (fun rq2 σ1 hoq => ?_)
  refine k_aload_n (pc := 4) F 0 0 dX11_round_4 rfl rfl ?_
  refine gf_48_49 (pc := 5) F w_4_219 dX11_round_5 ?_
  refine k_if_eq (pc := 8) F 19 dX11_round_8 (by decide) (fun _ => ?_) (fun _ => ?_)
  · refine k_iconst (pc := 19) F (v := (0 : Int32)) dX11_round_19 ci_0 ?_
    refine k_istore_n F (lv' := [(1, .int (0 : Int32)), (0, .ref (ad E 48))]) 1 dX11_round_20 rfl (by decide) rfl ?_
    exact k_sub [1, 0] rfl (t_X11_round_L21 B   _ (fun   σ => by
          exact k_sub [0] rfl (t_X11_round_42 B    σ)) FU (0 : Int32)  σ1)
  · refine k_aload_n (pc := 11) F 0 0 dX11_round_11 rfl rfl ?_
    refine k_ldcw (pc := 12) F (v := (-1000000007 : Int32)) w_6_101 dX11_round_12 ?_
    refine k_callVI (pc := 15) B (k := 48) (As := [.int (-1000000007 : Int32)]) (rest := []) (ct_X11_finds E (-1000000007 : Int32)  σ1) rfl rfl mv_X11_finds w_5_144 rfl hR_X11_round_X11_finds rfl (Nat.le_of_ble_eq_true rfl) dX11_round_15 (fun rq18 σ17 hoq => ?_)
    exact k_iret (pc := 18) B dX11_round_18
set_option maxHeartbeats 4000000 in
set_option maxRecDepth 100000 in
theorem ct_X11_round (E : En)   (σ : Mm) : CtI E yX11_round cX11_round 5 (some .int) H_X11_round [.ref (ad E 48)] σ (f_X11_round  σ) := ct_I (by decide) (Nat.le_of_ble_eq_true rfl) rfl (fun G B => t_X11_round B   σ)
