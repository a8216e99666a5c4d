theorem dX10_hand_11 : decode cX10_hand 11 = .ok (.iload_n 2, 1) := by decide +kernel
theorem dX10_hand_12 : decode cX10_hand 12 = .ok (.iconst (-1), 1) := by decide +kernel
theorem dX10_hand_13 : decode cX10_hand 13 = .ok (.if_icmp .eq 23, 3) := by decide +kernel
theorem dX10_hand_16 : decode cX10_hand 16 = .ok (.aload_n 0, 1) := by decide +kernel
theorem dX10_hand_17 : decode cX10_hand 17 = .ok (.getfield 39, 3) := by decide +kernel
theorem dX10_hand_20 : decode cX10_hand 20 = .ok (.iload_n 2, 1) := by decide +kernel
theorem dX10_hand_21 : decode cX10_hand 21 = .ok (.invokevirtual 90, 3) := by decide +kernel
theorem dX10_hand_24 : decode cX10_hand 24 = .ok (.ifCond .ne 12, 3) := by decide +kernel
theorem dX10_hand_27 : decode cX10_hand 27 = .ok (.aload_n 0, 1) := by decide +kernel
theorem dX10_hand_28 : decode cX10_hand 28 = .ok (.getfield 12, 3) := by decide +kernel
theorem dX10_hand_31 : decode cX10_hand 31 = .ok (.iconst 0, 1) := by decide +kernel
theorem dX10_hand_32 : decode cX10_hand 32 = .ok (.invokevirtual 66, 3) := by decide +kernel
theorem dX10_hand_35 : decode cX10_hand 35 = .ok (.ireturn, 1) := by decide +kernel
theorem dX10_hand_36 : decode cX10_hand 36 = .ok (.aload_n 0, 1) := by decide +kernel
theorem dX10_hand_37 : decode cX10_hand 37 = .ok (.getfield 39, 3) := by decide +kernel
theorem dX10_hand_40 : decode cX10_hand 40 = .ok (.getfield 132, 3) := by decide +kernel
theorem dX10_hand_43 : decode cX10_hand 43 = .ok (.iconst 3, 1) := by decide +kernel
theorem dX10_hand_44 : decode cX10_hand 44 = .ok (.if_icmp .lt 12, 3) := by decide +kernel
theorem dX10_hand_47 : decode cX10_hand 47 = .ok (.aload_n 0, 1) := by decide +kernel
theorem dX10_hand_48 : decode cX10_hand 48 = .ok (.getfield 12, 3) := by decide +kernel
theorem dX10_hand_51 : decode cX10_hand 51 = .ok (.iconst 1, 1) := by decide +kernel
theorem dX10_hand_52 : decode cX10_hand 52 = .ok (.invokevirtual 66, 3) := by decide +kernel
theorem dX10_hand_55 : decode cX10_hand 55 = .ok (.ireturn, 1) := by decide +kernel
theorem dX10_hand_56 : decode cX10_hand 56 = .ok (.aload_n 0, 1) := by decide +kernel
theorem dX10_hand_57 : decode cX10_hand 57 = .ok (.getfield 39, 3) := by decide +kernel
theorem dX10_hand_60 : decode cX10_hand 60 = .ok (.getfield 135, 3) := by decide +kernel
theorem dX10_hand_63 : decode cX10_hand 63 = .ok (.aload_n 0, 1) := by decide +kernel
theorem dX10_hand_64 : decode cX10_hand 64 = .ok (.getfield 39, 3) := by decide +kernel
theorem dX10_hand_67 : decode cX10_hand 67 = .ok (.getfield 132, 3) := by decide +kernel
theorem dX10_hand_70 : decode cX10_hand 70 = .ok (.iload_n 1, 1) := by decide +kernel
theorem dX10_hand_71 : decode cX10_hand 71 = .ok (.iastore, 1) := by decide +kernel
theorem dX10_hand_72 : decode cX10_hand 72 = .ok (.aload_n 0, 1) := by decide +kernel
theorem dX10_hand_73 : decode cX10_hand 73 = .ok (.getfield 39, 3) := by decide +kernel
theorem dX10_hand_76 : decode cX10_hand 76 = .ok (.getfield 138, 3) := by decide +kernel
theorem dX10_hand_79 : decode cX10_hand 79 = .ok (.aload_n 0, 1) := by decide +kernel
theorem dX10_hand_80 : decode cX10_hand 80 = .ok (.getfield 39, 3) := by decide +kernel
theorem dX10_hand_83 : decode cX10_hand 83 = .ok (.getfield 132, 3) := by decide +kernel
theorem dX10_hand_86 : decode cX10_hand 86 = .ok (.iload_n 2, 1) := by decide +kernel
theorem dX10_hand_87 : decode cX10_hand 87 = .ok (.iastore, 1) := by decide +kernel
theorem dX10_hand_88 : decode cX10_hand 88 = .ok (.aload_n 0, 1) := by decide +kernel
theorem dX10_hand_89 : decode cX10_hand 89 = .ok (.getfield 39, 3) := by decide +kernel
theorem dX10_hand_92 : decode cX10_hand 92 = .ok (.dup, 1) := by decide +kernel
theorem dX10_hand_93 : decode cX10_hand 93 = .ok (.getfield 132, 3) := by decide +kernel
theorem dX10_hand_96 : decode cX10_hand 96 = .ok (.iconst 1, 1) := by decide +kernel
theorem dX10_hand_97 : decode cX10_hand 97 = .ok (.iadd, 1) := by decide +kernel
theorem dX10_hand_98 : decode cX10_hand 98 = .ok (.putfield 132, 3) := by decide +kernel
theorem dX10_hand_101 : decode cX10_hand 101 = .ok (.aload_n 0, 1) := by decide +kernel
theorem dX10_hand_102 : decode cX10_hand 102 = .ok (.getfield 31, 3) := by decide +kernel
theorem dX10_hand_105 : decode cX10_hand 105 = .ok (.invokevirtual 87, 3) := by decide +kernel
theorem dX10_hand_108 : decode cX10_hand 108 = .ok (.aload_n 0, 1) := by decide +kernel
theorem dX10_hand_109 : decode cX10_hand 109 = .ok (.getfield 39, 3) := by decide +kernel
theorem dX10_hand_112 : decode cX10_hand 112 = .ok (.getfield 132, 3) := by decide +kernel
theorem dX10_hand_115 : decode cX10_hand 115 = .ok (.iconst 1, 1) := by decide +kernel
theorem dX10_hand_116 : decode cX10_hand 116 = .ok (.isub, 1) := by decide +kernel
theorem dX10_hand_117 : decode cX10_hand 117 = .ok (.ireturn, 1) := by decide +kernel
theorem dX10_clear_0 : decode cX10_clear 0 = .ok (.aload_n 0, 1) := by decide +kernel
theorem dX10_clear_1 : decode cX10_clear 1 = .ok (.getfield 39, 3) := by decide +kernel
theorem dX10_clear_4 : decode cX10_clear 4 = .ok (.getfield 132, 3) := by decide +kernel
theorem dX10_clear_7 : decode cX10_clear 7 = .ok (.istore_n 1, 1) := by decide +kernel
theorem dX10_clear_8 : decode cX10_clear 8 = .ok (.aload_n 0, 1) := by decide +kernel
theorem dX10_clear_9 : decode cX10_clear 9 = .ok (.getfield 39, 3) := by decide +kernel
theorem dX10_clear_12 : decode cX10_clear 12 = .ok (.iconst 0, 1) := by decide +kernel
theorem dX10_clear_13 : decode cX10_clear 13 = .ok (.putfield 132, 3) := by decide +kernel
theorem dX10_clear_16 : decode cX10_clear 16 = .ok (.aload_n 0, 1) := by decide +kernel
theorem dX10_clear_17 : decode cX10_clear 17 = .ok (.getfield 31, 3) := by decide +kernel
theorem dX10_clear_20 : decode cX10_clear 20 = .ok (.invokevirtual 87, 3) := by decide +kernel
theorem dX10_clear_23 : decode cX10_clear 23 = .ok (.iload_n 1, 1) := by decide +kernel
theorem dX10_clear_24 : decode cX10_clear 24 = .ok (.ireturn, 1) := by decide +kernel
theorem dX10_states_0 : decode cX10_states 0 = .ok (.aload_n 0, 1) := by decide +kernel
theorem dX10_states_1 : decode cX10_states 1 = .ok (.getfield 31, 3) := by decide +kernel
theorem dX10_states_4 : decode cX10_states 4 = .ok (.invokevirtual 141, 3) := by decide +kernel
theorem dX10_states_7 : decode cX10_states 7 = .ok (.ifCond .eq 15, 3) := by decide +kernel
theorem dX10_states_10 : decode cX10_states 10 = .ok (.aload_n 0, 1) := by decide +kernel
theorem dX10_states_11 : decode cX10_states 11 = .ok (.getfield 12, 3) := by decide +kernel
theorem dX10_states_14 : decode cX10_states 14 = .ok (.bipush 6, 2) := by decide +kernel
theorem dX10_states_16 : decode cX10_states 16 = .ok (.invokevirtual 66, 3) := by decide +kernel
theorem dX10_states_19 : decode cX10_states 19 = .ok (.goto 13, 3) := by decide +kernel
theorem dX10_states_22 : decode cX10_states 22 = .ok (.aload_n 0, 1) := by decide +kernel
theorem dX10_states_23 : decode cX10_states 23 = .ok (.getfield 31, 3) := by decide +kernel
theorem dX10_states_26 : decode cX10_states 26 = .ok (.getfield 145, 3) := by decide +kernel
theorem dX10_states_29 : decode cX10_states 29 = .ok (.getfield 149, 3) := by decide +kernel
theorem dX10_states_32 : decode cX10_states 32 = .ok (.ireturn, 1) := by decide +kernel
theorem dX10_ends_0 : decode cX10_ends 0 = .ok (.aload_n 0, 1) := by decide +kernel
theorem dX10_ends_1 : decode cX10_ends 1 = .ok (.getfield 31, 3) := by decide +kernel
theorem dX10_ends_4 : decode cX10_ends 4 = .ok (.invokevirtual 141, 3) := by decide +kernel
theorem dX10_ends_7 : decode cX10_ends 7 = .ok (.ifCond .eq 15, 3) := by decide +kernel
theorem dX10_ends_10 : decode cX10_ends 10 = .ok (.aload_n 0, 1) := by decide +kernel
theorem dX10_ends_11 : decode cX10_ends 11 = .ok (.getfield 12, 3) := by decide +kernel
theorem dX10_ends_14 : decode cX10_ends 14 = .ok (.bipush 6, 2) := by decide +kernel
theorem dX10_ends_16 : decode cX10_ends 16 = .ok (.invokevirtual 66, 3) := by decide +kernel
theorem dX10_ends_19 : decode cX10_ends 19 = .ok (.goto 13, 3) := by decide +kernel
theorem dX10_ends_22 : decode cX10_ends 22 = .ok (.aload_n 0, 1) := by decide +kernel
theorem dX10_ends_23 : decode cX10_ends 23 = .ok (.getfield 31, 3) := by decide +kernel
theorem dX10_ends_26 : decode cX10_ends 26 = .ok (.getfield 154, 3) := by decide +kernel
theorem dX10_ends_29 : decode cX10_ends 29 = .ok (.getfield 158, 3) := by decide +kernel
theorem dX10_ends_32 : decode cX10_ends 32 = .ok (.ireturn, 1) := by decide +kernel
theorem dX10_result_0 : decode cX10_result 0 = .ok (.iload_n 1, 1) := by decide +kernel
theorem dX10_result_1 : decode cX10_result 1 = .ok (.ifCond .ge 12, 3) := by decide +kernel
theorem dX10_result_4 : decode cX10_result 4 = .ok (.aload_n 0, 1) := by decide +kernel
theorem dX10_result_5 : decode cX10_result 5 = .ok (.getfield 12, 3) := by decide +kernel
theorem dX10_result_8 : decode cX10_result 8 = .ok (.iconst 0, 1) := by decide +kernel
theorem dX10_result_9 : decode cX10_result 9 = .ok (.invokevirtual 66, 3) := by decide +kernel
theorem dX10_result_12 : decode cX10_result 12 = .ok (.ireturn, 1) := by decide +kernel
theorem dX10_result_13 : decode cX10_result 13 = .ok (.aload_n 0, 1) := by decide +kernel
theorem dX10_result_14 : decode cX10_result 14 = .ok (.getfield 31, 3) := by decide +kernel
theorem dX10_result_17 : decode cX10_result 17 = .ok (.invokevirtual 141, 3) := by decide +kernel
theorem dX10_result_20 : decode cX10_result 20 = .ok (.ifCond .eq 13, 3) := by decide +kernel
theorem dX10_result_23 : decode cX10_result 23 = .ok (.aload_n 0, 1) := by decide +kernel
theorem dX10_result_24 : decode cX10_result 24 = .ok (.getfield 12, 3) := by decide +kernel
theorem dX10_result_27 : decode cX10_result 27 = .ok (.bipush 6, 2) := by decide +kernel
theorem dX10_result_29 : decode cX10_result 29 = .ok (.invokevirtual 66, 3) := by decide +kernel
theorem dX10_result_32 : decode cX10_result 32 = .ok (.ireturn, 1) := by decide +kernel
theorem dX10_result_33 : decode cX10_result 33 = .ok (.iload_n 1, 1) := by decide +kernel
theorem dX10_result_34 : decode cX10_result 34 = .ok (.aload_n 0, 1) := by decide +kernel
theorem dX10_result_35 : decode cX10_result 35 = .ok (.getfield 31, 3) := by decide +kernel
theorem dX10_result_38 : decode cX10_result 38 = .ok (.getfield 154, 3) := by decide +kernel
theorem dX10_result_41 : decode cX10_result 41 = .ok (.getfield 158, 3) := by decide +kernel
theorem dX10_result_44 : decode cX10_result 44 = .ok (.if_icmp .ge 18, 3) := by decide +kernel
theorem dX10_result_47 : decode cX10_result 47 = .ok (.aload_n 0, 1) := by decide +kernel
theorem dX10_result_48 : decode cX10_result 48 = .ok (.getfield 31, 3) := by decide +kernel
theorem dX10_result_51 : decode cX10_result 51 = .ok (.getfield 154, 3) := by decide +kernel
theorem dX10_result_54 : decode cX10_result 54 = .ok (.getfield 161, 3) := by decide +kernel
theorem dX10_result_57 : decode cX10_result 57 = .ok (.iload_n 1, 1) := by decide +kernel
theorem dX10_result_58 : decode cX10_result 58 = .ok (.iaload, 1) := by decide +kernel
theorem dX10_result_59 : decode cX10_result 59 = .ok (.goto 11, 3) := by decide +kernel
theorem dX10_result_62 : decode cX10_result 62 = .ok (.aload_n 0, 1) := by decide +kernel
theorem dX10_result_63 : decode cX10_result 63 = .ok (.getfield 12, 3) := by decide +kernel
theorem dX10_result_66 : decode cX10_result 66 = .ok (.iconst 3, 1) := by decide +kernel
theorem dX10_result_67 : decode cX10_result 67 = .ok (.invokevirtual 66, 3) := by decide +kernel
theorem dX10_result_70 : decode cX10_result 70 = .ok (.ireturn, 1) := by decide +kernel
theorem dX10_orders_0 : decode cX10_orders 0 = .ok (.aload_n 0, 1) := by decide +kernel
theorem dX10_orders_1 : decode cX10_orders 1 = .ok (.getfield 31, 3) := by decide +kernel
theorem dX10_orders_4 : decode cX10_orders 4 = .ok (.invokevirtual 164, 3) := by decide +kernel
theorem dX10_orders_7 : decode cX10_orders 7 = .ok (.getfield 158, 3) := by decide +kernel
theorem dX10_orders_10 : decode cX10_orders 10 = .ok (.ireturn, 1) := by decide +kernel
theorem dX10_inOrder_0 : decode cX10_inOrder 0 = .ok (.iload_n 1, 1) := by decide +kernel
theorem dX10_inOrder_1 : decode cX10_inOrder 1 = .ok (.ifCond .ge 12, 3) := by decide +kernel
theorem dX10_inOrder_4 : decode cX10_inOrder 4 = .ok (.aload_n 0, 1) := by decide +kernel
theorem dX10_inOrder_5 : decode cX10_inOrder 5 = .ok (.getfield 12, 3) := by decide +kernel
theorem dX10_inOrder_8 : decode cX10_inOrder 8 = .ok (.iconst 0, 1) := by decide +kernel
theorem dX10_inOrder_9 : decode cX10_inOrder 9 = .ok (.invokevirtual 66, 3) := by decide +kernel
theorem dX10_inOrder_12 : decode cX10_inOrder 12 = .ok (.ireturn, 1) := by decide +kernel
theorem dX10_inOrder_13 : decode cX10_inOrder 13 = .ok (.aload_n 0, 1) := by decide +kernel
theorem dX10_inOrder_14 : decode cX10_inOrder 14 = .ok (.getfield 31, 3) := by decide +kernel
theorem dX10_inOrder_17 : decode cX10_inOrder 17 = .ok (.invokevirtual 164, 3) := by decide +kernel
theorem dX10_inOrder_20 : decode cX10_inOrder 20 = .ok (.astore_n 2, 1) := by decide +kernel
theorem dX10_inOrder_21 : decode cX10_inOrder 21 = .ok (.iload_n 1, 1) := by decide +kernel
theorem dX10_inOrder_22 : decode cX10_inOrder 22 = .ok (.aload_n 2, 1) := by decide +kernel
theorem dX10_inOrder_23 : decode cX10_inOrder 23 = .ok (.getfield 158, 3) := by decide +kernel
theorem dX10_inOrder_26 : decode cX10_inOrder 26 = .ok (.if_icmp .ge 12, 3) := by decide +kernel
theorem dX10_inOrder_29 : decode cX10_inOrder 29 = .ok (.aload_n 2, 1) := by decide +kernel
theorem dX10_inOrder_30 : decode cX10_inOrder 30 = .ok (.getfield 161, 3) := by decide +kernel
theorem dX10_inOrder_33 : decode cX10_inOrder 33 = .ok (.iload_n 1, 1) := by decide +kernel
theorem dX10_inOrder_34 : decode cX10_inOrder 34 = .ok (.iaload, 1) := by decide +kernel
theorem dX10_inOrder_35 : decode cX10_inOrder 35 = .ok (.goto 11, 3) := by decide +kernel
theorem dX10_inOrder_38 : decode cX10_inOrder 38 = .ok (.aload_n 0, 1) := by decide +kernel
theorem dX10_inOrder_39 : decode cX10_inOrder 39 = .ok (.getfield 12, 3) := by decide +kernel
theorem dX10_inOrder_42 : decode cX10_inOrder 42 = .ok (.iconst 3, 1) := by decide +kernel
theorem dX10_inOrder_43 : decode cX10_inOrder 43 = .ok (.invokevirtual 66, 3) := by decide +kernel
theorem dX10_inOrder_46 : decode cX10_inOrder 46 = .ok (.ireturn, 1) := by decide +kernel
theorem dX10_bad_0 : decode cX10_bad 0 = .ok (.aload_n 0, 1) := by decide +kernel
theorem dX10_bad_1 : decode cX10_bad 1 = .ok (.getfield 31, 3) := by decide +kernel
theorem dX10_bad_4 : decode cX10_bad 4 = .ok (.invokevirtual 141, 3) := by decide +kernel
theorem dX10_bad_7 : decode cX10_bad 7 = .ok (.ifCond .eq 15, 3) := by decide +kernel
theorem dX10_bad_10 : decode cX10_bad 10 = .ok (.aload_n 0, 1) := by decide +kernel
theorem dX10_bad_11 : decode cX10_bad 11 = .ok (.getfield 12, 3) := by decide +kernel
theorem dX10_bad_14 : decode cX10_bad 14 = .ok (.bipush 6, 2) := by decide +kernel
theorem dX10_bad_16 : decode cX10_bad 16 = .ok (.invokevirtual 66, 3) := by decide +kernel
theorem dX10_bad_19 : decode cX10_bad 19 = .ok (.goto 17, 3) := by decide +kernel
theorem dX10_bad_22 : decode cX10_bad 22 = .ok (.aload_n 0, 1) := by decide +kernel
theorem dX10_bad_23 : decode cX10_bad 23 = .ok (.getfield 31, 3) := by decide +kernel
theorem dX10_bad_26 : decode cX10_bad 26 = .ok (.aload_n 0, 1) := by decide +kernel
theorem dX10_bad_27 : decode cX10_bad 27 = .ok (.getfield 31, 3) := by decide +kernel
theorem dX10_bad_30 : decode cX10_bad 30 = .ok (.invokevirtual 164, 3) := by decide +kernel
theorem dX10_bad_33 : decode cX10_bad 33 = .ok (.invokevirtual 168, 3) := by decide +kernel
theorem dX10_bad_36 : decode cX10_bad 36 = .ok (.ireturn, 1) := by decide +kernel
theorem dX10_worst_0 : decode cX10_worst 0 = .ok (.aload_n 0, 1) := by decide +kernel
theorem dX10_worst_1 : decode cX10_worst 1 = .ok (.getfield 31, 3) := by decide +kernel
theorem dX10_worst_4 : decode cX10_worst 4 = .ok (.invokevirtual 141, 3) := by decide +kernel
theorem dX10_worst_7 : decode cX10_worst 7 = .ok (.ifCond .eq 13, 3) := by decide +kernel
theorem dX10_worst_10 : decode cX10_worst 10 = .ok (.aload_n 0, 1) := by decide +kernel
theorem dX10_worst_11 : decode cX10_worst 11 = .ok (.getfield 12, 3) := by decide +kernel
theorem dX10_worst_14 : decode cX10_worst 14 = .ok (.bipush 6, 2) := by decide +kernel
theorem dX10_worst_16 : decode cX10_worst 16 = .ok (.invokevirtual 66, 3) := by decide +kernel
theorem dX10_worst_19 : decode cX10_worst 19 = .ok (.ireturn, 1) := by decide +kernel
theorem dX10_worst_20 : decode cX10_worst 20 = .ok (.aload_n 0, 1) := by decide +kernel
theorem dX10_worst_21 : decode cX10_worst 21 = .ok (.getfield 31, 3) := by decide +kernel
theorem dX10_worst_24 : decode cX10_worst 24 = .ok (.aload_n 0, 1) := by decide +kernel
theorem dX10_worst_25 : decode cX10_worst 25 = .ok (.getfield 31, 3) := by decide +kernel
theorem dX10_worst_28 : decode cX10_worst 28 = .ok (.invokevirtual 164, 3) := by decide +kernel
theorem dX10_worst_31 : decode cX10_worst 31 = .ok (.invokevirtual 172, 3) := by decide +kernel
theorem dX10_worst_34 : decode cX10_worst 34 = .ok (.istore_n 1, 1) := by decide +kernel
theorem dX10_worst_35 : decode cX10_worst 35 = .ok (.iload_n 1, 1) := by decide +kernel
theorem dX10_worst_36 : decode cX10_worst 36 = .ok (.ifCond .lt 7, 3) := by decide +kernel
theorem dX10_worst_39 : decode cX10_worst 39 = .ok (.iload_n 1, 1) := by decide +kernel
theorem dX10_worst_40 : decode cX10_worst 40 = .ok (.goto 11, 3) := by decide +kernel
theorem dX10_worst_43 : decode cX10_worst 43 = .ok (.aload_n 0, 1) := by decide +kernel
theorem dX10_worst_44 : decode cX10_worst 44 = .ok (.getfield 12, 3) := by decide +kernel
theorem dX10_worst_47 : decode cX10_worst 47 = .ok (.iconst 3, 1) := by decide +kernel
theorem dX10_worst_48 : decode cX10_worst 48 = .ok (.invokevirtual 66, 3) := by decide +kernel
theorem dX10_worst_51 : decode cX10_worst 51 = .ok (.ireturn, 1) := by decide +kernel
theorem dX10_turn_0 : decode cX10_turn 0 = .ok (.iload_n 1, 1) := by decide +kernel
theorem dX10_turn_1 : decode cX10_turn 1 = .ok (.iconst (-1), 1) := by decide +kernel
theorem dX10_turn_2 : decode cX10_turn 2 = .ok (.if_icmp .ge 12, 3) := by decide +kernel
theorem dX10_turn_5 : decode cX10_turn 5 = .ok (.aload_n 0, 1) := by decide +kernel
theorem dX10_turn_6 : decode cX10_turn 6 = .ok (.getfield 12, 3) := by decide +kernel
theorem dX10_turn_9 : decode cX10_turn 9 = .ok (.iconst 0, 1) := by decide +kernel
theorem dX10_turn_10 : decode cX10_turn 10 = .ok (.invokevirtual 66, 3) := by decide +kernel
theorem dX10_turn_13 : decode cX10_turn 13 = .ok (.ireturn, 1) := by decide +kernel
theorem dX10_turn_14 : decode cX10_turn 14 = .ok (.aload_n 0, 1) := by decide +kernel
theorem dX10_turn_15 : decode cX10_turn 15 = .ok (.getfield 31, 3) := by decide +kernel
theorem dX10_turn_18 : decode cX10_turn 18 = .ok (.invokevirtual 141, 3) := by decide +kernel
theorem dX10_turn_21 : decode cX10_turn 21 = .ok (.ifCond .eq 13, 3) := by decide +kernel
theorem dX10_turn_24 : decode cX10_turn 24 = .ok (.aload_n 0, 1) := by decide +kernel
theorem dX10_turn_25 : decode cX10_turn 25 = .ok (.getfield 12, 3) := by decide +kernel
theorem dX10_turn_28 : decode cX10_turn 28 = .ok (.bipush 6, 2) := by decide +kernel
theorem dX10_turn_30 : decode cX10_turn 30 = .ok (.invokevirtual 66, 3) := by decide +kernel
theorem dX10_turn_33 : decode cX10_turn 33 = .ok (.ireturn, 1) := by decide +kernel
theorem dX10_turn_34 : decode cX10_turn 34 = .ok (.aload_n 0, 1) := by decide +kernel
theorem dX10_turn_35 : decode cX10_turn 35 = .ok (.getfield 31, 3) := by decide +kernel
theorem dX10_turn_38 : decode cX10_turn 38 = .ok (.invokevirtual 175, 3) := by decide +kernel
theorem dX10_turn_41 : decode cX10_turn 41 = .ok (.istore_n 2, 1) := by decide +kernel
theorem dX10_turn_42 : decode cX10_turn 42 = .ok (.iload_n 2, 1) := by decide +kernel
theorem dX10_turn_43 : decode cX10_turn 43 = .ok (.ifCond .lt 8, 3) := by decide +kernel
theorem dX10_turn_46 : decode cX10_turn 46 = .ok (.iload_n 1, 1) := by decide +kernel
theorem dX10_turn_47 : decode cX10_turn 47 = .ok (.iload_n 2, 1) := by decide +kernel
theorem dX10_turn_48 : decode cX10_turn 48 = .ok (.if_icmp .lt 12, 3) := by decide +kernel
theorem dX10_turn_51 : decode cX10_turn 51 = .ok (.aload_n 0, 1) := by decide +kernel
theorem dX10_turn_52 : decode cX10_turn 52 = .ok (.getfield 12, 3) := by decide +kernel
theorem dX10_turn_55 : decode cX10_turn 55 = .ok (.iconst 3, 1) := by decide +kernel
theorem dX10_turn_56 : decode cX10_turn 56 = .ok (.invokevirtual 66, 3) := by decide +kernel
theorem dX10_turn_59 : decode cX10_turn 59 = .ok (.ireturn, 1) := by decide +kernel
theorem dX10_turn_60 : decode cX10_turn 60 = .ok (.iload_n 1, 1) := by decide +kernel
theorem dX10_turn_61 : decode cX10_turn 61 = .ok (.iconst (-1), 1) := by decide +kernel
theorem dX10_turn_62 : decode cX10_turn 62 = .ok (.if_icmp .ne 7, 3) := by decide +kernel
theorem dX10_turn_65 : decode cX10_turn 65 = .ok (.iload_n 2, 1) := by decide +kernel
theorem dX10_turn_66 : decode cX10_turn 66 = .ok (.goto 14, 3) := by decide +kernel
theorem dX10_turn_69 : decode cX10_turn 69 = .ok (.aload_n 0, 1) := by decide +kernel
theorem dX10_turn_70 : decode cX10_turn 70 = .ok (.getfield 31, 3) := by decide +kernel
theorem dX10_turn_73 : decode cX10_turn 73 = .ok (.getfield 145, 3) := by decide +kernel
theorem dX10_turn_76 : decode cX10_turn 76 = .ok (.iload_n 1, 1) := by decide +kernel
theorem dX10_turn_77 : decode cX10_turn 77 = .ok (.invokevirtual 179, 3) := by decide +kernel
theorem dX10_turn_80 : decode cX10_turn 80 = .ok (.ireturn, 1) := by decide +kernel
theorem dX10_stuck_0 : decode cX10_stuck 0 = .ok (.aload_n 0, 1) := by decide +kernel
theorem dX10_stuck_1 : decode cX10_stuck 1 = .ok (.getfield 31, 3) := by decide +kernel
theorem dX10_stuck_4 : decode cX10_stuck 4 = .ok (.invokevirtual 141, 3) := by decide +kernel
theorem dX10_stuck_7 : decode cX10_stuck 7 = .ok (.ifCond .eq 15, 3) := by decide +kernel
theorem dX10_stuck_10 : decode cX10_stuck 10 = .ok (.aload_n 0, 1) := by decide +kernel
theorem dX10_stuck_11 : decode cX10_stuck 11 = .ok (.getfield 12, 3) := by decide +kernel
theorem dX10_stuck_14 : decode cX10_stuck 14 = .ok (.bipush 6, 2) := by decide +kernel
theorem dX10_stuck_16 : decode cX10_stuck 16 = .ok (.invokevirtual 66, 3) := by decide +kernel
theorem dX10_stuck_19 : decode cX10_stuck 19 = .ok (.goto 13, 3) := by decide +kernel
theorem dX10_stuck_22 : decode cX10_stuck 22 = .ok (.aload_n 0, 1) := by decide +kernel
theorem dX10_stuck_23 : decode cX10_stuck 23 = .ok (.getfield 31, 3) := by decide +kernel
theorem dX10_stuck_26 : decode cX10_stuck 26 = .ok (.getfield 145, 3) := by decide +kernel
theorem dX10_stuck_29 : decode cX10_stuck 29 = .ok (.invokevirtual 182, 3) := by decide +kernel
theorem dX10_stuck_32 : decode cX10_stuck 32 = .ok (.ireturn, 1) := by decide +kernel
theorem dX10_round_0 : decode cX10_round 0 = .ok (.aload_n 0, 1) := by decide +kernel
theorem dX10_round_1 : decode cX10_round 1 = .ok (.getfield 31, 3) := by decide +kernel
theorem dX10_round_4 : decode cX10_round 4 = .ok (.invokevirtual 141, 3) := by decide +kernel
theorem dX10_round_7 : decode cX10_round 7 = .ok (.ifCond .eq 13, 3) := by decide +kernel
theorem dX10_round_10 : decode cX10_round 10 = .ok (.aload_n 0, 1) := by decide +kernel
theorem dX10_round_11 : decode cX10_round 11 = .ok (.getfield 12, 3) := by decide +kernel
theorem dX10_round_14 : decode cX10_round 14 = .ok (.bipush 6, 2) := by decide +kernel
theorem dX10_round_16 : decode cX10_round 16 = .ok (.invokevirtual 66, 3) := by decide +kernel
theorem dX10_round_19 : decode cX10_round 19 = .ok (.ireturn, 1) := by decide +kernel
theorem dX10_round_20 : decode cX10_round 20 = .ok (.aload_n 0, 1) := by decide +kernel
theorem dX10_round_21 : decode cX10_round 21 = .ok (.getfield 31, 3) := by decide +kernel
theorem dX10_round_24 : decode cX10_round 24 = .ok (.getfield 145, 3) := by decide +kernel
theorem dX10_round_27 : decode cX10_round 27 = .ok (.invokevirtual 185, 3) := by decide +kernel
theorem dX10_round_30 : decode cX10_round 30 = .ok (.ifCond .eq 7, 3) := by decide +kernel
theorem dX10_round_33 : decode cX10_round 33 = .ok (.iconst 1, 1) := by decide +kernel
theorem dX10_round_34 : decode cX10_round 34 = .ok (.goto 4, 3) := by decide +kernel
theorem dX10_round_37 : decode cX10_round 37 = .ok (.iconst 0, 1) := by decide +kernel
theorem dX10_round_38 : decode cX10_round 38 = .ok (.ireturn, 1) := by decide +kernel
theorem dX10_heal_0 : decode cX10_heal 0 = .ok (.aload_n 0, 1) := by decide +kernel
theorem dX10_heal_1 : decode cX10_heal 1 = .ok (.getfield 39, 3) := by decide +kernel
theorem dX10_heal_4 : decode cX10_heal 4 = .ok (.iload_n 1, 1) := by decide +kernel
theorem dX10_heal_5 : decode cX10_heal 5 = .ok (.iload_n 2, 1) := by decide +kernel
theorem dX10_heal_6 : decode cX10_heal 6 = .ok (.invokevirtual 98, 3) := by decide +kernel
theorem dX10_heal_9 : decode cX10_heal 9 = .ok (.ifCond .ne 12, 3) := by decide +kernel
theorem dX10_heal_12 : decode cX10_heal 12 = .ok (.aload_n 0, 1) := by decide +kernel
theorem dX10_heal_13 : decode cX10_heal 13 = .ok (.getfield 12, 3) := by decide +kernel
theorem dX10_heal_16 : decode cX10_heal 16 = .ok (.iconst 0, 1) := by decide +kernel
theorem dX10_heal_17 : decode cX10_heal 17 = .ok (.invokevirtual 66, 3) := by decide +kernel
theorem dX10_heal_20 : decode cX10_heal 20 = .ok (.ireturn, 1) := by decide +kernel
theorem dX10_heal_21 : decode cX10_heal 21 = .ok (.aload_n 0, 1) := by decide +kernel
theorem dX10_heal_22 : decode cX10_heal 22 = .ok (.getfield 39, 3) := by decide +kernel
theorem dX10_heal_25 : decode cX10_heal 25 = .ok (.iload_n 1, 1) := by decide +kernel
theorem dX10_heal_26 : decode cX10_heal 26 = .ok (.iload_n 2, 1) := by decide +kernel
theorem dX10_heal_27 : decode cX10_heal 27 = .ok (.invokevirtual 118, 3) := by decide +kernel
theorem dX10_heal_30 : decode cX10_heal 30 = .ok (.istore_n 3, 1) := by decide +kernel
theorem dX10_heal_31 : decode cX10_heal 31 = .ok (.iload_n 3, 1) := by decide +kernel
theorem dX10_heal_32 : decode cX10_heal 32 = .ok (.ifCond .ge 12, 3) := by decide +kernel
theorem dX10_heal_35 : decode cX10_heal 35 = .ok (.aload_n 0, 1) := by decide +kernel
theorem dX10_heal_36 : decode cX10_heal 36 = .ok (.getfield 12, 3) := by decide +kernel
theorem dX10_heal_39 : decode cX10_heal 39 = .ok (.iconst 2, 1) := by decide +kernel
theorem dX10_heal_40 : decode cX10_heal 40 = .ok (.invokevirtual 66, 3) := by decide +kernel
theorem dX10_heal_43 : decode cX10_heal 43 = .ok (.ireturn, 1) := by decide +kernel
theorem dX10_heal_44 : decode cX10_heal 44 = .ok (.aload_n 0, 1) := by decide +kernel
theorem dX10_heal_45 : decode cX10_heal 45 = .ok (.getfield 31, 3) := by decide +kernel
theorem dX10_heal_48 : decode cX10_heal 48 = .ok (.iload_n 1, 1) := by decide +kernel
theorem dX10_heal_49 : decode cX10_heal 49 = .ok (.iload_n 2, 1) := by decide +kernel
theorem dX10_heal_50 : decode cX10_heal 50 = .ok (.iload_n 3, 1) := by decide +kernel
theorem dX10_heal_51 : decode cX10_heal 51 = .ok (.invokevirtual 188, 3) := by decide +kernel
theorem dX10_heal_54 : decode cX10_heal 54 = .ok (.istore 4, 2) := by decide +kernel
theorem dX10_heal_56 : decode cX10_heal 56 = .ok (.iload 4, 2) := by decide +kernel
theorem dX10_heal_58 : decode cX10_heal 58 = .ok (.ifCond .lt 8, 3) := by decide +kernel
theorem dX10_heal_61 : decode cX10_heal 61 = .ok (.iload 4, 2) := by decide +kernel
theorem dX10_heal_63 : decode cX10_heal 63 = .ok (.goto 12, 3) := by decide +kernel
theorem dX10_heal_66 : decode cX10_heal 66 = .ok (.aload_n 0, 1) := by decide +kernel
theorem dX10_heal_67 : decode cX10_heal 67 = .ok (.getfield 12, 3) := by decide +kernel
theorem dX10_heal_70 : decode cX10_heal 70 = .ok (.bipush 6, 2) := by decide +kernel
theorem dX10_heal_72 : decode cX10_heal 72 = .ok (.invokevirtual 66, 3) := by decide +kernel
theorem dX10_heal_75 : decode cX10_heal 75 = .ok (.ireturn, 1) := by decide +kernel
theorem dX10_fences_0 : decode cX10_fences 0 = .ok (.aload_n 0, 1) := by decide +kernel
theorem dX10_fences_1 : decode cX10_fences 1 = .ok (.getfield 31, 3) := by decide +kernel
theorem dX10_fences_4 : decode cX10_fences 4 = .ok (.invokevirtual 191, 3) := by decide +kernel
theorem dX10_fences_7 : decode cX10_fences 7 = .ok (.istore_n 1, 1) := by decide +kernel
theorem dX10_fences_8 : decode cX10_fences 8 = .ok (.iload_n 1, 1) := by decide +kernel
theorem dX10_fences_9 : decode cX10_fences 9 = .ok (.bipush (-2), 2) := by decide +kernel
theorem dX10_fences_11 : decode cX10_fences 11 = .ok (.if_icmp .ne 13, 3) := by decide +kernel
theorem dX10_fences_14 : decode cX10_fences 14 = .ok (.aload_n 0, 1) := by decide +kernel
theorem dX10_fences_15 : decode cX10_fences 15 = .ok (.getfield 12, 3) := by decide +kernel
theorem dX10_fences_18 : decode cX10_fences 18 = .ok (.bipush 6, 2) := by decide +kernel
theorem dX10_fences_20 : decode cX10_fences 20 = .ok (.invokevirtual 66, 3) := by decide +kernel
theorem dX10_fences_23 : decode cX10_fences 23 = .ok (.ireturn, 1) := by decide +kernel
theorem dX10_fences_24 : decode cX10_fences 24 = .ok (.iload_n 1, 1) := by decide +kernel
theorem dX10_fences_25 : decode cX10_fences 25 = .ok (.ifCond .lt 7, 3) := by decide +kernel
theorem dX10_fences_28 : decode cX10_fences 28 = .ok (.iload_n 1, 1) := by decide +kernel
theorem dX10_fences_29 : decode cX10_fences 29 = .ok (.goto 11, 3) := by decide +kernel
theorem dX10_fences_32 : decode cX10_fences 32 = .ok (.aload_n 0, 1) := by decide +kernel
theorem dX10_fences_33 : decode cX10_fences 33 = .ok (.getfield 12, 3) := by decide +kernel
theorem dX10_fences_36 : decode cX10_fences 36 = .ok (.iconst 3, 1) := by decide +kernel
theorem dX10_fences_37 : decode cX10_fences 37 = .ok (.invokevirtual 66, 3) := by decide +kernel
theorem dX10_fences_40 : decode cX10_fences 40 = .ok (.ireturn, 1) := by decide +kernel
theorem dX10_cost_0 : decode cX10_cost 0 = .ok (.aload_n 0, 1) := by decide +kernel
theorem dX10_cost_1 : decode cX10_cost 1 = .ok (.iload_n 1, 1) := by decide +kernel
theorem dX10_cost_2 : decode cX10_cost 2 = .ok (.invokevirtual 194, 3) := by decide +kernel
theorem dX10_cost_5 : decode cX10_cost 5 = .ok (.istore_n 2, 1) := by decide +kernel
theorem dX10_cost_6 : decode cX10_cost 6 = .ok (.iload_n 2, 1) := by decide +kernel
theorem dX10_cost_7 : decode cX10_cost 7 = .ok (.ifCond .ge 13, 3) := by decide +kernel
theorem dX10_cost_10 : decode cX10_cost 10 = .ok (.aload_n 0, 1) := by decide +kernel
theorem dX10_cost_11 : decode cX10_cost 11 = .ok (.getfield 55, 3) := by decide +kernel
theorem dX10_cost_14 : decode cX10_cost 14 = .ok (.getfield 197, 3) := by decide +kernel
theorem dX10_cost_17 : decode cX10_cost 17 = .ok (.goto 11, 3) := by decide +kernel
theorem dX10_cost_20 : decode cX10_cost 20 = .ok (.aload_n 0, 1) := by decide +kernel
theorem dX10_cost_21 : decode cX10_cost 21 = .ok (.getfield 12, 3) := by decide +kernel
theorem dX10_cost_24 : decode cX10_cost 24 = .ok (.iload_n 2, 1) := by decide +kernel
theorem dX10_cost_25 : decode cX10_cost 25 = .ok (.invokevirtual 66, 3) := by decide +kernel
theorem dX10_cost_28 : decode cX10_cost 28 = .ok (.ireturn, 1) := by decide +kernel
theorem dX10_played_0 : decode cX10_played 0 = .ok (.aload_n 0, 1) := by decide +kernel
theorem dX10_played_1 : decode cX10_played 1 = .ok (.iload_n 1, 1) := by decide +kernel
theorem dX10_played_2 : decode cX10_played 2 = .ok (.invokevirtual 194, 3) := by decide +kernel
theorem dX10_played_5 : decode cX10_played 5 = .ok (.istore_n 2, 1) := by decide +kernel
theorem dX10_played_6 : decode cX10_played 6 = .ok (.iload_n 2, 1) := by decide +kernel
theorem dX10_played_7 : decode cX10_played 7 = .ok (.ifCond .lt 8, 3) := by decide +kernel
theorem dX10_played_10 : decode cX10_played 10 = .ok (.iload_n 2, 1) := by decide +kernel
theorem dX10_played_11 : decode cX10_played 11 = .ok (.iconst 4, 1) := by decide +kernel
theorem dX10_played_12 : decode cX10_played 12 = .ok (.if_icmp .ne 13, 3) := by decide +kernel
theorem dX10_played_15 : decode cX10_played 15 = .ok (.aload_n 0, 1) := by decide +kernel
theorem dX10_played_16 : decode cX10_played 16 = .ok (.getfield 55, 3) := by decide +kernel
theorem dX10_played_19 : decode cX10_played 19 = .ok (.getfield 200, 3) := by decide +kernel
theorem dX10_played_22 : decode cX10_played 22 = .ok (.goto 11, 3) := by decide +kernel
theorem dX10_played_25 : decode cX10_played 25 = .ok (.aload_n 0, 1) := by decide +kernel
theorem dX10_played_26 : decode cX10_played 26 = .ok (.getfield 12, 3) := by decide +kernel
theorem dX10_played_29 : decode cX10_played 29 = .ok (.iload_n 2, 1) := by decide +kernel
theorem dX10_played_30 : decode cX10_played 30 = .ok (.invokevirtual 66, 3) := by decide +kernel
theorem dX10_played_33 : decode cX10_played 33 = .ok (.ireturn, 1) := by decide +kernel
theorem dX10_judge_0 : decode cX10_judge 0 = .ok (.aload_n 0, 1) := by decide +kernel
theorem dX10_judge_1 : decode cX10_judge 1 = .ok (.iload_n 1, 1) := by decide +kernel
theorem dX10_judge_2 : decode cX10_judge 2 = .ok (.invokevirtual 194, 3) := by decide +kernel
theorem dX10_judge_5 : decode cX10_judge 5 = .ok (.istore_n 2, 1) := by decide +kernel
theorem dX10_judge_6 : decode cX10_judge 6 = .ok (.iload_n 2, 1) := by decide +kernel
theorem dX10_judge_7 : decode cX10_judge 7 = .ok (.ifCond .lt 12, 3) := by decide +kernel
theorem dX10_judge_10 : decode cX10_judge 10 = .ok (.aload_n 0, 1) := by decide +kernel
theorem dX10_judge_11 : decode cX10_judge 11 = .ok (.getfield 12, 3) := by decide +kernel
theorem dX10_judge_14 : decode cX10_judge 14 = .ok (.iload_n 2, 1) := by decide +kernel
theorem dX10_judge_15 : decode cX10_judge 15 = .ok (.invokevirtual 66, 3) := by decide +kernel
theorem dX10_judge_18 : decode cX10_judge 18 = .ok (.ireturn, 1) := by decide +kernel
theorem dX10_judge_19 : decode cX10_judge 19 = .ok (.aload_n 0, 1) := by decide +kernel
theorem dX10_judge_20 : decode cX10_judge 20 = .ok (.getfield 31, 3) := by decide +kernel
theorem dX10_judge_23 : decode cX10_judge 23 = .ok (.getfield 203, 3) := by decide +kernel
theorem dX10_judge_26 : decode cX10_judge 26 = .ok (.aload_n 0, 1) := by decide +kernel
theorem dX10_judge_27 : decode cX10_judge 27 = .ok (.getfield 55, 3) := by decide +kernel
theorem dX10_judge_30 : decode cX10_judge 30 = .ok (.getfield 207, 3) := by decide +kernel
theorem dX10_judge_33 : decode cX10_judge 33 = .ok (.invokevirtual 211, 3) := by decide +kernel
theorem dX10_judge_36 : decode cX10_judge 36 = .ok (.ifCond .ne 5, 3) := by decide +kernel
theorem dX10_judge_39 : decode cX10_judge 39 = .ok (.iconst 2, 1) := by decide +kernel
theorem dX10_judge_40 : decode cX10_judge 40 = .ok (.ireturn, 1) := by decide +kernel
theorem dX10_judge_41 : decode cX10_judge 41 = .ok (.aload_n 0, 1) := by decide +kernel
theorem dX10_judge_42 : decode cX10_judge 42 = .ok (.getfield 31, 3) := by decide +kernel
theorem dX10_judge_45 : decode cX10_judge 45 = .ok (.invokevirtual 164, 3) := by decide +kernel
theorem dX10_judge_48 : decode cX10_judge 48 = .ok (.aload_n 0, 1) := by decide +kernel
theorem dX10_judge_49 : decode cX10_judge 49 = .ok (.getfield 31, 3) := by decide +kernel
theorem dX10_judge_52 : decode cX10_judge 52 = .ok (.getfield 203, 3) := by decide +kernel
theorem dX10_judge_55 : decode cX10_judge 55 = .ok (.aload_n 0, 1) := by decide +kernel
theorem dX10_judge_56 : decode cX10_judge 56 = .ok (.getfield 55, 3) := by decide +kernel
theorem dX10_judge_59 : decode cX10_judge 59 = .ok (.getfield 207, 3) := by decide +kernel
theorem dX10_judge_62 : decode cX10_judge 62 = .ok (.invokevirtual 217, 3) := by decide +kernel
theorem dX10_judge_65 : decode cX10_judge 65 = .ok (.invokevirtual 221, 3) := by decide +kernel
theorem dX10_judge_68 : decode cX10_judge 68 = .ok (.ifCond .eq 7, 3) := by decide +kernel
theorem dX10_judge_71 : decode cX10_judge 71 = .ok (.iconst 0, 1) := by decide +kernel
theorem dX10_judge_72 : decode cX10_judge 72 = .ok (.goto 4, 3) := by decide +kernel
theorem dX10_judge_75 : decode cX10_judge 75 = .ok (.iconst 1, 1) := by decide +kernel
theorem dX10_judge_76 : decode cX10_judge 76 = .ok (.ireturn, 1) := by decide +kernel
theorem dX10_moves_0 : decode cX10_moves 0 = .ok (.aload_n 0, 1) := by decide +kernel
theorem dX10_moves_1 : decode cX10_moves 1 = .ok (.iload_n 1, 1) := by decide +kernel
theorem dX10_moves_2 : decode cX10_moves 2 = .ok (.invokevirtual 194, 3) := by decide +kernel
theorem dX10_moves_5 : decode cX10_moves 5 = .ok (.istore_n 2, 1) := by decide +kernel
theorem dX10_moves_6 : decode cX10_moves 6 = .ok (.iload_n 2, 1) := by decide +kernel
theorem dX10_moves_7 : decode cX10_moves 7 = .ok (.ifCond .ge 23, 3) := by decide +kernel
theorem dX10_moves_10 : decode cX10_moves 10 = .ok (.aload_n 0, 1) := by decide +kernel
theorem dX10_moves_11 : decode cX10_moves 11 = .ok (.getfield 31, 3) := by decide +kernel
theorem dX10_moves_14 : decode cX10_moves 14 = .ok (.getfield 203, 3) := by decide +kernel
theorem dX10_moves_17 : decode cX10_moves 17 = .ok (.aload_n 0, 1) := by decide +kernel
theorem dX10_moves_18 : decode cX10_moves 18 = .ok (.getfield 55, 3) := by decide +kernel
theorem dX10_moves_21 : decode cX10_moves 21 = .ok (.getfield 207, 3) := by decide +kernel
theorem dX10_moves_24 : decode cX10_moves 24 = .ok (.invokevirtual 224, 3) := by decide +kernel
theorem dX10_moves_27 : decode cX10_moves 27 = .ok (.goto 11, 3) := by decide +kernel
theorem dX10_moves_30 : decode cX10_moves 30 = .ok (.aload_n 0, 1) := by decide +kernel
theorem dX10_moves_31 : decode cX10_moves 31 = .ok (.getfield 12, 3) := by decide +kernel
theorem dX10_moves_34 : decode cX10_moves 34 = .ok (.iload_n 2, 1) := by decide +kernel
theorem dX10_moves_35 : decode cX10_moves 35 = .ok (.invokevirtual 66, 3) := by decide +kernel
theorem dX10_moves_38 : decode cX10_moves 38 = .ok (.ireturn, 1) := by decide +kernel
theorem dX10_after_0 : decode cX10_after 0 = .ok (.iload_n 2, 1) := by decide +kernel
theorem dX10_after_1 : decode cX10_after 1 = .ok (.bipush 10, 2) := by decide +kernel
theorem dX10_after_3 : decode cX10_after 3 = .ok (.idiv, 1) := by decide +kernel
theorem dX10_after_4 : decode cX10_after 4 = .ok (.iconst 1, 1) := by decide +kernel
theorem dX10_after_5 : decode cX10_after 5 = .ok (.isub, 1) := by decide +kernel
theorem dX10_after_6 : decode cX10_after 6 = .ok (.istore_n 3, 1) := by decide +kernel
theorem dX10_after_7 : decode cX10_after 7 = .ok (.iload_n 2, 1) := by decide +kernel
theorem dX10_after_8 : decode cX10_after 8 = .ok (.ifCond .lt 12, 3) := by decide +kernel
theorem dX10_after_11 : decode cX10_after 11 = .ok (.iload_n 2, 1) := by decide +kernel
theorem dX10_after_12 : decode cX10_after 12 = .ok (.iconst 3, 1) := by decide +kernel
theorem dX10_after_13 : decode cX10_after 13 = .ok (.if_icmp .ge 7, 3) := by decide +kernel
theorem dX10_after_16 : decode cX10_after 16 = .ok (.iconst 1, 1) := by decide +kernel
theorem dX10_after_17 : decode cX10_after 17 = .ok (.goto 4, 3) := by decide +kernel
theorem dX10_after_20 : decode cX10_after 20 = .ok (.iconst 0, 1) := by decide +kernel
theorem dX10_after_21 : decode cX10_after 21 = .ok (.istore 4, 2) := by decide +kernel
theorem dX10_after_23 : decode cX10_after 23 = .ok (.iload_n 2, 1) := by decide +kernel
theorem dX10_after_24 : decode cX10_after 24 = .ok (.bipush 10, 2) := by decide +kernel
theorem dX10_after_26 : decode cX10_after 26 = .ok (.if_icmp .lt 26, 3) := by decide +kernel
theorem dX10_after_29 : decode cX10_after 29 = .ok (.iload_n 3, 1) := by decide +kernel
theorem dX10_after_30 : decode cX10_after 30 = .ok (.aload_n 0, 1) := by decide +kernel
theorem dX10_after_31 : decode cX10_after 31 = .ok (.getfield 39, 3) := by decide +kernel
theorem dX10_after_34 : decode cX10_after 34 = .ok (.getfield 132, 3) := by decide +kernel
theorem dX10_after_37 : decode cX10_after 37 = .ok (.if_icmp .ge 15, 3) := by decide +kernel
theorem dX10_after_40 : decode cX10_after 40 = .ok (.iload_n 2, 1) := by decide +kernel
theorem dX10_after_41 : decode cX10_after 41 = .ok (.bipush 10, 2) := by decide +kernel
theorem dX10_after_43 : decode cX10_after 43 = .ok (.irem, 1) := by decide +kernel
theorem dX10_after_44 : decode cX10_after 44 = .ok (.iconst 4, 1) := by decide +kernel
theorem dX10_after_45 : decode cX10_after 45 = .ok (.if_icmp .gt 7, 3) := by decide +kernel
theorem dX10_after_48 : decode cX10_after 48 = .ok (.iconst 1, 1) := by decide +kernel
theorem dX10_after_49 : decode cX10_after 49 = .ok (.goto 4, 3) := by decide +kernel
theorem dX10_after_52 : decode cX10_after 52 = .ok (.iconst 0, 1) := by decide +kernel
theorem dX10_after_53 : decode cX10_after 53 = .ok (.istore 5, 2) := by decide +kernel
theorem dX10_after_55 : decode cX10_after 55 = .ok (.iload 4, 2) := by decide +kernel
theorem dX10_after_57 : decode cX10_after 57 = .ok (.ifCond .ne 17, 3) := by decide +kernel
theorem dX10_after_60 : decode cX10_after 60 = .ok (.iload 5, 2) := by decide +kernel
theorem dX10_after_62 : decode cX10_after 62 = .ok (.ifCond .ne 12, 3) := by decide +kernel
theorem dX10_after_65 : decode cX10_after 65 = .ok (.aload_n 0, 1) := by decide +kernel
theorem dX10_after_66 : decode cX10_after 66 = .ok (.getfield 12, 3) := by decide +kernel
theorem dX10_after_69 : decode cX10_after 69 = .ok (.iconst 0, 1) := by decide +kernel
theorem dX10_after_70 : decode cX10_after 70 = .ok (.invokevirtual 66, 3) := by decide +kernel
theorem dX10_after_73 : decode cX10_after 73 = .ok (.ireturn, 1) := by decide +kernel
theorem dX10_after_74 : decode cX10_after 74 = .ok (.aload_n 0, 1) := by decide +kernel
theorem dX10_after_75 : decode cX10_after 75 = .ok (.iload_n 1, 1) := by decide +kernel
theorem dX10_after_76 : decode cX10_after 76 = .ok (.invokevirtual 194, 3) := by decide +kernel
theorem dX10_after_79 : decode cX10_after 79 = .ok (.istore 6, 2) := by decide +kernel
theorem dX10_after_81 : decode cX10_after 81 = .ok (.iload 6, 2) := by decide +kernel
theorem dX10_after_83 : decode cX10_after 83 = .ok (.ifCond .lt 13, 3) := by decide +kernel
theorem dX10_after_86 : decode cX10_after 86 = .ok (.aload_n 0, 1) := by decide +kernel
theorem dX10_after_87 : decode cX10_after 87 = .ok (.getfield 12, 3) := by decide +kernel
theorem dX10_after_90 : decode cX10_after 90 = .ok (.iload 6, 2) := by decide +kernel
theorem dX10_after_92 : decode cX10_after 92 = .ok (.invokevirtual 66, 3) := by decide +kernel
theorem dX10_after_95 : decode cX10_after 95 = .ok (.ireturn, 1) := by decide +kernel
theorem dX10_after_96 : decode cX10_after 96 = .ok (.iload 4, 2) := by decide +kernel
theorem dX10_after_98 : decode cX10_after 98 = .ok (.ifCond .eq 15, 3) := by decide +kernel
theorem dX10_after_101 : decode cX10_after 101 = .ok (.aload_n 0, 1) := by decide +kernel
theorem dX10_after_102 : decode cX10_after 102 = .ok (.getfield 55, 3) := by decide +kernel
theorem dX10_after_105 : decode cX10_after 105 = .ok (.getfield 207, 3) := by decide +kernel
theorem dX10_after_108 : decode cX10_after 108 = .ok (.iload_n 2, 1) := by decide +kernel
theorem dX10_after_109 : decode cX10_after 109 = .ok (.invokestatic 227, 3) := by decide +kernel
theorem dX10_after_112 : decode cX10_after 112 = .ok (.ireturn, 1) := by decide +kernel
theorem dX10_after_113 : decode cX10_after 113 = .ok (.aload_n 0, 1) := by decide +kernel
theorem dX10_after_114 : decode cX10_after 114 = .ok (.getfield 31, 3) := by decide +kernel
theorem dX10_after_117 : decode cX10_after 117 = .ok (.getfield 203, 3) := by decide +kernel
theorem dX10_after_120 : decode cX10_after 120 = .ok (.aload_n 0, 1) := by decide +kernel
theorem dX10_after_121 : decode cX10_after 121 = .ok (.getfield 55, 3) := by decide +kernel
theorem dX10_after_124 : decode cX10_after 124 = .ok (.getfield 207, 3) := by decide +kernel
theorem dX10_after_127 : decode cX10_after 127 = .ok (.iload_n 3, 1) := by decide +kernel
theorem dX10_after_128 : decode cX10_after 128 = .ok (.iload_n 2, 1) := by decide +kernel
theorem dX10_after_129 : decode cX10_after 129 = .ok (.bipush 10, 2) := by decide +kernel
theorem dX10_after_131 : decode cX10_after 131 = .ok (.irem, 1) := by decide +kernel
theorem dX10_after_132 : decode cX10_after 132 = .ok (.invokevirtual 231, 3) := by decide +kernel
theorem dX10_after_135 : decode cX10_after 135 = .ok (.ireturn, 1) := by decide +kernel
theorem dX10_sheet_0 : decode cX10_sheet 0 = .ok (.iload_n 1, 1) := by decide +kernel
theorem dX10_sheet_1 : decode cX10_sheet 1 = .ok (.invokestatic 235, 3) := by decide +kernel
theorem dX10_sheet_4 : decode cX10_sheet 4 = .ok (.ifCond .eq 25, 3) := by decide +kernel
theorem dX10_sheet_7 : decode cX10_sheet 7 = .ok (.iload_n 2, 1) := by decide +kernel
theorem dX10_sheet_8 : decode cX10_sheet 8 = .ok (.ifCond .eq 30, 3) := by decide +kernel
theorem dX10_sheet_11 : decode cX10_sheet 11 = .ok (.iload_n 2, 1) := by decide +kernel
theorem dX10_sheet_12 : decode cX10_sheet 12 = .ok (.bipush 8, 2) := by decide +kernel
theorem dX10_sheet_14 : decode cX10_sheet 14 = .ok (.if_icmp .eq 24, 3) := by decide +kernel
theorem dX10_sheet_17 : decode cX10_sheet 17 = .ok (.iload_n 2, 1) := by decide +kernel
theorem dX10_sheet_18 : decode cX10_sheet 18 = .ok (.bipush 16, 2) := by decide +kernel
theorem dX10_sheet_20 : decode cX10_sheet 20 = .ok (.if_icmp .eq 18, 3) := by decide +kernel
theorem dX10_sheet_23 : decode cX10_sheet 23 = .ok (.iload_n 2, 1) := by decide +kernel
theorem dX10_sheet_24 : decode cX10_sheet 24 = .ok (.bipush 64, 2) := by decide +kernel
theorem dX10_sheet_26 : decode cX10_sheet 26 = .ok (.if_icmp .eq 12, 3) := by decide +kernel
theorem dX10_sheet_29 : decode cX10_sheet 29 = .ok (.aload_n 0, 1) := by decide +kernel
theorem dX10_sheet_30 : decode cX10_sheet 30 = .ok (.getfield 12, 3) := by decide +kernel
theorem dX10_sheet_33 : decode cX10_sheet 33 = .ok (.iconst 0, 1) := by decide +kernel
theorem dX10_sheet_34 : decode cX10_sheet 34 = .ok (.invokevirtual 66, 3) := by decide +kernel
theorem dX10_sheet_37 : decode cX10_sheet 37 = .ok (.ireturn, 1) := by decide +kernel
theorem dX10_sheet_38 : decode cX10_sheet 38 = .ok (.iload_n 3, 1) := by decide +kernel
theorem dX10_sheet_39 : decode cX10_sheet 39 = .ok (.ifCond .ge 13, 3) := by decide +kernel
theorem dX10_sheet_42 : decode cX10_sheet 42 = .ok (.aload_n 0, 1) := by decide +kernel
theorem dX10_sheet_43 : decode cX10_sheet 43 = .ok (.getfield 12, 3) := by decide +kernel
theorem dX10_sheet_46 : decode cX10_sheet 46 = .ok (.bipush 6, 2) := by decide +kernel
theorem dX10_sheet_48 : decode cX10_sheet 48 = .ok (.invokevirtual 66, 3) := by decide +kernel
theorem dX10_sheet_51 : decode cX10_sheet 51 = .ok (.ireturn, 1) := by decide +kernel
theorem dX10_sheet_52 : decode cX10_sheet 52 = .ok (.iload_n 3, 1) := by decide +kernel
theorem dX10_sheet_53 : decode cX10_sheet 53 = .ok (.bipush 40, 2) := by decide +kernel
theorem dX10_sheet_55 : decode cX10_sheet 55 = .ok (.if_icmp .le 12, 3) := by decide +kernel
theorem dX10_sheet_58 : decode cX10_sheet 58 = .ok (.aload_n 0, 1) := by decide +kernel
theorem dX10_sheet_59 : decode cX10_sheet 59 = .ok (.getfield 12, 3) := by decide +kernel
theorem dX10_sheet_62 : decode cX10_sheet 62 = .ok (.iconst 0, 1) := by decide +kernel
theorem dX10_sheet_63 : decode cX10_sheet 63 = .ok (.invokevirtual 66, 3) := by decide +kernel
theorem dX10_sheet_66 : decode cX10_sheet 66 = .ok (.ireturn, 1) := by decide +kernel
theorem dX10_sheet_67 : decode cX10_sheet 67 = .ok (.aload_n 0, 1) := by decide +kernel
theorem dX10_sheet_68 : decode cX10_sheet 68 = .ok (.getfield 61, 3) := by decide +kernel
theorem dX10_sheet_71 : decode cX10_sheet 71 = .ok (.iload_n 1, 1) := by decide +kernel
theorem dX10_sheet_72 : decode cX10_sheet 72 = .ok (.aaload, 1) := by decide +kernel
theorem dX10_sheet_73 : decode cX10_sheet 73 = .ok (.iload_n 2, 1) := by decide +kernel
theorem dX10_sheet_74 : decode cX10_sheet 74 = .ok (.iload_n 2, 1) := by decide +kernel
theorem dX10_sheet_75 : decode cX10_sheet 75 = .ok (.ifCond .ne 7, 3) := by decide +kernel
theorem dX10_sheet_78 : decode cX10_sheet 78 = .ok (.iconst 0, 1) := by decide +kernel
theorem dX10_sheet_79 : decode cX10_sheet 79 = .ok (.goto 4, 3) := by decide +kernel
theorem dX10_sheet_82 : decode cX10_sheet 82 = .ok (.iload_n 3, 1) := by decide +kernel
theorem dX10_sheet_83 : decode cX10_sheet 83 = .ok (.invokevirtual 238, 3) := by decide +kernel
theorem dX10_sheet_86 : decode cX10_sheet 86 = .ok (.aload_n 0, 1) := by decide +kernel
theorem dX10_sheet_87 : decode cX10_sheet 87 = .ok (.getfield 61, 3) := by decide +kernel
theorem dX10_sheet_90 : decode cX10_sheet 90 = .ok (.iload_n 1, 1) := by decide +kernel
theorem dX10_sheet_91 : decode cX10_sheet 91 = .ok (.aaload, 1) := by decide +kernel
theorem dX10_sheet_92 : decode cX10_sheet 92 = .ok (.getfield 241, 3) := by decide +kernel
theorem dX10_sheet_95 : decode cX10_sheet 95 = .ok (.ireturn, 1) := by decide +kernel
theorem dX10_write_0 : decode cX10_write 0 = .ok (.iload_n 1, 1) := by decide +kernel
theorem dX10_write_1 : decode cX10_write 1 = .ok (.invokestatic 235, 3) := by decide +kernel
theorem dX10_write_4 : decode cX10_write 4 = .ok (.ifCond .ne 13, 3) := by decide +kernel
theorem dX10_write_7 : decode cX10_write 7 = .ok (.aload_n 0, 1) := by decide +kernel
theorem dX10_write_8 : decode cX10_write 8 = .ok (.getfield 12, 3) := by decide +kernel
theorem dX10_write_11 : decode cX10_write 11 = .ok (.iconst 0, 1) := by decide +kernel
theorem dX10_write_12 : decode cX10_write 12 = .ok (.invokevirtual 66, 3) := by decide +kernel
theorem dX10_write_15 : decode cX10_write 15 = .ok (.i2l, 1) := by decide +kernel
theorem dX10_write_16 : decode cX10_write 16 = .ok (.lreturn, 1) := by decide +kernel
theorem dX10_write_17 : decode cX10_write 17 = .ok (.aload_n 0, 1) := by decide +kernel
theorem dX10_write_18 : decode cX10_write 18 = .ok (.getfield 61, 3) := by decide +kernel
theorem dX10_write_21 : decode cX10_write 21 = .ok (.iload_n 1, 1) := by decide +kernel
theorem dX10_write_22 : decode cX10_write 22 = .ok (.aaload, 1) := by decide +kernel
theorem dX10_write_23 : decode cX10_write 23 = .ok (.getfield 242, 3) := by decide +kernel
theorem dX10_write_26 : decode cX10_write 26 = .ok (.ifCond .ne 13, 3) := by decide +kernel
theorem dX10_write_29 : decode cX10_write 29 = .ok (.aload_n 0, 1) := by decide +kernel
theorem dX10_write_30 : decode cX10_write 30 = .ok (.getfield 12, 3) := by decide +kernel
theorem dX10_write_33 : decode cX10_write 33 = .ok (.iconst 5, 1) := by decide +kernel
theorem dX10_write_34 : decode cX10_write 34 = .ok (.invokevirtual 66, 3) := by decide +kernel
theorem dX10_write_37 : decode cX10_write 37 = .ok (.i2l, 1) := by decide +kernel
theorem dX10_write_38 : decode cX10_write 38 = .ok (.lreturn, 1) := by decide +kernel
theorem dX10_write_39 : decode cX10_write 39 = .ok (.iload_n 2, 1) := by decide +kernel
theorem dX10_write_40 : decode cX10_write 40 = .ok (.ifCond .lt 16, 3) := by decide +kernel
theorem dX10_write_43 : decode cX10_write 43 = .ok (.iload_n 2, 1) := by decide +kernel
theorem dX10_write_44 : decode cX10_write 44 = .ok (.aload_n 0, 1) := by decide +kernel
theorem dX10_write_45 : decode cX10_write 45 = .ok (.getfield 61, 3) := by decide +kernel
theorem dX10_write_48 : decode cX10_write 48 = .ok (.iload_n 1, 1) := by decide +kernel
theorem dX10_write_49 : decode cX10_write 49 = .ok (.aaload, 1) := by decide +kernel
theorem dX10_write_50 : decode cX10_write 50 = .ok (.getfield 241, 3) := by decide +kernel
theorem dX10_write_53 : decode cX10_write 53 = .ok (.if_icmp .lt 13, 3) := by decide +kernel
theorem dX10_write_56 : decode cX10_write 56 = .ok (.aload_n 0, 1) := by decide +kernel
theorem dX10_write_57 : decode cX10_write 57 = .ok (.getfield 12, 3) := by decide +kernel
theorem dX10_write_60 : decode cX10_write 60 = .ok (.iconst 0, 1) := by decide +kernel
theorem dX10_write_61 : decode cX10_write 61 = .ok (.invokevirtual 66, 3) := by decide +kernel
theorem dX10_write_64 : decode cX10_write 64 = .ok (.i2l, 1) := by decide +kernel
theorem dX10_write_65 : decode cX10_write 65 = .ok (.lreturn, 1) := by decide +kernel
theorem dX10_write_66 : decode cX10_write 66 = .ok (.aload_n 0, 1) := by decide +kernel
theorem dX10_write_67 : decode cX10_write 67 = .ok (.getfield 61, 3) := by decide +kernel
theorem dX10_write_70 : decode cX10_write 70 = .ok (.iload_n 1, 1) := by decide +kernel
theorem dX10_write_71 : decode cX10_write 71 = .ok (.aaload, 1) := by decide +kernel
theorem dX10_write_72 : decode cX10_write 72 = .ok (.getfield 245, 3) := by decide +kernel
theorem dX10_write_75 : decode cX10_write 75 = .ok (.iload_n 2, 1) := by decide +kernel
theorem dX10_write_76 : decode cX10_write 76 = .ok (.laload, 1) := by decide +kernel
theorem dX10_write_77 : decode cX10_write 77 = .ok (.lstore 5, 2) := by decide +kernel
theorem dX10_write_79 : decode cX10_write 79 = .ok (.aload_n 0, 1) := by decide +kernel
theorem dX10_write_80 : decode cX10_write 80 = .ok (.getfield 61, 3) := by decide +kernel
theorem dX10_write_83 : decode cX10_write 83 = .ok (.iload_n 1, 1) := by decide +kernel
theorem dX10_write_84 : decode cX10_write 84 = .ok (.aaload, 1) := by decide +kernel
theorem dX10_write_85 : decode cX10_write 85 = .ok (.iload_n 2, 1) := by decide +kernel
theorem dX10_write_86 : decode cX10_write 86 = .ok (.lload_n 3, 1) := by decide +kernel
theorem dX10_write_87 : decode cX10_write 87 = .ok (.invokevirtual 249, 3) := by decide +kernel
theorem dX10_write_90 : decode cX10_write 90 = .ok (.lload 5, 2) := by decide +kernel
theorem dX10_write_92 : decode cX10_write 92 = .ok (.lreturn, 1) := by decide +kernel
theorem dX10_copy_0 : decode cX10_copy 0 = .ok (.iload_n 1, 1) := by decide +kernel
theorem dX10_copy_1 : decode cX10_copy 1 = .ok (.invokestatic 235, 3) := by decide +kernel
theorem dX10_copy_4 : decode cX10_copy 4 = .ok (.ifCond .eq 10, 3) := by decide +kernel
theorem dX10_copy_7 : decode cX10_copy 7 = .ok (.iload_n 3, 1) := by decide +kernel
theorem dX10_copy_8 : decode cX10_copy 8 = .ok (.invokestatic 235, 3) := by decide +kernel
theorem dX10_copy_11 : decode cX10_copy 11 = .ok (.ifCond .ne 12, 3) := by decide +kernel
theorem dX10_copy_14 : decode cX10_copy 14 = .ok (.aload_n 0, 1) := by decide +kernel
theorem dX10_copy_15 : decode cX10_copy 15 = .ok (.getfield 12, 3) := by decide +kernel
theorem dX10_copy_18 : decode cX10_copy 18 = .ok (.iconst 0, 1) := by decide +kernel
theorem dX10_copy_19 : decode cX10_copy 19 = .ok (.invokevirtual 66, 3) := by decide +kernel
theorem dX10_copy_22 : decode cX10_copy 22 = .ok (.ireturn, 1) := by decide +kernel
theorem dX10_copy_23 : decode cX10_copy 23 = .ok (.aload_n 0, 1) := by decide +kernel
theorem dX10_copy_24 : decode cX10_copy 24 = .ok (.getfield 61, 3) := by decide +kernel
theorem dX10_copy_27 : decode cX10_copy 27 = .ok (.iload_n 1, 1) := by decide +kernel
theorem dX10_copy_28 : decode cX10_copy 28 = .ok (.aaload, 1) := by decide +kernel
theorem dX10_copy_29 : decode cX10_copy 29 = .ok (.astore 6, 2) := by decide +kernel
theorem dX10_copy_31 : decode cX10_copy 31 = .ok (.aload_n 0, 1) := by decide +kernel
theorem dX10_copy_32 : decode cX10_copy 32 = .ok (.getfield 61, 3) := by decide +kernel
theorem dX10_copy_35 : decode cX10_copy 35 = .ok (.iload_n 3, 1) := by decide +kernel
theorem dX10_copy_36 : decode cX10_copy 36 = .ok (.aaload, 1) := by decide +kernel
theorem dX10_copy_37 : decode cX10_copy 37 = .ok (.astore 7, 2) := by decide +kernel
theorem dX10_copy_39 : decode cX10_copy 39 = .ok (.aload 6, 2) := by decide +kernel
theorem dX10_copy_41 : decode cX10_copy 41 = .ok (.getfield 242, 3) := by decide +kernel
theorem dX10_copy_44 : decode cX10_copy 44 = .ok (.ifCond .eq 11, 3) := by decide +kernel
theorem dX10_copy_47 : decode cX10_copy 47 = .ok (.aload 7, 2) := by decide +kernel
theorem dX10_copy_49 : decode cX10_copy 49 = .ok (.getfield 242, 3) := by decide +kernel
theorem dX10_copy_52 : decode cX10_copy 52 = .ok (.ifCond .ne 12, 3) := by decide +kernel
theorem dX10_copy_55 : decode cX10_copy 55 = .ok (.aload_n 0, 1) := by decide +kernel
theorem dX10_copy_56 : decode cX10_copy 56 = .ok (.getfield 12, 3) := by decide +kernel
theorem dX10_copy_59 : decode cX10_copy 59 = .ok (.iconst 5, 1) := by decide +kernel
theorem dX10_copy_60 : decode cX10_copy 60 = .ok (.invokevirtual 66, 3) := by decide +kernel
theorem dX10_copy_63 : decode cX10_copy 63 = .ok (.ireturn, 1) := by decide +kernel
theorem dX10_copy_64 : decode cX10_copy 64 = .ok (.aload 6, 2) := by decide +kernel
theorem dX10_copy_66 : decode cX10_copy 66 = .ok (.getfield 242, 3) := by decide +kernel
theorem dX10_copy_69 : decode cX10_copy 69 = .ok (.aload 7, 2) := by decide +kernel
theorem dX10_copy_71 : decode cX10_copy 71 = .ok (.getfield 242, 3) := by decide +kernel
theorem dX10_copy_74 : decode cX10_copy 74 = .ok (.if_icmp .eq 12, 3) := by decide +kernel
theorem dX10_copy_77 : decode cX10_copy 77 = .ok (.aload_n 0, 1) := by decide +kernel
theorem dX10_copy_78 : decode cX10_copy 78 = .ok (.getfield 12, 3) := by decide +kernel
theorem dX10_copy_81 : decode cX10_copy 81 = .ok (.iconst 2, 1) := by decide +kernel
theorem dX10_copy_82 : decode cX10_copy 82 = .ok (.invokevirtual 66, 3) := by decide +kernel
theorem dX10_copy_85 : decode cX10_copy 85 = .ok (.ireturn, 1) := by decide +kernel
theorem dX10_copy_86 : decode cX10_copy 86 = .ok (.aload 6, 2) := by decide +kernel
theorem dX10_copy_88 : decode cX10_copy 88 = .ok (.iload_n 2, 1) := by decide +kernel
theorem dX10_copy_89 : decode cX10_copy 89 = .ok (.iload 5, 2) := by decide +kernel
theorem dX10_copy_91 : decode cX10_copy 91 = .ok (.invokevirtual 253, 3) := by decide +kernel
theorem dX10_copy_94 : decode cX10_copy 94 = .ok (.ifCond .eq 15, 3) := by decide +kernel
theorem dX10_copy_97 : decode cX10_copy 97 = .ok (.aload 7, 2) := by decide +kernel
theorem dX10_copy_99 : decode cX10_copy 99 = .ok (.iload 4, 2) := by decide +kernel
theorem dX10_copy_101 : decode cX10_copy 101 = .ok (.iload 5, 2) := by decide +kernel
theorem dX10_copy_103 : decode cX10_copy 103 = .ok (.invokevirtual 253, 3) := by decide +kernel
theorem dX10_copy_106 : decode cX10_copy 106 = .ok (.ifCond .ne 12, 3) := by decide +kernel
theorem dX10_copy_109 : decode cX10_copy 109 = .ok (.aload_n 0, 1) := by decide +kernel
theorem dX10_copy_110 : decode cX10_copy 110 = .ok (.getfield 12, 3) := by decide +kernel
theorem dX10_copy_113 : decode cX10_copy 113 = .ok (.iconst 0, 1) := by decide +kernel
theorem dX10_copy_114 : decode cX10_copy 114 = .ok (.invokevirtual 66, 3) := by decide +kernel
theorem dX10_copy_117 : decode cX10_copy 117 = .ok (.ireturn, 1) := by decide +kernel
theorem dX10_copy_118 : decode cX10_copy 118 = .ok (.aload 6, 2) := by decide +kernel
theorem dX10_copy_120 : decode cX10_copy 120 = .ok (.getfield 245, 3) := by decide +kernel
theorem dX10_copy_123 : decode cX10_copy 123 = .ok (.iload_n 2, 1) := by decide +kernel
theorem dX10_copy_124 : decode cX10_copy 124 = .ok (.aload 7, 2) := by decide +kernel
theorem dX10_copy_126 : decode cX10_copy 126 = .ok (.getfield 245, 3) := by decide +kernel
theorem dX10_copy_129 : decode cX10_copy 129 = .ok (.iload 4, 2) := by decide +kernel
theorem dX10_copy_131 : decode cX10_copy 131 = .ok (.iload 5, 2) := by decide +kernel
theorem dX10_copy_133 : decode cX10_copy 133 = .ok (.invokestatic 256, 3) := by decide +kernel
theorem dX10_copy_136 : decode cX10_copy 136 = .ok (.iload 5, 2) := by decide +kernel
theorem dX10_copy_138 : decode cX10_copy 138 = .ok (.ireturn, 1) := by decide +kernel
theorem dX10_lead_0 : decode cX10_lead 0 = .ok (.iload_n 1, 1) := by decide +kernel
theorem dX10_lead_1 : decode cX10_lead 1 = .ok (.invokestatic 235, 3) := by decide +kernel
theorem dX10_lead_4 : decode cX10_lead 4 = .ok (.ifCond .ne 12, 3) := by decide +kernel
theorem dX10_lead_7 : decode cX10_lead 7 = .ok (.aload_n 0, 1) := by decide +kernel
theorem dX10_lead_8 : decode cX10_lead 8 = .ok (.getfield 12, 3) := by decide +kernel
theorem dX10_lead_11 : decode cX10_lead 11 = .ok (.iconst 0, 1) := by decide +kernel
theorem dX10_lead_12 : decode cX10_lead 12 = .ok (.invokevirtual 66, 3) := by decide +kernel
theorem dX10_lead_15 : decode cX10_lead 15 = .ok (.ireturn, 1) := by decide +kernel
theorem dX10_lead_16 : decode cX10_lead 16 = .ok (.aload_n 0, 1) := by decide +kernel
theorem dX10_lead_17 : decode cX10_lead 17 = .ok (.getfield 31, 3) := by decide +kernel
theorem dX10_lead_20 : decode cX10_lead 20 = .ok (.invokevirtual 141, 3) := by decide +kernel
theorem dX10_lead_23 : decode cX10_lead 23 = .ok (.ifCond .eq 13, 3) := by decide +kernel
theorem dX10_lead_26 : decode cX10_lead 26 = .ok (.aload_n 0, 1) := by decide +kernel
theorem dX10_lead_27 : decode cX10_lead 27 = .ok (.getfield 12, 3) := by decide +kernel
theorem dX10_lead_30 : decode cX10_lead 30 = .ok (.bipush 6, 2) := by decide +kernel
theorem dX10_lead_32 : decode cX10_lead 32 = .ok (.invokevirtual 66, 3) := by decide +kernel
theorem dX10_lead_35 : decode cX10_lead 35 = .ok (.ireturn, 1) := by decide +kernel
theorem dX10_lead_36 : decode cX10_lead 36 = .ok (.aload_n 0, 1) := by decide +kernel
theorem dX10_lead_37 : decode cX10_lead 37 = .ok (.getfield 31, 3) := by decide +kernel
theorem dX10_lead_40 : decode cX10_lead 40 = .ok (.invokevirtual 175, 3) := by decide +kernel
theorem dX10_lead_43 : decode cX10_lead 43 = .ok (.istore_n 2, 1) := by decide +kernel
theorem dX10_lead_44 : decode cX10_lead 44 = .ok (.iload_n 2, 1) := by decide +kernel
theorem dX10_lead_45 : decode cX10_lead 45 = .ok (.ifCond .ge 12, 3) := by decide +kernel
theorem dX10_lead_48 : decode cX10_lead 48 = .ok (.aload_n 0, 1) := by decide +kernel
theorem dX10_lead_49 : decode cX10_lead 49 = .ok (.getfield 12, 3) := by decide +kernel
theorem dX10_lead_52 : decode cX10_lead 52 = .ok (.iconst 3, 1) := by decide +kernel
theorem dX10_lead_53 : decode cX10_lead 53 = .ok (.invokevirtual 66, 3) := by decide +kernel
theorem dX10_lead_56 : decode cX10_lead 56 = .ok (.ireturn, 1) := by decide +kernel
theorem dX10_lead_57 : decode cX10_lead 57 = .ok (.iload_n 2, 1) := by decide +kernel
theorem dX10_lead_58 : decode cX10_lead 58 = .ok (.bipush 40, 2) := by decide +kernel
theorem dX10_lead_60 : decode cX10_lead 60 = .ok (.if_icmp .le 12, 3) := by decide +kernel
theorem dX10_lead_63 : decode cX10_lead 63 = .ok (.aload_n 0, 1) := by decide +kernel
theorem dX10_lead_64 : decode cX10_lead 64 = .ok (.getfield 12, 3) := by decide +kernel
theorem dX10_lead_67 : decode cX10_lead 67 = .ok (.iconst 1, 1) := by decide +kernel
theorem dX10_lead_68 : decode cX10_lead 68 = .ok (.invokevirtual 66, 3) := by decide +kernel
theorem dX10_lead_71 : decode cX10_lead 71 = .ok (.ireturn, 1) := by decide +kernel
theorem dX10_lead_72 : decode cX10_lead 72 = .ok (.aload_n 0, 1) := by decide +kernel
theorem dX10_lead_73 : decode cX10_lead 73 = .ok (.getfield 61, 3) := by decide +kernel
theorem dX10_lead_76 : decode cX10_lead 76 = .ok (.iload_n 1, 1) := by decide +kernel
theorem dX10_lead_77 : decode cX10_lead 77 = .ok (.aaload, 1) := by decide +kernel
theorem dX10_lead_78 : decode cX10_lead 78 = .ok (.bipush 8, 2) := by decide +kernel
theorem dX10_lead_80 : decode cX10_lead 80 = .ok (.iload_n 2, 1) := by decide +kernel
theorem dX10_lead_81 : decode cX10_lead 81 = .ok (.invokevirtual 238, 3) := by decide +kernel
theorem dX10_lead_84 : decode cX10_lead 84 = .ok (.iconst 0, 1) := by decide +kernel
theorem dX10_lead_85 : decode cX10_lead 85 = .ok (.istore_n 3, 1) := by decide +kernel
theorem dX10_lead_86 : decode cX10_lead 86 = .ok (.iload_n 3, 1) := by decide +kernel
theorem dX10_lead_87 : decode cX10_lead 87 = .ok (.iload_n 2, 1) := by decide +kernel
theorem dX10_lead_88 : decode cX10_lead 88 = .ok (.if_icmp .ge 31, 3) := by decide +kernel
theorem dX10_lead_91 : decode cX10_lead 91 = .ok (.aload_n 0, 1) := by decide +kernel
theorem dX10_lead_92 : decode cX10_lead 92 = .ok (.getfield 61, 3) := by decide +kernel
theorem dX10_lead_95 : decode cX10_lead 95 = .ok (.iload_n 1, 1) := by decide +kernel
theorem dX10_lead_96 : decode cX10_lead 96 = .ok (.aaload, 1) := by decide +kernel
theorem dX10_lead_97 : decode cX10_lead 97 = .ok (.iload_n 3, 1) := by decide +kernel
theorem dX10_lead_98 : decode cX10_lead 98 = .ok (.aload_n 0, 1) := by decide +kernel
theorem dX10_lead_99 : decode cX10_lead 99 = .ok (.getfield 31, 3) := by decide +kernel
theorem dX10_lead_102 : decode cX10_lead 102 = .ok (.getfield 145, 3) := by decide +kernel
theorem dX10_lead_105 : decode cX10_lead 105 = .ok (.iload_n 3, 1) := by decide +kernel
theorem dX10_lead_106 : decode cX10_lead 106 = .ok (.invokevirtual 179, 3) := by decide +kernel
theorem dX10_lead_109 : decode cX10_lead 109 = .ok (.i2l, 1) := by decide +kernel
theorem dX10_lead_110 : decode cX10_lead 110 = .ok (.invokevirtual 249, 3) := by decide +kernel
theorem dX10_lead_113 : decode cX10_lead 113 = .ok (.iinc 3 1, 3) := by decide +kernel
theorem dX10_lead_116 : decode cX10_lead 116 = .ok (.goto (-30), 3) := by decide +kernel
theorem dX10_lead_119 : decode cX10_lead 119 = .ok (.iload_n 2, 1) := by decide +kernel
theorem dX10_lead_120 : decode cX10_lead 120 = .ok (.ireturn, 1) := by decide +kernel
theorem dX10_image_0 : decode cX10_image 0 = .ok (.aload_n 0, 1) := by decide +kernel
theorem dX10_image_1 : decode cX10_image 1 = .ok (.getfield 45, 3) := by decide +kernel
theorem dX10_image_4 : decode cX10_image 4 = .ok (.aload_n 0, 1) := by decide +kernel
theorem dX10_image_5 : decode cX10_image 5 = .ok (.getfield 39, 3) := by decide +kernel
theorem dX10_image_8 : decode cX10_image 8 = .ok (.invokevirtual 262, 3) := by decide +kernel
theorem dX10_image_11 : decode cX10_image 11 = .ok (.aload_n 0, 1) := by decide +kernel
theorem dX10_image_12 : decode cX10_image 12 = .ok (.iconst 1, 1) := by decide +kernel
theorem dX10_image_13 : decode cX10_image 13 = .ok (.putfield 48, 3) := by decide +kernel
theorem dX10_image_16 : decode cX10_image 16 = .ok (.iconst 1, 1) := by decide +kernel
theorem dX10_image_17 : decode cX10_image 17 = .ok (.ireturn, 1) := by decide +kernel
theorem dX10_undo_0 : decode cX10_undo 0 = .ok (.aload_n 0, 1) := by decide +kernel
theorem dX10_undo_1 : decode cX10_undo 1 = .ok (.getfield 48, 3) := by decide +kernel
theorem dX10_undo_4 : decode cX10_undo 4 = .ok (.ifCond .ne 12, 3) := by decide +kernel
theorem dX10_undo_7 : decode cX10_undo 7 = .ok (.aload_n 0, 1) := by decide +kernel
theorem dX10_undo_8 : decode cX10_undo 8 = .ok (.getfield 12, 3) := by decide +kernel
theorem dX10_undo_11 : decode cX10_undo 11 = .ok (.iconst 3, 1) := by decide +kernel
theorem dX10_undo_12 : decode cX10_undo 12 = .ok (.invokevirtual 66, 3) := by decide +kernel
theorem dX10_undo_15 : decode cX10_undo 15 = .ok (.ireturn, 1) := by decide +kernel
theorem dX10_undo_16 : decode cX10_undo 16 = .ok (.aload_n 0, 1) := by decide +kernel
theorem dX10_undo_17 : decode cX10_undo 17 = .ok (.getfield 39, 3) := by decide +kernel
theorem dX10_undo_20 : decode cX10_undo 20 = .ok (.aload_n 0, 1) := by decide +kernel
theorem dX10_undo_21 : decode cX10_undo 21 = .ok (.getfield 45, 3) := by decide +kernel
theorem dX10_undo_24 : decode cX10_undo 24 = .ok (.invokevirtual 262, 3) := by decide +kernel
theorem dX10_undo_27 : decode cX10_undo 27 = .ok (.aload_n 0, 1) := by decide +kernel
theorem dX10_undo_28 : decode cX10_undo 28 = .ok (.getfield 31, 3) := by decide +kernel
theorem dX10_undo_31 : decode cX10_undo 31 = .ok (.invokevirtual 87, 3) := by decide +kernel
theorem dX10_undo_34 : decode cX10_undo 34 = .ok (.aload_n 0, 1) := by decide +kernel
theorem dX10_undo_35 : decode cX10_undo 35 = .ok (.getfield 39, 3) := by decide +kernel
theorem dX10_undo_38 : decode cX10_undo 38 = .ok (.getfield 80, 3) := by decide +kernel
theorem dX10_undo_41 : decode cX10_undo 41 = .ok (.ireturn, 1) := by decide +kernel
theorem dX10_tear_0 : decode cX10_tear 0 = .ok (.aload_n 0, 1) := by decide +kernel
theorem dX10_tear_1 : decode cX10_tear 1 = .ok (.getfield 48, 3) := by decide +kernel
theorem dX10_tear_4 : decode cX10_tear 4 = .ok (.ifCond .eq 7, 3) := by decide +kernel
theorem dX10_tear_7 : decode cX10_tear 7 = .ok (.iconst 1, 1) := by decide +kernel
theorem dX10_tear_8 : decode cX10_tear 8 = .ok (.goto 4, 3) := by decide +kernel
theorem dX10_tear_11 : decode cX10_tear 11 = .ok (.iconst 0, 1) := by decide +kernel
theorem dX10_tear_12 : decode cX10_tear 12 = .ok (.istore_n 1, 1) := by decide +kernel
theorem dX10_tear_13 : decode cX10_tear 13 = .ok (.aload_n 0, 1) := by decide +kernel
theorem dX10_tear_14 : decode cX10_tear 14 = .ok (.iconst 0, 1) := by decide +kernel
theorem dX10_tear_15 : decode cX10_tear 15 = .ok (.putfield 48, 3) := by decide +kernel
theorem dX10_tear_18 : decode cX10_tear 18 = .ok (.iload_n 1, 1) := by decide +kernel
theorem dX10_tear_19 : decode cX10_tear 19 = .ok (.ireturn, 1) := by decide +kernel
theorem dX10_look_0 : decode cX10_look 0 = .ok (.iload_n 1, 1) := by decide +kernel
theorem dX10_look_1 : decode cX10_look 1 = .ok (.tableswitch 87 0 6 #[43, 51, 59, 67, 67, 67, 79], 43) := by decide +kernel
theorem dX10_look_44 : decode cX10_look 44 = .ok (.aload_n 0, 1) := by decide +kernel
theorem dX10_look_45 : decode cX10_look 45 = .ok (.getfield 39, 3) := by decide +kernel
theorem dX10_look_48 : decode cX10_look 48 = .ok (.getfield 80, 3) := by decide +kernel
theorem dX10_look_51 : decode cX10_look 51 = .ok (.ireturn, 1) := by decide +kernel
theorem dX10_look_52 : decode cX10_look 52 = .ok (.aload_n 0, 1) := by decide +kernel
theorem dX10_look_53 : decode cX10_look 53 = .ok (.getfield 39, 3) := by decide +kernel
theorem dX10_look_56 : decode cX10_look 56 = .ok (.getfield 132, 3) := by decide +kernel
theorem dX10_look_59 : decode cX10_look 59 = .ok (.ireturn, 1) := by decide +kernel
theorem dX10_look_60 : decode cX10_look 60 = .ok (.aload_n 0, 1) := by decide +kernel
theorem dX10_look_61 : decode cX10_look 61 = .ok (.getfield 39, 3) := by decide +kernel
theorem dX10_look_64 : decode cX10_look 64 = .ok (.getfield 129, 3) := by decide +kernel
theorem dX10_look_67 : decode cX10_look 67 = .ok (.ireturn, 1) := by decide +kernel
theorem dX10_look_68 : decode cX10_look 68 = .ok (.aload_n 0, 1) := by decide +kernel
theorem dX10_look_69 : decode cX10_look 69 = .ok (.getfield 39, 3) := by decide +kernel
theorem dX10_look_72 : decode cX10_look 72 = .ok (.getfield 126, 3) := by decide +kernel
theorem dX10_look_75 : decode cX10_look 75 = .ok (.iload_n 1, 1) := by decide +kernel
theorem dX10_look_76 : decode cX10_look 76 = .ok (.iconst 3, 1) := by decide +kernel
theorem dX10_look_77 : decode cX10_look 77 = .ok (.isub, 1) := by decide +kernel
theorem dX10_look_78 : decode cX10_look 78 = .ok (.iaload, 1) := by decide +kernel
theorem dX10_look_79 : decode cX10_look 79 = .ok (.ireturn, 1) := by decide +kernel
theorem dX10_look_80 : decode cX10_look 80 = .ok (.aload_n 0, 1) := by decide +kernel
theorem dX10_look_81 : decode cX10_look 81 = .ok (.getfield 27, 3) := by decide +kernel
theorem dX10_look_84 : decode cX10_look 84 = .ok (.getfield 70, 3) := by decide +kernel
theorem dX10_look_87 : decode cX10_look 87 = .ok (.ireturn, 1) := by decide +kernel
theorem dX10_look_88 : decode cX10_look 88 = .ok (.aload_n 0, 1) := by decide +kernel
theorem dX10_look_89 : decode cX10_look 89 = .ok (.getfield 12, 3) := by decide +kernel
theorem dX10_look_92 : decode cX10_look 92 = .ok (.iconst 0, 1) := by decide +kernel
theorem dX10_look_93 : decode cX10_look 93 = .ok (.invokevirtual 66, 3) := by decide +kernel
theorem dX10_look_96 : decode cX10_look 96 = .ok (.ireturn, 1) := by decide +kernel
theorem dX10_status_0 : decode cX10_status 0 = .ok (.iload_n 1, 1) := by decide +kernel
theorem dX10_status_1 : decode cX10_status 1 = .ok (.iconst (-1), 1) := by decide +kernel
theorem dX10_status_2 : decode cX10_status 2 = .ok (.if_icmp .lt 9, 3) := by decide +kernel
theorem dX10_status_5 : decode cX10_status 5 = .ok (.iload_n 1, 1) := by decide +kernel
theorem dX10_status_6 : decode cX10_status 6 = .ok (.bipush 6, 2) := by decide +kernel
theorem dX10_status_8 : decode cX10_status 8 = .ok (.if_icmp .le 12, 3) := by decide +kernel
theorem dX10_status_11 : decode cX10_status 11 = .ok (.aload_n 0, 1) := by decide +kernel
theorem dX10_status_12 : decode cX10_status 12 = .ok (.getfield 12, 3) := by decide +kernel
theorem dX10_status_15 : decode cX10_status 15 = .ok (.iconst 0, 1) := by decide +kernel
theorem dX10_status_16 : decode cX10_status 16 = .ok (.invokevirtual 66, 3) := by decide +kernel
theorem dX10_status_19 : decode cX10_status 19 = .ok (.ireturn, 1) := by decide +kernel
theorem dX10_status_20 : decode cX10_status 20 = .ok (.iload_n 1, 1) := by decide +kernel
theorem dX10_status_21 : decode cX10_status 21 = .ok (.iconst (-1), 1) := by decide +kernel
theorem dX10_status_22 : decode cX10_status 22 = .ok (.if_icmp .ne 13, 3) := by decide +kernel
theorem dX10_status_25 : decode cX10_status 25 = .ok (.aload_n 0, 1) := by decide +kernel
theorem dX10_status_26 : decode cX10_status 26 = .ok (.getfield 12, 3) := by decide +kernel
theorem dX10_status_29 : decode cX10_status 29 = .ok (.getfield 266, 3) := by decide +kernel
theorem dX10_status_32 : decode cX10_status 32 = .ok (.goto 12, 3) := by decide +kernel
theorem dX10_status_35 : decode cX10_status 35 = .ok (.aload_n 0, 1) := by decide +kernel
theorem dX10_status_36 : decode cX10_status 36 = .ok (.getfield 12, 3) := by decide +kernel
theorem dX10_status_39 : decode cX10_status 39 = .ok (.getfield 269, 3) := by decide +kernel
theorem dX10_status_42 : decode cX10_status 42 = .ok (.iload_n 1, 1) := by decide +kernel
theorem dX10_status_43 : decode cX10_status 43 = .ok (.iaload, 1) := by decide +kernel
theorem dX10_status_44 : decode cX10_status 44 = .ok (.ireturn, 1) := by decide +kernel
theorem dX10_isValue_0 : decode cX10_isValue 0 = .ok (.iload_n 0, 1) := by decide +kernel
theorem dX10_isValue_1 : decode cX10_isValue 1 = .ok (.ifCond .lt 12, 3) := by decide +kernel
theorem dX10_isValue_4 : decode cX10_isValue 4 = .ok (.iload_n 0, 1) := by decide +kernel
theorem dX10_isValue_5 : decode cX10_isValue 5 = .ok (.iconst 4, 1) := by decide +kernel
theorem dX10_isValue_6 : decode cX10_isValue 6 = .ok (.if_icmp .ge 7, 3) := by decide +kernel
theorem dX10_isValue_9 : decode cX10_isValue 9 = .ok (.iconst 1, 1) := by decide +kernel
theorem dX10_isValue_10 : decode cX10_isValue 10 = .ok (.goto 4, 3) := by decide +kernel
theorem dX10_isValue_13 : decode cX10_isValue 13 = .ok (.iconst 0, 1) := by decide +kernel
theorem dX10_isValue_14 : decode cX10_isValue 14 = .ok (.ireturn, 1) := by decide +kernel
theorem dX10_isSheet_0 : decode cX10_isSheet 0 = .ok (.iload_n 0, 1) := by decide +kernel
theorem dX10_isSheet_1 : decode cX10_isSheet 1 = .ok (.ifCond .lt 12, 3) := by decide +kernel
theorem dX10_isSheet_4 : decode cX10_isSheet 4 = .ok (.iload_n 0, 1) := by decide +kernel
theorem dX10_isSheet_5 : decode cX10_isSheet 5 = .ok (.iconst 4, 1) := by decide +kernel
theorem dX10_isSheet_6 : decode cX10_isSheet 6 = .ok (.if_icmp .ge 7, 3) := by decide +kernel
theorem dX10_isSheet_9 : decode cX10_isSheet 9 = .ok (.iconst 1, 1) := by decide +kernel
theorem dX10_isSheet_10 : decode cX10_isSheet 10 = .ok (.goto 4, 3) := by decide +kernel
theorem dX10_isSheet_13 : decode cX10_isSheet 13 = .ok (.iconst 0, 1) := by decide +kernel
theorem dX10_isSheet_14 : decode cX10_isSheet 14 = .ok (.ireturn, 1) := by decide +kernel
theorem dX10_isUnder_0 : decode cX10_isUnder 0 = .ok (.iload_n 0, 1) := by decide +kernel
theorem dX10_isUnder_1 : decode cX10_isUnder 1 = .ok (.istore_n 2, 1) := by decide +kernel
theorem dX10_isUnder_2 : decode cX10_isUnder 2 = .ok (.iconst 0, 1) := by decide +kernel
theorem dX10_isUnder_3 : decode cX10_isUnder 3 = .ok (.istore_n 3, 1) := by decide +kernel
theorem dX10_isUnder_4 : decode cX10_isUnder 4 = .ok (.iload_n 3, 1) := by decide +kernel
theorem dX10_isUnder_5 : decode cX10_isUnder 5 = .ok (.getstatic 109, 3) := by decide +kernel
theorem dX10_isUnder_8 : decode cX10_isUnder 8 = .ok (.arraylength, 1) := by decide +kernel
theorem dX10_isUnder_9 : decode cX10_isUnder 9 = .ok (.if_icmp .ge 26, 3) := by decide +kernel
theorem dX10_isUnder_12 : decode cX10_isUnder 12 = .ok (.iload_n 2, 1) := by decide +kernel
theorem dX10_isUnder_13 : decode cX10_isUnder 13 = .ok (.ifCond .lt 22, 3) := by decide +kernel
theorem dX10_isUnder_16 : decode cX10_isUnder 16 = .ok (.iload_n 2, 1) := by decide +kernel
theorem dX10_isUnder_17 : decode cX10_isUnder 17 = .ok (.iload_n 1, 1) := by decide +kernel
theorem dX10_isUnder_18 : decode cX10_isUnder 18 = .ok (.if_icmp .ne 5, 3) := by decide +kernel
theorem dX10_isUnder_21 : decode cX10_isUnder 21 = .ok (.iconst 1, 1) := by decide +kernel
theorem dX10_isUnder_22 : decode cX10_isUnder 22 = .ok (.ireturn, 1) := by decide +kernel
theorem dX10_isUnder_23 : decode cX10_isUnder 23 = .ok (.getstatic 109, 3) := by decide +kernel
theorem dX10_isUnder_26 : decode cX10_isUnder 26 = .ok (.iload_n 2, 1) := by decide +kernel
theorem dX10_isUnder_27 : decode cX10_isUnder 27 = .ok (.iaload, 1) := by decide +kernel
theorem dX10_isUnder_28 : decode cX10_isUnder 28 = .ok (.istore_n 2, 1) := by decide +kernel
theorem dX10_isUnder_29 : decode cX10_isUnder 29 = .ok (.iinc 3 1, 3) := by decide +kernel
theorem dX10_isUnder_32 : decode cX10_isUnder 32 = .ok (.goto (-28), 3) := by decide +kernel
theorem dX10_isUnder_35 : decode cX10_isUnder 35 = .ok (.iconst 0, 1) := by decide +kernel
theorem dX10_isUnder_36 : decode cX10_isUnder 36 = .ok (.ireturn, 1) := by decide +kernel
theorem dX10_findingOfTurn_0 : decode cX10_findingOfTurn 0 = .ok (.iload_n 1, 1) := by decide +kernel
theorem dX10_findingOfTurn_1 : decode cX10_findingOfTurn 1 = .ok (.invokestatic 235, 3) := by decide +kernel
theorem dX10_findingOfTurn_4 : decode cX10_findingOfTurn 4 = .ok (.ifCond .ne 5, 3) := by decide +kernel
theorem dX10_findingOfTurn_7 : decode cX10_findingOfTurn 7 = .ok (.iconst 0, 1) := by decide +kernel
theorem dX10_findingOfTurn_8 : decode cX10_findingOfTurn 8 = .ok (.ireturn, 1) := by decide +kernel
theorem dX10_findingOfTurn_9 : decode cX10_findingOfTurn 9 = .ok (.aload_n 0, 1) := by decide +kernel
theorem dX10_findingOfTurn_10 : decode cX10_findingOfTurn 10 = .ok (.getfield 61, 3) := by decide +kernel
theorem dX10_findingOfTurn_13 : decode cX10_findingOfTurn 13 = .ok (.iload_n 1, 1) := by decide +kernel
theorem dX10_findingOfTurn_14 : decode cX10_findingOfTurn 14 = .ok (.aaload, 1) := by decide +kernel
theorem dX10_findingOfTurn_15 : decode cX10_findingOfTurn 15 = .ok (.getfield 242, 3) := by decide +kernel
theorem dX10_findingOfTurn_18 : decode cX10_findingOfTurn 18 = .ok (.ifCond .ne 5, 3) := by decide +kernel
theorem dX10_findingOfTurn_21 : decode cX10_findingOfTurn 21 = .ok (.iconst 5, 1) := by decide +kernel
theorem dX10_findingOfTurn_22 : decode cX10_findingOfTurn 22 = .ok (.ireturn, 1) := by decide +kernel
theorem dX10_findingOfTurn_23 : decode cX10_findingOfTurn 23 = .ok (.aload_n 0, 1) := by decide +kernel
theorem dX10_findingOfTurn_24 : decode cX10_findingOfTurn 24 = .ok (.getfield 31, 3) := by decide +kernel
theorem dX10_findingOfTurn_27 : decode cX10_findingOfTurn 27 = .ok (.getfield 203, 3) := by decide +kernel
theorem dX10_findingOfTurn_30 : decode cX10_findingOfTurn 30 = .ok (.aload_n 0, 1) := by decide +kernel
theorem dX10_findingOfTurn_31 : decode cX10_findingOfTurn 31 = .ok (.getfield 39, 3) := by decide +kernel
theorem dX10_findingOfTurn_34 : decode cX10_findingOfTurn 34 = .ok (.lconst 0, 1) := by decide +kernel
theorem dX10_findingOfTurn_35 : decode cX10_findingOfTurn 35 = .ok (.invokevirtual 272, 3) := by decide +kernel
theorem dX10_findingOfTurn_38 : decode cX10_findingOfTurn 38 = .ok (.aload_n 0, 1) := by decide +kernel
theorem dX10_findingOfTurn_39 : decode cX10_findingOfTurn 39 = .ok (.getfield 55, 3) := by decide +kernel
theorem dX10_findingOfTurn_42 : decode cX10_findingOfTurn 42 = .ok (.aload_n 0, 1) := by decide +kernel
theorem dX10_findingOfTurn_43 : decode cX10_findingOfTurn 43 = .ok (.getfield 61, 3) := by decide +kernel
theorem dX10_findingOfTurn_46 : decode cX10_findingOfTurn 46 = .ok (.iload_n 1, 1) := by decide +kernel
theorem dX10_findingOfTurn_47 : decode cX10_findingOfTurn 47 = .ok (.aaload, 1) := by decide +kernel
theorem dX10_findingOfTurn_48 : decode cX10_findingOfTurn 48 = .ok (.aload_n 0, 1) := by decide +kernel
theorem dX10_findingOfTurn_49 : decode cX10_findingOfTurn 49 = .ok (.getfield 31, 3) := by decide +kernel
theorem dX10_findingOfTurn_52 : decode cX10_findingOfTurn 52 = .ok (.getfield 203, 3) := by decide +kernel
theorem dX10_findingOfTurn_55 : decode cX10_findingOfTurn 55 = .ok (.invokevirtual 276, 3) := by decide +kernel
theorem dX10_findingOfTurn_58 : decode cX10_findingOfTurn 58 = .ok (.aload_n 0, 1) := by decide +kernel
theorem dX10_findingOfTurn_59 : decode cX10_findingOfTurn 59 = .ok (.getfield 55, 3) := by decide +kernel
theorem dX10_findingOfTurn_62 : decode cX10_findingOfTurn 62 = .ok (.getfield 200, 3) := by decide +kernel
theorem dX10_findingOfTurn_65 : decode cX10_findingOfTurn 65 = .ok (.aload_n 0, 1) := by decide +kernel
theorem dX10_findingOfTurn_66 : decode cX10_findingOfTurn 66 = .ok (.getfield 61, 3) := by decide +kernel
theorem dX10_findingOfTurn_69 : decode cX10_findingOfTurn 69 = .ok (.iload_n 1, 1) := by decide +kernel
theorem dX10_findingOfTurn_70 : decode cX10_findingOfTurn 70 = .ok (.aaload, 1) := by decide +kernel
theorem dX10_findingOfTurn_71 : decode cX10_findingOfTurn 71 = .ok (.getfield 241, 3) := by decide +kernel
theorem dX10_findingOfTurn_74 : decode cX10_findingOfTurn 74 = .ok (.if_icmp .ge 7, 3) := by decide +kernel
theorem dX10_findingOfTurn_77 : decode cX10_findingOfTurn 77 = .ok (.iconst 4, 1) := by decide +kernel
theorem dX10_findingOfTurn_78 : decode cX10_findingOfTurn 78 = .ok (.goto 4, 3) := by decide +kernel
theorem dX10_findingOfTurn_81 : decode cX10_findingOfTurn 81 = .ok (.iconst (-1), 1) := by decide +kernel
theorem dX10_findingOfTurn_82 : decode cX10_findingOfTurn 82 = .ok (.ireturn, 1) := by decide +kernel
theorem dX11_init_0 : decode cX11_init 0 = .ok (.aload_n 0, 1) := by decide +kernel
theorem dX11_init_1 : decode cX11_init 1 = .ok (.invokespecial 1, 3) := by decide +kernel
theorem dX11_init_4 : decode cX11_init 4 = .ok (.aload_n 0, 1) := by decide +kernel
theorem dX11_init_5 : decode cX11_init 5 = .ok (.bipush 6, 2) := by decide +kernel
theorem dX11_init_7 : decode cX11_init 7 = .ok (.newarray .int, 2) := by decide +kernel
theorem dX11_init_9 : decode cX11_init 9 = .ok (.putfield 7, 3) := by decide +kernel
theorem dX11_init_12 : decode cX11_init 12 = .ok (.aload_n 0, 1) := by decide +kernel
theorem dX11_init_13 : decode cX11_init 13 = .ok (.bipush 42, 2) := by decide +kernel
theorem dX11_init_15 : decode cX11_init 15 = .ok (.newarray .int, 2) := by decide +kernel
theorem dX11_init_17 : decode cX11_init 17 = .ok (.putfield 13, 3) := by decide +kernel
theorem dX11_init_20 : decode cX11_init 20 = .ok (.aload_n 0, 1) := by decide +kernel
theorem dX11_init_21 : decode cX11_init 21 = .ok (.bipush 42, 2) := by decide +kernel
theorem dX11_init_23 : decode cX11_init 23 = .ok (.newarray .int, 2) := by decide +kernel
theorem dX11_init_25 : decode cX11_init 25 = .ok (.putfield 16, 3) := by decide +kernel
theorem dX11_init_28 : decode cX11_init 28 = .ok (.aload_n 0, 1) := by decide +kernel
theorem dX11_init_29 : decode cX11_init 29 = .ok (.bipush 42, 2) := by decide +kernel
theorem dX11_init_31 : decode cX11_init 31 = .ok (.newarray .int, 2) := by decide +kernel
theorem dX11_init_33 : decode cX11_init 33 = .ok (.putfield 19, 3) := by decide +kernel
theorem dX11_init_36 : decode cX11_init 36 = .ok (.aload_n 0, 1) := by decide +kernel
theorem dX11_init_37 : decode cX11_init 37 = .ok (.bipush 42, 2) := by decide +kernel
theorem dX11_init_39 : decode cX11_init 39 = .ok (.newarray .int, 2) := by decide +kernel
theorem dX11_init_41 : decode cX11_init 41 = .ok (.putfield 22, 3) := by decide +kernel
theorem dX11_init_44 : decode cX11_init 44 = .ok (.aload_n 0, 1) := by decide +kernel
theorem dX11_init_45 : decode cX11_init 45 = .ok (.bipush 42, 2) := by decide +kernel
theorem dX11_init_47 : decode cX11_init 47 = .ok (.newarray .int, 2) := by decide +kernel
theorem dX11_init_49 : decode cX11_init 49 = .ok (.putfield 25, 3) := by decide +kernel
theorem dX11_init_52 : decode cX11_init 52 = .ok (.aload_n 0, 1) := by decide +kernel
theorem dX11_init_53 : decode cX11_init 53 = .ok (.bipush 6, 2) := by decide +kernel
theorem dX11_init_55 : decode cX11_init 55 = .ok (.newarray .int, 2) := by decide +kernel
theorem dX11_init_57 : decode cX11_init 57 = .ok (.putfield 28, 3) := by decide +kernel
theorem dX11_init_60 : decode cX11_init 60 = .ok (.aload_n 0, 1) := by decide +kernel
theorem dX11_init_61 : decode cX11_init 61 = .ok (.iconst 3, 1) := by decide +kernel
theorem dX11_init_62 : decode cX11_init 62 = .ok (.newarray .int, 2) := by decide +kernel
theorem dX11_init_64 : decode cX11_init 64 = .ok (.putfield 31, 3) := by decide +kernel
theorem dX11_init_67 : decode cX11_init 67 = .ok (.aload_n 0, 1) := by decide +kernel
theorem dX11_init_68 : decode cX11_init 68 = .ok (.iconst 3, 1) := by decide +kernel
theorem dX11_init_69 : decode cX11_init 69 = .ok (.newarray .int, 2) := by decide +kernel
theorem dX11_init_71 : decode cX11_init 71 = .ok (.putfield 34, 3) := by decide +kernel
theorem dX11_init_74 : decode cX11_init 74 = .ok (.aload_n 0, 1) := by decide +kernel
theorem dX11_init_75 : decode cX11_init 75 = .ok (.bipush 120, 2) := by decide +kernel
theorem dX11_init_77 : decode cX11_init 77 = .ok (.newarray .int, 2) := by decide +kernel
theorem dX11_init_79 : decode cX11_init 79 = .ok (.putfield 37, 3) := by decide +kernel
theorem dX11_init_82 : decode cX11_init 82 = .ok (.aload_n 0, 1) := by decide +kernel
theorem dX11_init_83 : decode cX11_init 83 = .ok (.bipush 7, 2) := by decide +kernel
theorem dX11_init_85 : decode cX11_init 85 = .ok (.newarray .int, 2) := by decide +kernel
theorem dX11_init_87 : decode cX11_init 87 = .ok (.putfield 40, 3) := by decide +kernel
theorem dX11_init_90 : decode cX11_init 90 = .ok (.aload_n 0, 1) := by decide +kernel
theorem dX11_init_91 : decode cX11_init 91 = .ok (.sipush 234, 3) := by decide +kernel
theorem dX11_init_94 : decode cX11_init 94 = .ok (.newarray .int, 2) := by decide +kernel
theorem dX11_init_96 : decode cX11_init 96 = .ok (.putfield 43, 3) := by decide +kernel
theorem dX11_init_99 : decode cX11_init 99 = .ok (.aload_n 0, 1) := by decide +kernel
theorem dX11_init_100 : decode cX11_init 100 = .ok (.iconst 4, 1) := by decide +kernel
theorem dX11_init_101 : decode cX11_init 101 = .ok (.newarray .int, 2) := by decide +kernel
theorem dX11_init_103 : decode cX11_init 103 = .ok (.putfield 46, 3) := by decide +kernel
theorem dX11_init_106 : decode cX11_init 106 = .ok (.aload_n 0, 1) := by decide +kernel
theorem dX11_init_107 : decode cX11_init 107 = .ok (.iconst 4, 1) := by decide +kernel
theorem dX11_init_108 : decode cX11_init 108 = .ok (.newarray .int, 2) := by decide +kernel
theorem dX11_init_110 : decode cX11_init 110 = .ok (.putfield 49, 3) := by decide +kernel
theorem dX11_init_113 : decode cX11_init 113 = .ok (.aload_n 0, 1) := by decide +kernel
theorem dX11_init_114 : decode cX11_init 114 = .ok (.sipush 160, 3) := by decide +kernel
theorem dX11_init_117 : decode cX11_init 117 = .ok (.newarray .long, 2) := by decide +kernel
theorem dX11_init_119 : decode cX11_init 119 = .ok (.putfield 52, 3) := by decide +kernel
theorem dX11_init_122 : decode cX11_init 122 = .ok (.aload_n 0, 1) := by decide +kernel
theorem dX11_init_123 : decode cX11_init 123 = .ok (.bipush 40, 2) := by decide +kernel
theorem dX11_init_125 : decode cX11_init 125 = .ok (.newarray .long, 2) := by decide +kernel
theorem dX11_init_127 : decode cX11_init 127 = .ok (.putfield 56, 3) := by decide +kernel
theorem dX11_init_130 : decode cX11_init 130 = .ok (.aload_n 0, 1) := by decide +kernel
theorem dX11_init_131 : decode cX11_init 131 = .ok (.bipush 9, 2) := by decide +kernel
theorem dX11_init_133 : decode cX11_init 133 = .ok (.newarray .long, 2) := by decide +kernel
theorem dX11_init_135 : decode cX11_init 135 = .ok (.dup, 1) := by decide +kernel
theorem dX11_init_136 : decode cX11_init 136 = .ok (.iconst 0, 1) := by decide +kernel
theorem dX11_init_137 : decode cX11_init 137 = .ok (.bipush 114, 2) := by decide +kernel
theorem dX11_init_139 : decode cX11_init 139 = .ok (.bipush 101, 2) := by decide +kernel
theorem dX11_init_141 : decode cX11_init 141 = .ok (.bipush 97, 2) := by decide +kernel
theorem dX11_init_143 : decode cX11_init 143 = .ok (.bipush 100, 2) := by decide +kernel
theorem dX11_init_145 : decode cX11_init 145 = .ok (.iconst 0, 1) := by decide +kernel
theorem dX11_init_146 : decode cX11_init 146 = .ok (.invokestatic 59, 3) := by decide +kernel
theorem dX11_init_149 : decode cX11_init 149 = .ok (.lastore, 1) := by decide +kernel
theorem dX11_init_150 : decode cX11_init 150 = .ok (.dup, 1) := by decide +kernel
theorem dX11_init_151 : decode cX11_init 151 = .ok (.iconst 1, 1) := by decide +kernel
theorem dX11_init_152 : decode cX11_init 152 = .ok (.bipush 119, 2) := by decide +kernel
theorem dX11_init_154 : decode cX11_init 154 = .ok (.bipush 114, 2) := by decide +kernel
theorem dX11_init_156 : decode cX11_init 156 = .ok (.bipush 105, 2) := by decide +kernel
theorem dX11_init_158 : decode cX11_init 158 = .ok (.bipush 116, 2) := by decide +kernel
theorem dX11_init_160 : decode cX11_init 160 = .ok (.bipush 101, 2) := by decide +kernel
theorem dX11_init_162 : decode cX11_init 162 = .ok (.invokestatic 59, 3) := by decide +kernel
theorem dX11_init_165 : decode cX11_init 165 = .ok (.lastore, 1) := by decide +kernel
theorem dX11_init_166 : decode cX11_init 166 = .ok (.dup, 1) := by decide +kernel
theorem dX11_init_167 : decode cX11_init 167 = .ok (.iconst 2, 1) := by decide +kernel
theorem dX11_init_168 : decode cX11_init 168 = .ok (.bipush 112, 2) := by decide +kernel
theorem dX11_init_170 : decode cX11_init 170 = .ok (.bipush 117, 2) := by decide +kernel
theorem dX11_init_172 : decode cX11_init 172 = .ok (.bipush 116, 2) := by decide +kernel
theorem dX11_init_174 : decode cX11_init 174 = .ok (.iconst 0, 1) := by decide +kernel
theorem dX11_init_175 : decode cX11_init 175 = .ok (.iconst 0, 1) := by decide +kernel
theorem dX11_init_176 : decode cX11_init 176 = .ok (.invokestatic 59, 3) := by decide +kernel
theorem dX11_init_179 : decode cX11_init 179 = .ok (.lastore, 1) := by decide +kernel
theorem dX11_init_180 : decode cX11_init 180 = .ok (.dup, 1) := by decide +kernel
theorem dX11_init_181 : decode cX11_init 181 = .ok (.iconst 3, 1) := by decide +kernel
theorem dX11_init_182 : decode cX11_init 182 = .ok (.bipush 115, 2) := by decide +kernel
theorem dX11_init_184 : decode cX11_init 184 = .ok (.bipush 119, 2) := by decide +kernel
theorem dX11_init_186 : decode cX11_init 186 = .ok (.bipush 97, 2) := by decide +kernel
theorem dX11_init_188 : decode cX11_init 188 = .ok (.bipush 112, 2) := by decide +kernel
theorem dX11_init_190 : decode cX11_init 190 = .ok (.iconst 0, 1) := by decide +kernel
theorem dX11_init_191 : decode cX11_init 191 = .ok (.invokestatic 59, 3) := by decide +kernel
theorem dX11_init_194 : decode cX11_init 194 = .ok (.lastore, 1) := by decide +kernel
theorem dX11_init_195 : decode cX11_init 195 = .ok (.dup, 1) := by decide +kernel
theorem dX11_init_196 : decode cX11_init 196 = .ok (.iconst 4, 1) := by decide +kernel
theorem dX11_init_197 : decode cX11_init 197 = .ok (.bipush 97, 2) := by decide +kernel
theorem dX11_init_199 : decode cX11_init 199 = .ok (.bipush 100, 2) := by decide +kernel
theorem dX11_init_201 : decode cX11_init 201 = .ok (.bipush 100, 2) := by decide +kernel
theorem dX11_init_203 : decode cX11_init 203 = .ok (.iconst 0, 1) := by decide +kernel
theorem dX11_init_204 : decode cX11_init 204 = .ok (.iconst 0, 1) := by decide +kernel
theorem dX11_init_205 : decode cX11_init 205 = .ok (.invokestatic 59, 3) := by decide +kernel
theorem dX11_init_208 : decode cX11_init 208 = .ok (.lastore, 1) := by decide +kernel
theorem dX11_init_209 : decode cX11_init 209 = .ok (.dup, 1) := by decide +kernel
theorem dX11_init_210 : decode cX11_init 210 = .ok (.iconst 5, 1) := by decide +kernel
theorem dX11_init_211 : decode cX11_init 211 = .ok (.bipush 102, 2) := by decide +kernel
theorem dX11_init_213 : decode cX11_init 213 = .ok (.bipush 101, 2) := by decide +kernel
theorem dX11_init_215 : decode cX11_init 215 = .ok (.bipush 110, 2) := by decide +kernel
theorem dX11_init_217 : decode cX11_init 217 = .ok (.bipush 99, 2) := by decide +kernel
theorem dX11_init_219 : decode cX11_init 219 = .ok (.bipush 101, 2) := by decide +kernel
theorem dX11_init_221 : decode cX11_init 221 = .ok (.invokestatic 59, 3) := by decide +kernel
theorem dX11_init_224 : decode cX11_init 224 = .ok (.lastore, 1) := by decide +kernel
theorem dX11_init_225 : decode cX11_init 225 = .ok (.dup, 1) := by decide +kernel
theorem dX11_init_226 : decode cX11_init 226 = .ok (.bipush 6, 2) := by decide +kernel
theorem dX11_init_228 : decode cX11_init 228 = .ok (.bipush 115, 2) := by decide +kernel
theorem dX11_init_230 : decode cX11_init 230 = .ok (.bipush 101, 2) := by decide +kernel
theorem dX11_init_232 : decode cX11_init 232 = .ok (.bipush 116, 2) := by decide +kernel
theorem dX11_init_234 : decode cX11_init 234 = .ok (.iconst 0, 1) := by decide +kernel
theorem dX11_init_235 : decode cX11_init 235 = .ok (.iconst 0, 1) := by decide +kernel
theorem dX11_init_236 : decode cX11_init 236 = .ok (.invokestatic 59, 3) := by decide +kernel
theorem dX11_init_239 : decode cX11_init 239 = .ok (.lastore, 1) := by decide +kernel
theorem dX11_init_240 : decode cX11_init 240 = .ok (.dup, 1) := by decide +kernel
theorem dX11_init_241 : decode cX11_init 241 = .ok (.bipush 7, 2) := by decide +kernel
theorem dX11_init_243 : decode cX11_init 243 = .ok (.bipush 107, 2) := by decide +kernel
theorem dX11_init_245 : decode cX11_init 245 = .ok (.bipush 101, 2) := by decide +kernel
theorem dX11_init_247 : decode cX11_init 247 = .ok (.bipush 101, 2) := by decide +kernel
theorem dX11_init_249 : decode cX11_init 249 = .ok (.bipush 112, 2) := by decide +kernel
theorem dX11_init_251 : decode cX11_init 251 = .ok (.iconst 0, 1) := by decide +kernel
theorem dX11_init_252 : decode cX11_init 252 = .ok (.invokestatic 59, 3) := by decide +kernel
theorem dX11_init_255 : decode cX11_init 255 = .ok (.lastore, 1) := by decide +kernel
theorem dX11_init_256 : decode cX11_init 256 = .ok (.dup, 1) := by decide +kernel
theorem dX11_init_257 : decode cX11_init 257 = .ok (.bipush 8, 2) := by decide +kernel
theorem dX11_init_259 : decode cX11_init 259 = .ok (.bipush 97, 2) := by decide +kernel
theorem dX11_init_261 : decode cX11_init 261 = .ok (.bipush 103, 2) := by decide +kernel
theorem dX11_init_263 : decode cX11_init 263 = .ok (.bipush 97, 2) := by decide +kernel
theorem dX11_init_265 : decode cX11_init 265 = .ok (.bipush 105, 2) := by decide +kernel
theorem dX11_init_267 : decode cX11_init 267 = .ok (.bipush 110, 2) := by decide +kernel
theorem dX11_init_269 : decode cX11_init 269 = .ok (.invokestatic 59, 3) := by decide +kernel
theorem dX11_init_272 : decode cX11_init 272 = .ok (.lastore, 1) := by decide +kernel
theorem dX11_init_273 : decode cX11_init 273 = .ok (.putfield 63, 3) := by decide +kernel
theorem dX11_init_276 : decode cX11_init 276 = .ok (.aload_n 0, 1) := by decide +kernel
theorem dX11_init_277 : decode cX11_init 277 = .ok (.bipush 6, 2) := by decide +kernel
theorem dX11_init_279 : decode cX11_init 279 = .ok (.newarray .int, 2) := by decide +kernel
theorem dX11_init_281 : decode cX11_init 281 = .ok (.putfield 66, 3) := by decide +kernel
theorem dX11_init_284 : decode cX11_init 284 = .ok (.aload_n 0, 1) := by decide +kernel
theorem dX11_init_285 : decode cX11_init 285 = .ok (.bipush 84, 2) := by decide +kernel
theorem dX11_init_287 : decode cX11_init 287 = .ok (.newarray .int, 2) := by decide +kernel
theorem dX11_init_289 : decode cX11_init 289 = .ok (.putfield 69, 3) := by decide +kernel
theorem dX11_init_292 : decode cX11_init 292 = .ok (.aload_n 0, 1) := by decide +kernel
theorem dX11_init_293 : decode cX11_init 293 = .ok (.bipush 84, 2) := by decide +kernel
theorem dX11_init_295 : decode cX11_init 295 = .ok (.newarray .int, 2) := by decide +kernel
theorem dX11_init_297 : decode cX11_init 297 = .ok (.putfield 72, 3) := by decide +kernel
theorem dX11_init_300 : decode cX11_init 300 = .ok (.aload_n 0, 1) := by decide +kernel
theorem dX11_init_301 : decode cX11_init 301 = .ok (.bipush 84, 2) := by decide +kernel
theorem dX11_init_303 : decode cX11_init 303 = .ok (.newarray .int, 2) := by decide +kernel
theorem dX11_init_305 : decode cX11_init 305 = .ok (.putfield 75, 3) := by decide +kernel
theorem dX11_init_308 : decode cX11_init 308 = .ok (.aload_n 0, 1) := by decide +kernel
theorem dX11_init_309 : decode cX11_init 309 = .ok (.bipush 84, 2) := by decide +kernel
theorem dX11_init_311 : decode cX11_init 311 = .ok (.newarray .int, 2) := by decide +kernel
theorem dX11_init_313 : decode cX11_init 313 = .ok (.putfield 78, 3) := by decide +kernel
theorem dX11_init_316 : decode cX11_init 316 = .ok (.aload_n 0, 1) := by decide +kernel
theorem dX11_init_317 : decode cX11_init 317 = .ok (.bipush 84, 2) := by decide +kernel
theorem dX11_init_319 : decode cX11_init 319 = .ok (.newarray .int, 2) := by decide +kernel
theorem dX11_init_321 : decode cX11_init 321 = .ok (.putfield 81, 3) := by decide +kernel
theorem dX11_init_324 : decode cX11_init 324 = .ok (.aload_n 0, 1) := by decide +kernel
theorem dX11_init_325 : decode cX11_init 325 = .ok (.bipush 6, 2) := by decide +kernel
theorem dX11_init_327 : decode cX11_init 327 = .ok (.newarray .int, 2) := by decide +kernel
theorem dX11_init_329 : decode cX11_init 329 = .ok (.putfield 84, 3) := by decide +kernel
theorem dX11_init_332 : decode cX11_init 332 = .ok (.aload_n 0, 1) := by decide +kernel
theorem dX11_init_333 : decode cX11_init 333 = .ok (.bipush 7, 2) := by decide +kernel
theorem dX11_init_335 : decode cX11_init 335 = .ok (.newarray .int, 2) := by decide +kernel
theorem dX11_init_337 : decode cX11_init 337 = .ok (.putfield 87, 3) := by decide +kernel
theorem dX11_init_340 : decode cX11_init 340 = .ok (.aload_n 0, 1) := by decide +kernel
theorem dX11_init_341 : decode cX11_init 341 = .ok (.iconst 3, 1) := by decide +kernel
theorem dX11_init_342 : decode cX11_init 342 = .ok (.newarray .int, 2) := by decide +kernel
theorem dX11_init_344 : decode cX11_init 344 = .ok (.putfield 90, 3) := by decide +kernel
theorem dX11_init_347 : decode cX11_init 347 = .ok (.aload_n 0, 1) := by decide +kernel
theorem dX11_init_348 : decode cX11_init 348 = .ok (.iconst 3, 1) := by decide +kernel
theorem dX11_init_349 : decode cX11_init 349 = .ok (.newarray .int, 2) := by decide +kernel
theorem dX11_init_351 : decode cX11_init 351 = .ok (.putfield 93, 3) := by decide +kernel
theorem dX11_init_354 : decode cX11_init 354 = .ok (.aload_n 0, 1) := by decide +kernel
theorem dX11_init_355 : decode cX11_init 355 = .ok (.iconst 3, 1) := by decide +kernel
theorem dX11_init_356 : decode cX11_init 356 = .ok (.newarray .int, 2) := by decide +kernel
theorem dX11_init_358 : decode cX11_init 358 = .ok (.putfield 96, 3) := by decide +kernel
theorem dX11_init_361 : decode cX11_init 361 = .ok (.aload_n 0, 1) := by decide +kernel
theorem dX11_init_362 : decode cX11_init 362 = .ok (.iconst 3, 1) := by decide +kernel
theorem dX11_init_363 : decode cX11_init 363 = .ok (.newarray .int, 2) := by decide +kernel
theorem dX11_init_365 : decode cX11_init 365 = .ok (.putfield 99, 3) := by decide +kernel
theorem dX11_init_368 : decode cX11_init 368 = .ok (.aload_n 0, 1) := by decide +kernel
theorem dX11_init_369 : decode cX11_init 369 = .ok (.iconst 3, 1) := by decide +kernel
theorem dX11_init_370 : decode cX11_init 370 = .ok (.newarray .int, 2) := by decide +kernel
theorem dX11_init_372 : decode cX11_init 372 = .ok (.putfield 102, 3) := by decide +kernel
theorem dX11_init_375 : decode cX11_init 375 = .ok (.aload_n 0, 1) := by decide +kernel
theorem dX11_init_376 : decode cX11_init 376 = .ok (.iconst 3, 1) := by decide +kernel
theorem dX11_init_377 : decode cX11_init 377 = .ok (.newarray .int, 2) := by decide +kernel
theorem dX11_init_379 : decode cX11_init 379 = .ok (.putfield 105, 3) := by decide +kernel
theorem dX11_init_382 : decode cX11_init 382 = .ok (.aload_n 0, 1) := by decide +kernel
theorem dX11_init_383 : decode cX11_init 383 = .ok (.bipush 6, 2) := by decide +kernel
theorem dX11_init_385 : decode cX11_init 385 = .ok (.newarray .int, 2) := by decide +kernel
theorem dX11_init_387 : decode cX11_init 387 = .ok (.putfield 108, 3) := by decide +kernel
theorem dX11_init_390 : decode cX11_init 390 = .ok (.aload_n 0, 1) := by decide +kernel
theorem dX11_init_391 : decode cX11_init 391 = .ok (.bipush 6, 2) := by decide +kernel
theorem dX11_init_393 : decode cX11_init 393 = .ok (.newarray .int, 2) := by decide +kernel
theorem dX11_init_395 : decode cX11_init 395 = .ok (.putfield 111, 3) := by decide +kernel
theorem dX11_init_398 : decode cX11_init 398 = .ok (.aload_n 0, 1) := by decide +kernel
theorem dX11_init_399 : decode cX11_init 399 = .ok (.sipush 6001, 3) := by decide +kernel
theorem dX11_init_402 : decode cX11_init 402 = .ok (.newarray .long, 2) := by decide +kernel
theorem dX11_init_404 : decode cX11_init 404 = .ok (.putfield 114, 3) := by decide +kernel
theorem dX11_init_407 : decode cX11_init 407 = .ok (.aload_n 0, 1) := by decide +kernel
theorem dX11_init_408 : decode cX11_init 408 = .ok (.ldc 117, 2) := by decide +kernel
theorem dX11_init_410 : decode cX11_init 410 = .ok (.newarray .int, 2) := by decide +kernel
theorem dX11_init_412 : decode cX11_init 412 = .ok (.putfield 118, 3) := by decide +kernel
theorem dX11_init_415 : decode cX11_init 415 = .ok (.aload_n 0, 1) := by decide +kernel
theorem dX11_init_416 : decode cX11_init 416 = .ok (.sipush 6001, 3) := by decide +kernel
theorem dX11_init_419 : decode cX11_init 419 = .ok (.newarray .int, 2) := by decide +kernel
theorem dX11_init_421 : decode cX11_init 421 = .ok (.putfield 121, 3) := by decide +kernel
theorem dX11_init_424 : decode cX11_init 424 = .ok (.aload_n 0, 1) := by decide +kernel
theorem dX11_init_425 : decode cX11_init 425 = .ok (.sipush 16384, 3) := by decide +kernel
theorem dX11_init_428 : decode cX11_init 428 = .ok (.newarray .int, 2) := by decide +kernel
theorem dX11_init_430 : decode cX11_init 430 = .ok (.putfield 124, 3) := by decide +kernel
theorem dX11_init_433 : decode cX11_init 433 = .ok (.aload_n 0, 1) := by decide +kernel
theorem dX11_init_434 : decode cX11_init 434 = .ok (.sipush 6001, 3) := by decide +kernel
theorem dX11_init_437 : decode cX11_init 437 = .ok (.newarray .boolean, 2) := by decide +kernel
theorem dX11_init_439 : decode cX11_init 439 = .ok (.putfield 127, 3) := by decide +kernel
theorem dX11_init_442 : decode cX11_init 442 = .ok (.aload_n 0, 1) := by decide +kernel
theorem dX11_init_443 : decode cX11_init 443 = .ok (.sipush 6001, 3) := by decide +kernel
theorem dX11_init_446 : decode cX11_init 446 = .ok (.newarray .int, 2) := by decide +kernel
theorem dX11_init_448 : decode cX11_init 448 = .ok (.putfield 131, 3) := by decide +kernel
theorem dX11_init_451 : decode cX11_init 451 = .ok (.aload_n 0, 1) := by decide +kernel
theorem dX11_init_452 : decode cX11_init 452 = .ok (.sipush 6001, 3) := by decide +kernel
theorem dX11_init_455 : decode cX11_init 455 = .ok (.newarray .int, 2) := by decide +kernel
theorem dX11_init_457 : decode cX11_init 457 = .ok (.putfield 134, 3) := by decide +kernel
theorem dX11_init_460 : decode cX11_init 460 = .ok (.aload_n 0, 1) := by decide +kernel
theorem dX11_init_461 : decode cX11_init 461 = .ok (.sipush 128, 3) := by decide +kernel
theorem dX11_init_464 : decode cX11_init 464 = .ok (.newarray .int, 2) := by decide +kernel
theorem dX11_init_466 : decode cX11_init 466 = .ok (.putfield 137, 3) := by decide +kernel
theorem dX11_init_469 : decode cX11_init 469 = .ok (.aload_n 0, 1) := by decide +kernel
theorem dX11_init_470 : decode cX11_init 470 = .ok (.bipush 7, 2) := by decide +kernel
theorem dX11_init_472 : decode cX11_init 472 = .ok (.newarray .long, 2) := by decide +kernel
theorem dX11_init_474 : decode cX11_init 474 = .ok (.putfield 140, 3) := by decide +kernel
theorem dX11_init_477 : decode cX11_init 477 = .ok (.aload_n 0, 1) := by decide +kernel
theorem dX11_init_478 : decode cX11_init 478 = .ok (.sipush 6001, 3) := by decide +kernel
theorem dX11_init_481 : decode cX11_init 481 = .ok (.newarray .int, 2) := by decide +kernel
theorem dX11_init_483 : decode cX11_init 483 = .ok (.putfield 143, 3) := by decide +kernel
theorem dX11_init_486 : decode cX11_init 486 = .ok (.aload_n 0, 1) := by decide +kernel
theorem dX11_init_487 : decode cX11_init 487 = .ok (.sipush 6001, 3) := by decide +kernel
theorem dX11_init_490 : decode cX11_init 490 = .ok (.newarray .int, 2) := by decide +kernel
theorem dX11_init_492 : decode cX11_init 492 = .ok (.putfield 146, 3) := by decide +kernel
theorem dX11_init_495 : decode cX11_init 495 = .ok (.aload_n 0, 1) := by decide +kernel
theorem dX11_init_496 : decode cX11_init 496 = .ok (.sipush 6001, 3) := by decide +kernel
theorem dX11_init_499 : decode cX11_init 499 = .ok (.newarray .int, 2) := by decide +kernel
theorem dX11_init_501 : decode cX11_init 501 = .ok (.putfield 149, 3) := by decide +kernel
theorem dX11_init_504 : decode cX11_init 504 = .ok (.aload_n 0, 1) := by decide +kernel
theorem dX11_init_505 : decode cX11_init 505 = .ok (.iconst 3, 1) := by decide +kernel
theorem dX11_init_506 : decode cX11_init 506 = .ok (.newarray .int, 2) := by decide +kernel
theorem dX11_init_508 : decode cX11_init 508 = .ok (.putfield 152, 3) := by decide +kernel
theorem dX11_init_511 : decode cX11_init 511 = .ok (.aload_n 0, 1) := by decide +kernel
theorem dX11_init_512 : decode cX11_init 512 = .ok (.iconst 0, 1) := by decide +kernel
theorem dX11_init_513 : decode cX11_init 513 = .ok (.putfield 155, 3) := by decide +kernel
theorem dX11_init_516 : decode cX11_init 516 = .ok (.return_, 1) := by decide +kernel
theorem dX11_finds_0 : decode cX11_finds 0 = .ok (.aload_n 0, 1) := by decide +kernel
theorem dX11_finds_1 : decode cX11_finds 1 = .ok (.getfield 40, 3) := by decide +kernel
theorem dX11_finds_4 : decode cX11_finds 4 = .ok (.ldc 159, 2) := by decide +kernel
theorem dX11_finds_6 : decode cX11_finds 6 = .ok (.iload_n 1, 1) := by decide +kernel
theorem dX11_finds_7 : decode cX11_finds 7 = .ok (.isub, 1) := by decide +kernel
theorem dX11_finds_8 : decode cX11_finds 8 = .ok (.dup2, 1) := by decide +kernel
theorem dX11_finds_9 : decode cX11_finds 9 = .ok (.iaload, 1) := by decide +kernel
theorem dX11_finds_10 : decode cX11_finds 10 = .ok (.iconst 1, 1) := by decide +kernel
theorem dX11_finds_11 : decode cX11_finds 11 = .ok (.iadd, 1) := by decide +kernel
theorem dX11_finds_12 : decode cX11_finds 12 = .ok (.iastore, 1) := by decide +kernel
theorem dX11_finds_13 : decode cX11_finds 13 = .ok (.iload_n 1, 1) := by decide +kernel
theorem dX11_finds_14 : decode cX11_finds 14 = .ok (.ireturn, 1) := by decide +kernel
theorem dX11_in_0 : decode cX11_in 0 = .ok (.iload_n 0, 1) := by decide +kernel
theorem dX11_in_1 : decode cX11_in 1 = .ok (.iload_n 1, 1) := by decide +kernel
theorem dX11_in_2 : decode cX11_in 2 = .ok (.if_icmp .lt 12, 3) := by decide +kernel
theorem dX11_in_5 : decode cX11_in 5 = .ok (.iload_n 0, 1) := by decide +kernel
theorem dX11_in_6 : decode cX11_in 6 = .ok (.iload_n 2, 1) := by decide +kernel
theorem dX11_in_7 : decode cX11_in 7 = .ok (.if_icmp .gt 7, 3) := by decide +kernel
theorem dX11_in_10 : decode cX11_in 10 = .ok (.iconst 1, 1) := by decide +kernel
theorem dX11_in_11 : decode cX11_in 11 = .ok (.goto 4, 3) := by decide +kernel
theorem dX11_in_14 : decode cX11_in 14 = .ok (.iconst 0, 1) := by decide +kernel
theorem dX11_in_15 : decode cX11_in 15 = .ok (.ireturn, 1) := by decide +kernel
theorem dX11_isCall_0 : decode cX11_isCall 0 = .ok (.iload_n 1, 1) := by decide +kernel
theorem dX11_isCall_1 : decode cX11_isCall 1 = .ok (.iconst 0, 1) := by decide +kernel
theorem dX11_isCall_2 : decode cX11_isCall 2 = .ok (.aload_n 0, 1) := by decide +kernel
theorem dX11_isCall_3 : decode cX11_isCall 3 = .ok (.getfield 160, 3) := by decide +kernel
theorem dX11_isCall_6 : decode cX11_isCall 6 = .ok (.iconst 1, 1) := by decide +kernel
theorem dX11_isCall_7 : decode cX11_isCall 7 = .ok (.isub, 1) := by decide +kernel
theorem dX11_isCall_8 : decode cX11_isCall 8 = .ok (.invokestatic 163, 3) := by decide +kernel
theorem dX11_isCall_11 : decode cX11_isCall 11 = .ok (.ireturn, 1) := by decide +kernel
theorem dX11_isStep_0 : decode cX11_isStep 0 = .ok (.aload_n 0, 1) := by decide +kernel
theorem dX11_isStep_1 : decode cX11_isStep 1 = .ok (.iload_n 1, 1) := by decide +kernel
theorem dX11_isStep_2 : decode cX11_isStep 2 = .ok (.invokevirtual 167, 3) := by decide +kernel
theorem dX11_isStep_5 : decode cX11_isStep 5 = .ok (.ifCond .eq 23, 3) := by decide +kernel
theorem dX11_isStep_8 : decode cX11_isStep 8 = .ok (.iload_n 2, 1) := by decide +kernel
theorem dX11_isStep_9 : decode cX11_isStep 9 = .ok (.iconst 0, 1) := by decide +kernel
theorem dX11_isStep_10 : decode cX11_isStep 10 = .ok (.aload_n 0, 1) := by decide +kernel
theorem dX11_isStep_11 : decode cX11_isStep 11 = .ok (.getfield 7, 3) := by decide +kernel
theorem dX11_isStep_14 : decode cX11_isStep 14 = .ok (.iload_n 1, 1) := by decide +kernel
theorem dX11_isStep_15 : decode cX11_isStep 15 = .ok (.iaload, 1) := by decide +kernel
theorem dX11_isStep_16 : decode cX11_isStep 16 = .ok (.iconst 1, 1) := by decide +kernel
theorem dX11_isStep_17 : decode cX11_isStep 17 = .ok (.isub, 1) := by decide +kernel
theorem dX11_isStep_18 : decode cX11_isStep 18 = .ok (.invokestatic 163, 3) := by decide +kernel
theorem dX11_isStep_21 : decode cX11_isStep 21 = .ok (.ifCond .eq 7, 3) := by decide +kernel
theorem dX11_isStep_24 : decode cX11_isStep 24 = .ok (.iconst 1, 1) := by decide +kernel
theorem dX11_isStep_25 : decode cX11_isStep 25 = .ok (.goto 4, 3) := by decide +kernel
theorem dX11_isStep_28 : decode cX11_isStep 28 = .ok (.iconst 0, 1) := by decide +kernel
theorem dX11_isStep_29 : decode cX11_isStep 29 = .ok (.ireturn, 1) := by decide +kernel
theorem dX11_feed_0 : decode cX11_feed 0 = .ok (.iload_n 2, 1) := by decide +kernel
theorem dX11_feed_1 : decode cX11_feed 1 = .ok (.iconst 1, 1) := by decide +kernel
theorem dX11_feed_2 : decode cX11_feed 2 = .ok (.iconst 4, 1) := by decide +kernel
theorem dX11_feed_3 : decode cX11_feed 3 = .ok (.invokestatic 163, 3) := by decide +kernel
theorem dX11_feed_6 : decode cX11_feed 6 = .ok (.ifCond .ne 10, 3) := by decide +kernel
theorem dX11_feed_9 : decode cX11_feed 9 = .ok (.aload_n 0, 1) := by decide +kernel
theorem dX11_feed_10 : decode cX11_feed 10 = .ok (.ldc 159, 2) := by decide +kernel
theorem dX11_feed_12 : decode cX11_feed 12 = .ok (.invokevirtual 171, 3) := by decide +kernel
theorem dX11_feed_15 : decode cX11_feed 15 = .ok (.ireturn, 1) := by decide +kernel
theorem dX11_feed_16 : decode cX11_feed 16 = .ok (.aload_n 0, 1) := by decide +kernel
theorem dX11_feed_17 : decode cX11_feed 17 = .ok (.getfield 175, 3) := by decide +kernel
theorem dX11_feed_20 : decode cX11_feed 20 = .ok (.iload_n 2, 1) := by decide +kernel
theorem dX11_feed_21 : decode cX11_feed 21 = .ok (.iadd, 1) := by decide +kernel
theorem dX11_feed_22 : decode cX11_feed 22 = .ok (.bipush 120, 2) := by decide +kernel
theorem dX11_feed_24 : decode cX11_feed 24 = .ok (.if_icmp .le 10, 3) := by decide +kernel
theorem dX11_feed_27 : decode cX11_feed 27 = .ok (.aload_n 0, 1) := by decide +kernel
theorem dX11_feed_28 : decode cX11_feed 28 = .ok (.ldc 178, 2) := by decide +kernel
theorem dX11_feed_30 : decode cX11_feed 30 = .ok (.invokevirtual 171, 3) := by decide +kernel
theorem dX11_feed_33 : decode cX11_feed 33 = .ok (.ireturn, 1) := by decide +kernel
theorem dX11_feed_34 : decode cX11_feed 34 = .ok (.iload_n 2, 1) := by decide +kernel
theorem dX11_feed_35 : decode cX11_feed 35 = .ok (.iconst 1, 1) := by decide +kernel
theorem dX11_feed_36 : decode cX11_feed 36 = .ok (.isub, 1) := by decide +kernel
theorem dX11_feed_37 : decode cX11_feed 37 = .ok (.istore_n 3, 1) := by decide +kernel
theorem dX11_feed_38 : decode cX11_feed 38 = .ok (.iload_n 3, 1) := by decide +kernel
theorem dX11_feed_39 : decode cX11_feed 39 = .ok (.ifCond .lt 38, 3) := by decide +kernel
theorem dX11_feed_42 : decode cX11_feed 42 = .ok (.aload_n 0, 1) := by decide +kernel
theorem dX11_feed_43 : decode cX11_feed 43 = .ok (.getfield 37, 3) := by decide +kernel
theorem dX11_feed_46 : decode cX11_feed 46 = .ok (.aload_n 0, 1) := by decide +kernel
theorem dX11_feed_47 : decode cX11_feed 47 = .ok (.getfield 175, 3) := by decide +kernel
theorem dX11_feed_50 : decode cX11_feed 50 = .ok (.iload_n 1, 1) := by decide +kernel
theorem dX11_feed_51 : decode cX11_feed 51 = .ok (.bipush 8, 2) := by decide +kernel
theorem dX11_feed_53 : decode cX11_feed 53 = .ok (.iload_n 3, 1) := by decide +kernel
theorem dX11_feed_54 : decode cX11_feed 54 = .ok (.imul, 1) := by decide +kernel
theorem dX11_feed_55 : decode cX11_feed 55 = .ok (.ishr, 1) := by decide +kernel
theorem dX11_feed_56 : decode cX11_feed 56 = .ok (.sipush 255, 3) := by decide +kernel
theorem dX11_feed_59 : decode cX11_feed 59 = .ok (.iand, 1) := by decide +kernel
theorem dX11_feed_60 : decode cX11_feed 60 = .ok (.iastore, 1) := by decide +kernel
theorem dX11_feed_61 : decode cX11_feed 61 = .ok (.aload_n 0, 1) := by decide +kernel
theorem dX11_feed_62 : decode cX11_feed 62 = .ok (.dup, 1) := by decide +kernel
theorem dX11_feed_63 : decode cX11_feed 63 = .ok (.getfield 175, 3) := by decide +kernel
theorem dX11_feed_66 : decode cX11_feed 66 = .ok (.iconst 1, 1) := by decide +kernel
theorem dX11_feed_67 : decode cX11_feed 67 = .ok (.iadd, 1) := by decide +kernel
theorem dX11_feed_68 : decode cX11_feed 68 = .ok (.putfield 175, 3) := by decide +kernel
theorem dX11_feed_71 : decode cX11_feed 71 = .ok (.iinc 3 (-1), 3) := by decide +kernel
theorem dX11_feed_74 : decode cX11_feed 74 = .ok (.goto (-36), 3) := by decide +kernel
theorem dX11_feed_77 : decode cX11_feed 77 = .ok (.aload_n 0, 1) := by decide +kernel
theorem dX11_feed_78 : decode cX11_feed 78 = .ok (.getfield 175, 3) := by decide +kernel
theorem dX11_feed_81 : decode cX11_feed 81 = .ok (.ireturn, 1) := by decide +kernel
theorem dX11_wipe_0 : decode cX11_wipe 0 = .ok (.aload_n 0, 1) := by decide +kernel
theorem dX11_wipe_1 : decode cX11_wipe 1 = .ok (.getfield 175, 3) := by decide +kernel
theorem dX11_wipe_4 : decode cX11_wipe 4 = .ok (.istore_n 1, 1) := by decide +kernel
theorem dX11_wipe_5 : decode cX11_wipe 5 = .ok (.aload_n 0, 1) := by decide +kernel
theorem dX11_wipe_6 : decode cX11_wipe 6 = .ok (.iconst 0, 1) := by decide +kernel
theorem dX11_wipe_7 : decode cX11_wipe 7 = .ok (.putfield 175, 3) := by decide +kernel
theorem dX11_wipe_10 : decode cX11_wipe 10 = .ok (.iload_n 1, 1) := by decide +kernel
theorem dX11_wipe_11 : decode cX11_wipe 11 = .ok (.ireturn, 1) := by decide +kernel
theorem dX11_packed_0 : decode cX11_packed 0 = .ok (.lconst 0, 1) := by decide +kernel
theorem dX11_packed_1 : decode cX11_packed 1 = .ok (.lstore 5, 2) := by decide +kernel
theorem dX11_packed_3 : decode cX11_packed 3 = .ok (.iload_n 0, 1) := by decide +kernel
theorem dX11_packed_4 : decode cX11_packed 4 = .ok (.ifCond .ne 8, 3) := by decide +kernel
theorem dX11_packed_7 : decode cX11_packed 7 = .ok (.lload 5, 2) := by decide +kernel
theorem dX11_packed_9 : decode cX11_packed 9 = .ok (.goto 12, 3) := by decide +kernel
theorem dX11_packed_12 : decode cX11_packed 12 = .ok (.ldc2_w 179, 3) := by decide +kernel
theorem dX11_packed_15 : decode cX11_packed 15 = .ok (.lload 5, 2) := by decide +kernel
theorem dX11_packed_17 : decode cX11_packed 17 = .ok (.lmul, 1) := by decide +kernel
theorem dX11_packed_18 : decode cX11_packed 18 = .ok (.iload_n 0, 1) := by decide +kernel
theorem dX11_packed_19 : decode cX11_packed 19 = .ok (.i2l, 1) := by decide +kernel
theorem dX11_packed_20 : decode cX11_packed 20 = .ok (.ladd, 1) := by decide +kernel
theorem dX11_packed_21 : decode cX11_packed 21 = .ok (.lstore 5, 2) := by decide +kernel
theorem dX11_packed_23 : decode cX11_packed 23 = .ok (.iload_n 1, 1) := by decide +kernel
theorem dX11_packed_24 : decode cX11_packed 24 = .ok (.ifCond .ne 8, 3) := by decide +kernel
theorem dX11_packed_27 : decode cX11_packed 27 = .ok (.lload 5, 2) := by decide +kernel
theorem dX11_packed_29 : decode cX11_packed 29 = .ok (.goto 12, 3) := by decide +kernel
theorem dX11_packed_32 : decode cX11_packed 32 = .ok (.ldc2_w 179, 3) := by decide +kernel
theorem dX11_packed_35 : decode cX11_packed 35 = .ok (.lload 5, 2) := by decide +kernel
theorem dX11_packed_37 : decode cX11_packed 37 = .ok (.lmul, 1) := by decide +kernel
theorem dX11_packed_38 : decode cX11_packed 38 = .ok (.iload_n 1, 1) := by decide +kernel
theorem dX11_packed_39 : decode cX11_packed 39 = .ok (.i2l, 1) := by decide +kernel
theorem dX11_packed_40 : decode cX11_packed 40 = .ok (.ladd, 1) := by decide +kernel
theorem dX11_packed_41 : decode cX11_packed 41 = .ok (.lstore 5, 2) := by decide +kernel
theorem dX11_packed_43 : decode cX11_packed 43 = .ok (.iload_n 2, 1) := by decide +kernel
theorem dX11_packed_44 : decode cX11_packed 44 = .ok (.ifCond .ne 8, 3) := by decide +kernel
theorem dX11_packed_47 : decode cX11_packed 47 = .ok (.lload 5, 2) := by decide +kernel
theorem dX11_packed_49 : decode cX11_packed 49 = .ok (.goto 12, 3) := by decide +kernel
theorem dX11_packed_52 : decode cX11_packed 52 = .ok (.ldc2_w 179, 3) := by decide +kernel
theorem dX11_packed_55 : decode cX11_packed 55 = .ok (.lload 5, 2) := by decide +kernel
theorem dX11_packed_57 : decode cX11_packed 57 = .ok (.lmul, 1) := by decide +kernel
theorem dX11_packed_58 : decode cX11_packed 58 = .ok (.iload_n 2, 1) := by decide +kernel
theorem dX11_packed_59 : decode cX11_packed 59 = .ok (.i2l, 1) := by decide +kernel
theorem dX11_packed_60 : decode cX11_packed 60 = .ok (.ladd, 1) := by decide +kernel
theorem dX11_packed_61 : decode cX11_packed 61 = .ok (.lstore 5, 2) := by decide +kernel
theorem dX11_packed_63 : decode cX11_packed 63 = .ok (.iload_n 3, 1) := by decide +kernel
theorem dX11_packed_64 : decode cX11_packed 64 = .ok (.ifCond .ne 8, 3) := by decide +kernel
theorem dX11_packed_67 : decode cX11_packed 67 = .ok (.lload 5, 2) := by decide +kernel
theorem dX11_packed_69 : decode cX11_packed 69 = .ok (.goto 12, 3) := by decide +kernel
theorem dX11_packed_72 : decode cX11_packed 72 = .ok (.ldc2_w 179, 3) := by decide +kernel
theorem dX11_packed_75 : decode cX11_packed 75 = .ok (.lload 5, 2) := by decide +kernel
theorem dX11_packed_77 : decode cX11_packed 77 = .ok (.lmul, 1) := by decide +kernel
theorem dX11_packed_78 : decode cX11_packed 78 = .ok (.iload_n 3, 1) := by decide +kernel
theorem dX11_packed_79 : decode cX11_packed 79 = .ok (.i2l, 1) := by decide +kernel
theorem dX11_packed_80 : decode cX11_packed 80 = .ok (.ladd, 1) := by decide +kernel
theorem dX11_packed_81 : decode cX11_packed 81 = .ok (.lstore 5, 2) := by decide +kernel
theorem dX11_packed_83 : decode cX11_packed 83 = .ok (.iload 4, 2) := by decide +kernel
theorem dX11_packed_85 : decode cX11_packed 85 = .ok (.ifCond .ne 8, 3) := by decide +kernel
theorem dX11_packed_88 : decode cX11_packed 88 = .ok (.lload 5, 2) := by decide +kernel
theorem dX11_packed_90 : decode cX11_packed 90 = .ok (.goto 13, 3) := by decide +kernel
theorem dX11_packed_93 : decode cX11_packed 93 = .ok (.ldc2_w 179, 3) := by decide +kernel
theorem dX11_packed_96 : decode cX11_packed 96 = .ok (.lload 5, 2) := by decide +kernel
theorem dX11_packed_98 : decode cX11_packed 98 = .ok (.lmul, 1) := by decide +kernel
theorem dX11_packed_99 : decode cX11_packed 99 = .ok (.iload 4, 2) := by decide +kernel
theorem dX11_packed_101 : decode cX11_packed 101 = .ok (.i2l, 1) := by decide +kernel
theorem dX11_packed_102 : decode cX11_packed 102 = .ok (.ladd, 1) := by decide +kernel
theorem dX11_packed_103 : decode cX11_packed 103 = .ok (.lreturn, 1) := by decide +kernel
theorem dX11_byteAt_0 : decode cX11_byteAt 0 = .ok (.iload_n 1, 1) := by decide +kernel
theorem dX11_byteAt_1 : decode cX11_byteAt 1 = .ok (.aload_n 0, 1) := by decide +kernel
theorem dX11_byteAt_2 : decode cX11_byteAt 2 = .ok (.getfield 175, 3) := by decide +kernel
theorem dX11_byteAt_5 : decode cX11_byteAt 5 = .ok (.if_icmp .ge 12, 3) := by decide +kernel
theorem dX11_byteAt_8 : decode cX11_byteAt 8 = .ok (.aload_n 0, 1) := by decide +kernel
theorem dX11_byteAt_9 : decode cX11_byteAt 9 = .ok (.getfield 37, 3) := by decide +kernel
theorem dX11_byteAt_12 : decode cX11_byteAt 12 = .ok (.iload_n 1, 1) := by decide +kernel
theorem dX11_byteAt_13 : decode cX11_byteAt 13 = .ok (.iaload, 1) := by decide +kernel
theorem dX11_byteAt_14 : decode cX11_byteAt 14 = .ok (.goto 4, 3) := by decide +kernel
theorem dX11_byteAt_17 : decode cX11_byteAt 17 = .ok (.iconst (-1), 1) := by decide +kernel
theorem dX11_byteAt_18 : decode cX11_byteAt 18 = .ok (.ireturn, 1) := by decide +kernel
theorem dX11_isLetter_0 : decode cX11_isLetter 0 = .ok (.aload_n 0, 1) := by decide +kernel
theorem dX11_isLetter_1 : decode cX11_isLetter 1 = .ok (.iload_n 1, 1) := by decide +kernel
theorem dX11_isLetter_2 : decode cX11_isLetter 2 = .ok (.invokevirtual 181, 3) := by decide +kernel
theorem dX11_isLetter_5 : decode cX11_isLetter 5 = .ok (.bipush 97, 2) := by decide +kernel
theorem dX11_isLetter_7 : decode cX11_isLetter 7 = .ok (.bipush 122, 2) := by decide +kernel
theorem dX11_isLetter_9 : decode cX11_isLetter 9 = .ok (.invokestatic 163, 3) := by decide +kernel
theorem dX11_isLetter_12 : decode cX11_isLetter 12 = .ok (.ireturn, 1) := by decide +kernel
theorem dX11_isDigit_0 : decode cX11_isDigit 0 = .ok (.aload_n 0, 1) := by decide +kernel
theorem dX11_isDigit_1 : decode cX11_isDigit 1 = .ok (.iload_n 1, 1) := by decide +kernel
theorem dX11_isDigit_2 : decode cX11_isDigit 2 = .ok (.invokevirtual 181, 3) := by decide +kernel
theorem dX11_isDigit_5 : decode cX11_isDigit 5 = .ok (.bipush 48, 2) := by decide +kernel
theorem dX11_isDigit_7 : decode cX11_isDigit 7 = .ok (.bipush 57, 2) := by decide +kernel
theorem dX11_isDigit_9 : decode cX11_isDigit 9 = .ok (.invokestatic 163, 3) := by decide +kernel
theorem dX11_isDigit_12 : decode cX11_isDigit 12 = .ok (.ireturn, 1) := by decide +kernel
theorem dX11_next_0 : decode cX11_next 0 = .ok (.aload_n 0, 1) := by decide +kernel
theorem dX11_next_1 : decode cX11_next 1 = .ok (.aload_n 0, 1) := by decide +kernel
theorem dX11_next_2 : decode cX11_next 2 = .ok (.getfield 184, 3) := by decide +kernel
theorem dX11_next_5 : decode cX11_next 5 = .ok (.invokevirtual 181, 3) := by decide +kernel
theorem dX11_next_8 : decode cX11_next 8 = .ok (.bipush 32, 2) := by decide +kernel
theorem dX11_next_10 : decode cX11_next 10 = .ok (.if_icmp .ne 16, 3) := by decide +kernel
theorem dX11_next_13 : decode cX11_next 13 = .ok (.aload_n 0, 1) := by decide +kernel
theorem dX11_next_14 : decode cX11_next 14 = .ok (.dup, 1) := by decide +kernel
theorem dX11_next_15 : decode cX11_next 15 = .ok (.getfield 184, 3) := by decide +kernel
theorem dX11_next_18 : decode cX11_next 18 = .ok (.iconst 1, 1) := by decide +kernel
theorem dX11_next_19 : decode cX11_next 19 = .ok (.iadd, 1) := by decide +kernel
theorem dX11_next_20 : decode cX11_next 20 = .ok (.putfield 184, 3) := by decide +kernel
theorem dX11_next_23 : decode cX11_next 23 = .ok (.goto (-23), 3) := by decide +kernel
theorem dX11_next_26 : decode cX11_next 26 = .ok (.aload_n 0, 1) := by decide +kernel
theorem dX11_next_27 : decode cX11_next 27 = .ok (.aload_n 0, 1) := by decide +kernel
theorem dX11_next_28 : decode cX11_next 28 = .ok (.getfield 184, 3) := by decide +kernel
theorem dX11_next_31 : decode cX11_next 31 = .ok (.putfield 187, 3) := by decide +kernel
theorem dX11_next_34 : decode cX11_next 34 = .ok (.aload_n 0, 1) := by decide +kernel
theorem dX11_next_35 : decode cX11_next 35 = .ok (.iconst 0, 1) := by decide +kernel
theorem dX11_next_36 : decode cX11_next 36 = .ok (.putfield 190, 3) := by decide +kernel
theorem dX11_next_39 : decode cX11_next 39 = .ok (.aload_n 0, 1) := by decide +kernel
theorem dX11_next_40 : decode cX11_next 40 = .ok (.getfield 184, 3) := by decide +kernel
theorem dX11_next_43 : decode cX11_next 43 = .ok (.aload_n 0, 1) := by decide +kernel
theorem dX11_next_44 : decode cX11_next 44 = .ok (.getfield 175, 3) := by decide +kernel
theorem dX11_next_47 : decode cX11_next 47 = .ok (.if_icmp .ne 11, 3) := by decide +kernel
theorem dX11_next_50 : decode cX11_next 50 = .ok (.aload_n 0, 1) := by decide +kernel
theorem dX11_next_51 : decode cX11_next 51 = .ok (.iconst 0, 1) := by decide +kernel
theorem dX11_next_52 : decode cX11_next 52 = .ok (.putfield 193, 3) := by decide +kernel
theorem dX11_next_55 : decode cX11_next 55 = .ok (.goto 246, 3) := by decide +kernel
theorem dX11_next_58 : decode cX11_next 58 = .ok (.aload_n 0, 1) := by decide +kernel
theorem dX11_next_59 : decode cX11_next 59 = .ok (.aload_n 0, 1) := by decide +kernel
theorem dX11_next_60 : decode cX11_next 60 = .ok (.getfield 184, 3) := by decide +kernel
theorem dX11_next_63 : decode cX11_next 63 = .ok (.invokevirtual 196, 3) := by decide +kernel
theorem dX11_next_66 : decode cX11_next 66 = .ok (.ifCond .eq 120, 3) := by decide +kernel
theorem dX11_next_69 : decode cX11_next 69 = .ok (.lconst 0, 1) := by decide +kernel
theorem dX11_next_70 : decode cX11_next 70 = .ok (.lstore_n 1, 1) := by decide +kernel
theorem dX11_next_71 : decode cX11_next 71 = .ok (.iconst 0, 1) := by decide +kernel
theorem dX11_next_72 : decode cX11_next 72 = .ok (.istore_n 3, 1) := by decide +kernel
theorem dX11_next_73 : decode cX11_next 73 = .ok (.aload_n 0, 1) := by decide +kernel
theorem dX11_next_74 : decode cX11_next 74 = .ok (.aload_n 0, 1) := by decide +kernel
theorem dX11_next_75 : decode cX11_next 75 = .ok (.getfield 184, 3) := by decide +kernel
theorem dX11_next_78 : decode cX11_next 78 = .ok (.invokevirtual 196, 3) := by decide +kernel
theorem dX11_next_81 : decode cX11_next 81 = .ok (.ifCond .eq 45, 3) := by decide +kernel
theorem dX11_next_84 : decode cX11_next 84 = .ok (.iload_n 3, 1) := by decide +kernel
theorem dX11_next_85 : decode cX11_next 85 = .ok (.bipush 6, 2) := by decide +kernel
theorem dX11_next_87 : decode cX11_next 87 = .ok (.if_icmp .ge 21, 3) := by decide +kernel
theorem dX11_next_90 : decode cX11_next 90 = .ok (.ldc2_w 179, 3) := by decide +kernel
theorem dX11_next_93 : decode cX11_next 93 = .ok (.lload_n 1, 1) := by decide +kernel
theorem dX11_next_94 : decode cX11_next 94 = .ok (.lmul, 1) := by decide +kernel
theorem dX11_next_95 : decode cX11_next 95 = .ok (.aload_n 0, 1) := by decide +kernel
theorem dX11_next_96 : decode cX11_next 96 = .ok (.aload_n 0, 1) := by decide +kernel
theorem dX11_next_97 : decode cX11_next 97 = .ok (.getfield 184, 3) := by decide +kernel
theorem dX11_next_100 : decode cX11_next 100 = .ok (.invokevirtual 181, 3) := by decide +kernel
theorem dX11_next_103 : decode cX11_next 103 = .ok (.i2l, 1) := by decide +kernel
theorem dX11_next_104 : decode cX11_next 104 = .ok (.ladd, 1) := by decide +kernel
theorem dX11_next_105 : decode cX11_next 105 = .ok (.goto 4, 3) := by decide +kernel
theorem dX11_next_108 : decode cX11_next 108 = .ok (.lload_n 1, 1) := by decide +kernel
theorem dX11_next_109 : decode cX11_next 109 = .ok (.lstore_n 1, 1) := by decide +kernel
theorem dX11_next_110 : decode cX11_next 110 = .ok (.iinc 3 1, 3) := by decide +kernel
theorem dX11_next_113 : decode cX11_next 113 = .ok (.aload_n 0, 1) := by decide +kernel
theorem dX11_next_114 : decode cX11_next 114 = .ok (.dup, 1) := by decide +kernel
theorem dX11_next_115 : decode cX11_next 115 = .ok (.getfield 184, 3) := by decide +kernel
theorem dX11_next_118 : decode cX11_next 118 = .ok (.iconst 1, 1) := by decide +kernel
theorem dX11_next_119 : decode cX11_next 119 = .ok (.iadd, 1) := by decide +kernel
theorem dX11_next_120 : decode cX11_next 120 = .ok (.putfield 184, 3) := by decide +kernel
theorem dX11_next_123 : decode cX11_next 123 = .ok (.goto (-50), 3) := by decide +kernel
theorem dX11_next_126 : decode cX11_next 126 = .ok (.aload_n 0, 1) := by decide +kernel
theorem dX11_next_127 : decode cX11_next 127 = .ok (.iconst 1, 1) := by decide +kernel
theorem dX11_next_128 : decode cX11_next 128 = .ok (.putfield 193, 3) := by decide +kernel
theorem dX11_next_131 : decode cX11_next 131 = .ok (.aload_n 0, 1) := by decide +kernel
theorem dX11_next_132 : decode cX11_next 132 = .ok (.iconst (-1), 1) := by decide +kernel
theorem dX11_next_133 : decode cX11_next 133 = .ok (.putfield 190, 3) := by decide +kernel
theorem dX11_next_136 : decode cX11_next 136 = .ok (.iconst 0, 1) := by decide +kernel
theorem dX11_next_137 : decode cX11_next 137 = .ok (.istore 4, 2) := by decide +kernel
theorem dX11_next_139 : decode cX11_next 139 = .ok (.iload 4, 2) := by decide +kernel
theorem dX11_next_141 : decode cX11_next 141 = .ok (.bipush 9, 2) := by decide +kernel
theorem dX11_next_143 : decode cX11_next 143 = .ok (.if_icmp .ge 40, 3) := by decide +kernel
theorem dX11_next_146 : decode cX11_next 146 = .ok (.aload_n 0, 1) := by decide +kernel
theorem dX11_next_147 : decode cX11_next 147 = .ok (.iload_n 3, 1) := by decide +kernel
theorem dX11_next_148 : decode cX11_next 148 = .ok (.bipush 6, 2) := by decide +kernel
theorem dX11_next_150 : decode cX11_next 150 = .ok (.if_icmp .ge 20, 3) := by decide +kernel
theorem dX11_next_153 : decode cX11_next 153 = .ok (.aload_n 0, 1) := by decide +kernel
theorem dX11_next_154 : decode cX11_next 154 = .ok (.getfield 63, 3) := by decide +kernel
theorem dX11_next_157 : decode cX11_next 157 = .ok (.iload 4, 2) := by decide +kernel
theorem dX11_next_159 : decode cX11_next 159 = .ok (.laload, 1) := by decide +kernel
theorem dX11_next_160 : decode cX11_next 160 = .ok (.lload_n 1, 1) := by decide +kernel
theorem dX11_next_161 : decode cX11_next 161 = .ok (.lcmp, 1) := by decide +kernel
theorem dX11_next_162 : decode cX11_next 162 = .ok (.ifCond .ne 8, 3) := by decide +kernel
theorem dX11_next_165 : decode cX11_next 165 = .ok (.iload 4, 2) := by decide +kernel
theorem dX11_next_167 : decode cX11_next 167 = .ok (.goto 7, 3) := by decide +kernel
theorem dX11_next_170 : decode cX11_next 170 = .ok (.aload_n 0, 1) := by decide +kernel
theorem dX11_next_171 : decode cX11_next 171 = .ok (.getfield 190, 3) := by decide +kernel
theorem dX11_next_174 : decode cX11_next 174 = .ok (.putfield 190, 3) := by decide +kernel
theorem dX11_next_177 : decode cX11_next 177 = .ok (.iinc 4 1, 3) := by decide +kernel
theorem dX11_next_180 : decode cX11_next 180 = .ok (.goto (-41), 3) := by decide +kernel
theorem dX11_next_183 : decode cX11_next 183 = .ok (.goto 118, 3) := by decide +kernel
theorem dX11_next_186 : decode cX11_next 186 = .ok (.aload_n 0, 1) := by decide +kernel
theorem dX11_next_187 : decode cX11_next 187 = .ok (.aload_n 0, 1) := by decide +kernel
theorem dX11_next_188 : decode cX11_next 188 = .ok (.getfield 184, 3) := by decide +kernel
theorem dX11_next_191 : decode cX11_next 191 = .ok (.invokevirtual 199, 3) := by decide +kernel
theorem dX11_next_194 : decode cX11_next 194 = .ok (.ifCond .eq 75, 3) := by decide +kernel
theorem dX11_next_197 : decode cX11_next 197 = .ok (.aload_n 0, 1) := by decide +kernel
theorem dX11_next_198 : decode cX11_next 198 = .ok (.aload_n 0, 1) := by decide +kernel
theorem dX11_next_199 : decode cX11_next 199 = .ok (.getfield 184, 3) := by decide +kernel
theorem dX11_next_202 : decode cX11_next 202 = .ok (.invokevirtual 199, 3) := by decide +kernel
theorem dX11_next_205 : decode cX11_next 205 = .ok (.ifCond .eq 56, 3) := by decide +kernel
theorem dX11_next_208 : decode cX11_next 208 = .ok (.aload_n 0, 1) := by decide +kernel
theorem dX11_next_209 : decode cX11_next 209 = .ok (.aload_n 0, 1) := by decide +kernel
theorem dX11_next_210 : decode cX11_next 210 = .ok (.getfield 190, 3) := by decide +kernel
theorem dX11_next_213 : decode cX11_next 213 = .ok (.sipush 1000, 3) := by decide +kernel
theorem dX11_next_216 : decode cX11_next 216 = .ok (.if_icmp .ge 25, 3) := by decide +kernel
theorem dX11_next_219 : decode cX11_next 219 = .ok (.bipush 10, 2) := by decide +kernel
theorem dX11_next_221 : decode cX11_next 221 = .ok (.aload_n 0, 1) := by decide +kernel
theorem dX11_next_222 : decode cX11_next 222 = .ok (.getfield 190, 3) := by decide +kernel
theorem dX11_next_225 : decode cX11_next 225 = .ok (.imul, 1) := by decide +kernel
theorem dX11_next_226 : decode cX11_next 226 = .ok (.aload_n 0, 1) := by decide +kernel
theorem dX11_next_227 : decode cX11_next 227 = .ok (.aload_n 0, 1) := by decide +kernel
theorem dX11_next_228 : decode cX11_next 228 = .ok (.getfield 184, 3) := by decide +kernel
theorem dX11_next_231 : decode cX11_next 231 = .ok (.invokevirtual 181, 3) := by decide +kernel
theorem dX11_next_234 : decode cX11_next 234 = .ok (.iadd, 1) := by decide +kernel
theorem dX11_next_235 : decode cX11_next 235 = .ok (.bipush 48, 2) := by decide +kernel
theorem dX11_next_237 : decode cX11_next 237 = .ok (.isub, 1) := by decide +kernel
theorem dX11_next_238 : decode cX11_next 238 = .ok (.goto 7, 3) := by decide +kernel
theorem dX11_next_241 : decode cX11_next 241 = .ok (.aload_n 0, 1) := by decide +kernel
theorem dX11_next_242 : decode cX11_next 242 = .ok (.getfield 190, 3) := by decide +kernel
theorem dX11_next_245 : decode cX11_next 245 = .ok (.putfield 190, 3) := by decide +kernel
theorem dX11_next_248 : decode cX11_next 248 = .ok (.aload_n 0, 1) := by decide +kernel
theorem dX11_next_249 : decode cX11_next 249 = .ok (.dup, 1) := by decide +kernel
theorem dX11_next_250 : decode cX11_next 250 = .ok (.getfield 184, 3) := by decide +kernel
theorem dX11_next_253 : decode cX11_next 253 = .ok (.iconst 1, 1) := by decide +kernel
theorem dX11_next_254 : decode cX11_next 254 = .ok (.iadd, 1) := by decide +kernel
theorem dX11_next_255 : decode cX11_next 255 = .ok (.putfield 184, 3) := by decide +kernel
theorem dX11_next_258 : decode cX11_next 258 = .ok (.goto (-61), 3) := by decide +kernel
theorem dX11_next_261 : decode cX11_next 261 = .ok (.aload_n 0, 1) := by decide +kernel
theorem dX11_next_262 : decode cX11_next 262 = .ok (.iconst 2, 1) := by decide +kernel
theorem dX11_next_263 : decode cX11_next 263 = .ok (.putfield 193, 3) := by decide +kernel
theorem dX11_next_266 : decode cX11_next 266 = .ok (.goto 35, 3) := by decide +kernel
theorem dX11_next_269 : decode cX11_next 269 = .ok (.aload_n 0, 1) := by decide +kernel
theorem dX11_next_270 : decode cX11_next 270 = .ok (.aload_n 0, 1) := by decide +kernel
theorem dX11_next_271 : decode cX11_next 271 = .ok (.aload_n 0, 1) := by decide +kernel
theorem dX11_next_272 : decode cX11_next 272 = .ok (.getfield 184, 3) := by decide +kernel
theorem dX11_next_275 : decode cX11_next 275 = .ok (.invokevirtual 181, 3) := by decide +kernel
theorem dX11_next_278 : decode cX11_next 278 = .ok (.bipush 59, 2) := by decide +kernel
theorem dX11_next_280 : decode cX11_next 280 = .ok (.if_icmp .ne 7, 3) := by decide +kernel
theorem dX11_next_283 : decode cX11_next 283 = .ok (.iconst 3, 1) := by decide +kernel
theorem dX11_next_284 : decode cX11_next 284 = .ok (.goto 4, 3) := by decide +kernel
theorem dX11_next_287 : decode cX11_next 287 = .ok (.iconst 4, 1) := by decide +kernel
theorem dX11_next_288 : decode cX11_next 288 = .ok (.putfield 193, 3) := by decide +kernel
theorem dX11_next_291 : decode cX11_next 291 = .ok (.aload_n 0, 1) := by decide +kernel
theorem dX11_next_292 : decode cX11_next 292 = .ok (.dup, 1) := by decide +kernel
theorem dX11_next_293 : decode cX11_next 293 = .ok (.getfield 184, 3) := by decide +kernel
theorem dX11_next_296 : decode cX11_next 296 = .ok (.iconst 1, 1) := by decide +kernel
theorem dX11_next_297 : decode cX11_next 297 = .ok (.iadd, 1) := by decide +kernel
theorem dX11_next_298 : decode cX11_next 298 = .ok (.putfield 184, 3) := by decide +kernel
theorem dX11_next_301 : decode cX11_next 301 = .ok (.return_, 1) := by decide +kernel
theorem dX11_wrong_0 : decode cX11_wrong 0 = .ok (.aload_n 0, 1) := by decide +kernel
theorem dX11_wrong_1 : decode cX11_wrong 1 = .ok (.aload_n 0, 1) := by decide +kernel
theorem dX11_wrong_2 : decode cX11_wrong 2 = .ok (.getfield 202, 3) := by decide +kernel
theorem dX11_wrong_5 : decode cX11_wrong 5 = .ok (.ifCond .ge 10, 3) := by decide +kernel
theorem dX11_wrong_8 : decode cX11_wrong 8 = .ok (.aload_n 0, 1) := by decide +kernel
theorem dX11_wrong_9 : decode cX11_wrong 9 = .ok (.getfield 187, 3) := by decide +kernel
theorem dX11_wrong_12 : decode cX11_wrong 12 = .ok (.goto 7, 3) := by decide +kernel
theorem dX11_wrong_15 : decode cX11_wrong 15 = .ok (.aload_n 0, 1) := by decide +kernel
theorem dX11_wrong_16 : decode cX11_wrong 16 = .ok (.getfield 202, 3) := by decide +kernel
theorem dX11_wrong_19 : decode cX11_wrong 19 = .ok (.putfield 202, 3) := by decide +kernel
theorem dX11_wrong_22 : decode cX11_wrong 22 = .ok (.return_, 1) := by decide +kernel
theorem dX11_number_0 : decode cX11_number 0 = .ok (.aload_n 0, 1) := by decide +kernel
theorem dX11_number_1 : decode cX11_number 1 = .ok (.getfield 202, 3) := by decide +kernel
theorem dX11_number_4 : decode cX11_number 4 = .ok (.ifCond .lt 5, 3) := by decide +kernel
theorem dX11_number_7 : decode cX11_number 7 = .ok (.iconst 0, 1) := by decide +kernel
theorem dX11_number_8 : decode cX11_number 8 = .ok (.ireturn, 1) := by decide +kernel
theorem dX11_number_9 : decode cX11_number 9 = .ok (.aload_n 0, 1) := by decide +kernel
theorem dX11_number_10 : decode cX11_number 10 = .ok (.getfield 193, 3) := by decide +kernel
theorem dX11_number_13 : decode cX11_number 13 = .ok (.iconst 2, 1) := by decide +kernel
theorem dX11_number_14 : decode cX11_number 14 = .ok (.if_icmp .ne 11, 3) := by decide +kernel
theorem dX11_number_17 : decode cX11_number 17 = .ok (.aload_n 0, 1) := by decide +kernel
theorem dX11_number_18 : decode cX11_number 18 = .ok (.getfield 190, 3) := by decide +kernel
theorem dX11_number_21 : decode cX11_number 21 = .ok (.iload_n 1, 1) := by decide +kernel
theorem dX11_number_22 : decode cX11_number 22 = .ok (.if_icmp .le 9, 3) := by decide +kernel
theorem dX11_number_25 : decode cX11_number 25 = .ok (.aload_n 0, 1) := by decide +kernel
theorem dX11_number_26 : decode cX11_number 26 = .ok (.invokevirtual 205, 3) := by decide +kernel
theorem dX11_number_29 : decode cX11_number 29 = .ok (.iconst 0, 1) := by decide +kernel
theorem dX11_number_30 : decode cX11_number 30 = .ok (.ireturn, 1) := by decide +kernel
theorem dX11_number_31 : decode cX11_number 31 = .ok (.aload_n 0, 1) := by decide +kernel
theorem dX11_number_32 : decode cX11_number 32 = .ok (.getfield 190, 3) := by decide +kernel
theorem dX11_number_35 : decode cX11_number 35 = .ok (.istore_n 2, 1) := by decide +kernel
theorem dX11_number_36 : decode cX11_number 36 = .ok (.aload_n 0, 1) := by decide +kernel
theorem dX11_number_37 : decode cX11_number 37 = .ok (.invokevirtual 208, 3) := by decide +kernel
theorem dX11_number_40 : decode cX11_number 40 = .ok (.iload_n 2, 1) := by decide +kernel
theorem dX11_number_41 : decode cX11_number 41 = .ok (.ireturn, 1) := by decide +kernel
theorem dX11_readStep_0 : decode cX11_readStep 0 = .ok (.aload_n 0, 1) := by decide +kernel
theorem dX11_readStep_1 : decode cX11_readStep 1 = .ok (.getfield 193, 3) := by decide +kernel
theorem dX11_readStep_4 : decode cX11_readStep 4 = .ok (.iconst 1, 1) := by decide +kernel
theorem dX11_readStep_5 : decode cX11_readStep 5 = .ok (.if_icmp .ne 16, 3) := by decide +kernel
theorem dX11_readStep_8 : decode cX11_readStep 8 = .ok (.aload_n 0, 1) := by decide +kernel
theorem dX11_readStep_9 : decode cX11_readStep 9 = .ok (.getfield 190, 3) := by decide +kernel
theorem dX11_readStep_12 : decode cX11_readStep 12 = .ok (.ifCond .lt 9, 3) := by decide +kernel
theorem dX11_readStep_15 : decode cX11_readStep 15 = .ok (.iload_n 1, 1) := by decide +kernel
theorem dX11_readStep_16 : decode cX11_readStep 16 = .ok (.bipush 7, 2) := by decide +kernel
theorem dX11_readStep_18 : decode cX11_readStep 18 = .ok (.if_icmp .ne 8, 3) := by decide +kernel
theorem dX11_readStep_21 : decode cX11_readStep 21 = .ok (.aload_n 0, 1) := by decide +kernel
theorem dX11_readStep_22 : decode cX11_readStep 22 = .ok (.invokevirtual 205, 3) := by decide +kernel
theorem dX11_readStep_25 : decode cX11_readStep 25 = .ok (.return_, 1) := by decide +kernel
theorem dX11_readStep_26 : decode cX11_readStep 26 = .ok (.bipush 7, 2) := by decide +kernel
theorem dX11_readStep_28 : decode cX11_readStep 28 = .ok (.aload_n 0, 1) := by decide +kernel
theorem dX11_readStep_29 : decode cX11_readStep 29 = .ok (.getfield 160, 3) := by decide +kernel
theorem dX11_readStep_32 : decode cX11_readStep 32 = .ok (.imul, 1) := by decide +kernel
theorem dX11_readStep_33 : decode cX11_readStep 33 = .ok (.iload_n 1, 1) := by decide +kernel
theorem dX11_readStep_34 : decode cX11_readStep 34 = .ok (.iadd, 1) := by decide +kernel
theorem dX11_readStep_35 : decode cX11_readStep 35 = .ok (.istore_n 2, 1) := by decide +kernel
theorem dX11_readStep_36 : decode cX11_readStep 36 = .ok (.aload_n 0, 1) := by decide +kernel
theorem dX11_readStep_37 : decode cX11_readStep 37 = .ok (.getfield 190, 3) := by decide +kernel
theorem dX11_readStep_40 : decode cX11_readStep 40 = .ok (.istore_n 3, 1) := by decide +kernel
theorem dX11_readStep_41 : decode cX11_readStep 41 = .ok (.aload_n 0, 1) := by decide +kernel
theorem dX11_readStep_42 : decode cX11_readStep 42 = .ok (.invokevirtual 208, 3) := by decide +kernel
theorem dX11_readStep_45 : decode cX11_readStep 45 = .ok (.aload_n 0, 1) := by decide +kernel
theorem dX11_readStep_46 : decode cX11_readStep 46 = .ok (.getfield 13, 3) := by decide +kernel
theorem dX11_readStep_49 : decode cX11_readStep 49 = .ok (.iload_n 2, 1) := by decide +kernel
theorem dX11_readStep_50 : decode cX11_readStep 50 = .ok (.iload_n 3, 1) := by decide +kernel
theorem dX11_readStep_51 : decode cX11_readStep 51 = .ok (.ifCond .ne 7, 3) := by decide +kernel
theorem dX11_readStep_54 : decode cX11_readStep 54 = .ok (.iconst 1, 1) := by decide +kernel
theorem dX11_readStep_55 : decode cX11_readStep 55 = .ok (.goto 67, 3) := by decide +kernel
theorem dX11_readStep_58 : decode cX11_readStep 58 = .ok (.iload_n 3, 1) := by decide +kernel
theorem dX11_readStep_59 : decode cX11_readStep 59 = .ok (.iconst 1, 1) := by decide +kernel
theorem dX11_readStep_60 : decode cX11_readStep 60 = .ok (.if_icmp .eq 8, 3) := by decide +kernel
theorem dX11_readStep_63 : decode cX11_readStep 63 = .ok (.iload_n 3, 1) := by decide +kernel
theorem dX11_readStep_64 : decode cX11_readStep 64 = .ok (.iconst 2, 1) := by decide +kernel
theorem dX11_readStep_65 : decode cX11_readStep 65 = .ok (.if_icmp .ne 7, 3) := by decide +kernel
theorem dX11_readStep_68 : decode cX11_readStep 68 = .ok (.iconst 2, 1) := by decide +kernel
theorem dX11_readStep_69 : decode cX11_readStep 69 = .ok (.goto 53, 3) := by decide +kernel
theorem dX11_readStep_72 : decode cX11_readStep 72 = .ok (.iload_n 3, 1) := by decide +kernel
