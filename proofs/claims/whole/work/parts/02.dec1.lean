theorem dX4_include_5 : decode cX4_include 5 = .ok (.istore_n 2, 1) := by decide +kernel
theorem dX4_include_6 : decode cX4_include 6 = .ok (.iload_n 2, 1) := by decide +kernel
theorem dX4_include_7 : decode cX4_include 7 = .ok (.aload_n 0, 1) := by decide +kernel
theorem dX4_include_8 : decode cX4_include 8 = .ok (.getfield 19, 3) := by decide +kernel
theorem dX4_include_11 : decode cX4_include 11 = .ok (.if_icmp .ge 13, 3) := by decide +kernel
theorem dX4_include_14 : decode cX4_include 14 = .ok (.aload_n 0, 1) := by decide +kernel
theorem dX4_include_15 : decode cX4_include 15 = .ok (.getfield 13, 3) := by decide +kernel
theorem dX4_include_18 : decode cX4_include 18 = .ok (.iload_n 2, 1) := by decide +kernel
theorem dX4_include_19 : decode cX4_include 19 = .ok (.iaload, 1) := by decide +kernel
theorem dX4_include_20 : decode cX4_include 20 = .ok (.iload_n 1, 1) := by decide +kernel
theorem dX4_include_21 : decode cX4_include 21 = .ok (.if_icmp .eq 15, 3) := by decide +kernel
theorem dX4_include_24 : decode cX4_include 24 = .ok (.aload_n 0, 1) := by decide +kernel
theorem dX4_include_25 : decode cX4_include 25 = .ok (.getfield 19, 3) := by decide +kernel
theorem dX4_include_28 : decode cX4_include 28 = .ok (.aload_n 0, 1) := by decide +kernel
theorem dX4_include_29 : decode cX4_include 29 = .ok (.getfield 13, 3) := by decide +kernel
theorem dX4_include_32 : decode cX4_include 32 = .ok (.arraylength, 1) := by decide +kernel
theorem dX4_include_33 : decode cX4_include 33 = .ok (.if_icmp .lt 4, 3) := by decide +kernel
theorem dX4_include_36 : decode cX4_include 36 = .ok (.return_, 1) := by decide +kernel
theorem dX4_include_37 : decode cX4_include 37 = .ok (.aload_n 0, 1) := by decide +kernel
theorem dX4_include_38 : decode cX4_include 38 = .ok (.getfield 13, 3) := by decide +kernel
theorem dX4_include_41 : decode cX4_include 41 = .ok (.iload_n 2, 1) := by decide +kernel
theorem dX4_include_42 : decode cX4_include 42 = .ok (.aload_n 0, 1) := by decide +kernel
theorem dX4_include_43 : decode cX4_include 43 = .ok (.getfield 13, 3) := by decide +kernel
theorem dX4_include_46 : decode cX4_include 46 = .ok (.iload_n 2, 1) := by decide +kernel
theorem dX4_include_47 : decode cX4_include 47 = .ok (.iconst 1, 1) := by decide +kernel
theorem dX4_include_48 : decode cX4_include 48 = .ok (.iadd, 1) := by decide +kernel
theorem dX4_include_49 : decode cX4_include 49 = .ok (.aload_n 0, 1) := by decide +kernel
theorem dX4_include_50 : decode cX4_include 50 = .ok (.getfield 19, 3) := by decide +kernel
theorem dX4_include_53 : decode cX4_include 53 = .ok (.iload_n 2, 1) := by decide +kernel
theorem dX4_include_54 : decode cX4_include 54 = .ok (.isub, 1) := by decide +kernel
theorem dX4_include_55 : decode cX4_include 55 = .ok (.invokestatic 27, 3) := by decide +kernel
theorem dX4_include_58 : decode cX4_include 58 = .ok (.aload_n 0, 1) := by decide +kernel
theorem dX4_include_59 : decode cX4_include 59 = .ok (.getfield 13, 3) := by decide +kernel
theorem dX4_include_62 : decode cX4_include 62 = .ok (.iload_n 2, 1) := by decide +kernel
theorem dX4_include_63 : decode cX4_include 63 = .ok (.iload_n 1, 1) := by decide +kernel
theorem dX4_include_64 : decode cX4_include 64 = .ok (.iastore, 1) := by decide +kernel
theorem dX4_include_65 : decode cX4_include 65 = .ok (.aload_n 0, 1) := by decide +kernel
theorem dX4_include_66 : decode cX4_include 66 = .ok (.dup, 1) := by decide +kernel
theorem dX4_include_67 : decode cX4_include 67 = .ok (.getfield 19, 3) := by decide +kernel
theorem dX4_include_70 : decode cX4_include 70 = .ok (.iconst 1, 1) := by decide +kernel
theorem dX4_include_71 : decode cX4_include 71 = .ok (.iadd, 1) := by decide +kernel
theorem dX4_include_72 : decode cX4_include 72 = .ok (.putfield 19, 3) := by decide +kernel
theorem dX4_include_75 : decode cX4_include 75 = .ok (.return_, 1) := by decide +kernel
theorem dX5_init_0 : decode cX5_init 0 = .ok (.aload_n 0, 1) := by decide +kernel
theorem dX5_init_1 : decode cX5_init 1 = .ok (.invokespecial 3, 3) := by decide +kernel
theorem dX5_init_4 : decode cX5_init 4 = .ok (.aload_n 0, 1) := by decide +kernel
theorem dX5_init_5 : decode cX5_init 5 = .ok (.bipush 6, 2) := by decide +kernel
theorem dX5_init_7 : decode cX5_init 7 = .ok (.newarray .int, 2) := by decide +kernel
theorem dX5_init_9 : decode cX5_init 9 = .ok (.putfield 9, 3) := by decide +kernel
theorem dX5_init_12 : decode cX5_init 12 = .ok (.aload_n 0, 1) := by decide +kernel
theorem dX5_init_13 : decode cX5_init 13 = .ok (.sipush 210, 3) := by decide +kernel
theorem dX5_init_16 : decode cX5_init 16 = .ok (.newarray .int, 2) := by decide +kernel
theorem dX5_init_18 : decode cX5_init 18 = .ok (.putfield 15, 3) := by decide +kernel
theorem dX5_init_21 : decode cX5_init 21 = .ok (.aload_n 0, 1) := by decide +kernel
theorem dX5_init_22 : decode cX5_init 22 = .ok (.iconst 3, 1) := by decide +kernel
theorem dX5_init_23 : decode cX5_init 23 = .ok (.newarray .int, 2) := by decide +kernel
theorem dX5_init_25 : decode cX5_init 25 = .ok (.putfield 18, 3) := by decide +kernel
theorem dX5_init_28 : decode cX5_init 28 = .ok (.aload_n 0, 1) := by decide +kernel
theorem dX5_init_29 : decode cX5_init 29 = .ok (.iconst 3, 1) := by decide +kernel
theorem dX5_init_30 : decode cX5_init 30 = .ok (.newarray .int, 2) := by decide +kernel
theorem dX5_init_32 : decode cX5_init 32 = .ok (.putfield 21, 3) := by decide +kernel
theorem dX5_init_35 : decode cX5_init 35 = .ok (.aload_n 0, 1) := by decide +kernel
theorem dX5_init_36 : decode cX5_init 36 = .ok (.iconst 3, 1) := by decide +kernel
theorem dX5_init_37 : decode cX5_init 37 = .ok (.newarray .int, 2) := by decide +kernel
theorem dX5_init_39 : decode cX5_init 39 = .ok (.putfield 24, 3) := by decide +kernel
theorem dX5_init_42 : decode cX5_init 42 = .ok (.return_, 1) := by decide +kernel
theorem dX5_hasCall_0 : decode cX5_hasCall 0 = .ok (.iload_n 1, 1) := by decide +kernel
theorem dX5_hasCall_1 : decode cX5_hasCall 1 = .ok (.ifCond .lt 15, 3) := by decide +kernel
theorem dX5_hasCall_4 : decode cX5_hasCall 4 = .ok (.iload_n 1, 1) := by decide +kernel
theorem dX5_hasCall_5 : decode cX5_hasCall 5 = .ok (.aload_n 0, 1) := by decide +kernel
theorem dX5_hasCall_6 : decode cX5_hasCall 6 = .ok (.getfield 27, 3) := by decide +kernel
theorem dX5_hasCall_9 : decode cX5_hasCall 9 = .ok (.if_icmp .ge 7, 3) := by decide +kernel
theorem dX5_hasCall_12 : decode cX5_hasCall 12 = .ok (.iconst 1, 1) := by decide +kernel
theorem dX5_hasCall_13 : decode cX5_hasCall 13 = .ok (.goto 4, 3) := by decide +kernel
theorem dX5_hasCall_16 : decode cX5_hasCall 16 = .ok (.iconst 0, 1) := by decide +kernel
theorem dX5_hasCall_17 : decode cX5_hasCall 17 = .ok (.ireturn, 1) := by decide +kernel
theorem dX5_hasStep_0 : decode cX5_hasStep 0 = .ok (.aload_n 0, 1) := by decide +kernel
theorem dX5_hasStep_1 : decode cX5_hasStep 1 = .ok (.iload_n 1, 1) := by decide +kernel
theorem dX5_hasStep_2 : decode cX5_hasStep 2 = .ok (.invokevirtual 31, 3) := by decide +kernel
theorem dX5_hasStep_5 : decode cX5_hasStep 5 = .ok (.ifCond .eq 21, 3) := by decide +kernel
theorem dX5_hasStep_8 : decode cX5_hasStep 8 = .ok (.iload_n 2, 1) := by decide +kernel
theorem dX5_hasStep_9 : decode cX5_hasStep 9 = .ok (.ifCond .lt 17, 3) := by decide +kernel
theorem dX5_hasStep_12 : decode cX5_hasStep 12 = .ok (.iload_n 2, 1) := by decide +kernel
theorem dX5_hasStep_13 : decode cX5_hasStep 13 = .ok (.aload_n 0, 1) := by decide +kernel
theorem dX5_hasStep_14 : decode cX5_hasStep 14 = .ok (.getfield 9, 3) := by decide +kernel
theorem dX5_hasStep_17 : decode cX5_hasStep 17 = .ok (.iload_n 1, 1) := by decide +kernel
theorem dX5_hasStep_18 : decode cX5_hasStep 18 = .ok (.iaload, 1) := by decide +kernel
theorem dX5_hasStep_19 : decode cX5_hasStep 19 = .ok (.if_icmp .ge 7, 3) := by decide +kernel
theorem dX5_hasStep_22 : decode cX5_hasStep 22 = .ok (.iconst 1, 1) := by decide +kernel
theorem dX5_hasStep_23 : decode cX5_hasStep 23 = .ok (.goto 4, 3) := by decide +kernel
theorem dX5_hasStep_26 : decode cX5_hasStep 26 = .ok (.iconst 0, 1) := by decide +kernel
theorem dX5_hasStep_27 : decode cX5_hasStep 27 = .ok (.ireturn, 1) := by decide +kernel
theorem dX5_partOf_0 : decode cX5_partOf 0 = .ok (.aload_n 0, 1) := by decide +kernel
theorem dX5_partOf_1 : decode cX5_partOf 1 = .ok (.getfield 15, 3) := by decide +kernel
theorem dX5_partOf_4 : decode cX5_partOf 4 = .ok (.iload_n 1, 1) := by decide +kernel
theorem dX5_partOf_5 : decode cX5_partOf 5 = .ok (.bipush 7, 2) := by decide +kernel
theorem dX5_partOf_7 : decode cX5_partOf 7 = .ok (.imul, 1) := by decide +kernel
theorem dX5_partOf_8 : decode cX5_partOf 8 = .ok (.iload_n 2, 1) := by decide +kernel
theorem dX5_partOf_9 : decode cX5_partOf 9 = .ok (.iadd, 1) := by decide +kernel
theorem dX5_partOf_10 : decode cX5_partOf 10 = .ok (.iconst 5, 1) := by decide +kernel
theorem dX5_partOf_11 : decode cX5_partOf 11 = .ok (.imul, 1) := by decide +kernel
theorem dX5_partOf_12 : decode cX5_partOf 12 = .ok (.iload_n 3, 1) := by decide +kernel
theorem dX5_partOf_13 : decode cX5_partOf 13 = .ok (.iadd, 1) := by decide +kernel
theorem dX5_partOf_14 : decode cX5_partOf 14 = .ok (.iaload, 1) := by decide +kernel
theorem dX5_partOf_15 : decode cX5_partOf 15 = .ok (.ireturn, 1) := by decide +kernel
theorem dX5_putPart_0 : decode cX5_putPart 0 = .ok (.aload_n 0, 1) := by decide +kernel
theorem dX5_putPart_1 : decode cX5_putPart 1 = .ok (.getfield 15, 3) := by decide +kernel
theorem dX5_putPart_4 : decode cX5_putPart 4 = .ok (.iload_n 1, 1) := by decide +kernel
theorem dX5_putPart_5 : decode cX5_putPart 5 = .ok (.bipush 7, 2) := by decide +kernel
theorem dX5_putPart_7 : decode cX5_putPart 7 = .ok (.imul, 1) := by decide +kernel
theorem dX5_putPart_8 : decode cX5_putPart 8 = .ok (.iload_n 2, 1) := by decide +kernel
theorem dX5_putPart_9 : decode cX5_putPart 9 = .ok (.iadd, 1) := by decide +kernel
theorem dX5_putPart_10 : decode cX5_putPart 10 = .ok (.iconst 5, 1) := by decide +kernel
theorem dX5_putPart_11 : decode cX5_putPart 11 = .ok (.imul, 1) := by decide +kernel
theorem dX5_putPart_12 : decode cX5_putPart 12 = .ok (.iload_n 3, 1) := by decide +kernel
theorem dX5_putPart_13 : decode cX5_putPart 13 = .ok (.iadd, 1) := by decide +kernel
theorem dX5_putPart_14 : decode cX5_putPart 14 = .ok (.iload 4, 2) := by decide +kernel
theorem dX5_putPart_16 : decode cX5_putPart 16 = .ok (.iastore, 1) := by decide +kernel
theorem dX5_putPart_17 : decode cX5_putPart 17 = .ok (.return_, 1) := by decide +kernel
theorem dX5_changeablePart_0 : decode cX5_changeablePart 0 = .ok (.aload_n 0, 1) := by decide +kernel
theorem dX5_changeablePart_1 : decode cX5_changeablePart 1 = .ok (.iload_n 1, 1) := by decide +kernel
theorem dX5_changeablePart_2 : decode cX5_changeablePart 2 = .ok (.iload_n 2, 1) := by decide +kernel
theorem dX5_changeablePart_3 : decode cX5_changeablePart 3 = .ok (.iconst 0, 1) := by decide +kernel
theorem dX5_changeablePart_4 : decode cX5_changeablePart 4 = .ok (.invokevirtual 35, 3) := by decide +kernel
theorem dX5_changeablePart_7 : decode cX5_changeablePart 7 = .ok (.tableswitch 57 2 7 #[41, 37, 39, 57, 57, 39], 37) := by decide +kernel
theorem dX5_changeablePart_44 : decode cX5_changeablePart 44 = .ok (.iconst 3, 1) := by decide +kernel
theorem dX5_changeablePart_45 : decode cX5_changeablePart 45 = .ok (.ireturn, 1) := by decide +kernel
theorem dX5_changeablePart_46 : decode cX5_changeablePart 46 = .ok (.iconst 2, 1) := by decide +kernel
theorem dX5_changeablePart_47 : decode cX5_changeablePart 47 = .ok (.ireturn, 1) := by decide +kernel
theorem dX5_changeablePart_48 : decode cX5_changeablePart 48 = .ok (.aload_n 0, 1) := by decide +kernel
theorem dX5_changeablePart_49 : decode cX5_changeablePart 49 = .ok (.iload_n 1, 1) := by decide +kernel
theorem dX5_changeablePart_50 : decode cX5_changeablePart 50 = .ok (.iload_n 2, 1) := by decide +kernel
theorem dX5_changeablePart_51 : decode cX5_changeablePart 51 = .ok (.iconst 2, 1) := by decide +kernel
theorem dX5_changeablePart_52 : decode cX5_changeablePart 52 = .ok (.invokevirtual 35, 3) := by decide +kernel
theorem dX5_changeablePart_55 : decode cX5_changeablePart 55 = .ok (.ifCond .ge 7, 3) := by decide +kernel
theorem dX5_changeablePart_58 : decode cX5_changeablePart 58 = .ok (.iconst (-1), 1) := by decide +kernel
theorem dX5_changeablePart_59 : decode cX5_changeablePart 59 = .ok (.goto 4, 3) := by decide +kernel
theorem dX5_changeablePart_62 : decode cX5_changeablePart 62 = .ok (.iconst 2, 1) := by decide +kernel
theorem dX5_changeablePart_63 : decode cX5_changeablePart 63 = .ok (.ireturn, 1) := by decide +kernel
theorem dX5_changeablePart_64 : decode cX5_changeablePart 64 = .ok (.iconst (-1), 1) := by decide +kernel
theorem dX5_changeablePart_65 : decode cX5_changeablePart 65 = .ok (.ireturn, 1) := by decide +kernel
theorem dX5_isDone_0 : decode cX5_isDone 0 = .ok (.iconst 0, 1) := by decide +kernel
theorem dX5_isDone_1 : decode cX5_isDone 1 = .ok (.istore_n 2, 1) := by decide +kernel
theorem dX5_isDone_2 : decode cX5_isDone 2 = .ok (.iload_n 2, 1) := by decide +kernel
theorem dX5_isDone_3 : decode cX5_isDone 3 = .ok (.aload_n 0, 1) := by decide +kernel
theorem dX5_isDone_4 : decode cX5_isDone 4 = .ok (.getfield 39, 3) := by decide +kernel
theorem dX5_isDone_7 : decode cX5_isDone 7 = .ok (.if_icmp .ge 31, 3) := by decide +kernel
theorem dX5_isDone_10 : decode cX5_isDone 10 = .ok (.aload_n 0, 1) := by decide +kernel
theorem dX5_isDone_11 : decode cX5_isDone 11 = .ok (.getfield 18, 3) := by decide +kernel
theorem dX5_isDone_14 : decode cX5_isDone 14 = .ok (.iload_n 2, 1) := by decide +kernel
theorem dX5_isDone_15 : decode cX5_isDone 15 = .ok (.iaload, 1) := by decide +kernel
theorem dX5_isDone_16 : decode cX5_isDone 16 = .ok (.iload_n 1, 1) := by decide +kernel
theorem dX5_isDone_17 : decode cX5_isDone 17 = .ok (.if_icmp .eq 13, 3) := by decide +kernel
theorem dX5_isDone_20 : decode cX5_isDone 20 = .ok (.aload_n 0, 1) := by decide +kernel
theorem dX5_isDone_21 : decode cX5_isDone 21 = .ok (.getfield 21, 3) := by decide +kernel
theorem dX5_isDone_24 : decode cX5_isDone 24 = .ok (.iload_n 2, 1) := by decide +kernel
theorem dX5_isDone_25 : decode cX5_isDone 25 = .ok (.iaload, 1) := by decide +kernel
theorem dX5_isDone_26 : decode cX5_isDone 26 = .ok (.iload_n 1, 1) := by decide +kernel
theorem dX5_isDone_27 : decode cX5_isDone 27 = .ok (.if_icmp .ne 5, 3) := by decide +kernel
theorem dX5_isDone_30 : decode cX5_isDone 30 = .ok (.iconst 1, 1) := by decide +kernel
theorem dX5_isDone_31 : decode cX5_isDone 31 = .ok (.ireturn, 1) := by decide +kernel
theorem dX5_isDone_32 : decode cX5_isDone 32 = .ok (.iinc 2 1, 3) := by decide +kernel
theorem dX5_isDone_35 : decode cX5_isDone 35 = .ok (.goto (-33), 3) := by decide +kernel
theorem dX5_isDone_38 : decode cX5_isDone 38 = .ok (.iconst 0, 1) := by decide +kernel
theorem dX5_isDone_39 : decode cX5_isDone 39 = .ok (.ireturn, 1) := by decide +kernel
theorem dX5_takeFrom_0 : decode cX5_takeFrom 0 = .ok (.aload_n 0, 1) := by decide +kernel
theorem dX5_takeFrom_1 : decode cX5_takeFrom 1 = .ok (.aload_n 1, 1) := by decide +kernel
theorem dX5_takeFrom_2 : decode cX5_takeFrom 2 = .ok (.getfield 27, 3) := by decide +kernel
theorem dX5_takeFrom_5 : decode cX5_takeFrom 5 = .ok (.putfield 27, 3) := by decide +kernel
theorem dX5_takeFrom_8 : decode cX5_takeFrom 8 = .ok (.aload_n 0, 1) := by decide +kernel
theorem dX5_takeFrom_9 : decode cX5_takeFrom 9 = .ok (.aload_n 1, 1) := by decide +kernel
theorem dX5_takeFrom_10 : decode cX5_takeFrom 10 = .ok (.getfield 39, 3) := by decide +kernel
theorem dX5_takeFrom_13 : decode cX5_takeFrom 13 = .ok (.putfield 39, 3) := by decide +kernel
theorem dX5_takeFrom_16 : decode cX5_takeFrom 16 = .ok (.aload_n 0, 1) := by decide +kernel
theorem dX5_takeFrom_17 : decode cX5_takeFrom 17 = .ok (.aload_n 1, 1) := by decide +kernel
theorem dX5_takeFrom_18 : decode cX5_takeFrom 18 = .ok (.getfield 42, 3) := by decide +kernel
theorem dX5_takeFrom_21 : decode cX5_takeFrom 21 = .ok (.putfield 42, 3) := by decide +kernel
theorem dX5_takeFrom_24 : decode cX5_takeFrom 24 = .ok (.aload_n 1, 1) := by decide +kernel
theorem dX5_takeFrom_25 : decode cX5_takeFrom 25 = .ok (.getfield 9, 3) := by decide +kernel
theorem dX5_takeFrom_28 : decode cX5_takeFrom 28 = .ok (.iconst 0, 1) := by decide +kernel
theorem dX5_takeFrom_29 : decode cX5_takeFrom 29 = .ok (.aload_n 0, 1) := by decide +kernel
theorem dX5_takeFrom_30 : decode cX5_takeFrom 30 = .ok (.getfield 9, 3) := by decide +kernel
theorem dX5_takeFrom_33 : decode cX5_takeFrom 33 = .ok (.iconst 0, 1) := by decide +kernel
theorem dX5_takeFrom_34 : decode cX5_takeFrom 34 = .ok (.bipush 6, 2) := by decide +kernel
theorem dX5_takeFrom_36 : decode cX5_takeFrom 36 = .ok (.invokestatic 45, 3) := by decide +kernel
theorem dX5_takeFrom_39 : decode cX5_takeFrom 39 = .ok (.aload_n 1, 1) := by decide +kernel
theorem dX5_takeFrom_40 : decode cX5_takeFrom 40 = .ok (.getfield 15, 3) := by decide +kernel
theorem dX5_takeFrom_43 : decode cX5_takeFrom 43 = .ok (.iconst 0, 1) := by decide +kernel
theorem dX5_takeFrom_44 : decode cX5_takeFrom 44 = .ok (.aload_n 0, 1) := by decide +kernel
theorem dX5_takeFrom_45 : decode cX5_takeFrom 45 = .ok (.getfield 15, 3) := by decide +kernel
theorem dX5_takeFrom_48 : decode cX5_takeFrom 48 = .ok (.iconst 0, 1) := by decide +kernel
theorem dX5_takeFrom_49 : decode cX5_takeFrom 49 = .ok (.aload_n 0, 1) := by decide +kernel
theorem dX5_takeFrom_50 : decode cX5_takeFrom 50 = .ok (.getfield 15, 3) := by decide +kernel
theorem dX5_takeFrom_53 : decode cX5_takeFrom 53 = .ok (.arraylength, 1) := by decide +kernel
theorem dX5_takeFrom_54 : decode cX5_takeFrom 54 = .ok (.invokestatic 45, 3) := by decide +kernel
theorem dX5_takeFrom_57 : decode cX5_takeFrom 57 = .ok (.aload_n 1, 1) := by decide +kernel
theorem dX5_takeFrom_58 : decode cX5_takeFrom 58 = .ok (.getfield 18, 3) := by decide +kernel
theorem dX5_takeFrom_61 : decode cX5_takeFrom 61 = .ok (.iconst 0, 1) := by decide +kernel
theorem dX5_takeFrom_62 : decode cX5_takeFrom 62 = .ok (.aload_n 0, 1) := by decide +kernel
theorem dX5_takeFrom_63 : decode cX5_takeFrom 63 = .ok (.getfield 18, 3) := by decide +kernel
theorem dX5_takeFrom_66 : decode cX5_takeFrom 66 = .ok (.iconst 0, 1) := by decide +kernel
theorem dX5_takeFrom_67 : decode cX5_takeFrom 67 = .ok (.iconst 3, 1) := by decide +kernel
theorem dX5_takeFrom_68 : decode cX5_takeFrom 68 = .ok (.invokestatic 45, 3) := by decide +kernel
theorem dX5_takeFrom_71 : decode cX5_takeFrom 71 = .ok (.aload_n 1, 1) := by decide +kernel
theorem dX5_takeFrom_72 : decode cX5_takeFrom 72 = .ok (.getfield 21, 3) := by decide +kernel
theorem dX5_takeFrom_75 : decode cX5_takeFrom 75 = .ok (.iconst 0, 1) := by decide +kernel
theorem dX5_takeFrom_76 : decode cX5_takeFrom 76 = .ok (.aload_n 0, 1) := by decide +kernel
theorem dX5_takeFrom_77 : decode cX5_takeFrom 77 = .ok (.getfield 21, 3) := by decide +kernel
theorem dX5_takeFrom_80 : decode cX5_takeFrom 80 = .ok (.iconst 0, 1) := by decide +kernel
theorem dX5_takeFrom_81 : decode cX5_takeFrom 81 = .ok (.iconst 3, 1) := by decide +kernel
theorem dX5_takeFrom_82 : decode cX5_takeFrom 82 = .ok (.invokestatic 45, 3) := by decide +kernel
theorem dX5_takeFrom_85 : decode cX5_takeFrom 85 = .ok (.aload_n 1, 1) := by decide +kernel
theorem dX5_takeFrom_86 : decode cX5_takeFrom 86 = .ok (.getfield 24, 3) := by decide +kernel
theorem dX5_takeFrom_89 : decode cX5_takeFrom 89 = .ok (.iconst 0, 1) := by decide +kernel
theorem dX5_takeFrom_90 : decode cX5_takeFrom 90 = .ok (.aload_n 0, 1) := by decide +kernel
theorem dX5_takeFrom_91 : decode cX5_takeFrom 91 = .ok (.getfield 24, 3) := by decide +kernel
theorem dX5_takeFrom_94 : decode cX5_takeFrom 94 = .ok (.iconst 0, 1) := by decide +kernel
theorem dX5_takeFrom_95 : decode cX5_takeFrom 95 = .ok (.iconst 3, 1) := by decide +kernel
theorem dX5_takeFrom_96 : decode cX5_takeFrom 96 = .ok (.invokestatic 45, 3) := by decide +kernel
theorem dX5_takeFrom_99 : decode cX5_takeFrom 99 = .ok (.return_, 1) := by decide +kernel
theorem dX6_init_0 : decode cX6_init 0 = .ok (.aload_n 0, 1) := by decide +kernel
theorem dX6_init_1 : decode cX6_init 1 = .ok (.invokespecial 3, 3) := by decide +kernel
theorem dX6_init_4 : decode cX6_init 4 = .ok (.aload_n 0, 1) := by decide +kernel
theorem dX6_init_5 : decode cX6_init 5 = .ok (.bipush 40, 2) := by decide +kernel
theorem dX6_init_7 : decode cX6_init 7 = .ok (.newarray .long, 2) := by decide +kernel
theorem dX6_init_9 : decode cX6_init 9 = .ok (.putfield 9, 3) := by decide +kernel
theorem dX6_init_12 : decode cX6_init 12 = .ok (.return_, 1) := by decide +kernel
theorem dX6_begin_0 : decode cX6_begin 0 = .ok (.aload_n 0, 1) := by decide +kernel
theorem dX6_begin_1 : decode cX6_begin 1 = .ok (.iload_n 1, 1) := by decide +kernel
theorem dX6_begin_2 : decode cX6_begin 2 = .ok (.putfield 15, 3) := by decide +kernel
theorem dX6_begin_5 : decode cX6_begin 5 = .ok (.aload_n 0, 1) := by decide +kernel
theorem dX6_begin_6 : decode cX6_begin 6 = .ok (.iload_n 2, 1) := by decide +kernel
theorem dX6_begin_7 : decode cX6_begin 7 = .ok (.putfield 19, 3) := by decide +kernel
theorem dX6_begin_10 : decode cX6_begin 10 = .ok (.aload_n 0, 1) := by decide +kernel
theorem dX6_begin_11 : decode cX6_begin 11 = .ok (.getfield 9, 3) := by decide +kernel
theorem dX6_begin_14 : decode cX6_begin 14 = .ok (.lconst 0, 1) := by decide +kernel
theorem dX6_begin_15 : decode cX6_begin 15 = .ok (.invokestatic 22, 3) := by decide +kernel
theorem dX6_begin_18 : decode cX6_begin 18 = .ok (.return_, 1) := by decide +kernel
theorem dX6_put_0 : decode cX6_put 0 = .ok (.aload_n 0, 1) := by decide +kernel
theorem dX6_put_1 : decode cX6_put 1 = .ok (.getfield 9, 3) := by decide +kernel
theorem dX6_put_4 : decode cX6_put 4 = .ok (.iload_n 1, 1) := by decide +kernel
theorem dX6_put_5 : decode cX6_put 5 = .ok (.aload_n 0, 1) := by decide +kernel
theorem dX6_put_6 : decode cX6_put 6 = .ok (.getfield 15, 3) := by decide +kernel
theorem dX6_put_9 : decode cX6_put 9 = .ok (.bipush 8, 2) := by decide +kernel
theorem dX6_put_11 : decode cX6_put 11 = .ok (.if_icmp .ne 10, 3) := by decide +kernel
theorem dX6_put_14 : decode cX6_put 14 = .ok (.lload_n 2, 1) := by decide +kernel
theorem dX6_put_15 : decode cX6_put 15 = .ok (.l2i, 1) := by decide +kernel
theorem dX6_put_16 : decode cX6_put 16 = .ok (.i2b, 1) := by decide +kernel
theorem dX6_put_17 : decode cX6_put 17 = .ok (.i2l, 1) := by decide +kernel
theorem dX6_put_18 : decode cX6_put 18 = .ok (.goto 20, 3) := by decide +kernel
theorem dX6_put_21 : decode cX6_put 21 = .ok (.aload_n 0, 1) := by decide +kernel
theorem dX6_put_22 : decode cX6_put 22 = .ok (.getfield 15, 3) := by decide +kernel
theorem dX6_put_25 : decode cX6_put 25 = .ok (.bipush 16, 2) := by decide +kernel
theorem dX6_put_27 : decode cX6_put 27 = .ok (.if_icmp .ne 10, 3) := by decide +kernel
theorem dX6_put_30 : decode cX6_put 30 = .ok (.lload_n 2, 1) := by decide +kernel
theorem dX6_put_31 : decode cX6_put 31 = .ok (.l2i, 1) := by decide +kernel
theorem dX6_put_32 : decode cX6_put 32 = .ok (.i2s, 1) := by decide +kernel
theorem dX6_put_33 : decode cX6_put 33 = .ok (.i2l, 1) := by decide +kernel
theorem dX6_put_34 : decode cX6_put 34 = .ok (.goto 4, 3) := by decide +kernel
theorem dX6_put_37 : decode cX6_put 37 = .ok (.lload_n 2, 1) := by decide +kernel
theorem dX6_put_38 : decode cX6_put 38 = .ok (.lastore, 1) := by decide +kernel
theorem dX6_put_39 : decode cX6_put 39 = .ok (.return_, 1) := by decide +kernel
theorem dX6_hasRange_0 : decode cX6_hasRange 0 = .ok (.iload_n 1, 1) := by decide +kernel
theorem dX6_hasRange_1 : decode cX6_hasRange 1 = .ok (.ifCond .lt 29, 3) := by decide +kernel
theorem dX6_hasRange_4 : decode cX6_hasRange 4 = .ok (.iload_n 2, 1) := by decide +kernel
theorem dX6_hasRange_5 : decode cX6_hasRange 5 = .ok (.ifCond .lt 25, 3) := by decide +kernel
theorem dX6_hasRange_8 : decode cX6_hasRange 8 = .ok (.iload_n 2, 1) := by decide +kernel
theorem dX6_hasRange_9 : decode cX6_hasRange 9 = .ok (.aload_n 0, 1) := by decide +kernel
theorem dX6_hasRange_10 : decode cX6_hasRange 10 = .ok (.getfield 19, 3) := by decide +kernel
theorem dX6_hasRange_13 : decode cX6_hasRange 13 = .ok (.if_icmp .gt 17, 3) := by decide +kernel
theorem dX6_hasRange_16 : decode cX6_hasRange 16 = .ok (.iload_n 1, 1) := by decide +kernel
theorem dX6_hasRange_17 : decode cX6_hasRange 17 = .ok (.aload_n 0, 1) := by decide +kernel
theorem dX6_hasRange_18 : decode cX6_hasRange 18 = .ok (.getfield 19, 3) := by decide +kernel
theorem dX6_hasRange_21 : decode cX6_hasRange 21 = .ok (.iload_n 2, 1) := by decide +kernel
theorem dX6_hasRange_22 : decode cX6_hasRange 22 = .ok (.isub, 1) := by decide +kernel
theorem dX6_hasRange_23 : decode cX6_hasRange 23 = .ok (.if_icmp .gt 7, 3) := by decide +kernel
theorem dX6_hasRange_26 : decode cX6_hasRange 26 = .ok (.iconst 1, 1) := by decide +kernel
theorem dX6_hasRange_27 : decode cX6_hasRange 27 = .ok (.goto 4, 3) := by decide +kernel
theorem dX6_hasRange_30 : decode cX6_hasRange 30 = .ok (.iconst 0, 1) := by decide +kernel
theorem dX6_hasRange_31 : decode cX6_hasRange 31 = .ok (.ireturn, 1) := by decide +kernel
theorem dX7_init_0 : decode cX7_init 0 = .ok (.aload_n 0, 1) := by decide +kernel
theorem dX7_init_1 : decode cX7_init 1 = .ok (.invokespecial 3, 3) := by decide +kernel
theorem dX7_init_4 : decode cX7_init 4 = .ok (.aload_n 0, 1) := by decide +kernel
theorem dX7_init_5 : decode cX7_init 5 = .ok (.new 9, 3) := by decide +kernel
theorem dX7_init_8 : decode cX7_init 8 = .ok (.dup, 1) := by decide +kernel
theorem dX7_init_9 : decode cX7_init 9 = .ok (.invokespecial 11, 3) := by decide +kernel
theorem dX7_init_12 : decode cX7_init 12 = .ok (.putfield 12, 3) := by decide +kernel
theorem dX7_init_15 : decode cX7_init 15 = .ok (.aload_n 0, 1) := by decide +kernel
theorem dX7_init_16 : decode cX7_init 16 = .ok (.new 18, 3) := by decide +kernel
theorem dX7_init_19 : decode cX7_init 19 = .ok (.dup, 1) := by decide +kernel
theorem dX7_init_20 : decode cX7_init 20 = .ok (.invokespecial 20, 3) := by decide +kernel
theorem dX7_init_23 : decode cX7_init 23 = .ok (.putfield 21, 3) := by decide +kernel
theorem dX7_init_26 : decode cX7_init 26 = .ok (.aload_n 0, 1) := by decide +kernel
theorem dX7_init_27 : decode cX7_init 27 = .ok (.new 25, 3) := by decide +kernel
theorem dX7_init_30 : decode cX7_init 30 = .ok (.dup, 1) := by decide +kernel
theorem dX7_init_31 : decode cX7_init 31 = .ok (.invokespecial 27, 3) := by decide +kernel
theorem dX7_init_34 : decode cX7_init 34 = .ok (.putfield 28, 3) := by decide +kernel
theorem dX7_init_37 : decode cX7_init 37 = .ok (.aload_n 0, 1) := by decide +kernel
theorem dX7_init_38 : decode cX7_init 38 = .ok (.new 32, 3) := by decide +kernel
theorem dX7_init_41 : decode cX7_init 41 = .ok (.dup, 1) := by decide +kernel
theorem dX7_init_42 : decode cX7_init 42 = .ok (.sipush 6000, 3) := by decide +kernel
theorem dX7_init_45 : decode cX7_init 45 = .ok (.invokespecial 34, 3) := by decide +kernel
theorem dX7_init_48 : decode cX7_init 48 = .ok (.putfield 37, 3) := by decide +kernel
theorem dX7_init_51 : decode cX7_init 51 = .ok (.aload_n 0, 1) := by decide +kernel
theorem dX7_init_52 : decode cX7_init 52 = .ok (.new 32, 3) := by decide +kernel
theorem dX7_init_55 : decode cX7_init 55 = .ok (.dup, 1) := by decide +kernel
theorem dX7_init_56 : decode cX7_init 56 = .ok (.bipush 90, 2) := by decide +kernel
theorem dX7_init_58 : decode cX7_init 58 = .ok (.invokespecial 34, 3) := by decide +kernel
theorem dX7_init_61 : decode cX7_init 61 = .ok (.putfield 41, 3) := by decide +kernel
theorem dX7_init_64 : decode cX7_init 64 = .ok (.aload_n 0, 1) := by decide +kernel
theorem dX7_init_65 : decode cX7_init 65 = .ok (.bipush 6, 2) := by decide +kernel
theorem dX7_init_67 : decode cX7_init 67 = .ok (.newarray .int, 2) := by decide +kernel
theorem dX7_init_69 : decode cX7_init 69 = .ok (.putfield 44, 3) := by decide +kernel
theorem dX7_init_72 : decode cX7_init 72 = .ok (.return_, 1) := by decide +kernel
theorem dX7_forget_0 : decode cX7_forget 0 = .ok (.aload_n 0, 1) := by decide +kernel
theorem dX7_forget_1 : decode cX7_forget 1 = .ok (.iconst 0, 1) := by decide +kernel
theorem dX7_forget_2 : decode cX7_forget 2 = .ok (.putfield 48, 3) := by decide +kernel
theorem dX7_forget_5 : decode cX7_forget 5 = .ok (.aload_n 0, 1) := by decide +kernel
theorem dX7_forget_6 : decode cX7_forget 6 = .ok (.iconst 0, 1) := by decide +kernel
theorem dX7_forget_7 : decode cX7_forget 7 = .ok (.putfield 52, 3) := by decide +kernel
theorem dX7_forget_10 : decode cX7_forget 10 = .ok (.return_, 1) := by decide +kernel
theorem dX7_orderedResults_0 : decode cX7_orderedResults 0 = .ok (.aload_n 0, 1) := by decide +kernel
theorem dX7_orderedResults_1 : decode cX7_orderedResults 1 = .ok (.getfield 52, 3) := by decide +kernel
theorem dX7_orderedResults_4 : decode cX7_orderedResults 4 = .ok (.ifCond .ne 47, 3) := by decide +kernel
theorem dX7_orderedResults_7 : decode cX7_orderedResults 7 = .ok (.aload_n 0, 1) := by decide +kernel
theorem dX7_orderedResults_8 : decode cX7_orderedResults 8 = .ok (.getfield 21, 3) := by decide +kernel
theorem dX7_orderedResults_11 : decode cX7_orderedResults 11 = .ok (.aload_n 0, 1) := by decide +kernel
theorem dX7_orderedResults_12 : decode cX7_orderedResults 12 = .ok (.getfield 12, 3) := by decide +kernel
theorem dX7_orderedResults_15 : decode cX7_orderedResults 15 = .ok (.lconst 0, 1) := by decide +kernel
theorem dX7_orderedResults_16 : decode cX7_orderedResults 16 = .ok (.invokevirtual 55, 3) := by decide +kernel
theorem dX7_orderedResults_19 : decode cX7_orderedResults 19 = .ok (.aload_n 0, 1) := by decide +kernel
theorem dX7_orderedResults_20 : decode cX7_orderedResults 20 = .ok (.getfield 41, 3) := by decide +kernel
theorem dX7_orderedResults_23 : decode cX7_orderedResults 23 = .ok (.iconst 0, 1) := by decide +kernel
theorem dX7_orderedResults_24 : decode cX7_orderedResults 24 = .ok (.putfield 59, 3) := by decide +kernel
theorem dX7_orderedResults_27 : decode cX7_orderedResults 27 = .ok (.aload_n 0, 1) := by decide +kernel
theorem dX7_orderedResults_28 : decode cX7_orderedResults 28 = .ok (.getfield 21, 3) := by decide +kernel
theorem dX7_orderedResults_31 : decode cX7_orderedResults 31 = .ok (.aload_n 0, 1) := by decide +kernel
theorem dX7_orderedResults_32 : decode cX7_orderedResults 32 = .ok (.getfield 41, 3) := by decide +kernel
theorem dX7_orderedResults_35 : decode cX7_orderedResults 35 = .ok (.aload_n 0, 1) := by decide +kernel
theorem dX7_orderedResults_36 : decode cX7_orderedResults 36 = .ok (.getfield 21, 3) := by decide +kernel
theorem dX7_orderedResults_39 : decode cX7_orderedResults 39 = .ok (.getfield 63, 3) := by decide +kernel
theorem dX7_orderedResults_42 : decode cX7_orderedResults 42 = .ok (.iconst 0, 1) := by decide +kernel
theorem dX7_orderedResults_43 : decode cX7_orderedResults 43 = .ok (.invokestatic 67, 3) := by decide +kernel
theorem dX7_orderedResults_46 : decode cX7_orderedResults 46 = .ok (.aload_n 0, 1) := by decide +kernel
theorem dX7_orderedResults_47 : decode cX7_orderedResults 47 = .ok (.iconst 1, 1) := by decide +kernel
theorem dX7_orderedResults_48 : decode cX7_orderedResults 48 = .ok (.putfield 52, 3) := by decide +kernel
theorem dX7_orderedResults_51 : decode cX7_orderedResults 51 = .ok (.aload_n 0, 1) := by decide +kernel
theorem dX7_orderedResults_52 : decode cX7_orderedResults 52 = .ok (.getfield 41, 3) := by decide +kernel
theorem dX7_orderedResults_55 : decode cX7_orderedResults 55 = .ok (.areturn, 1) := by decide +kernel
theorem dX7_followOrders_0 : decode cX7_followOrders 0 = .ok (.iconst 1, 1) := by decide +kernel
theorem dX7_followOrders_1 : decode cX7_followOrders 1 = .ok (.istore 5, 2) := by decide +kernel
theorem dX7_followOrders_3 : decode cX7_followOrders 3 = .ok (.iconst 0, 1) := by decide +kernel
theorem dX7_followOrders_4 : decode cX7_followOrders 4 = .ok (.istore 6, 2) := by decide +kernel
theorem dX7_followOrders_6 : decode cX7_followOrders 6 = .ok (.iload 6, 2) := by decide +kernel
theorem dX7_followOrders_8 : decode cX7_followOrders 8 = .ok (.aload_n 0, 1) := by decide +kernel
theorem dX7_followOrders_9 : decode cX7_followOrders 9 = .ok (.getfield 71, 3) := by decide +kernel
theorem dX7_followOrders_12 : decode cX7_followOrders 12 = .ok (.if_icmp .ge 58, 3) := by decide +kernel
theorem dX7_followOrders_15 : decode cX7_followOrders 15 = .ok (.aload_n 0, 1) := by decide +kernel
theorem dX7_followOrders_16 : decode cX7_followOrders 16 = .ok (.lload_n 2, 1) := by decide +kernel
theorem dX7_followOrders_17 : decode cX7_followOrders 17 = .ok (.iload 6, 2) := by decide +kernel
theorem dX7_followOrders_19 : decode cX7_followOrders 19 = .ok (.invokevirtual 74, 3) := by decide +kernel
theorem dX7_followOrders_22 : decode cX7_followOrders 22 = .ok (.ifCond .eq 42, 3) := by decide +kernel
theorem dX7_followOrders_25 : decode cX7_followOrders 25 = .ok (.iconst 0, 1) := by decide +kernel
theorem dX7_followOrders_26 : decode cX7_followOrders 26 = .ok (.istore 5, 2) := by decide +kernel
theorem dX7_followOrders_28 : decode cX7_followOrders 28 = .ok (.aload_n 0, 1) := by decide +kernel
theorem dX7_followOrders_29 : decode cX7_followOrders 29 = .ok (.lload_n 2, 1) := by decide +kernel
theorem dX7_followOrders_30 : decode cX7_followOrders 30 = .ok (.iload 6, 2) := by decide +kernel
theorem dX7_followOrders_32 : decode cX7_followOrders 32 = .ok (.invokevirtual 78, 3) := by decide +kernel
theorem dX7_followOrders_35 : decode cX7_followOrders 35 = .ok (.lstore 7, 2) := by decide +kernel
theorem dX7_followOrders_37 : decode cX7_followOrders 37 = .ok (.lload 7, 2) := by decide +kernel
theorem dX7_followOrders_39 : decode cX7_followOrders 39 = .ok (.ldc2_w 82, 3) := by decide +kernel
theorem dX7_followOrders_42 : decode cX7_followOrders 42 = .ok (.lcmp, 1) := by decide +kernel
theorem dX7_followOrders_43 : decode cX7_followOrders 43 = .ok (.ifCond .eq 21, 3) := by decide +kernel
theorem dX7_followOrders_46 : decode cX7_followOrders 46 = .ok (.iload 4, 2) := by decide +kernel
theorem dX7_followOrders_48 : decode cX7_followOrders 48 = .ok (.bipush 6, 2) := by decide +kernel
theorem dX7_followOrders_50 : decode cX7_followOrders 50 = .ok (.if_icmp .ge 14, 3) := by decide +kernel
theorem dX7_followOrders_53 : decode cX7_followOrders 53 = .ok (.aload_n 0, 1) := by decide +kernel
theorem dX7_followOrders_54 : decode cX7_followOrders 54 = .ok (.aload_n 1, 1) := by decide +kernel
theorem dX7_followOrders_55 : decode cX7_followOrders 55 = .ok (.lload 7, 2) := by decide +kernel
theorem dX7_followOrders_57 : decode cX7_followOrders 57 = .ok (.iload 4, 2) := by decide +kernel
theorem dX7_followOrders_59 : decode cX7_followOrders 59 = .ok (.iconst 1, 1) := by decide +kernel
theorem dX7_followOrders_60 : decode cX7_followOrders 60 = .ok (.iadd, 1) := by decide +kernel
theorem dX7_followOrders_61 : decode cX7_followOrders 61 = .ok (.invokestatic 67, 3) := by decide +kernel
theorem dX7_followOrders_64 : decode cX7_followOrders 64 = .ok (.iinc 6 1, 3) := by decide +kernel
theorem dX7_followOrders_67 : decode cX7_followOrders 67 = .ok (.goto (-61), 3) := by decide +kernel
theorem dX7_followOrders_70 : decode cX7_followOrders 70 = .ok (.iload 5, 2) := by decide +kernel
theorem dX7_followOrders_72 : decode cX7_followOrders 72 = .ok (.ifCond .eq 12, 3) := by decide +kernel
theorem dX7_followOrders_75 : decode cX7_followOrders 75 = .ok (.aload_n 1, 1) := by decide +kernel
theorem dX7_followOrders_76 : decode cX7_followOrders 76 = .ok (.aload_n 0, 1) := by decide +kernel
theorem dX7_followOrders_77 : decode cX7_followOrders 77 = .ok (.lload_n 2, 1) := by decide +kernel
theorem dX7_followOrders_78 : decode cX7_followOrders 78 = .ok (.invokevirtual 84, 3) := by decide +kernel
theorem dX7_followOrders_81 : decode cX7_followOrders 81 = .ok (.invokevirtual 88, 3) := by decide +kernel
theorem dX7_followOrders_84 : decode cX7_followOrders 84 = .ok (.return_, 1) := by decide +kernel
theorem dX7_isTooLarge_0 : decode cX7_isTooLarge 0 = .ok (.aload_n 0, 1) := by decide +kernel
theorem dX7_isTooLarge_1 : decode cX7_isTooLarge 1 = .ok (.getfield 48, 3) := by decide +kernel
theorem dX7_isTooLarge_4 : decode cX7_isTooLarge 4 = .ok (.ifCond .ne 13, 3) := by decide +kernel
theorem dX7_isTooLarge_7 : decode cX7_isTooLarge 7 = .ok (.aload_n 0, 1) := by decide +kernel
theorem dX7_isTooLarge_8 : decode cX7_isTooLarge 8 = .ok (.lconst 0, 1) := by decide +kernel
theorem dX7_isTooLarge_9 : decode cX7_isTooLarge 9 = .ok (.invokevirtual 91, 3) := by decide +kernel
theorem dX7_isTooLarge_12 : decode cX7_isTooLarge 12 = .ok (.aload_n 0, 1) := by decide +kernel
theorem dX7_isTooLarge_13 : decode cX7_isTooLarge 13 = .ok (.iconst 1, 1) := by decide +kernel
theorem dX7_isTooLarge_14 : decode cX7_isTooLarge 14 = .ok (.putfield 48, 3) := by decide +kernel
theorem dX7_isTooLarge_17 : decode cX7_isTooLarge 17 = .ok (.aload_n 0, 1) := by decide +kernel
theorem dX7_isTooLarge_18 : decode cX7_isTooLarge 18 = .ok (.getfield 28, 3) := by decide +kernel
theorem dX7_isTooLarge_21 : decode cX7_isTooLarge 21 = .ok (.getfield 95, 3) := by decide +kernel
theorem dX7_isTooLarge_24 : decode cX7_isTooLarge 24 = .ok (.ireturn, 1) := by decide +kernel
theorem dX7_goThrough_0 : decode cX7_goThrough 0 = .ok (.aload_n 0, 1) := by decide +kernel
theorem dX7_goThrough_1 : decode cX7_goThrough 1 = .ok (.getfield 21, 3) := by decide +kernel
theorem dX7_goThrough_4 : decode cX7_goThrough 4 = .ok (.aload_n 0, 1) := by decide +kernel
theorem dX7_goThrough_5 : decode cX7_goThrough 5 = .ok (.getfield 12, 3) := by decide +kernel
theorem dX7_goThrough_8 : decode cX7_goThrough 8 = .ok (.lload_n 1, 1) := by decide +kernel
theorem dX7_goThrough_9 : decode cX7_goThrough 9 = .ok (.invokevirtual 55, 3) := by decide +kernel
theorem dX7_goThrough_12 : decode cX7_goThrough 12 = .ok (.aload_n 0, 1) := by decide +kernel
theorem dX7_goThrough_13 : decode cX7_goThrough 13 = .ok (.getfield 28, 3) := by decide +kernel
theorem dX7_goThrough_16 : decode cX7_goThrough 16 = .ok (.aload_n 0, 1) := by decide +kernel
theorem dX7_goThrough_17 : decode cX7_goThrough 17 = .ok (.getfield 21, 3) := by decide +kernel
theorem dX7_goThrough_20 : decode cX7_goThrough 20 = .ok (.invokevirtual 98, 3) := by decide +kernel
theorem dX7_goThrough_23 : decode cX7_goThrough 23 = .ok (.aload_n 0, 1) := by decide +kernel
theorem dX7_goThrough_24 : decode cX7_goThrough 24 = .ok (.getfield 28, 3) := by decide +kernel
theorem dX7_goThrough_27 : decode cX7_goThrough 27 = .ok (.aload_n 0, 1) := by decide +kernel
theorem dX7_goThrough_28 : decode cX7_goThrough 28 = .ok (.getfield 21, 3) := by decide +kernel
theorem dX7_goThrough_31 : decode cX7_goThrough 31 = .ok (.aload_n 0, 1) := by decide +kernel
theorem dX7_goThrough_32 : decode cX7_goThrough 32 = .ok (.getfield 37, 3) := by decide +kernel
theorem dX7_goThrough_35 : decode cX7_goThrough 35 = .ok (.invokevirtual 102, 3) := by decide +kernel
theorem dX7_goThrough_38 : decode cX7_goThrough 38 = .ok (.return_, 1) := by decide +kernel
theorem dX7_countBad_0 : decode cX7_countBad 0 = .ok (.iconst 0, 1) := by decide +kernel
theorem dX7_countBad_1 : decode cX7_countBad 1 = .ok (.istore_n 2, 1) := by decide +kernel
theorem dX7_countBad_2 : decode cX7_countBad 2 = .ok (.iconst 0, 1) := by decide +kernel
theorem dX7_countBad_3 : decode cX7_countBad 3 = .ok (.istore_n 3, 1) := by decide +kernel
theorem dX7_countBad_4 : decode cX7_countBad 4 = .ok (.iload_n 3, 1) := by decide +kernel
theorem dX7_countBad_5 : decode cX7_countBad 5 = .ok (.aload_n 0, 1) := by decide +kernel
theorem dX7_countBad_6 : decode cX7_countBad 6 = .ok (.getfield 37, 3) := by decide +kernel
theorem dX7_countBad_9 : decode cX7_countBad 9 = .ok (.getfield 59, 3) := by decide +kernel
theorem dX7_countBad_12 : decode cX7_countBad 12 = .ok (.if_icmp .ge 28, 3) := by decide +kernel
theorem dX7_countBad_15 : decode cX7_countBad 15 = .ok (.aload_n 1, 1) := by decide +kernel
theorem dX7_countBad_16 : decode cX7_countBad 16 = .ok (.aload_n 0, 1) := by decide +kernel
theorem dX7_countBad_17 : decode cX7_countBad 17 = .ok (.getfield 37, 3) := by decide +kernel
theorem dX7_countBad_20 : decode cX7_countBad 20 = .ok (.getfield 106, 3) := by decide +kernel
theorem dX7_countBad_23 : decode cX7_countBad 23 = .ok (.iload_n 3, 1) := by decide +kernel
theorem dX7_countBad_24 : decode cX7_countBad 24 = .ok (.iaload, 1) := by decide +kernel
theorem dX7_countBad_25 : decode cX7_countBad 25 = .ok (.invokevirtual 109, 3) := by decide +kernel
theorem dX7_countBad_28 : decode cX7_countBad 28 = .ok (.ifCond .ne 6, 3) := by decide +kernel
theorem dX7_countBad_31 : decode cX7_countBad 31 = .ok (.iinc 2 1, 3) := by decide +kernel
theorem dX7_countBad_34 : decode cX7_countBad 34 = .ok (.iinc 3 1, 3) := by decide +kernel
theorem dX7_countBad_37 : decode cX7_countBad 37 = .ok (.goto (-33), 3) := by decide +kernel
theorem dX7_countBad_40 : decode cX7_countBad 40 = .ok (.iload_n 2, 1) := by decide +kernel
theorem dX7_countBad_41 : decode cX7_countBad 41 = .ok (.ireturn, 1) := by decide +kernel
theorem dX7_leastBad_0 : decode cX7_leastBad 0 = .ok (.iconst 0, 1) := by decide +kernel
theorem dX7_leastBad_1 : decode cX7_leastBad 1 = .ok (.istore_n 2, 1) := by decide +kernel
theorem dX7_leastBad_2 : decode cX7_leastBad 2 = .ok (.iload_n 2, 1) := by decide +kernel
theorem dX7_leastBad_3 : decode cX7_leastBad 3 = .ok (.aload_n 0, 1) := by decide +kernel
theorem dX7_leastBad_4 : decode cX7_leastBad 4 = .ok (.getfield 37, 3) := by decide +kernel
theorem dX7_leastBad_7 : decode cX7_leastBad 7 = .ok (.getfield 59, 3) := by decide +kernel
theorem dX7_leastBad_10 : decode cX7_leastBad 10 = .ok (.if_icmp .ge 35, 3) := by decide +kernel
theorem dX7_leastBad_13 : decode cX7_leastBad 13 = .ok (.aload_n 1, 1) := by decide +kernel
theorem dX7_leastBad_14 : decode cX7_leastBad 14 = .ok (.aload_n 0, 1) := by decide +kernel
theorem dX7_leastBad_15 : decode cX7_leastBad 15 = .ok (.getfield 37, 3) := by decide +kernel
theorem dX7_leastBad_18 : decode cX7_leastBad 18 = .ok (.getfield 106, 3) := by decide +kernel
theorem dX7_leastBad_21 : decode cX7_leastBad 21 = .ok (.iload_n 2, 1) := by decide +kernel
theorem dX7_leastBad_22 : decode cX7_leastBad 22 = .ok (.iaload, 1) := by decide +kernel
theorem dX7_leastBad_23 : decode cX7_leastBad 23 = .ok (.invokevirtual 109, 3) := by decide +kernel
theorem dX7_leastBad_26 : decode cX7_leastBad 26 = .ok (.ifCond .ne 13, 3) := by decide +kernel
theorem dX7_leastBad_29 : decode cX7_leastBad 29 = .ok (.aload_n 0, 1) := by decide +kernel
theorem dX7_leastBad_30 : decode cX7_leastBad 30 = .ok (.getfield 37, 3) := by decide +kernel
theorem dX7_leastBad_33 : decode cX7_leastBad 33 = .ok (.getfield 106, 3) := by decide +kernel
theorem dX7_leastBad_36 : decode cX7_leastBad 36 = .ok (.iload_n 2, 1) := by decide +kernel
theorem dX7_leastBad_37 : decode cX7_leastBad 37 = .ok (.iaload, 1) := by decide +kernel
theorem dX7_leastBad_38 : decode cX7_leastBad 38 = .ok (.ireturn, 1) := by decide +kernel
theorem dX7_leastBad_39 : decode cX7_leastBad 39 = .ok (.iinc 2 1, 3) := by decide +kernel
theorem dX7_leastBad_42 : decode cX7_leastBad 42 = .ok (.goto (-40), 3) := by decide +kernel
theorem dX7_leastBad_45 : decode cX7_leastBad 45 = .ok (.iconst (-1), 1) := by decide +kernel
theorem dX7_leastBad_46 : decode cX7_leastBad 46 = .ok (.ireturn, 1) := by decide +kernel
theorem dX7_walkToWorst_0 : decode cX7_walkToWorst 0 = .ok (.aload_n 0, 1) := by decide +kernel
theorem dX7_walkToWorst_1 : decode cX7_walkToWorst 1 = .ok (.aload_n 0, 1) := by decide +kernel
theorem dX7_walkToWorst_2 : decode cX7_walkToWorst 2 = .ok (.invokevirtual 113, 3) := by decide +kernel
theorem dX7_walkToWorst_5 : decode cX7_walkToWorst 5 = .ok (.invokevirtual 117, 3) := by decide +kernel
theorem dX7_walkToWorst_8 : decode cX7_walkToWorst 8 = .ok (.istore_n 1, 1) := by decide +kernel
theorem dX7_walkToWorst_9 : decode cX7_walkToWorst 9 = .ok (.iload_n 1, 1) := by decide +kernel
theorem dX7_walkToWorst_10 : decode cX7_walkToWorst 10 = .ok (.ifCond .ge 5, 3) := by decide +kernel
theorem dX7_walkToWorst_13 : decode cX7_walkToWorst 13 = .ok (.iconst (-1), 1) := by decide +kernel
theorem dX7_walkToWorst_14 : decode cX7_walkToWorst 14 = .ok (.ireturn, 1) := by decide +kernel
theorem dX7_walkToWorst_15 : decode cX7_walkToWorst 15 = .ok (.aload_n 0, 1) := by decide +kernel
theorem dX7_walkToWorst_16 : decode cX7_walkToWorst 16 = .ok (.getfield 21, 3) := by decide +kernel
theorem dX7_walkToWorst_19 : decode cX7_walkToWorst 19 = .ok (.aload_n 0, 1) := by decide +kernel
theorem dX7_walkToWorst_20 : decode cX7_walkToWorst 20 = .ok (.getfield 12, 3) := by decide +kernel
theorem dX7_walkToWorst_23 : decode cX7_walkToWorst 23 = .ok (.lconst 0, 1) := by decide +kernel
theorem dX7_walkToWorst_24 : decode cX7_walkToWorst 24 = .ok (.invokevirtual 55, 3) := by decide +kernel
theorem dX7_walkToWorst_27 : decode cX7_walkToWorst 27 = .ok (.aload_n 0, 1) := by decide +kernel
theorem dX7_walkToWorst_28 : decode cX7_walkToWorst 28 = .ok (.getfield 28, 3) := by decide +kernel
theorem dX7_walkToWorst_31 : decode cX7_walkToWorst 31 = .ok (.aload_n 0, 1) := by decide +kernel
theorem dX7_walkToWorst_32 : decode cX7_walkToWorst 32 = .ok (.getfield 21, 3) := by decide +kernel
theorem dX7_walkToWorst_35 : decode cX7_walkToWorst 35 = .ok (.iload_n 1, 1) := by decide +kernel
theorem dX7_walkToWorst_36 : decode cX7_walkToWorst 36 = .ok (.invokevirtual 121, 3) := by decide +kernel
theorem dX7_walkToWorst_39 : decode cX7_walkToWorst 39 = .ok (.ireturn, 1) := by decide +kernel
theorem dX7_healingValues_0 : decode cX7_healingValues 0 = .ok (.aload_n 0, 1) := by decide +kernel
theorem dX7_healingValues_1 : decode cX7_healingValues 1 = .ok (.getfield 12, 3) := by decide +kernel
theorem dX7_healingValues_4 : decode cX7_healingValues 4 = .ok (.iload_n 1, 1) := by decide +kernel
theorem dX7_healingValues_5 : decode cX7_healingValues 5 = .ok (.iload_n 2, 1) := by decide +kernel
theorem dX7_healingValues_6 : decode cX7_healingValues 6 = .ok (.iload_n 3, 1) := by decide +kernel
theorem dX7_healingValues_7 : decode cX7_healingValues 7 = .ok (.invokevirtual 125, 3) := by decide +kernel
theorem dX7_healingValues_10 : decode cX7_healingValues 10 = .ok (.istore 4, 2) := by decide +kernel
theorem dX7_healingValues_12 : decode cX7_healingValues 12 = .ok (.iconst 0, 1) := by decide +kernel
theorem dX7_healingValues_13 : decode cX7_healingValues 13 = .ok (.istore 5, 2) := by decide +kernel
theorem dX7_healingValues_15 : decode cX7_healingValues 15 = .ok (.iconst 0, 1) := by decide +kernel
theorem dX7_healingValues_16 : decode cX7_healingValues 16 = .ok (.istore 6, 2) := by decide +kernel
theorem dX7_healingValues_18 : decode cX7_healingValues 18 = .ok (.iload 6, 2) := by decide +kernel
theorem dX7_healingValues_20 : decode cX7_healingValues 20 = .ok (.iconst 4, 1) := by decide +kernel
theorem dX7_healingValues_21 : decode cX7_healingValues 21 = .ok (.if_icmp .ge 64, 3) := by decide +kernel
theorem dX7_healingValues_24 : decode cX7_healingValues 24 = .ok (.iload 5, 2) := by decide +kernel
theorem dX7_healingValues_26 : decode cX7_healingValues 26 = .ok (.ifCond .lt 59, 3) := by decide +kernel
theorem dX7_healingValues_29 : decode cX7_healingValues 29 = .ok (.aload_n 0, 1) := by decide +kernel
theorem dX7_healingValues_30 : decode cX7_healingValues 30 = .ok (.getfield 12, 3) := by decide +kernel
theorem dX7_healingValues_33 : decode cX7_healingValues 33 = .ok (.iload_n 1, 1) := by decide +kernel
theorem dX7_healingValues_34 : decode cX7_healingValues 34 = .ok (.iload_n 2, 1) := by decide +kernel
theorem dX7_healingValues_35 : decode cX7_healingValues 35 = .ok (.iload_n 3, 1) := by decide +kernel
theorem dX7_healingValues_36 : decode cX7_healingValues 36 = .ok (.iload 6, 2) := by decide +kernel
theorem dX7_healingValues_38 : decode cX7_healingValues 38 = .ok (.invokevirtual 129, 3) := by decide +kernel
theorem dX7_healingValues_41 : decode cX7_healingValues 41 = .ok (.aload_n 0, 1) := by decide +kernel
theorem dX7_healingValues_42 : decode cX7_healingValues 42 = .ok (.invokevirtual 133, 3) := by decide +kernel
theorem dX7_healingValues_45 : decode cX7_healingValues 45 = .ok (.aload_n 0, 1) := by decide +kernel
theorem dX7_healingValues_46 : decode cX7_healingValues 46 = .ok (.invokevirtual 136, 3) := by decide +kernel
theorem dX7_healingValues_49 : decode cX7_healingValues 49 = .ok (.ifCond .eq 10, 3) := by decide +kernel
theorem dX7_healingValues_52 : decode cX7_healingValues 52 = .ok (.bipush (-2), 2) := by decide +kernel
theorem dX7_healingValues_54 : decode cX7_healingValues 54 = .ok (.istore 5, 2) := by decide +kernel
theorem dX7_healingValues_56 : decode cX7_healingValues 56 = .ok (.goto 23, 3) := by decide +kernel
theorem dX7_healingValues_59 : decode cX7_healingValues 59 = .ok (.aload_n 0, 1) := by decide +kernel
theorem dX7_healingValues_60 : decode cX7_healingValues 60 = .ok (.aload_n 0, 1) := by decide +kernel
theorem dX7_healingValues_61 : decode cX7_healingValues 61 = .ok (.invokevirtual 113, 3) := by decide +kernel
theorem dX7_healingValues_64 : decode cX7_healingValues 64 = .ok (.invokevirtual 117, 3) := by decide +kernel
theorem dX7_healingValues_67 : decode cX7_healingValues 67 = .ok (.ifCond .ge 12, 3) := by decide +kernel
theorem dX7_healingValues_70 : decode cX7_healingValues 70 = .ok (.iload 5, 2) := by decide +kernel
theorem dX7_healingValues_72 : decode cX7_healingValues 72 = .ok (.iconst 1, 1) := by decide +kernel
theorem dX7_healingValues_73 : decode cX7_healingValues 73 = .ok (.iload 6, 2) := by decide +kernel
theorem dX7_healingValues_75 : decode cX7_healingValues 75 = .ok (.ishl, 1) := by decide +kernel
theorem dX7_healingValues_76 : decode cX7_healingValues 76 = .ok (.ior, 1) := by decide +kernel
theorem dX7_healingValues_77 : decode cX7_healingValues 77 = .ok (.istore 5, 2) := by decide +kernel
theorem dX7_healingValues_79 : decode cX7_healingValues 79 = .ok (.iinc 6 1, 3) := by decide +kernel
theorem dX7_healingValues_82 : decode cX7_healingValues 82 = .ok (.goto (-64), 3) := by decide +kernel
theorem dX7_healingValues_85 : decode cX7_healingValues 85 = .ok (.aload_n 0, 1) := by decide +kernel
theorem dX7_healingValues_86 : decode cX7_healingValues 86 = .ok (.getfield 12, 3) := by decide +kernel
theorem dX7_healingValues_89 : decode cX7_healingValues 89 = .ok (.iload_n 1, 1) := by decide +kernel
theorem dX7_healingValues_90 : decode cX7_healingValues 90 = .ok (.iload_n 2, 1) := by decide +kernel
theorem dX7_healingValues_91 : decode cX7_healingValues 91 = .ok (.iload_n 3, 1) := by decide +kernel
theorem dX7_healingValues_92 : decode cX7_healingValues 92 = .ok (.iload 4, 2) := by decide +kernel
theorem dX7_healingValues_94 : decode cX7_healingValues 94 = .ok (.invokevirtual 129, 3) := by decide +kernel
theorem dX7_healingValues_97 : decode cX7_healingValues 97 = .ok (.aload_n 0, 1) := by decide +kernel
theorem dX7_healingValues_98 : decode cX7_healingValues 98 = .ok (.invokevirtual 133, 3) := by decide +kernel
theorem dX7_healingValues_101 : decode cX7_healingValues 101 = .ok (.iload 5, 2) := by decide +kernel
theorem dX7_healingValues_103 : decode cX7_healingValues 103 = .ok (.ireturn, 1) := by decide +kernel
theorem dX7_fewestFences_0 : decode cX7_fewestFences 0 = .ok (.aload_n 0, 1) := by decide +kernel
theorem dX7_fewestFences_1 : decode cX7_fewestFences 1 = .ok (.invokevirtual 113, 3) := by decide +kernel
theorem dX7_fewestFences_4 : decode cX7_fewestFences 4 = .ok (.astore_n 1, 1) := by decide +kernel
theorem dX7_fewestFences_5 : decode cX7_fewestFences 5 = .ok (.aload_n 0, 1) := by decide +kernel
theorem dX7_fewestFences_6 : decode cX7_fewestFences 6 = .ok (.invokevirtual 136, 3) := by decide +kernel
theorem dX7_fewestFences_9 : decode cX7_fewestFences 9 = .ok (.ifCond .eq 6, 3) := by decide +kernel
theorem dX7_fewestFences_12 : decode cX7_fewestFences 12 = .ok (.bipush (-2), 2) := by decide +kernel
theorem dX7_fewestFences_14 : decode cX7_fewestFences 14 = .ok (.ireturn, 1) := by decide +kernel
theorem dX7_fewestFences_15 : decode cX7_fewestFences 15 = .ok (.aload_n 0, 1) := by decide +kernel
theorem dX7_fewestFences_16 : decode cX7_fewestFences 16 = .ok (.aload_n 1, 1) := by decide +kernel
theorem dX7_fewestFences_17 : decode cX7_fewestFences 17 = .ok (.invokevirtual 117, 3) := by decide +kernel
theorem dX7_fewestFences_20 : decode cX7_fewestFences 20 = .ok (.ifCond .ge 5, 3) := by decide +kernel
theorem dX7_fewestFences_23 : decode cX7_fewestFences 23 = .ok (.iconst 0, 1) := by decide +kernel
theorem dX7_fewestFences_24 : decode cX7_fewestFences 24 = .ok (.ireturn, 1) := by decide +kernel
theorem dX7_fewestFences_25 : decode cX7_fewestFences 25 = .ok (.aload_n 0, 1) := by decide +kernel
theorem dX7_fewestFences_26 : decode cX7_fewestFences 26 = .ok (.invokevirtual 139, 3) := by decide +kernel
theorem dX7_fewestFences_29 : decode cX7_fewestFences 29 = .ok (.istore_n 2, 1) := by decide +kernel
theorem dX7_fewestFences_30 : decode cX7_fewestFences 30 = .ok (.iconst (-1), 1) := by decide +kernel
theorem dX7_fewestFences_31 : decode cX7_fewestFences 31 = .ok (.istore_n 3, 1) := by decide +kernel
theorem dX7_fewestFences_32 : decode cX7_fewestFences 32 = .ok (.iconst 1, 1) := by decide +kernel
theorem dX7_fewestFences_33 : decode cX7_fewestFences 33 = .ok (.istore 4, 2) := by decide +kernel
theorem dX7_fewestFences_35 : decode cX7_fewestFences 35 = .ok (.iload 4, 2) := by decide +kernel
theorem dX7_fewestFences_37 : decode cX7_fewestFences 37 = .ok (.iload_n 2, 1) := by decide +kernel
theorem dX7_fewestFences_38 : decode cX7_fewestFences 38 = .ok (.if_icmp .gt 55, 3) := by decide +kernel
theorem dX7_fewestFences_41 : decode cX7_fewestFences 41 = .ok (.iload_n 3, 1) := by decide +kernel
theorem dX7_fewestFences_42 : decode cX7_fewestFences 42 = .ok (.iconst (-1), 1) := by decide +kernel
theorem dX7_fewestFences_43 : decode cX7_fewestFences 43 = .ok (.if_icmp .ne 50, 3) := by decide +kernel
theorem dX7_fewestFences_46 : decode cX7_fewestFences 46 = .ok (.iconst 0, 1) := by decide +kernel
theorem dX7_fewestFences_47 : decode cX7_fewestFences 47 = .ok (.istore 5, 2) := by decide +kernel
theorem dX7_fewestFences_49 : decode cX7_fewestFences 49 = .ok (.iload 5, 2) := by decide +kernel
theorem dX7_fewestFences_51 : decode cX7_fewestFences 51 = .ok (.iconst 1, 1) := by decide +kernel
theorem dX7_fewestFences_52 : decode cX7_fewestFences 52 = .ok (.iload_n 2, 1) := by decide +kernel
theorem dX7_fewestFences_53 : decode cX7_fewestFences 53 = .ok (.ishl, 1) := by decide +kernel
theorem dX7_fewestFences_54 : decode cX7_fewestFences 54 = .ok (.if_icmp .ge 33, 3) := by decide +kernel
theorem dX7_fewestFences_57 : decode cX7_fewestFences 57 = .ok (.iload_n 3, 1) := by decide +kernel
theorem dX7_fewestFences_58 : decode cX7_fewestFences 58 = .ok (.iconst (-1), 1) := by decide +kernel
theorem dX7_fewestFences_59 : decode cX7_fewestFences 59 = .ok (.if_icmp .ne 28, 3) := by decide +kernel
theorem dX7_fewestFences_62 : decode cX7_fewestFences 62 = .ok (.iload 5, 2) := by decide +kernel
theorem dX7_fewestFences_64 : decode cX7_fewestFences 64 = .ok (.invokestatic 143, 3) := by decide +kernel
theorem dX7_fewestFences_67 : decode cX7_fewestFences 67 = .ok (.iload 4, 2) := by decide +kernel
theorem dX7_fewestFences_69 : decode cX7_fewestFences 69 = .ok (.if_icmp .ne 12, 3) := by decide +kernel
theorem dX7_fewestFences_72 : decode cX7_fewestFences 72 = .ok (.aload_n 0, 1) := by decide +kernel
theorem dX7_fewestFences_73 : decode cX7_fewestFences 73 = .ok (.iload 5, 2) := by decide +kernel
theorem dX7_fewestFences_75 : decode cX7_fewestFences 75 = .ok (.iload_n 2, 1) := by decide +kernel
theorem dX7_fewestFences_76 : decode cX7_fewestFences 76 = .ok (.aload_n 1, 1) := by decide +kernel
theorem dX7_fewestFences_77 : decode cX7_fewestFences 77 = .ok (.invokevirtual 149, 3) := by decide +kernel
theorem dX7_fewestFences_80 : decode cX7_fewestFences 80 = .ok (.istore_n 3, 1) := by decide +kernel
theorem dX7_fewestFences_81 : decode cX7_fewestFences 81 = .ok (.iinc 5 1, 3) := by decide +kernel
theorem dX7_fewestFences_84 : decode cX7_fewestFences 84 = .ok (.goto (-35), 3) := by decide +kernel
theorem dX7_fewestFences_87 : decode cX7_fewestFences 87 = .ok (.iinc 4 1, 3) := by decide +kernel
theorem dX7_fewestFences_90 : decode cX7_fewestFences 90 = .ok (.goto (-55), 3) := by decide +kernel
theorem dX7_fewestFences_93 : decode cX7_fewestFences 93 = .ok (.aload_n 0, 1) := by decide +kernel
theorem dX7_fewestFences_94 : decode cX7_fewestFences 94 = .ok (.iconst 0, 1) := by decide +kernel
theorem dX7_fewestFences_95 : decode cX7_fewestFences 95 = .ok (.putfield 48, 3) := by decide +kernel
theorem dX7_fewestFences_98 : decode cX7_fewestFences 98 = .ok (.iload_n 3, 1) := by decide +kernel
theorem dX7_fewestFences_99 : decode cX7_fewestFences 99 = .ok (.ireturn, 1) := by decide +kernel
theorem dX7_tryFences_0 : decode cX7_tryFences 0 = .ok (.lconst 0, 1) := by decide +kernel
theorem dX7_tryFences_1 : decode cX7_tryFences 1 = .ok (.lstore 4, 2) := by decide +kernel
theorem dX7_tryFences_3 : decode cX7_tryFences 3 = .ok (.iconst 0, 1) := by decide +kernel
theorem dX7_tryFences_4 : decode cX7_tryFences 4 = .ok (.istore 6, 2) := by decide +kernel
theorem dX7_tryFences_6 : decode cX7_tryFences 6 = .ok (.iload 6, 2) := by decide +kernel
theorem dX7_tryFences_8 : decode cX7_tryFences 8 = .ok (.iload_n 2, 1) := by decide +kernel
theorem dX7_tryFences_9 : decode cX7_tryFences 9 = .ok (.if_icmp .ge 33, 3) := by decide +kernel
theorem dX7_tryFences_12 : decode cX7_tryFences 12 = .ok (.iload_n 1, 1) := by decide +kernel
theorem dX7_tryFences_13 : decode cX7_tryFences 13 = .ok (.iload 6, 2) := by decide +kernel
theorem dX7_tryFences_15 : decode cX7_tryFences 15 = .ok (.ishr, 1) := by decide +kernel
theorem dX7_tryFences_16 : decode cX7_tryFences 16 = .ok (.iconst 1, 1) := by decide +kernel
theorem dX7_tryFences_17 : decode cX7_tryFences 17 = .ok (.iand, 1) := by decide +kernel
theorem dX7_tryFences_18 : decode cX7_tryFences 18 = .ok (.iconst 1, 1) := by decide +kernel
theorem dX7_tryFences_19 : decode cX7_tryFences 19 = .ok (.if_icmp .ne 17, 3) := by decide +kernel
theorem dX7_tryFences_22 : decode cX7_tryFences 22 = .ok (.lload 4, 2) := by decide +kernel
theorem dX7_tryFences_24 : decode cX7_tryFences 24 = .ok (.lconst 1, 1) := by decide +kernel
theorem dX7_tryFences_25 : decode cX7_tryFences 25 = .ok (.aload_n 0, 1) := by decide +kernel
theorem dX7_tryFences_26 : decode cX7_tryFences 26 = .ok (.getfield 44, 3) := by decide +kernel
theorem dX7_tryFences_29 : decode cX7_tryFences 29 = .ok (.iload 6, 2) := by decide +kernel
theorem dX7_tryFences_31 : decode cX7_tryFences 31 = .ok (.iaload, 1) := by decide +kernel
theorem dX7_tryFences_32 : decode cX7_tryFences 32 = .ok (.lshl, 1) := by decide +kernel
theorem dX7_tryFences_33 : decode cX7_tryFences 33 = .ok (.lor, 1) := by decide +kernel
theorem dX7_tryFences_34 : decode cX7_tryFences 34 = .ok (.lstore 4, 2) := by decide +kernel
theorem dX7_tryFences_36 : decode cX7_tryFences 36 = .ok (.iinc 6 1, 3) := by decide +kernel
theorem dX7_tryFences_39 : decode cX7_tryFences 39 = .ok (.goto (-33), 3) := by decide +kernel
theorem dX7_tryFences_42 : decode cX7_tryFences 42 = .ok (.aload_n 0, 1) := by decide +kernel
theorem dX7_tryFences_43 : decode cX7_tryFences 43 = .ok (.lload 4, 2) := by decide +kernel
theorem dX7_tryFences_45 : decode cX7_tryFences 45 = .ok (.invokevirtual 91, 3) := by decide +kernel
theorem dX7_tryFences_48 : decode cX7_tryFences 48 = .ok (.aload_n 0, 1) := by decide +kernel
theorem dX7_tryFences_49 : decode cX7_tryFences 49 = .ok (.getfield 28, 3) := by decide +kernel
theorem dX7_tryFences_52 : decode cX7_tryFences 52 = .ok (.getfield 95, 3) := by decide +kernel
theorem dX7_tryFences_55 : decode cX7_tryFences 55 = .ok (.ifCond .eq 6, 3) := by decide +kernel
theorem dX7_tryFences_58 : decode cX7_tryFences 58 = .ok (.bipush (-2), 2) := by decide +kernel
theorem dX7_tryFences_60 : decode cX7_tryFences 60 = .ok (.ireturn, 1) := by decide +kernel
theorem dX7_tryFences_61 : decode cX7_tryFences 61 = .ok (.aload_n 0, 1) := by decide +kernel
theorem dX7_tryFences_62 : decode cX7_tryFences 62 = .ok (.aload_n 3, 1) := by decide +kernel
theorem dX7_tryFences_63 : decode cX7_tryFences 63 = .ok (.invokevirtual 117, 3) := by decide +kernel
theorem dX7_tryFences_66 : decode cX7_tryFences 66 = .ok (.ifCond .ge 7, 3) := by decide +kernel
theorem dX7_tryFences_69 : decode cX7_tryFences 69 = .ok (.iload_n 1, 1) := by decide +kernel
theorem dX7_tryFences_70 : decode cX7_tryFences 70 = .ok (.goto 4, 3) := by decide +kernel
theorem dX7_tryFences_73 : decode cX7_tryFences 73 = .ok (.iconst (-1), 1) := by decide +kernel
theorem dX7_tryFences_74 : decode cX7_tryFences 74 = .ok (.ireturn, 1) := by decide +kernel
theorem dX7_findFencePlaces_0 : decode cX7_findFencePlaces 0 = .ok (.iconst 0, 1) := by decide +kernel
theorem dX7_findFencePlaces_1 : decode cX7_findFencePlaces 1 = .ok (.istore_n 1, 1) := by decide +kernel
theorem dX7_findFencePlaces_2 : decode cX7_findFencePlaces 2 = .ok (.iconst 0, 1) := by decide +kernel
theorem dX7_findFencePlaces_3 : decode cX7_findFencePlaces 3 = .ok (.istore_n 2, 1) := by decide +kernel
theorem dX7_findFencePlaces_4 : decode cX7_findFencePlaces 4 = .ok (.iload_n 2, 1) := by decide +kernel
theorem dX7_findFencePlaces_5 : decode cX7_findFencePlaces 5 = .ok (.aload_n 0, 1) := by decide +kernel
theorem dX7_findFencePlaces_6 : decode cX7_findFencePlaces 6 = .ok (.getfield 12, 3) := by decide +kernel
theorem dX7_findFencePlaces_9 : decode cX7_findFencePlaces 9 = .ok (.getfield 153, 3) := by decide +kernel
theorem dX7_findFencePlaces_12 : decode cX7_findFencePlaces 12 = .ok (.if_icmp .ge 76, 3) := by decide +kernel
theorem dX7_findFencePlaces_15 : decode cX7_findFencePlaces 15 = .ok (.iconst 0, 1) := by decide +kernel
theorem dX7_findFencePlaces_16 : decode cX7_findFencePlaces 16 = .ok (.istore_n 3, 1) := by decide +kernel
theorem dX7_findFencePlaces_17 : decode cX7_findFencePlaces 17 = .ok (.iload_n 3, 1) := by decide +kernel
theorem dX7_findFencePlaces_18 : decode cX7_findFencePlaces 18 = .ok (.aload_n 0, 1) := by decide +kernel
theorem dX7_findFencePlaces_19 : decode cX7_findFencePlaces 19 = .ok (.getfield 12, 3) := by decide +kernel
theorem dX7_findFencePlaces_22 : decode cX7_findFencePlaces 22 = .ok (.getfield 156, 3) := by decide +kernel
theorem dX7_findFencePlaces_25 : decode cX7_findFencePlaces 25 = .ok (.iload_n 2, 1) := by decide +kernel
theorem dX7_findFencePlaces_26 : decode cX7_findFencePlaces 26 = .ok (.iaload, 1) := by decide +kernel
theorem dX7_findFencePlaces_27 : decode cX7_findFencePlaces 27 = .ok (.if_icmp .ge 55, 3) := by decide +kernel
theorem dX7_findFencePlaces_30 : decode cX7_findFencePlaces 30 = .ok (.aload_n 0, 1) := by decide +kernel
theorem dX7_findFencePlaces_31 : decode cX7_findFencePlaces 31 = .ok (.getfield 12, 3) := by decide +kernel
theorem dX7_findFencePlaces_34 : decode cX7_findFencePlaces 34 = .ok (.iload_n 2, 1) := by decide +kernel
theorem dX7_findFencePlaces_35 : decode cX7_findFencePlaces 35 = .ok (.invokevirtual 159, 3) := by decide +kernel
theorem dX7_findFencePlaces_38 : decode cX7_findFencePlaces 38 = .ok (.ifCond .eq 44, 3) := by decide +kernel
theorem dX7_findFencePlaces_41 : decode cX7_findFencePlaces 41 = .ok (.aload_n 0, 1) := by decide +kernel
theorem dX7_findFencePlaces_42 : decode cX7_findFencePlaces 42 = .ok (.getfield 12, 3) := by decide +kernel
theorem dX7_findFencePlaces_45 : decode cX7_findFencePlaces 45 = .ok (.iload_n 2, 1) := by decide +kernel
theorem dX7_findFencePlaces_46 : decode cX7_findFencePlaces 46 = .ok (.iload_n 3, 1) := by decide +kernel
theorem dX7_findFencePlaces_47 : decode cX7_findFencePlaces 47 = .ok (.iconst 0, 1) := by decide +kernel
theorem dX7_findFencePlaces_48 : decode cX7_findFencePlaces 48 = .ok (.invokevirtual 125, 3) := by decide +kernel
theorem dX7_findFencePlaces_51 : decode cX7_findFencePlaces 51 = .ok (.iconst 2, 1) := by decide +kernel
theorem dX7_findFencePlaces_52 : decode cX7_findFencePlaces 52 = .ok (.if_icmp .ne 24, 3) := by decide +kernel
theorem dX7_findFencePlaces_55 : decode cX7_findFencePlaces 55 = .ok (.iload_n 1, 1) := by decide +kernel
theorem dX7_findFencePlaces_56 : decode cX7_findFencePlaces 56 = .ok (.bipush 6, 2) := by decide +kernel
theorem dX7_findFencePlaces_58 : decode cX7_findFencePlaces 58 = .ok (.if_icmp .ge 18, 3) := by decide +kernel
theorem dX7_findFencePlaces_61 : decode cX7_findFencePlaces 61 = .ok (.aload_n 0, 1) := by decide +kernel
theorem dX7_findFencePlaces_62 : decode cX7_findFencePlaces 62 = .ok (.getfield 44, 3) := by decide +kernel
theorem dX7_findFencePlaces_65 : decode cX7_findFencePlaces 65 = .ok (.iload_n 1, 1) := by decide +kernel
theorem dX7_findFencePlaces_66 : decode cX7_findFencePlaces 66 = .ok (.iload_n 2, 1) := by decide +kernel
theorem dX7_findFencePlaces_67 : decode cX7_findFencePlaces 67 = .ok (.bipush 7, 2) := by decide +kernel
theorem dX7_findFencePlaces_69 : decode cX7_findFencePlaces 69 = .ok (.imul, 1) := by decide +kernel
theorem dX7_findFencePlaces_70 : decode cX7_findFencePlaces 70 = .ok (.iload_n 3, 1) := by decide +kernel
theorem dX7_findFencePlaces_71 : decode cX7_findFencePlaces 71 = .ok (.iadd, 1) := by decide +kernel
theorem dX7_findFencePlaces_72 : decode cX7_findFencePlaces 72 = .ok (.iastore, 1) := by decide +kernel
theorem dX7_findFencePlaces_73 : decode cX7_findFencePlaces 73 = .ok (.iinc 1 1, 3) := by decide +kernel
theorem dX7_findFencePlaces_76 : decode cX7_findFencePlaces 76 = .ok (.iinc 3 1, 3) := by decide +kernel
theorem dX7_findFencePlaces_79 : decode cX7_findFencePlaces 79 = .ok (.goto (-62), 3) := by decide +kernel
theorem dX7_findFencePlaces_82 : decode cX7_findFencePlaces 82 = .ok (.iinc 2 1, 3) := by decide +kernel
theorem dX7_findFencePlaces_85 : decode cX7_findFencePlaces 85 = .ok (.goto (-81), 3) := by decide +kernel
theorem dX7_findFencePlaces_88 : decode cX7_findFencePlaces 88 = .ok (.iload_n 1, 1) := by decide +kernel
theorem dX7_findFencePlaces_89 : decode cX7_findFencePlaces 89 = .ok (.ireturn, 1) := by decide +kernel
theorem dX8_init_0 : decode cX8_init 0 = .ok (.aload_n 0, 1) := by decide +kernel
theorem dX8_init_1 : decode cX8_init 1 = .ok (.invokespecial 3, 3) := by decide +kernel
theorem dX8_init_4 : decode cX8_init 4 = .ok (.aload_n 0, 1) := by decide +kernel
theorem dX8_init_5 : decode cX8_init 5 = .ok (.bipush 120, 2) := by decide +kernel
theorem dX8_init_7 : decode cX8_init 7 = .ok (.newarray .int, 2) := by decide +kernel
theorem dX8_init_9 : decode cX8_init 9 = .ok (.putfield 9, 3) := by decide +kernel
theorem dX8_init_12 : decode cX8_init 12 = .ok (.return_, 1) := by decide +kernel
theorem dX8_append_0 : decode cX8_append 0 = .ok (.iload_n 2, 1) := by decide +kernel
theorem dX8_append_1 : decode cX8_append 1 = .ok (.iconst 1, 1) := by decide +kernel
theorem dX8_append_2 : decode cX8_append 2 = .ok (.isub, 1) := by decide +kernel
theorem dX8_append_3 : decode cX8_append 3 = .ok (.istore_n 3, 1) := by decide +kernel
theorem dX8_append_4 : decode cX8_append 4 = .ok (.iload_n 3, 1) := by decide +kernel
theorem dX8_append_5 : decode cX8_append 5 = .ok (.ifCond .lt 47, 3) := by decide +kernel
theorem dX8_append_8 : decode cX8_append 8 = .ok (.aload_n 0, 1) := by decide +kernel
theorem dX8_append_9 : decode cX8_append 9 = .ok (.getfield 15, 3) := by decide +kernel
theorem dX8_append_12 : decode cX8_append 12 = .ok (.bipush 120, 2) := by decide +kernel
theorem dX8_append_14 : decode cX8_append 14 = .ok (.if_icmp .ge 38, 3) := by decide +kernel
theorem dX8_append_17 : decode cX8_append 17 = .ok (.aload_n 0, 1) := by decide +kernel
theorem dX8_append_18 : decode cX8_append 18 = .ok (.getfield 9, 3) := by decide +kernel
theorem dX8_append_21 : decode cX8_append 21 = .ok (.aload_n 0, 1) := by decide +kernel
theorem dX8_append_22 : decode cX8_append 22 = .ok (.getfield 15, 3) := by decide +kernel
theorem dX8_append_25 : decode cX8_append 25 = .ok (.iload_n 1, 1) := by decide +kernel
theorem dX8_append_26 : decode cX8_append 26 = .ok (.bipush 8, 2) := by decide +kernel
theorem dX8_append_28 : decode cX8_append 28 = .ok (.iload_n 3, 1) := by decide +kernel
theorem dX8_append_29 : decode cX8_append 29 = .ok (.imul, 1) := by decide +kernel
theorem dX8_append_30 : decode cX8_append 30 = .ok (.ishr, 1) := by decide +kernel
theorem dX8_append_31 : decode cX8_append 31 = .ok (.sipush 255, 3) := by decide +kernel
theorem dX8_append_34 : decode cX8_append 34 = .ok (.iand, 1) := by decide +kernel
theorem dX8_append_35 : decode cX8_append 35 = .ok (.iastore, 1) := by decide +kernel
theorem dX8_append_36 : decode cX8_append 36 = .ok (.aload_n 0, 1) := by decide +kernel
theorem dX8_append_37 : decode cX8_append 37 = .ok (.dup, 1) := by decide +kernel
theorem dX8_append_38 : decode cX8_append 38 = .ok (.getfield 15, 3) := by decide +kernel
theorem dX8_append_41 : decode cX8_append 41 = .ok (.iconst 1, 1) := by decide +kernel
theorem dX8_append_42 : decode cX8_append 42 = .ok (.iadd, 1) := by decide +kernel
theorem dX8_append_43 : decode cX8_append 43 = .ok (.putfield 15, 3) := by decide +kernel
theorem dX8_append_46 : decode cX8_append 46 = .ok (.iinc 3 (-1), 3) := by decide +kernel
theorem dX8_append_49 : decode cX8_append 49 = .ok (.goto (-45), 3) := by decide +kernel
theorem dX8_append_52 : decode cX8_append 52 = .ok (.return_, 1) := by decide +kernel
theorem dX9_init_0 : decode cX9_init 0 = .ok (.aload_n 0, 1) := by decide +kernel
theorem dX9_init_1 : decode cX9_init 1 = .ok (.invokespecial 3, 3) := by decide +kernel
theorem dX9_init_4 : decode cX9_init 4 = .ok (.aload_n 0, 1) := by decide +kernel
theorem dX9_init_5 : decode cX9_init 5 = .ok (.sipush 6000, 3) := by decide +kernel
theorem dX9_init_8 : decode cX9_init 8 = .ok (.newarray .long, 2) := by decide +kernel
theorem dX9_init_10 : decode cX9_init 10 = .ok (.putfield 9, 3) := by decide +kernel
theorem dX9_init_13 : decode cX9_init 13 = .ok (.aload_n 0, 1) := by decide +kernel
theorem dX9_init_14 : decode cX9_init 14 = .ok (.sipush 16384, 3) := by decide +kernel
theorem dX9_init_17 : decode cX9_init 17 = .ok (.newarray .int, 2) := by decide +kernel
theorem dX9_init_19 : decode cX9_init 19 = .ok (.putfield 15, 3) := by decide +kernel
theorem dX9_init_22 : decode cX9_init 22 = .ok (.aload_n 0, 1) := by decide +kernel
theorem dX9_init_23 : decode cX9_init 23 = .ok (.sipush 6000, 3) := by decide +kernel
theorem dX9_init_26 : decode cX9_init 26 = .ok (.newarray .int, 2) := by decide +kernel
theorem dX9_init_28 : decode cX9_init 28 = .ok (.putfield 19, 3) := by decide +kernel
theorem dX9_init_31 : decode cX9_init 31 = .ok (.aload_n 0, 1) := by decide +kernel
theorem dX9_init_32 : decode cX9_init 32 = .ok (.sipush 6000, 3) := by decide +kernel
theorem dX9_init_35 : decode cX9_init 35 = .ok (.newarray .int, 2) := by decide +kernel
theorem dX9_init_37 : decode cX9_init 37 = .ok (.putfield 22, 3) := by decide +kernel
theorem dX9_init_40 : decode cX9_init 40 = .ok (.aload_n 0, 1) := by decide +kernel
theorem dX9_init_41 : decode cX9_init 41 = .ok (.ldc 25, 2) := by decide +kernel
theorem dX9_init_43 : decode cX9_init 43 = .ok (.newarray .int, 2) := by decide +kernel
theorem dX9_init_45 : decode cX9_init 45 = .ok (.putfield 26, 3) := by decide +kernel
theorem dX9_init_48 : decode cX9_init 48 = .ok (.aload_n 0, 1) := by decide +kernel
theorem dX9_init_49 : decode cX9_init 49 = .ok (.sipush 6000, 3) := by decide +kernel
theorem dX9_init_52 : decode cX9_init 52 = .ok (.newarray .int, 2) := by decide +kernel
theorem dX9_init_54 : decode cX9_init 54 = .ok (.putfield 29, 3) := by decide +kernel
theorem dX9_init_57 : decode cX9_init 57 = .ok (.aload_n 0, 1) := by decide +kernel
theorem dX9_init_58 : decode cX9_init 58 = .ok (.sipush 6000, 3) := by decide +kernel
theorem dX9_init_61 : decode cX9_init 61 = .ok (.newarray .int, 2) := by decide +kernel
theorem dX9_init_63 : decode cX9_init 63 = .ok (.putfield 32, 3) := by decide +kernel
theorem dX9_init_66 : decode cX9_init 66 = .ok (.return_, 1) := by decide +kernel
theorem dX9_explore_0 : decode cX9_explore 0 = .ok (.aload_n 0, 1) := by decide +kernel
theorem dX9_explore_1 : decode cX9_explore 1 = .ok (.iconst 0, 1) := by decide +kernel
theorem dX9_explore_2 : decode cX9_explore 2 = .ok (.putfield 35, 3) := by decide +kernel
theorem dX9_explore_5 : decode cX9_explore 5 = .ok (.aload_n 0, 1) := by decide +kernel
theorem dX9_explore_6 : decode cX9_explore 6 = .ok (.iconst 0, 1) := by decide +kernel
theorem dX9_explore_7 : decode cX9_explore 7 = .ok (.putfield 39, 3) := by decide +kernel
theorem dX9_explore_10 : decode cX9_explore 10 = .ok (.aload_n 0, 1) := by decide +kernel
theorem dX9_explore_11 : decode cX9_explore 11 = .ok (.aload_n 1, 1) := by decide +kernel
theorem dX9_explore_12 : decode cX9_explore 12 = .ok (.getfield 43, 3) := by decide +kernel
theorem dX9_explore_15 : decode cX9_explore 15 = .ok (.iconst (-1), 1) := by decide +kernel
theorem dX9_explore_16 : decode cX9_explore 16 = .ok (.invokevirtual 49, 3) := by decide +kernel
theorem dX9_explore_19 : decode cX9_explore 19 = .ok (.pop, 1) := by decide +kernel
theorem dX9_explore_20 : decode cX9_explore 20 = .ok (.iconst 0, 1) := by decide +kernel
theorem dX9_explore_21 : decode cX9_explore 21 = .ok (.istore_n 2, 1) := by decide +kernel
theorem dX9_explore_22 : decode cX9_explore 22 = .ok (.iload_n 2, 1) := by decide +kernel
theorem dX9_explore_23 : decode cX9_explore 23 = .ok (.sipush 6000, 3) := by decide +kernel
theorem dX9_explore_26 : decode cX9_explore 26 = .ok (.if_icmp .ge 98, 3) := by decide +kernel
theorem dX9_explore_29 : decode cX9_explore 29 = .ok (.iload_n 2, 1) := by decide +kernel
theorem dX9_explore_30 : decode cX9_explore 30 = .ok (.aload_n 0, 1) := by decide +kernel
theorem dX9_explore_31 : decode cX9_explore 31 = .ok (.getfield 35, 3) := by decide +kernel
theorem dX9_explore_34 : decode cX9_explore 34 = .ok (.if_icmp .ge 90, 3) := by decide +kernel
theorem dX9_explore_37 : decode cX9_explore 37 = .ok (.aload_n 0, 1) := by decide +kernel
theorem dX9_explore_38 : decode cX9_explore 38 = .ok (.getfield 39, 3) := by decide +kernel
theorem dX9_explore_41 : decode cX9_explore 41 = .ok (.ifCond .ne 83, 3) := by decide +kernel
theorem dX9_explore_44 : decode cX9_explore 44 = .ok (.iconst 0, 1) := by decide +kernel
theorem dX9_explore_45 : decode cX9_explore 45 = .ok (.istore_n 3, 1) := by decide +kernel
theorem dX9_explore_46 : decode cX9_explore 46 = .ok (.iload_n 3, 1) := by decide +kernel
theorem dX9_explore_47 : decode cX9_explore 47 = .ok (.bipush 6, 2) := by decide +kernel
theorem dX9_explore_49 : decode cX9_explore 49 = .ok (.if_icmp .ge 69, 3) := by decide +kernel
theorem dX9_explore_52 : decode cX9_explore 52 = .ok (.aload_n 0, 1) := by decide +kernel
theorem dX9_explore_53 : decode cX9_explore 53 = .ok (.getfield 39, 3) := by decide +kernel
theorem dX9_explore_56 : decode cX9_explore 56 = .ok (.ifCond .ne 62, 3) := by decide +kernel
theorem dX9_explore_59 : decode cX9_explore 59 = .ok (.aload_n 1, 1) := by decide +kernel
theorem dX9_explore_60 : decode cX9_explore 60 = .ok (.aload_n 0, 1) := by decide +kernel
theorem dX9_explore_61 : decode cX9_explore 61 = .ok (.getfield 9, 3) := by decide +kernel
theorem dX9_explore_64 : decode cX9_explore 64 = .ok (.iload_n 2, 1) := by decide +kernel
theorem dX9_explore_65 : decode cX9_explore 65 = .ok (.laload, 1) := by decide +kernel
theorem dX9_explore_66 : decode cX9_explore 66 = .ok (.iload_n 3, 1) := by decide +kernel
theorem dX9_explore_67 : decode cX9_explore 67 = .ok (.aload_n 1, 1) := by decide +kernel
theorem dX9_explore_68 : decode cX9_explore 68 = .ok (.getfield 53, 3) := by decide +kernel
theorem dX9_explore_71 : decode cX9_explore 71 = .ok (.invokevirtual 56, 3) := by decide +kernel
theorem dX9_explore_74 : decode cX9_explore 74 = .ok (.lstore 4, 2) := by decide +kernel
theorem dX9_explore_76 : decode cX9_explore 76 = .ok (.iload_n 2, 1) := by decide +kernel
theorem dX9_explore_77 : decode cX9_explore 77 = .ok (.bipush 6, 2) := by decide +kernel
theorem dX9_explore_79 : decode cX9_explore 79 = .ok (.imul, 1) := by decide +kernel
theorem dX9_explore_80 : decode cX9_explore 80 = .ok (.iload_n 3, 1) := by decide +kernel
theorem dX9_explore_81 : decode cX9_explore 81 = .ok (.iadd, 1) := by decide +kernel
theorem dX9_explore_82 : decode cX9_explore 82 = .ok (.istore 6, 2) := by decide +kernel
theorem dX9_explore_84 : decode cX9_explore 84 = .ok (.aload_n 0, 1) := by decide +kernel
theorem dX9_explore_85 : decode cX9_explore 85 = .ok (.getfield 26, 3) := by decide +kernel
theorem dX9_explore_88 : decode cX9_explore 88 = .ok (.iload 6, 2) := by decide +kernel
theorem dX9_explore_90 : decode cX9_explore 90 = .ok (.lload 4, 2) := by decide +kernel
theorem dX9_explore_92 : decode cX9_explore 92 = .ok (.ldc2_w 60, 3) := by decide +kernel
theorem dX9_explore_95 : decode cX9_explore 95 = .ok (.lcmp, 1) := by decide +kernel
theorem dX9_explore_96 : decode cX9_explore 96 = .ok (.ifCond .ne 7, 3) := by decide +kernel
theorem dX9_explore_99 : decode cX9_explore 99 = .ok (.iconst (-1), 1) := by decide +kernel
theorem dX9_explore_100 : decode cX9_explore 100 = .ok (.goto 11, 3) := by decide +kernel
theorem dX9_explore_103 : decode cX9_explore 103 = .ok (.aload_n 0, 1) := by decide +kernel
theorem dX9_explore_104 : decode cX9_explore 104 = .ok (.lload 4, 2) := by decide +kernel
theorem dX9_explore_106 : decode cX9_explore 106 = .ok (.iload 6, 2) := by decide +kernel
theorem dX9_explore_108 : decode cX9_explore 108 = .ok (.invokevirtual 49, 3) := by decide +kernel
theorem dX9_explore_111 : decode cX9_explore 111 = .ok (.iastore, 1) := by decide +kernel
theorem dX9_explore_112 : decode cX9_explore 112 = .ok (.iinc 3 1, 3) := by decide +kernel
theorem dX9_explore_115 : decode cX9_explore 115 = .ok (.goto (-69), 3) := by decide +kernel
theorem dX9_explore_118 : decode cX9_explore 118 = .ok (.iinc 2 1, 3) := by decide +kernel
theorem dX9_explore_121 : decode cX9_explore 121 = .ok (.goto (-99), 3) := by decide +kernel
theorem dX9_explore_124 : decode cX9_explore 124 = .ok (.return_, 1) := by decide +kernel
theorem dX9_indexOf_0 : decode cX9_indexOf 0 = .ok (.lload_n 1, 1) := by decide +kernel
theorem dX9_indexOf_1 : decode cX9_indexOf 1 = .ok (.ldc2_w 62, 3) := by decide +kernel
theorem dX9_indexOf_4 : decode cX9_indexOf 4 = .ok (.lmul, 1) := by decide +kernel
theorem dX9_indexOf_5 : decode cX9_indexOf 5 = .ok (.bipush 50, 2) := by decide +kernel
theorem dX9_indexOf_7 : decode cX9_indexOf 7 = .ok (.lushr, 1) := by decide +kernel
theorem dX9_indexOf_8 : decode cX9_indexOf 8 = .ok (.l2i, 1) := by decide +kernel
theorem dX9_indexOf_9 : decode cX9_indexOf 9 = .ok (.istore 4, 2) := by decide +kernel
theorem dX9_indexOf_11 : decode cX9_indexOf 11 = .ok (.iconst 0, 1) := by decide +kernel
theorem dX9_indexOf_12 : decode cX9_indexOf 12 = .ok (.istore 5, 2) := by decide +kernel
theorem dX9_indexOf_14 : decode cX9_indexOf 14 = .ok (.iload 5, 2) := by decide +kernel
theorem dX9_indexOf_16 : decode cX9_indexOf 16 = .ok (.sipush 16384, 3) := by decide +kernel
theorem dX9_indexOf_19 : decode cX9_indexOf 19 = .ok (.if_icmp .ge 73, 3) := by decide +kernel
theorem dX9_indexOf_22 : decode cX9_indexOf 22 = .ok (.aload_n 0, 1) := by decide +kernel
theorem dX9_indexOf_23 : decode cX9_indexOf 23 = .ok (.getfield 15, 3) := by decide +kernel
theorem dX9_indexOf_26 : decode cX9_indexOf 26 = .ok (.iload 4, 2) := by decide +kernel
theorem dX9_indexOf_28 : decode cX9_indexOf 28 = .ok (.iaload, 1) := by decide +kernel
theorem dX9_indexOf_29 : decode cX9_indexOf 29 = .ok (.istore 6, 2) := by decide +kernel
theorem dX9_indexOf_31 : decode cX9_indexOf 31 = .ok (.iload 6, 2) := by decide +kernel
theorem dX9_indexOf_33 : decode cX9_indexOf 33 = .ok (.aload_n 0, 1) := by decide +kernel
theorem dX9_indexOf_34 : decode cX9_indexOf 34 = .ok (.getfield 35, 3) := by decide +kernel
theorem dX9_indexOf_37 : decode cX9_indexOf 37 = .ok (.if_icmp .ge 15, 3) := by decide +kernel
theorem dX9_indexOf_40 : decode cX9_indexOf 40 = .ok (.aload_n 0, 1) := by decide +kernel
theorem dX9_indexOf_41 : decode cX9_indexOf 41 = .ok (.getfield 19, 3) := by decide +kernel
theorem dX9_indexOf_44 : decode cX9_indexOf 44 = .ok (.iload 6, 2) := by decide +kernel
theorem dX9_indexOf_46 : decode cX9_indexOf 46 = .ok (.iaload, 1) := by decide +kernel
theorem dX9_indexOf_47 : decode cX9_indexOf 47 = .ok (.iload 4, 2) := by decide +kernel
theorem dX9_indexOf_49 : decode cX9_indexOf 49 = .ok (.if_icmp .eq 12, 3) := by decide +kernel
theorem dX9_indexOf_52 : decode cX9_indexOf 52 = .ok (.aload_n 0, 1) := by decide +kernel
theorem dX9_indexOf_53 : decode cX9_indexOf 53 = .ok (.lload_n 1, 1) := by decide +kernel
theorem dX9_indexOf_54 : decode cX9_indexOf 54 = .ok (.iload 4, 2) := by decide +kernel
theorem dX9_indexOf_56 : decode cX9_indexOf 56 = .ok (.iload_n 3, 1) := by decide +kernel
theorem dX9_indexOf_57 : decode cX9_indexOf 57 = .ok (.invokevirtual 64, 3) := by decide +kernel
theorem dX9_indexOf_60 : decode cX9_indexOf 60 = .ok (.ireturn, 1) := by decide +kernel
theorem dX9_indexOf_61 : decode cX9_indexOf 61 = .ok (.aload_n 0, 1) := by decide +kernel
theorem dX9_indexOf_62 : decode cX9_indexOf 62 = .ok (.getfield 9, 3) := by decide +kernel
theorem dX9_indexOf_65 : decode cX9_indexOf 65 = .ok (.iload 6, 2) := by decide +kernel
theorem dX9_indexOf_67 : decode cX9_indexOf 67 = .ok (.laload, 1) := by decide +kernel
theorem dX9_indexOf_68 : decode cX9_indexOf 68 = .ok (.lload_n 1, 1) := by decide +kernel
theorem dX9_indexOf_69 : decode cX9_indexOf 69 = .ok (.lcmp, 1) := by decide +kernel
theorem dX9_indexOf_70 : decode cX9_indexOf 70 = .ok (.ifCond .ne 6, 3) := by decide +kernel
theorem dX9_indexOf_73 : decode cX9_indexOf 73 = .ok (.iload 6, 2) := by decide +kernel
theorem dX9_indexOf_75 : decode cX9_indexOf 75 = .ok (.ireturn, 1) := by decide +kernel
theorem dX9_indexOf_76 : decode cX9_indexOf 76 = .ok (.iload 4, 2) := by decide +kernel
theorem dX9_indexOf_78 : decode cX9_indexOf 78 = .ok (.iconst 1, 1) := by decide +kernel
theorem dX9_indexOf_79 : decode cX9_indexOf 79 = .ok (.iadd, 1) := by decide +kernel
theorem dX9_indexOf_80 : decode cX9_indexOf 80 = .ok (.sipush 16383, 3) := by decide +kernel
theorem dX9_indexOf_83 : decode cX9_indexOf 83 = .ok (.iand, 1) := by decide +kernel
theorem dX9_indexOf_84 : decode cX9_indexOf 84 = .ok (.istore 4, 2) := by decide +kernel
theorem dX9_indexOf_86 : decode cX9_indexOf 86 = .ok (.iinc 5 1, 3) := by decide +kernel
theorem dX9_indexOf_89 : decode cX9_indexOf 89 = .ok (.goto (-75), 3) := by decide +kernel
theorem dX9_indexOf_92 : decode cX9_indexOf 92 = .ok (.iconst (-1), 1) := by decide +kernel
theorem dX9_indexOf_93 : decode cX9_indexOf 93 = .ok (.ireturn, 1) := by decide +kernel
theorem dX9_include_0 : decode cX9_include 0 = .ok (.aload_n 0, 1) := by decide +kernel
theorem dX9_include_1 : decode cX9_include 1 = .ok (.getfield 35, 3) := by decide +kernel
theorem dX9_include_4 : decode cX9_include 4 = .ok (.sipush 6000, 3) := by decide +kernel
theorem dX9_include_7 : decode cX9_include 7 = .ok (.if_icmp .lt 10, 3) := by decide +kernel
theorem dX9_include_10 : decode cX9_include 10 = .ok (.aload_n 0, 1) := by decide +kernel
theorem dX9_include_11 : decode cX9_include 11 = .ok (.iconst 1, 1) := by decide +kernel
theorem dX9_include_12 : decode cX9_include 12 = .ok (.putfield 39, 3) := by decide +kernel
theorem dX9_include_15 : decode cX9_include 15 = .ok (.iconst (-1), 1) := by decide +kernel
theorem dX9_include_16 : decode cX9_include 16 = .ok (.ireturn, 1) := by decide +kernel
theorem dX9_include_17 : decode cX9_include 17 = .ok (.aload_n 0, 1) := by decide +kernel
theorem dX9_include_18 : decode cX9_include 18 = .ok (.getfield 9, 3) := by decide +kernel
theorem dX9_include_21 : decode cX9_include 21 = .ok (.aload_n 0, 1) := by decide +kernel
theorem dX9_include_22 : decode cX9_include 22 = .ok (.getfield 35, 3) := by decide +kernel
theorem dX9_include_25 : decode cX9_include 25 = .ok (.lload_n 1, 1) := by decide +kernel
theorem dX9_include_26 : decode cX9_include 26 = .ok (.lastore, 1) := by decide +kernel
theorem dX9_include_27 : decode cX9_include 27 = .ok (.aload_n 0, 1) := by decide +kernel
theorem dX9_include_28 : decode cX9_include 28 = .ok (.getfield 15, 3) := by decide +kernel
theorem dX9_include_31 : decode cX9_include 31 = .ok (.iload_n 3, 1) := by decide +kernel
theorem dX9_include_32 : decode cX9_include 32 = .ok (.aload_n 0, 1) := by decide +kernel
theorem dX9_include_33 : decode cX9_include 33 = .ok (.getfield 35, 3) := by decide +kernel
theorem dX9_include_36 : decode cX9_include 36 = .ok (.iastore, 1) := by decide +kernel
theorem dX9_include_37 : decode cX9_include 37 = .ok (.aload_n 0, 1) := by decide +kernel
theorem dX9_include_38 : decode cX9_include 38 = .ok (.getfield 19, 3) := by decide +kernel
theorem dX9_include_41 : decode cX9_include 41 = .ok (.aload_n 0, 1) := by decide +kernel
theorem dX9_include_42 : decode cX9_include 42 = .ok (.getfield 35, 3) := by decide +kernel
theorem dX9_include_45 : decode cX9_include 45 = .ok (.iload_n 3, 1) := by decide +kernel
theorem dX9_include_46 : decode cX9_include 46 = .ok (.iastore, 1) := by decide +kernel
theorem dX9_include_47 : decode cX9_include 47 = .ok (.aload_n 0, 1) := by decide +kernel
theorem dX9_include_48 : decode cX9_include 48 = .ok (.getfield 22, 3) := by decide +kernel
theorem dX9_include_51 : decode cX9_include 51 = .ok (.aload_n 0, 1) := by decide +kernel
theorem dX9_include_52 : decode cX9_include 52 = .ok (.getfield 35, 3) := by decide +kernel
theorem dX9_include_55 : decode cX9_include 55 = .ok (.iload 4, 2) := by decide +kernel
theorem dX9_include_57 : decode cX9_include 57 = .ok (.iastore, 1) := by decide +kernel
theorem dX9_include_58 : decode cX9_include 58 = .ok (.aload_n 0, 1) := by decide +kernel
theorem dX9_include_59 : decode cX9_include 59 = .ok (.dup, 1) := by decide +kernel
theorem dX9_include_60 : decode cX9_include 60 = .ok (.getfield 35, 3) := by decide +kernel
theorem dX9_include_63 : decode cX9_include 63 = .ok (.iconst 1, 1) := by decide +kernel
theorem dX9_include_64 : decode cX9_include 64 = .ok (.iadd, 1) := by decide +kernel
theorem dX9_include_65 : decode cX9_include 65 = .ok (.putfield 35, 3) := by decide +kernel
theorem dX9_include_68 : decode cX9_include 68 = .ok (.aload_n 0, 1) := by decide +kernel
theorem dX9_include_69 : decode cX9_include 69 = .ok (.getfield 35, 3) := by decide +kernel
theorem dX9_include_72 : decode cX9_include 72 = .ok (.iconst 1, 1) := by decide +kernel
theorem dX9_include_73 : decode cX9_include 73 = .ok (.isub, 1) := by decide +kernel
theorem dX9_include_74 : decode cX9_include 74 = .ok (.ireturn, 1) := by decide +kernel
theorem dX9_gatherEnds_0 : decode cX9_gatherEnds 0 = .ok (.aload_n 2, 1) := by decide +kernel
theorem dX9_gatherEnds_1 : decode cX9_gatherEnds 1 = .ok (.iconst 0, 1) := by decide +kernel
theorem dX9_gatherEnds_2 : decode cX9_gatherEnds 2 = .ok (.putfield 68, 3) := by decide +kernel
theorem dX9_gatherEnds_5 : decode cX9_gatherEnds 5 = .ok (.iconst 0, 1) := by decide +kernel
theorem dX9_gatherEnds_6 : decode cX9_gatherEnds 6 = .ok (.istore_n 3, 1) := by decide +kernel
theorem dX9_gatherEnds_7 : decode cX9_gatherEnds 7 = .ok (.iload_n 3, 1) := by decide +kernel
theorem dX9_gatherEnds_8 : decode cX9_gatherEnds 8 = .ok (.aload_n 0, 1) := by decide +kernel
theorem dX9_gatherEnds_9 : decode cX9_gatherEnds 9 = .ok (.getfield 35, 3) := by decide +kernel
theorem dX9_gatherEnds_12 : decode cX9_gatherEnds 12 = .ok (.if_icmp .ge 36, 3) := by decide +kernel
theorem dX9_gatherEnds_15 : decode cX9_gatherEnds 15 = .ok (.aload_n 1, 1) := by decide +kernel
theorem dX9_gatherEnds_16 : decode cX9_gatherEnds 16 = .ok (.aload_n 0, 1) := by decide +kernel
theorem dX9_gatherEnds_17 : decode cX9_gatherEnds 17 = .ok (.getfield 9, 3) := by decide +kernel
theorem dX9_gatherEnds_20 : decode cX9_gatherEnds 20 = .ok (.iload_n 3, 1) := by decide +kernel
theorem dX9_gatherEnds_21 : decode cX9_gatherEnds 21 = .ok (.laload, 1) := by decide +kernel
theorem dX9_gatherEnds_22 : decode cX9_gatherEnds 22 = .ok (.invokevirtual 73, 3) := by decide +kernel
theorem dX9_gatherEnds_25 : decode cX9_gatherEnds 25 = .ok (.ifCond .eq 17, 3) := by decide +kernel
theorem dX9_gatherEnds_28 : decode cX9_gatherEnds 28 = .ok (.aload_n 2, 1) := by decide +kernel
theorem dX9_gatherEnds_29 : decode cX9_gatherEnds 29 = .ok (.aload_n 1, 1) := by decide +kernel
theorem dX9_gatherEnds_30 : decode cX9_gatherEnds 30 = .ok (.aload_n 0, 1) := by decide +kernel
theorem dX9_gatherEnds_31 : decode cX9_gatherEnds 31 = .ok (.getfield 9, 3) := by decide +kernel
theorem dX9_gatherEnds_34 : decode cX9_gatherEnds 34 = .ok (.iload_n 3, 1) := by decide +kernel
theorem dX9_gatherEnds_35 : decode cX9_gatherEnds 35 = .ok (.laload, 1) := by decide +kernel
theorem dX9_gatherEnds_36 : decode cX9_gatherEnds 36 = .ok (.invokevirtual 77, 3) := by decide +kernel
theorem dX9_gatherEnds_39 : decode cX9_gatherEnds 39 = .ok (.invokevirtual 81, 3) := by decide +kernel
theorem dX9_gatherEnds_42 : decode cX9_gatherEnds 42 = .ok (.iinc 3 1, 3) := by decide +kernel
theorem dX9_gatherEnds_45 : decode cX9_gatherEnds 45 = .ok (.goto (-38), 3) := by decide +kernel
theorem dX9_gatherEnds_48 : decode cX9_gatherEnds 48 = .ok (.return_, 1) := by decide +kernel
theorem dX9_walkTo_0 : decode cX9_walkTo 0 = .ok (.iconst 0, 1) := by decide +kernel
theorem dX9_walkTo_1 : decode cX9_walkTo 1 = .ok (.istore_n 3, 1) := by decide +kernel
theorem dX9_walkTo_2 : decode cX9_walkTo 2 = .ok (.iconst 0, 1) := by decide +kernel
theorem dX9_walkTo_3 : decode cX9_walkTo 3 = .ok (.istore 4, 2) := by decide +kernel
theorem dX9_walkTo_5 : decode cX9_walkTo 5 = .ok (.iload 4, 2) := by decide +kernel
theorem dX9_walkTo_7 : decode cX9_walkTo 7 = .ok (.aload_n 0, 1) := by decide +kernel
theorem dX9_walkTo_8 : decode cX9_walkTo 8 = .ok (.getfield 35, 3) := by decide +kernel
theorem dX9_walkTo_11 : decode cX9_walkTo 11 = .ok (.if_icmp .ge 44, 3) := by decide +kernel
theorem dX9_walkTo_14 : decode cX9_walkTo 14 = .ok (.aload_n 1, 1) := by decide +kernel
theorem dX9_walkTo_15 : decode cX9_walkTo 15 = .ok (.aload_n 0, 1) := by decide +kernel
theorem dX9_walkTo_16 : decode cX9_walkTo 16 = .ok (.getfield 9, 3) := by decide +kernel
theorem dX9_walkTo_19 : decode cX9_walkTo 19 = .ok (.iload 4, 2) := by decide +kernel
theorem dX9_walkTo_21 : decode cX9_walkTo 21 = .ok (.laload, 1) := by decide +kernel
theorem dX9_walkTo_22 : decode cX9_walkTo 22 = .ok (.invokevirtual 73, 3) := by decide +kernel
theorem dX9_walkTo_25 : decode cX9_walkTo 25 = .ok (.ifCond .eq 24, 3) := by decide +kernel
theorem dX9_walkTo_28 : decode cX9_walkTo 28 = .ok (.aload_n 1, 1) := by decide +kernel
theorem dX9_walkTo_29 : decode cX9_walkTo 29 = .ok (.aload_n 0, 1) := by decide +kernel
theorem dX9_walkTo_30 : decode cX9_walkTo 30 = .ok (.getfield 9, 3) := by decide +kernel
theorem dX9_walkTo_33 : decode cX9_walkTo 33 = .ok (.iload 4, 2) := by decide +kernel
theorem dX9_walkTo_35 : decode cX9_walkTo 35 = .ok (.laload, 1) := by decide +kernel
theorem dX9_walkTo_36 : decode cX9_walkTo 36 = .ok (.invokevirtual 77, 3) := by decide +kernel
theorem dX9_walkTo_39 : decode cX9_walkTo 39 = .ok (.iload_n 2, 1) := by decide +kernel
theorem dX9_walkTo_40 : decode cX9_walkTo 40 = .ok (.if_icmp .ne 9, 3) := by decide +kernel
theorem dX9_walkTo_43 : decode cX9_walkTo 43 = .ok (.iload 4, 2) := by decide +kernel
theorem dX9_walkTo_45 : decode cX9_walkTo 45 = .ok (.istore_n 3, 1) := by decide +kernel
theorem dX9_walkTo_46 : decode cX9_walkTo 46 = .ok (.goto 9, 3) := by decide +kernel
theorem dX9_walkTo_49 : decode cX9_walkTo 49 = .ok (.iinc 4 1, 3) := by decide +kernel
theorem dX9_walkTo_52 : decode cX9_walkTo 52 = .ok (.goto (-47), 3) := by decide +kernel
theorem dX9_walkTo_55 : decode cX9_walkTo 55 = .ok (.iconst 0, 1) := by decide +kernel
theorem dX9_walkTo_56 : decode cX9_walkTo 56 = .ok (.istore 4, 2) := by decide +kernel
theorem dX9_walkTo_58 : decode cX9_walkTo 58 = .ok (.iload_n 3, 1) := by decide +kernel
theorem dX9_walkTo_59 : decode cX9_walkTo 59 = .ok (.istore 5, 2) := by decide +kernel
theorem dX9_walkTo_61 : decode cX9_walkTo 61 = .ok (.iload 4, 2) := by decide +kernel
theorem dX9_walkTo_63 : decode cX9_walkTo 63 = .ok (.aload_n 0, 1) := by decide +kernel
theorem dX9_walkTo_64 : decode cX9_walkTo 64 = .ok (.getfield 35, 3) := by decide +kernel
theorem dX9_walkTo_67 : decode cX9_walkTo 67 = .ok (.if_icmp .ge 31, 3) := by decide +kernel
theorem dX9_walkTo_70 : decode cX9_walkTo 70 = .ok (.aload_n 0, 1) := by decide +kernel
theorem dX9_walkTo_71 : decode cX9_walkTo 71 = .ok (.getfield 22, 3) := by decide +kernel
theorem dX9_walkTo_74 : decode cX9_walkTo 74 = .ok (.iload 5, 2) := by decide +kernel
theorem dX9_walkTo_76 : decode cX9_walkTo 76 = .ok (.iaload, 1) := by decide +kernel
theorem dX9_walkTo_77 : decode cX9_walkTo 77 = .ok (.ifCond .lt 21, 3) := by decide +kernel
theorem dX9_walkTo_80 : decode cX9_walkTo 80 = .ok (.iinc 4 1, 3) := by decide +kernel
theorem dX9_walkTo_83 : decode cX9_walkTo 83 = .ok (.aload_n 0, 1) := by decide +kernel
theorem dX9_walkTo_84 : decode cX9_walkTo 84 = .ok (.getfield 22, 3) := by decide +kernel
theorem dX9_walkTo_87 : decode cX9_walkTo 87 = .ok (.iload 5, 2) := by decide +kernel
theorem dX9_walkTo_89 : decode cX9_walkTo 89 = .ok (.iaload, 1) := by decide +kernel
theorem dX9_walkTo_90 : decode cX9_walkTo 90 = .ok (.bipush 6, 2) := by decide +kernel
theorem dX9_walkTo_92 : decode cX9_walkTo 92 = .ok (.idiv, 1) := by decide +kernel
theorem dX9_walkTo_93 : decode cX9_walkTo 93 = .ok (.istore 5, 2) := by decide +kernel
theorem dX9_walkTo_95 : decode cX9_walkTo 95 = .ok (.goto (-34), 3) := by decide +kernel
theorem dX9_walkTo_98 : decode cX9_walkTo 98 = .ok (.iload_n 3, 1) := by decide +kernel
theorem dX9_walkTo_99 : decode cX9_walkTo 99 = .ok (.istore 5, 2) := by decide +kernel
theorem dX9_walkTo_101 : decode cX9_walkTo 101 = .ok (.iload 4, 2) := by decide +kernel
theorem dX9_walkTo_103 : decode cX9_walkTo 103 = .ok (.iconst 1, 1) := by decide +kernel
theorem dX9_walkTo_104 : decode cX9_walkTo 104 = .ok (.isub, 1) := by decide +kernel
theorem dX9_walkTo_105 : decode cX9_walkTo 105 = .ok (.istore 6, 2) := by decide +kernel
theorem dX9_walkTo_107 : decode cX9_walkTo 107 = .ok (.iload 6, 2) := by decide +kernel
theorem dX9_walkTo_109 : decode cX9_walkTo 109 = .ok (.ifCond .lt 38, 3) := by decide +kernel
theorem dX9_walkTo_112 : decode cX9_walkTo 112 = .ok (.aload_n 0, 1) := by decide +kernel
theorem dX9_walkTo_113 : decode cX9_walkTo 113 = .ok (.getfield 32, 3) := by decide +kernel
theorem dX9_walkTo_116 : decode cX9_walkTo 116 = .ok (.iload 6, 2) := by decide +kernel
theorem dX9_walkTo_118 : decode cX9_walkTo 118 = .ok (.aload_n 0, 1) := by decide +kernel
theorem dX9_walkTo_119 : decode cX9_walkTo 119 = .ok (.getfield 22, 3) := by decide +kernel
theorem dX9_walkTo_122 : decode cX9_walkTo 122 = .ok (.iload 5, 2) := by decide +kernel
theorem dX9_walkTo_124 : decode cX9_walkTo 124 = .ok (.iaload, 1) := by decide +kernel
theorem dX9_walkTo_125 : decode cX9_walkTo 125 = .ok (.bipush 6, 2) := by decide +kernel
theorem dX9_walkTo_127 : decode cX9_walkTo 127 = .ok (.irem, 1) := by decide +kernel
theorem dX9_walkTo_128 : decode cX9_walkTo 128 = .ok (.iastore, 1) := by decide +kernel
theorem dX9_walkTo_129 : decode cX9_walkTo 129 = .ok (.aload_n 0, 1) := by decide +kernel
theorem dX9_walkTo_130 : decode cX9_walkTo 130 = .ok (.getfield 22, 3) := by decide +kernel
theorem dX9_walkTo_133 : decode cX9_walkTo 133 = .ok (.iload 5, 2) := by decide +kernel
theorem dX9_walkTo_135 : decode cX9_walkTo 135 = .ok (.iaload, 1) := by decide +kernel
theorem dX9_walkTo_136 : decode cX9_walkTo 136 = .ok (.bipush 6, 2) := by decide +kernel
theorem dX9_walkTo_138 : decode cX9_walkTo 138 = .ok (.idiv, 1) := by decide +kernel
theorem dX9_walkTo_139 : decode cX9_walkTo 139 = .ok (.istore 5, 2) := by decide +kernel
theorem dX9_walkTo_141 : decode cX9_walkTo 141 = .ok (.iinc 6 (-1), 3) := by decide +kernel
theorem dX9_walkTo_144 : decode cX9_walkTo 144 = .ok (.goto (-37), 3) := by decide +kernel
theorem dX9_walkTo_147 : decode cX9_walkTo 147 = .ok (.iload 4, 2) := by decide +kernel
theorem dX9_walkTo_149 : decode cX9_walkTo 149 = .ok (.ireturn, 1) := by decide +kernel
theorem dX9_moveOnPath_0 : decode cX9_moveOnPath 0 = .ok (.aload_n 0, 1) := by decide +kernel
theorem dX9_moveOnPath_1 : decode cX9_moveOnPath 1 = .ok (.getfield 32, 3) := by decide +kernel
theorem dX9_moveOnPath_4 : decode cX9_moveOnPath 4 = .ok (.iload_n 1, 1) := by decide +kernel
theorem dX9_moveOnPath_5 : decode cX9_moveOnPath 5 = .ok (.iaload, 1) := by decide +kernel
theorem dX9_moveOnPath_6 : decode cX9_moveOnPath 6 = .ok (.iconst 3, 1) := by decide +kernel
theorem dX9_moveOnPath_7 : decode cX9_moveOnPath 7 = .ok (.if_icmp .ge 12, 3) := by decide +kernel
theorem dX9_moveOnPath_10 : decode cX9_moveOnPath 10 = .ok (.aload_n 0, 1) := by decide +kernel
theorem dX9_moveOnPath_11 : decode cX9_moveOnPath 11 = .ok (.getfield 32, 3) := by decide +kernel
theorem dX9_moveOnPath_14 : decode cX9_moveOnPath 14 = .ok (.iload_n 1, 1) := by decide +kernel
theorem dX9_moveOnPath_15 : decode cX9_moveOnPath 15 = .ok (.iaload, 1) := by decide +kernel
theorem dX9_moveOnPath_16 : decode cX9_moveOnPath 16 = .ok (.goto 14, 3) := by decide +kernel
theorem dX9_moveOnPath_19 : decode cX9_moveOnPath 19 = .ok (.aload_n 0, 1) := by decide +kernel
theorem dX9_moveOnPath_20 : decode cX9_moveOnPath 20 = .ok (.getfield 32, 3) := by decide +kernel
theorem dX9_moveOnPath_23 : decode cX9_moveOnPath 23 = .ok (.iload_n 1, 1) := by decide +kernel
theorem dX9_moveOnPath_24 : decode cX9_moveOnPath 24 = .ok (.iaload, 1) := by decide +kernel
theorem dX9_moveOnPath_25 : decode cX9_moveOnPath 25 = .ok (.iconst 3, 1) := by decide +kernel
theorem dX9_moveOnPath_26 : decode cX9_moveOnPath 26 = .ok (.isub, 1) := by decide +kernel
theorem dX9_moveOnPath_27 : decode cX9_moveOnPath 27 = .ok (.bipush 10, 2) := by decide +kernel
theorem dX9_moveOnPath_29 : decode cX9_moveOnPath 29 = .ok (.iadd, 1) := by decide +kernel
theorem dX9_moveOnPath_30 : decode cX9_moveOnPath 30 = .ok (.ireturn, 1) := by decide +kernel
theorem dX9_countStuck_0 : decode cX9_countStuck 0 = .ok (.aload_n 0, 1) := by decide +kernel
theorem dX9_countStuck_1 : decode cX9_countStuck 1 = .ok (.getfield 29, 3) := by decide +kernel
theorem dX9_countStuck_4 : decode cX9_countStuck 4 = .ok (.iconst 0, 1) := by decide +kernel
theorem dX9_countStuck_5 : decode cX9_countStuck 5 = .ok (.aload_n 0, 1) := by decide +kernel
theorem dX9_countStuck_6 : decode cX9_countStuck 6 = .ok (.getfield 35, 3) := by decide +kernel
theorem dX9_countStuck_9 : decode cX9_countStuck 9 = .ok (.iconst 0, 1) := by decide +kernel
theorem dX9_countStuck_10 : decode cX9_countStuck 10 = .ok (.invokestatic 84, 3) := by decide +kernel
theorem dX9_countStuck_13 : decode cX9_countStuck 13 = .ok (.iconst 0, 1) := by decide +kernel
theorem dX9_countStuck_14 : decode cX9_countStuck 14 = .ok (.istore_n 1, 1) := by decide +kernel
theorem dX9_countStuck_15 : decode cX9_countStuck 15 = .ok (.iconst 1, 1) := by decide +kernel
theorem dX9_countStuck_16 : decode cX9_countStuck 16 = .ok (.istore_n 2, 1) := by decide +kernel
theorem dX9_countStuck_17 : decode cX9_countStuck 17 = .ok (.iconst 0, 1) := by decide +kernel
theorem dX9_countStuck_18 : decode cX9_countStuck 18 = .ok (.istore_n 3, 1) := by decide +kernel
theorem dX9_countStuck_19 : decode cX9_countStuck 19 = .ok (.iload_n 3, 1) := by decide +kernel
theorem dX9_countStuck_20 : decode cX9_countStuck 20 = .ok (.aload_n 0, 1) := by decide +kernel
theorem dX9_countStuck_21 : decode cX9_countStuck 21 = .ok (.getfield 35, 3) := by decide +kernel
theorem dX9_countStuck_24 : decode cX9_countStuck 24 = .ok (.if_icmp .gt 66, 3) := by decide +kernel
theorem dX9_countStuck_27 : decode cX9_countStuck 27 = .ok (.iload_n 2, 1) := by decide +kernel
theorem dX9_countStuck_28 : decode cX9_countStuck 28 = .ok (.ifCond .eq 62, 3) := by decide +kernel
theorem dX9_countStuck_31 : decode cX9_countStuck 31 = .ok (.iconst 0, 1) := by decide +kernel
theorem dX9_countStuck_32 : decode cX9_countStuck 32 = .ok (.istore_n 2, 1) := by decide +kernel
theorem dX9_countStuck_33 : decode cX9_countStuck 33 = .ok (.aload_n 0, 1) := by decide +kernel
theorem dX9_countStuck_34 : decode cX9_countStuck 34 = .ok (.getfield 35, 3) := by decide +kernel
theorem dX9_countStuck_37 : decode cX9_countStuck 37 = .ok (.iconst 1, 1) := by decide +kernel
theorem dX9_countStuck_38 : decode cX9_countStuck 38 = .ok (.isub, 1) := by decide +kernel
theorem dX9_countStuck_39 : decode cX9_countStuck 39 = .ok (.istore 4, 2) := by decide +kernel
theorem dX9_countStuck_41 : decode cX9_countStuck 41 = .ok (.iload 4, 2) := by decide +kernel
theorem dX9_countStuck_43 : decode cX9_countStuck 43 = .ok (.ifCond .lt 41, 3) := by decide +kernel
theorem dX9_countStuck_46 : decode cX9_countStuck 46 = .ok (.aload_n 0, 1) := by decide +kernel
theorem dX9_countStuck_47 : decode cX9_countStuck 47 = .ok (.getfield 29, 3) := by decide +kernel
theorem dX9_countStuck_50 : decode cX9_countStuck 50 = .ok (.iload 4, 2) := by decide +kernel
theorem dX9_countStuck_52 : decode cX9_countStuck 52 = .ok (.iaload, 1) := by decide +kernel
theorem dX9_countStuck_53 : decode cX9_countStuck 53 = .ok (.ifCond .ne 25, 3) := by decide +kernel
theorem dX9_countStuck_56 : decode cX9_countStuck 56 = .ok (.aload_n 0, 1) := by decide +kernel
theorem dX9_countStuck_57 : decode cX9_countStuck 57 = .ok (.iload 4, 2) := by decide +kernel
theorem dX9_countStuck_59 : decode cX9_countStuck 59 = .ok (.invokevirtual 90, 3) := by decide +kernel
theorem dX9_countStuck_62 : decode cX9_countStuck 62 = .ok (.ifCond .eq 16, 3) := by decide +kernel
theorem dX9_countStuck_65 : decode cX9_countStuck 65 = .ok (.aload_n 0, 1) := by decide +kernel
theorem dX9_countStuck_66 : decode cX9_countStuck 66 = .ok (.getfield 29, 3) := by decide +kernel
theorem dX9_countStuck_69 : decode cX9_countStuck 69 = .ok (.iload 4, 2) := by decide +kernel
theorem dX9_countStuck_71 : decode cX9_countStuck 71 = .ok (.iconst 1, 1) := by decide +kernel
theorem dX9_countStuck_72 : decode cX9_countStuck 72 = .ok (.iastore, 1) := by decide +kernel
theorem dX9_countStuck_73 : decode cX9_countStuck 73 = .ok (.iinc 1 1, 3) := by decide +kernel
theorem dX9_countStuck_76 : decode cX9_countStuck 76 = .ok (.iconst 1, 1) := by decide +kernel
theorem dX9_countStuck_77 : decode cX9_countStuck 77 = .ok (.istore_n 2, 1) := by decide +kernel
theorem dX9_countStuck_78 : decode cX9_countStuck 78 = .ok (.iinc 4 (-1), 3) := by decide +kernel
theorem dX9_countStuck_81 : decode cX9_countStuck 81 = .ok (.goto (-40), 3) := by decide +kernel
theorem dX9_countStuck_84 : decode cX9_countStuck 84 = .ok (.iinc 3 1, 3) := by decide +kernel
theorem dX9_countStuck_87 : decode cX9_countStuck 87 = .ok (.goto (-68), 3) := by decide +kernel
theorem dX9_countStuck_90 : decode cX9_countStuck 90 = .ok (.aload_n 0, 1) := by decide +kernel
theorem dX9_countStuck_91 : decode cX9_countStuck 91 = .ok (.getfield 35, 3) := by decide +kernel
theorem dX9_countStuck_94 : decode cX9_countStuck 94 = .ok (.iload_n 1, 1) := by decide +kernel
theorem dX9_countStuck_95 : decode cX9_countStuck 95 = .ok (.isub, 1) := by decide +kernel
theorem dX9_countStuck_96 : decode cX9_countStuck 96 = .ok (.ireturn, 1) := by decide +kernel
theorem dX9_leadsOut_0 : decode cX9_leadsOut 0 = .ok (.iconst 1, 1) := by decide +kernel
theorem dX9_leadsOut_1 : decode cX9_leadsOut 1 = .ok (.istore_n 2, 1) := by decide +kernel
theorem dX9_leadsOut_2 : decode cX9_leadsOut 2 = .ok (.iload_n 1, 1) := by decide +kernel
theorem dX9_leadsOut_3 : decode cX9_leadsOut 3 = .ok (.bipush 6, 2) := by decide +kernel
theorem dX9_leadsOut_5 : decode cX9_leadsOut 5 = .ok (.imul, 1) := by decide +kernel
theorem dX9_leadsOut_6 : decode cX9_leadsOut 6 = .ok (.istore_n 3, 1) := by decide +kernel
theorem dX9_leadsOut_7 : decode cX9_leadsOut 7 = .ok (.iload_n 3, 1) := by decide +kernel
theorem dX9_leadsOut_8 : decode cX9_leadsOut 8 = .ok (.iload_n 1, 1) := by decide +kernel
theorem dX9_leadsOut_9 : decode cX9_leadsOut 9 = .ok (.iconst 1, 1) := by decide +kernel
theorem dX9_leadsOut_10 : decode cX9_leadsOut 10 = .ok (.iadd, 1) := by decide +kernel
theorem dX9_leadsOut_11 : decode cX9_leadsOut 11 = .ok (.bipush 6, 2) := by decide +kernel
theorem dX9_leadsOut_13 : decode cX9_leadsOut 13 = .ok (.imul, 1) := by decide +kernel
theorem dX9_leadsOut_14 : decode cX9_leadsOut 14 = .ok (.if_icmp .ge 37, 3) := by decide +kernel
theorem dX9_leadsOut_17 : decode cX9_leadsOut 17 = .ok (.aload_n 0, 1) := by decide +kernel
theorem dX9_leadsOut_18 : decode cX9_leadsOut 18 = .ok (.getfield 26, 3) := by decide +kernel
theorem dX9_leadsOut_21 : decode cX9_leadsOut 21 = .ok (.iload_n 3, 1) := by decide +kernel
theorem dX9_leadsOut_22 : decode cX9_leadsOut 22 = .ok (.iaload, 1) := by decide +kernel
theorem dX9_leadsOut_23 : decode cX9_leadsOut 23 = .ok (.ifCond .lt 22, 3) := by decide +kernel
theorem dX9_leadsOut_26 : decode cX9_leadsOut 26 = .ok (.iconst 0, 1) := by decide +kernel
theorem dX9_leadsOut_27 : decode cX9_leadsOut 27 = .ok (.istore_n 2, 1) := by decide +kernel
theorem dX9_leadsOut_28 : decode cX9_leadsOut 28 = .ok (.aload_n 0, 1) := by decide +kernel
theorem dX9_leadsOut_29 : decode cX9_leadsOut 29 = .ok (.getfield 29, 3) := by decide +kernel
theorem dX9_leadsOut_32 : decode cX9_leadsOut 32 = .ok (.aload_n 0, 1) := by decide +kernel
theorem dX9_leadsOut_33 : decode cX9_leadsOut 33 = .ok (.getfield 26, 3) := by decide +kernel
theorem dX9_leadsOut_36 : decode cX9_leadsOut 36 = .ok (.iload_n 3, 1) := by decide +kernel
theorem dX9_leadsOut_37 : decode cX9_leadsOut 37 = .ok (.iaload, 1) := by decide +kernel
theorem dX9_leadsOut_38 : decode cX9_leadsOut 38 = .ok (.iaload, 1) := by decide +kernel
theorem dX9_leadsOut_39 : decode cX9_leadsOut 39 = .ok (.iconst 1, 1) := by decide +kernel
theorem dX9_leadsOut_40 : decode cX9_leadsOut 40 = .ok (.if_icmp .ne 5, 3) := by decide +kernel
theorem dX9_leadsOut_43 : decode cX9_leadsOut 43 = .ok (.iconst 1, 1) := by decide +kernel
theorem dX9_leadsOut_44 : decode cX9_leadsOut 44 = .ok (.ireturn, 1) := by decide +kernel
theorem dX9_leadsOut_45 : decode cX9_leadsOut 45 = .ok (.iinc 3 1, 3) := by decide +kernel
theorem dX9_leadsOut_48 : decode cX9_leadsOut 48 = .ok (.goto (-41), 3) := by decide +kernel
theorem dX9_leadsOut_51 : decode cX9_leadsOut 51 = .ok (.iload_n 2, 1) := by decide +kernel
theorem dX9_leadsOut_52 : decode cX9_leadsOut 52 = .ok (.ireturn, 1) := by decide +kernel
theorem dX9_hasRound_0 : decode cX9_hasRound 0 = .ok (.aload_n 0, 1) := by decide +kernel
theorem dX9_hasRound_1 : decode cX9_hasRound 1 = .ok (.getfield 29, 3) := by decide +kernel
theorem dX9_hasRound_4 : decode cX9_hasRound 4 = .ok (.iconst 0, 1) := by decide +kernel
theorem dX9_hasRound_5 : decode cX9_hasRound 5 = .ok (.aload_n 0, 1) := by decide +kernel
theorem dX9_hasRound_6 : decode cX9_hasRound 6 = .ok (.getfield 35, 3) := by decide +kernel
theorem dX9_hasRound_9 : decode cX9_hasRound 9 = .ok (.iconst 0, 1) := by decide +kernel
theorem dX9_hasRound_10 : decode cX9_hasRound 10 = .ok (.invokestatic 84, 3) := by decide +kernel
theorem dX9_hasRound_13 : decode cX9_hasRound 13 = .ok (.iconst 0, 1) := by decide +kernel
theorem dX9_hasRound_14 : decode cX9_hasRound 14 = .ok (.istore_n 1, 1) := by decide +kernel
theorem dX9_hasRound_15 : decode cX9_hasRound 15 = .ok (.iload_n 1, 1) := by decide +kernel
theorem dX9_hasRound_16 : decode cX9_hasRound 16 = .ok (.aload_n 0, 1) := by decide +kernel
theorem dX9_hasRound_17 : decode cX9_hasRound 17 = .ok (.getfield 35, 3) := by decide +kernel
theorem dX9_hasRound_20 : decode cX9_hasRound 20 = .ok (.bipush 6, 2) := by decide +kernel
theorem dX9_hasRound_22 : decode cX9_hasRound 22 = .ok (.imul, 1) := by decide +kernel
theorem dX9_hasRound_23 : decode cX9_hasRound 23 = .ok (.if_icmp .ge 33, 3) := by decide +kernel
theorem dX9_hasRound_26 : decode cX9_hasRound 26 = .ok (.aload_n 0, 1) := by decide +kernel
theorem dX9_hasRound_27 : decode cX9_hasRound 27 = .ok (.getfield 26, 3) := by decide +kernel
theorem dX9_hasRound_30 : decode cX9_hasRound 30 = .ok (.iload_n 1, 1) := by decide +kernel
theorem dX9_hasRound_31 : decode cX9_hasRound 31 = .ok (.iaload, 1) := by decide +kernel
theorem dX9_hasRound_32 : decode cX9_hasRound 32 = .ok (.ifCond .lt 18, 3) := by decide +kernel
theorem dX9_hasRound_35 : decode cX9_hasRound 35 = .ok (.aload_n 0, 1) := by decide +kernel
theorem dX9_hasRound_36 : decode cX9_hasRound 36 = .ok (.getfield 29, 3) := by decide +kernel
theorem dX9_hasRound_39 : decode cX9_hasRound 39 = .ok (.aload_n 0, 1) := by decide +kernel
theorem dX9_hasRound_40 : decode cX9_hasRound 40 = .ok (.getfield 26, 3) := by decide +kernel
theorem dX9_hasRound_43 : decode cX9_hasRound 43 = .ok (.iload_n 1, 1) := by decide +kernel
theorem dX9_hasRound_44 : decode cX9_hasRound 44 = .ok (.iaload, 1) := by decide +kernel
theorem dX9_hasRound_45 : decode cX9_hasRound 45 = .ok (.dup2, 1) := by decide +kernel
theorem dX9_hasRound_46 : decode cX9_hasRound 46 = .ok (.iaload, 1) := by decide +kernel
theorem dX9_hasRound_47 : decode cX9_hasRound 47 = .ok (.iconst 1, 1) := by decide +kernel
theorem dX9_hasRound_48 : decode cX9_hasRound 48 = .ok (.iadd, 1) := by decide +kernel
theorem dX9_hasRound_49 : decode cX9_hasRound 49 = .ok (.iastore, 1) := by decide +kernel
theorem dX9_hasRound_50 : decode cX9_hasRound 50 = .ok (.iinc 1 1, 3) := by decide +kernel
theorem dX9_hasRound_53 : decode cX9_hasRound 53 = .ok (.goto (-38), 3) := by decide +kernel
theorem dX9_hasRound_56 : decode cX9_hasRound 56 = .ok (.iconst 0, 1) := by decide +kernel
theorem dX9_hasRound_57 : decode cX9_hasRound 57 = .ok (.istore_n 1, 1) := by decide +kernel
theorem dX9_hasRound_58 : decode cX9_hasRound 58 = .ok (.aload_n 0, 1) := by decide +kernel
theorem dX9_hasRound_59 : decode cX9_hasRound 59 = .ok (.getfield 35, 3) := by decide +kernel
theorem dX9_hasRound_62 : decode cX9_hasRound 62 = .ok (.ifCond .le 21, 3) := by decide +kernel
theorem dX9_hasRound_65 : decode cX9_hasRound 65 = .ok (.aload_n 0, 1) := by decide +kernel
theorem dX9_hasRound_66 : decode cX9_hasRound 66 = .ok (.getfield 29, 3) := by decide +kernel
theorem dX9_hasRound_69 : decode cX9_hasRound 69 = .ok (.iconst 0, 1) := by decide +kernel
theorem dX9_hasRound_70 : decode cX9_hasRound 70 = .ok (.iaload, 1) := by decide +kernel
theorem dX9_hasRound_71 : decode cX9_hasRound 71 = .ok (.ifCond .ne 12, 3) := by decide +kernel
theorem dX9_hasRound_74 : decode cX9_hasRound 74 = .ok (.aload_n 0, 1) := by decide +kernel
theorem dX9_hasRound_75 : decode cX9_hasRound 75 = .ok (.getfield 32, 3) := by decide +kernel
theorem dX9_hasRound_78 : decode cX9_hasRound 78 = .ok (.iconst 0, 1) := by decide +kernel
theorem dX9_hasRound_79 : decode cX9_hasRound 79 = .ok (.iconst 0, 1) := by decide +kernel
theorem dX9_hasRound_80 : decode cX9_hasRound 80 = .ok (.iastore, 1) := by decide +kernel
theorem dX9_hasRound_81 : decode cX9_hasRound 81 = .ok (.iconst 1, 1) := by decide +kernel
theorem dX9_hasRound_82 : decode cX9_hasRound 82 = .ok (.istore_n 1, 1) := by decide +kernel
theorem dX9_hasRound_83 : decode cX9_hasRound 83 = .ok (.iconst 0, 1) := by decide +kernel
theorem dX9_hasRound_84 : decode cX9_hasRound 84 = .ok (.istore_n 2, 1) := by decide +kernel
theorem dX9_hasRound_85 : decode cX9_hasRound 85 = .ok (.iload_n 2, 1) := by decide +kernel
theorem dX9_hasRound_86 : decode cX9_hasRound 86 = .ok (.aload_n 0, 1) := by decide +kernel
theorem dX9_hasRound_87 : decode cX9_hasRound 87 = .ok (.getfield 35, 3) := by decide +kernel
theorem dX9_hasRound_90 : decode cX9_hasRound 90 = .ok (.if_icmp .ge 26, 3) := by decide +kernel
theorem dX9_hasRound_93 : decode cX9_hasRound 93 = .ok (.iload_n 2, 1) := by decide +kernel
theorem dX9_hasRound_94 : decode cX9_hasRound 94 = .ok (.iload_n 1, 1) := by decide +kernel
theorem dX9_hasRound_95 : decode cX9_hasRound 95 = .ok (.if_icmp .ge 21, 3) := by decide +kernel
theorem dX9_hasRound_98 : decode cX9_hasRound 98 = .ok (.aload_n 0, 1) := by decide +kernel
theorem dX9_hasRound_99 : decode cX9_hasRound 99 = .ok (.aload_n 0, 1) := by decide +kernel
theorem dX9_hasRound_100 : decode cX9_hasRound 100 = .ok (.getfield 32, 3) := by decide +kernel
theorem dX9_hasRound_103 : decode cX9_hasRound 103 = .ok (.iload_n 2, 1) := by decide +kernel
theorem dX9_hasRound_104 : decode cX9_hasRound 104 = .ok (.iaload, 1) := by decide +kernel
theorem dX9_hasRound_105 : decode cX9_hasRound 105 = .ok (.iload_n 1, 1) := by decide +kernel
theorem dX9_hasRound_106 : decode cX9_hasRound 106 = .ok (.invokevirtual 94, 3) := by decide +kernel
theorem dX9_hasRound_109 : decode cX9_hasRound 109 = .ok (.istore_n 1, 1) := by decide +kernel
theorem dX9_hasRound_110 : decode cX9_hasRound 110 = .ok (.iinc 2 1, 3) := by decide +kernel
theorem dX9_hasRound_113 : decode cX9_hasRound 113 = .ok (.goto (-28), 3) := by decide +kernel
theorem dX9_hasRound_116 : decode cX9_hasRound 116 = .ok (.iload_n 1, 1) := by decide +kernel
theorem dX9_hasRound_117 : decode cX9_hasRound 117 = .ok (.aload_n 0, 1) := by decide +kernel
theorem dX9_hasRound_118 : decode cX9_hasRound 118 = .ok (.getfield 35, 3) := by decide +kernel
theorem dX9_hasRound_121 : decode cX9_hasRound 121 = .ok (.if_icmp .ge 7, 3) := by decide +kernel
theorem dX9_hasRound_124 : decode cX9_hasRound 124 = .ok (.iconst 1, 1) := by decide +kernel
theorem dX9_hasRound_125 : decode cX9_hasRound 125 = .ok (.goto 4, 3) := by decide +kernel
theorem dX9_hasRound_128 : decode cX9_hasRound 128 = .ok (.iconst 0, 1) := by decide +kernel
theorem dX9_hasRound_129 : decode cX9_hasRound 129 = .ok (.ireturn, 1) := by decide +kernel
theorem dX9_takeAway_0 : decode cX9_takeAway 0 = .ok (.iload_n 2, 1) := by decide +kernel
theorem dX9_takeAway_1 : decode cX9_takeAway 1 = .ok (.istore_n 3, 1) := by decide +kernel
theorem dX9_takeAway_2 : decode cX9_takeAway 2 = .ok (.iload_n 1, 1) := by decide +kernel
theorem dX9_takeAway_3 : decode cX9_takeAway 3 = .ok (.bipush 6, 2) := by decide +kernel
theorem dX9_takeAway_5 : decode cX9_takeAway 5 = .ok (.imul, 1) := by decide +kernel
theorem dX9_takeAway_6 : decode cX9_takeAway 6 = .ok (.istore 4, 2) := by decide +kernel
theorem dX9_takeAway_8 : decode cX9_takeAway 8 = .ok (.iload 4, 2) := by decide +kernel
theorem dX9_takeAway_10 : decode cX9_takeAway 10 = .ok (.iload_n 1, 1) := by decide +kernel
theorem dX9_takeAway_11 : decode cX9_takeAway 11 = .ok (.iconst 1, 1) := by decide +kernel
theorem dX9_takeAway_12 : decode cX9_takeAway 12 = .ok (.iadd, 1) := by decide +kernel
theorem dX9_takeAway_13 : decode cX9_takeAway 13 = .ok (.bipush 6, 2) := by decide +kernel
theorem dX9_takeAway_15 : decode cX9_takeAway 15 = .ok (.imul, 1) := by decide +kernel
theorem dX9_takeAway_16 : decode cX9_takeAway 16 = .ok (.if_icmp .ge 62, 3) := by decide +kernel
theorem dX9_takeAway_19 : decode cX9_takeAway 19 = .ok (.aload_n 0, 1) := by decide +kernel
theorem dX9_takeAway_20 : decode cX9_takeAway 20 = .ok (.getfield 26, 3) := by decide +kernel
theorem dX9_takeAway_23 : decode cX9_takeAway 23 = .ok (.iload 4, 2) := by decide +kernel
theorem dX9_takeAway_25 : decode cX9_takeAway 25 = .ok (.iaload, 1) := by decide +kernel
theorem dX9_takeAway_26 : decode cX9_takeAway 26 = .ok (.istore 5, 2) := by decide +kernel
theorem dX9_takeAway_28 : decode cX9_takeAway 28 = .ok (.iload 5, 2) := by decide +kernel
theorem dX9_takeAway_30 : decode cX9_takeAway 30 = .ok (.ifCond .lt 42, 3) := by decide +kernel
theorem dX9_takeAway_33 : decode cX9_takeAway 33 = .ok (.aload_n 0, 1) := by decide +kernel
theorem dX9_takeAway_34 : decode cX9_takeAway 34 = .ok (.getfield 29, 3) := by decide +kernel
theorem dX9_takeAway_37 : decode cX9_takeAway 37 = .ok (.iload 5, 2) := by decide +kernel
theorem dX9_takeAway_39 : decode cX9_takeAway 39 = .ok (.dup2, 1) := by decide +kernel
theorem dX9_takeAway_40 : decode cX9_takeAway 40 = .ok (.iaload, 1) := by decide +kernel
theorem dX9_takeAway_41 : decode cX9_takeAway 41 = .ok (.iconst 1, 1) := by decide +kernel
theorem dX9_takeAway_42 : decode cX9_takeAway 42 = .ok (.isub, 1) := by decide +kernel
theorem dX9_takeAway_43 : decode cX9_takeAway 43 = .ok (.iastore, 1) := by decide +kernel
theorem dX9_takeAway_44 : decode cX9_takeAway 44 = .ok (.aload_n 0, 1) := by decide +kernel
theorem dX9_takeAway_45 : decode cX9_takeAway 45 = .ok (.getfield 29, 3) := by decide +kernel
theorem dX9_takeAway_48 : decode cX9_takeAway 48 = .ok (.iload 5, 2) := by decide +kernel
theorem dX9_takeAway_50 : decode cX9_takeAway 50 = .ok (.iaload, 1) := by decide +kernel
theorem dX9_takeAway_51 : decode cX9_takeAway 51 = .ok (.ifCond .ne 21, 3) := by decide +kernel
theorem dX9_takeAway_54 : decode cX9_takeAway 54 = .ok (.iload_n 3, 1) := by decide +kernel
theorem dX9_takeAway_55 : decode cX9_takeAway 55 = .ok (.sipush 6000, 3) := by decide +kernel
theorem dX9_takeAway_58 : decode cX9_takeAway 58 = .ok (.if_icmp .ge 14, 3) := by decide +kernel
theorem dX9_takeAway_61 : decode cX9_takeAway 61 = .ok (.aload_n 0, 1) := by decide +kernel
theorem dX9_takeAway_62 : decode cX9_takeAway 62 = .ok (.getfield 32, 3) := by decide +kernel
theorem dX9_takeAway_65 : decode cX9_takeAway 65 = .ok (.iload_n 3, 1) := by decide +kernel
theorem dX9_takeAway_66 : decode cX9_takeAway 66 = .ok (.iload 5, 2) := by decide +kernel
theorem dX9_takeAway_68 : decode cX9_takeAway 68 = .ok (.iastore, 1) := by decide +kernel
theorem dX9_takeAway_69 : decode cX9_takeAway 69 = .ok (.iinc 3 1, 3) := by decide +kernel
theorem dX9_takeAway_72 : decode cX9_takeAway 72 = .ok (.iinc 4 1, 3) := by decide +kernel
theorem dX9_takeAway_75 : decode cX9_takeAway 75 = .ok (.goto (-67), 3) := by decide +kernel
theorem dX9_takeAway_78 : decode cX9_takeAway 78 = .ok (.iload_n 3, 1) := by decide +kernel
theorem dX9_takeAway_79 : decode cX9_takeAway 79 = .ok (.ireturn, 1) := by decide +kernel
theorem dX10_init_0 : decode cX10_init 0 = .ok (.aload_n 0, 1) := by decide +kernel
theorem dX10_init_1 : decode cX10_init 1 = .ok (.invokespecial 3, 3) := by decide +kernel
theorem dX10_init_4 : decode cX10_init 4 = .ok (.aload_n 0, 1) := by decide +kernel
theorem dX10_init_5 : decode cX10_init 5 = .ok (.new 9, 3) := by decide +kernel
theorem dX10_init_8 : decode cX10_init 8 = .ok (.dup, 1) := by decide +kernel
theorem dX10_init_9 : decode cX10_init 9 = .ok (.invokespecial 11, 3) := by decide +kernel
theorem dX10_init_12 : decode cX10_init 12 = .ok (.putfield 12, 3) := by decide +kernel
theorem dX10_init_15 : decode cX10_init 15 = .ok (.aload_n 0, 1) := by decide +kernel
theorem dX10_init_16 : decode cX10_init 16 = .ok (.new 16, 3) := by decide +kernel
theorem dX10_init_19 : decode cX10_init 19 = .ok (.dup, 1) := by decide +kernel
theorem dX10_init_20 : decode cX10_init 20 = .ok (.invokespecial 18, 3) := by decide +kernel
theorem dX10_init_23 : decode cX10_init 23 = .ok (.putfield 19, 3) := by decide +kernel
theorem dX10_init_26 : decode cX10_init 26 = .ok (.aload_n 0, 1) := by decide +kernel
theorem dX10_init_27 : decode cX10_init 27 = .ok (.aload_n 0, 1) := by decide +kernel
theorem dX10_init_28 : decode cX10_init 28 = .ok (.getfield 19, 3) := by decide +kernel
theorem dX10_init_31 : decode cX10_init 31 = .ok (.getfield 23, 3) := by decide +kernel
theorem dX10_init_34 : decode cX10_init 34 = .ok (.putfield 27, 3) := by decide +kernel
theorem dX10_init_37 : decode cX10_init 37 = .ok (.aload_n 0, 1) := by decide +kernel
theorem dX10_init_38 : decode cX10_init 38 = .ok (.new 28, 3) := by decide +kernel
theorem dX10_init_41 : decode cX10_init 41 = .ok (.dup, 1) := by decide +kernel
theorem dX10_init_42 : decode cX10_init 42 = .ok (.invokespecial 30, 3) := by decide +kernel
theorem dX10_init_45 : decode cX10_init 45 = .ok (.putfield 31, 3) := by decide +kernel
theorem dX10_init_48 : decode cX10_init 48 = .ok (.aload_n 0, 1) := by decide +kernel
theorem dX10_init_49 : decode cX10_init 49 = .ok (.aload_n 0, 1) := by decide +kernel
theorem dX10_init_50 : decode cX10_init 50 = .ok (.getfield 31, 3) := by decide +kernel
theorem dX10_init_53 : decode cX10_init 53 = .ok (.getfield 35, 3) := by decide +kernel
theorem dX10_init_56 : decode cX10_init 56 = .ok (.putfield 39, 3) := by decide +kernel
theorem dX10_init_59 : decode cX10_init 59 = .ok (.aload_n 0, 1) := by decide +kernel
theorem dX10_init_60 : decode cX10_init 60 = .ok (.new 42, 3) := by decide +kernel
theorem dX10_init_63 : decode cX10_init 63 = .ok (.dup, 1) := by decide +kernel
theorem dX10_init_64 : decode cX10_init 64 = .ok (.invokespecial 44, 3) := by decide +kernel
theorem dX10_init_67 : decode cX10_init 67 = .ok (.putfield 45, 3) := by decide +kernel
theorem dX10_init_70 : decode cX10_init 70 = .ok (.aload_n 0, 1) := by decide +kernel
theorem dX10_init_71 : decode cX10_init 71 = .ok (.iconst 0, 1) := by decide +kernel
theorem dX10_init_72 : decode cX10_init 72 = .ok (.putfield 48, 3) := by decide +kernel
theorem dX10_init_75 : decode cX10_init 75 = .ok (.aload_n 0, 1) := by decide +kernel
theorem dX10_init_76 : decode cX10_init 76 = .ok (.new 52, 3) := by decide +kernel
theorem dX10_init_79 : decode cX10_init 79 = .ok (.dup, 1) := by decide +kernel
theorem dX10_init_80 : decode cX10_init 80 = .ok (.invokespecial 54, 3) := by decide +kernel
theorem dX10_init_83 : decode cX10_init 83 = .ok (.putfield 55, 3) := by decide +kernel
theorem dX10_init_86 : decode cX10_init 86 = .ok (.aload_n 0, 1) := by decide +kernel
theorem dX10_init_87 : decode cX10_init 87 = .ok (.iconst 4, 1) := by decide +kernel
theorem dX10_init_88 : decode cX10_init 88 = .ok (.anewarray 59, 3) := by decide +kernel
theorem dX10_init_91 : decode cX10_init 91 = .ok (.putfield 61, 3) := by decide +kernel
theorem dX10_init_94 : decode cX10_init 94 = .ok (.iconst 0, 1) := by decide +kernel
theorem dX10_init_95 : decode cX10_init 95 = .ok (.istore_n 1, 1) := by decide +kernel
theorem dX10_init_96 : decode cX10_init 96 = .ok (.iload_n 1, 1) := by decide +kernel
theorem dX10_init_97 : decode cX10_init 97 = .ok (.iconst 4, 1) := by decide +kernel
theorem dX10_init_98 : decode cX10_init 98 = .ok (.if_icmp .ge 22, 3) := by decide +kernel
theorem dX10_init_101 : decode cX10_init 101 = .ok (.aload_n 0, 1) := by decide +kernel
theorem dX10_init_102 : decode cX10_init 102 = .ok (.getfield 61, 3) := by decide +kernel
theorem dX10_init_105 : decode cX10_init 105 = .ok (.iload_n 1, 1) := by decide +kernel
theorem dX10_init_106 : decode cX10_init 106 = .ok (.new 59, 3) := by decide +kernel
theorem dX10_init_109 : decode cX10_init 109 = .ok (.dup, 1) := by decide +kernel
theorem dX10_init_110 : decode cX10_init 110 = .ok (.invokespecial 65, 3) := by decide +kernel
theorem dX10_init_113 : decode cX10_init 113 = .ok (.aastore, 1) := by decide +kernel
theorem dX10_init_114 : decode cX10_init 114 = .ok (.iinc 1 1, 3) := by decide +kernel
theorem dX10_init_117 : decode cX10_init 117 = .ok (.goto (-21), 3) := by decide +kernel
theorem dX10_init_120 : decode cX10_init 120 = .ok (.return_, 1) := by decide +kernel
theorem dX10_feed_0 : decode cX10_feed 0 = .ok (.iload_n 2, 1) := by decide +kernel
theorem dX10_feed_1 : decode cX10_feed 1 = .ok (.iconst 1, 1) := by decide +kernel
theorem dX10_feed_2 : decode cX10_feed 2 = .ok (.if_icmp .lt 8, 3) := by decide +kernel
theorem dX10_feed_5 : decode cX10_feed 5 = .ok (.iload_n 2, 1) := by decide +kernel
theorem dX10_feed_6 : decode cX10_feed 6 = .ok (.iconst 4, 1) := by decide +kernel
theorem dX10_feed_7 : decode cX10_feed 7 = .ok (.if_icmp .le 12, 3) := by decide +kernel
theorem dX10_feed_10 : decode cX10_feed 10 = .ok (.aload_n 0, 1) := by decide +kernel
theorem dX10_feed_11 : decode cX10_feed 11 = .ok (.getfield 12, 3) := by decide +kernel
theorem dX10_feed_14 : decode cX10_feed 14 = .ok (.iconst 0, 1) := by decide +kernel
theorem dX10_feed_15 : decode cX10_feed 15 = .ok (.invokevirtual 66, 3) := by decide +kernel
theorem dX10_feed_18 : decode cX10_feed 18 = .ok (.ireturn, 1) := by decide +kernel
theorem dX10_feed_19 : decode cX10_feed 19 = .ok (.aload_n 0, 1) := by decide +kernel
theorem dX10_feed_20 : decode cX10_feed 20 = .ok (.getfield 27, 3) := by decide +kernel
theorem dX10_feed_23 : decode cX10_feed 23 = .ok (.getfield 70, 3) := by decide +kernel
theorem dX10_feed_26 : decode cX10_feed 26 = .ok (.iload_n 2, 1) := by decide +kernel
theorem dX10_feed_27 : decode cX10_feed 27 = .ok (.iadd, 1) := by decide +kernel
theorem dX10_feed_28 : decode cX10_feed 28 = .ok (.bipush 120, 2) := by decide +kernel
theorem dX10_feed_30 : decode cX10_feed 30 = .ok (.if_icmp .le 12, 3) := by decide +kernel
theorem dX10_feed_33 : decode cX10_feed 33 = .ok (.aload_n 0, 1) := by decide +kernel
theorem dX10_feed_34 : decode cX10_feed 34 = .ok (.getfield 12, 3) := by decide +kernel
theorem dX10_feed_37 : decode cX10_feed 37 = .ok (.iconst 1, 1) := by decide +kernel
theorem dX10_feed_38 : decode cX10_feed 38 = .ok (.invokevirtual 66, 3) := by decide +kernel
theorem dX10_feed_41 : decode cX10_feed 41 = .ok (.ireturn, 1) := by decide +kernel
theorem dX10_feed_42 : decode cX10_feed 42 = .ok (.aload_n 0, 1) := by decide +kernel
theorem dX10_feed_43 : decode cX10_feed 43 = .ok (.getfield 27, 3) := by decide +kernel
theorem dX10_feed_46 : decode cX10_feed 46 = .ok (.iload_n 1, 1) := by decide +kernel
theorem dX10_feed_47 : decode cX10_feed 47 = .ok (.iload_n 2, 1) := by decide +kernel
theorem dX10_feed_48 : decode cX10_feed 48 = .ok (.invokevirtual 76, 3) := by decide +kernel
theorem dX10_feed_51 : decode cX10_feed 51 = .ok (.aload_n 0, 1) := by decide +kernel
theorem dX10_feed_52 : decode cX10_feed 52 = .ok (.getfield 27, 3) := by decide +kernel
theorem dX10_feed_55 : decode cX10_feed 55 = .ok (.getfield 70, 3) := by decide +kernel
theorem dX10_feed_58 : decode cX10_feed 58 = .ok (.ireturn, 1) := by decide +kernel
theorem dX10_wipe_0 : decode cX10_wipe 0 = .ok (.aload_n 0, 1) := by decide +kernel
theorem dX10_wipe_1 : decode cX10_wipe 1 = .ok (.getfield 27, 3) := by decide +kernel
theorem dX10_wipe_4 : decode cX10_wipe 4 = .ok (.getfield 70, 3) := by decide +kernel
theorem dX10_wipe_7 : decode cX10_wipe 7 = .ok (.istore_n 1, 1) := by decide +kernel
theorem dX10_wipe_8 : decode cX10_wipe 8 = .ok (.aload_n 0, 1) := by decide +kernel
theorem dX10_wipe_9 : decode cX10_wipe 9 = .ok (.getfield 27, 3) := by decide +kernel
theorem dX10_wipe_12 : decode cX10_wipe 12 = .ok (.iconst 0, 1) := by decide +kernel
theorem dX10_wipe_13 : decode cX10_wipe 13 = .ok (.putfield 70, 3) := by decide +kernel
theorem dX10_wipe_16 : decode cX10_wipe 16 = .ok (.iload_n 1, 1) := by decide +kernel
theorem dX10_wipe_17 : decode cX10_wipe 17 = .ok (.ireturn, 1) := by decide +kernel
theorem dX10_text_0 : decode cX10_text 0 = .ok (.aload_n 0, 1) := by decide +kernel
theorem dX10_text_1 : decode cX10_text 1 = .ok (.getfield 39, 3) := by decide +kernel
theorem dX10_text_4 : decode cX10_text 4 = .ok (.getfield 80, 3) := by decide +kernel
theorem dX10_text_7 : decode cX10_text 7 = .ok (.bipush 6, 2) := by decide +kernel
theorem dX10_text_9 : decode cX10_text 9 = .ok (.if_icmp .lt 12, 3) := by decide +kernel
theorem dX10_text_12 : decode cX10_text 12 = .ok (.aload_n 0, 1) := by decide +kernel
theorem dX10_text_13 : decode cX10_text 13 = .ok (.getfield 12, 3) := by decide +kernel
theorem dX10_text_16 : decode cX10_text 16 = .ok (.iconst 1, 1) := by decide +kernel
theorem dX10_text_17 : decode cX10_text 17 = .ok (.invokevirtual 66, 3) := by decide +kernel
theorem dX10_text_20 : decode cX10_text 20 = .ok (.ireturn, 1) := by decide +kernel
theorem dX10_text_21 : decode cX10_text 21 = .ok (.aload_n 0, 1) := by decide +kernel
theorem dX10_text_22 : decode cX10_text 22 = .ok (.getfield 19, 3) := by decide +kernel
theorem dX10_text_25 : decode cX10_text 25 = .ok (.aload_n 0, 1) := by decide +kernel
theorem dX10_text_26 : decode cX10_text 26 = .ok (.getfield 39, 3) := by decide +kernel
theorem dX10_text_29 : decode cX10_text 29 = .ok (.invokevirtual 83, 3) := by decide +kernel
theorem dX10_text_32 : decode cX10_text 32 = .ok (.istore_n 1, 1) := by decide +kernel
theorem dX10_text_33 : decode cX10_text 33 = .ok (.iload_n 1, 1) := by decide +kernel
theorem dX10_text_34 : decode cX10_text 34 = .ok (.ifCond .lt 7, 3) := by decide +kernel
theorem dX10_text_37 : decode cX10_text 37 = .ok (.iconst (-1), 1) := by decide +kernel
theorem dX10_text_38 : decode cX10_text 38 = .ok (.iload_n 1, 1) := by decide +kernel
theorem dX10_text_39 : decode cX10_text 39 = .ok (.isub, 1) := by decide +kernel
theorem dX10_text_40 : decode cX10_text 40 = .ok (.ireturn, 1) := by decide +kernel
theorem dX10_text_41 : decode cX10_text 41 = .ok (.aload_n 0, 1) := by decide +kernel
theorem dX10_text_42 : decode cX10_text 42 = .ok (.getfield 27, 3) := by decide +kernel
theorem dX10_text_45 : decode cX10_text 45 = .ok (.iconst 0, 1) := by decide +kernel
theorem dX10_text_46 : decode cX10_text 46 = .ok (.putfield 70, 3) := by decide +kernel
theorem dX10_text_49 : decode cX10_text 49 = .ok (.aload_n 0, 1) := by decide +kernel
theorem dX10_text_50 : decode cX10_text 50 = .ok (.getfield 31, 3) := by decide +kernel
theorem dX10_text_53 : decode cX10_text 53 = .ok (.invokevirtual 87, 3) := by decide +kernel
theorem dX10_text_56 : decode cX10_text 56 = .ok (.aload_n 0, 1) := by decide +kernel
theorem dX10_text_57 : decode cX10_text 57 = .ok (.getfield 39, 3) := by decide +kernel
theorem dX10_text_60 : decode cX10_text 60 = .ok (.getfield 80, 3) := by decide +kernel
theorem dX10_text_63 : decode cX10_text 63 = .ok (.iconst 1, 1) := by decide +kernel
theorem dX10_text_64 : decode cX10_text 64 = .ok (.isub, 1) := by decide +kernel
theorem dX10_text_65 : decode cX10_text 65 = .ok (.ireturn, 1) := by decide +kernel
theorem dX10_steps_0 : decode cX10_steps 0 = .ok (.aload_n 0, 1) := by decide +kernel
theorem dX10_steps_1 : decode cX10_steps 1 = .ok (.getfield 39, 3) := by decide +kernel
theorem dX10_steps_4 : decode cX10_steps 4 = .ok (.iload_n 1, 1) := by decide +kernel
theorem dX10_steps_5 : decode cX10_steps 5 = .ok (.invokevirtual 90, 3) := by decide +kernel
theorem dX10_steps_8 : decode cX10_steps 8 = .ok (.ifCond .eq 15, 3) := by decide +kernel
theorem dX10_steps_11 : decode cX10_steps 11 = .ok (.aload_n 0, 1) := by decide +kernel
theorem dX10_steps_12 : decode cX10_steps 12 = .ok (.getfield 39, 3) := by decide +kernel
theorem dX10_steps_15 : decode cX10_steps 15 = .ok (.getfield 94, 3) := by decide +kernel
theorem dX10_steps_18 : decode cX10_steps 18 = .ok (.iload_n 1, 1) := by decide +kernel
theorem dX10_steps_19 : decode cX10_steps 19 = .ok (.iaload, 1) := by decide +kernel
theorem dX10_steps_20 : decode cX10_steps 20 = .ok (.goto 11, 3) := by decide +kernel
theorem dX10_steps_23 : decode cX10_steps 23 = .ok (.aload_n 0, 1) := by decide +kernel
theorem dX10_steps_24 : decode cX10_steps 24 = .ok (.getfield 12, 3) := by decide +kernel
theorem dX10_steps_27 : decode cX10_steps 27 = .ok (.iconst 0, 1) := by decide +kernel
theorem dX10_steps_28 : decode cX10_steps 28 = .ok (.invokevirtual 66, 3) := by decide +kernel
theorem dX10_steps_31 : decode cX10_steps 31 = .ok (.ireturn, 1) := by decide +kernel
theorem dX10_step_0 : decode cX10_step 0 = .ok (.aload_n 0, 1) := by decide +kernel
theorem dX10_step_1 : decode cX10_step 1 = .ok (.getfield 39, 3) := by decide +kernel
theorem dX10_step_4 : decode cX10_step 4 = .ok (.iload_n 1, 1) := by decide +kernel
theorem dX10_step_5 : decode cX10_step 5 = .ok (.iload_n 2, 1) := by decide +kernel
theorem dX10_step_6 : decode cX10_step 6 = .ok (.invokevirtual 98, 3) := by decide +kernel
theorem dX10_step_9 : decode cX10_step 9 = .ok (.ifCond .eq 12, 3) := by decide +kernel
theorem dX10_step_12 : decode cX10_step 12 = .ok (.iload_n 3, 1) := by decide +kernel
theorem dX10_step_13 : decode cX10_step 13 = .ok (.ifCond .lt 8, 3) := by decide +kernel
theorem dX10_step_16 : decode cX10_step 16 = .ok (.iload_n 3, 1) := by decide +kernel
theorem dX10_step_17 : decode cX10_step 17 = .ok (.iconst 5, 1) := by decide +kernel
theorem dX10_step_18 : decode cX10_step 18 = .ok (.if_icmp .lt 12, 3) := by decide +kernel
theorem dX10_step_21 : decode cX10_step 21 = .ok (.aload_n 0, 1) := by decide +kernel
theorem dX10_step_22 : decode cX10_step 22 = .ok (.getfield 12, 3) := by decide +kernel
theorem dX10_step_25 : decode cX10_step 25 = .ok (.iconst 0, 1) := by decide +kernel
theorem dX10_step_26 : decode cX10_step 26 = .ok (.invokevirtual 66, 3) := by decide +kernel
theorem dX10_step_29 : decode cX10_step 29 = .ok (.ireturn, 1) := by decide +kernel
theorem dX10_step_30 : decode cX10_step 30 = .ok (.getstatic 102, 3) := by decide +kernel
theorem dX10_step_33 : decode cX10_step 33 = .ok (.aload_n 0, 1) := by decide +kernel
theorem dX10_step_34 : decode cX10_step 34 = .ok (.getfield 39, 3) := by decide +kernel
theorem dX10_step_37 : decode cX10_step 37 = .ok (.iload_n 1, 1) := by decide +kernel
theorem dX10_step_38 : decode cX10_step 38 = .ok (.iload_n 2, 1) := by decide +kernel
theorem dX10_step_39 : decode cX10_step 39 = .ok (.iconst 0, 1) := by decide +kernel
theorem dX10_step_40 : decode cX10_step 40 = .ok (.invokevirtual 105, 3) := by decide +kernel
theorem dX10_step_43 : decode cX10_step 43 = .ok (.iaload, 1) := by decide +kernel
theorem dX10_step_44 : decode cX10_step 44 = .ok (.istore 4, 2) := by decide +kernel
theorem dX10_step_46 : decode cX10_step 46 = .ok (.iload 4, 2) := by decide +kernel
theorem dX10_step_48 : decode cX10_step 48 = .ok (.iload_n 3, 1) := by decide +kernel
theorem dX10_step_49 : decode cX10_step 49 = .ok (.ishr, 1) := by decide +kernel
theorem dX10_step_50 : decode cX10_step 50 = .ok (.iconst 1, 1) := by decide +kernel
theorem dX10_step_51 : decode cX10_step 51 = .ok (.iand, 1) := by decide +kernel
theorem dX10_step_52 : decode cX10_step 52 = .ok (.ifCond .ne 12, 3) := by decide +kernel
theorem dX10_step_55 : decode cX10_step 55 = .ok (.aload_n 0, 1) := by decide +kernel
theorem dX10_step_56 : decode cX10_step 56 = .ok (.getfield 12, 3) := by decide +kernel
theorem dX10_step_59 : decode cX10_step 59 = .ok (.iconst 2, 1) := by decide +kernel
theorem dX10_step_60 : decode cX10_step 60 = .ok (.invokevirtual 66, 3) := by decide +kernel
theorem dX10_step_63 : decode cX10_step 63 = .ok (.ireturn, 1) := by decide +kernel
theorem dX10_step_64 : decode cX10_step 64 = .ok (.aload_n 0, 1) := by decide +kernel
theorem dX10_step_65 : decode cX10_step 65 = .ok (.getfield 39, 3) := by decide +kernel
theorem dX10_step_68 : decode cX10_step 68 = .ok (.iload_n 1, 1) := by decide +kernel
theorem dX10_step_69 : decode cX10_step 69 = .ok (.iload_n 2, 1) := by decide +kernel
theorem dX10_step_70 : decode cX10_step 70 = .ok (.iload_n 3, 1) := by decide +kernel
theorem dX10_step_71 : decode cX10_step 71 = .ok (.invokevirtual 105, 3) := by decide +kernel
theorem dX10_step_74 : decode cX10_step 74 = .ok (.ireturn, 1) := by decide +kernel
theorem dX10_as_0 : decode cX10_as 0 = .ok (.aload_n 0, 1) := by decide +kernel
theorem dX10_as_1 : decode cX10_as 1 = .ok (.getfield 39, 3) := by decide +kernel
theorem dX10_as_4 : decode cX10_as 4 = .ok (.iload_n 1, 1) := by decide +kernel
theorem dX10_as_5 : decode cX10_as 5 = .ok (.iload_n 2, 1) := by decide +kernel
theorem dX10_as_6 : decode cX10_as 6 = .ok (.invokevirtual 98, 3) := by decide +kernel
theorem dX10_as_9 : decode cX10_as 9 = .ok (.ifCond .eq 15, 3) := by decide +kernel
theorem dX10_as_12 : decode cX10_as 12 = .ok (.iload_n 3, 1) := by decide +kernel
theorem dX10_as_13 : decode cX10_as 13 = .ok (.ifCond .lt 11, 3) := by decide +kernel
theorem dX10_as_16 : decode cX10_as 16 = .ok (.iload_n 3, 1) := by decide +kernel
theorem dX10_as_17 : decode cX10_as 17 = .ok (.getstatic 109, 3) := by decide +kernel
theorem dX10_as_20 : decode cX10_as 20 = .ok (.arraylength, 1) := by decide +kernel
theorem dX10_as_21 : decode cX10_as 21 = .ok (.if_icmp .lt 12, 3) := by decide +kernel
theorem dX10_as_24 : decode cX10_as 24 = .ok (.aload_n 0, 1) := by decide +kernel
theorem dX10_as_25 : decode cX10_as 25 = .ok (.getfield 12, 3) := by decide +kernel
theorem dX10_as_28 : decode cX10_as 28 = .ok (.iconst 0, 1) := by decide +kernel
theorem dX10_as_29 : decode cX10_as 29 = .ok (.invokevirtual 66, 3) := by decide +kernel
theorem dX10_as_32 : decode cX10_as 32 = .ok (.ireturn, 1) := by decide +kernel
theorem dX10_as_33 : decode cX10_as 33 = .ok (.aload_n 0, 1) := by decide +kernel
theorem dX10_as_34 : decode cX10_as 34 = .ok (.getfield 39, 3) := by decide +kernel
theorem dX10_as_37 : decode cX10_as 37 = .ok (.iload_n 1, 1) := by decide +kernel
theorem dX10_as_38 : decode cX10_as 38 = .ok (.iload_n 2, 1) := by decide +kernel
theorem dX10_as_39 : decode cX10_as 39 = .ok (.iconst 0, 1) := by decide +kernel
theorem dX10_as_40 : decode cX10_as 40 = .ok (.invokevirtual 105, 3) := by decide +kernel
theorem dX10_as_43 : decode cX10_as 43 = .ok (.istore 4, 2) := by decide +kernel
theorem dX10_as_45 : decode cX10_as 45 = .ok (.iload 4, 2) := by decide +kernel
theorem dX10_as_47 : decode cX10_as 47 = .ok (.iload_n 3, 1) := by decide +kernel
theorem dX10_as_48 : decode cX10_as 48 = .ok (.invokestatic 112, 3) := by decide +kernel
theorem dX10_as_51 : decode cX10_as 51 = .ok (.ifCond .eq 8, 3) := by decide +kernel
theorem dX10_as_54 : decode cX10_as 54 = .ok (.iload 4, 2) := by decide +kernel
theorem dX10_as_56 : decode cX10_as 56 = .ok (.goto 11, 3) := by decide +kernel
theorem dX10_as_59 : decode cX10_as 59 = .ok (.aload_n 0, 1) := by decide +kernel
theorem dX10_as_60 : decode cX10_as 60 = .ok (.getfield 12, 3) := by decide +kernel
theorem dX10_as_63 : decode cX10_as 63 = .ok (.iconst 2, 1) := by decide +kernel
theorem dX10_as_64 : decode cX10_as 64 = .ok (.invokevirtual 66, 3) := by decide +kernel
theorem dX10_as_67 : decode cX10_as 67 = .ok (.ireturn, 1) := by decide +kernel
theorem dX10_change_0 : decode cX10_change 0 = .ok (.aload_n 0, 1) := by decide +kernel
theorem dX10_change_1 : decode cX10_change 1 = .ok (.getfield 39, 3) := by decide +kernel
theorem dX10_change_4 : decode cX10_change 4 = .ok (.iload_n 1, 1) := by decide +kernel
theorem dX10_change_5 : decode cX10_change 5 = .ok (.iload_n 2, 1) := by decide +kernel
theorem dX10_change_6 : decode cX10_change 6 = .ok (.invokevirtual 98, 3) := by decide +kernel
theorem dX10_change_9 : decode cX10_change 9 = .ok (.ifCond .eq 10, 3) := by decide +kernel
theorem dX10_change_12 : decode cX10_change 12 = .ok (.iload_n 3, 1) := by decide +kernel
theorem dX10_change_13 : decode cX10_change 13 = .ok (.invokestatic 115, 3) := by decide +kernel
theorem dX10_change_16 : decode cX10_change 16 = .ok (.ifCond .ne 12, 3) := by decide +kernel
theorem dX10_change_19 : decode cX10_change 19 = .ok (.aload_n 0, 1) := by decide +kernel
theorem dX10_change_20 : decode cX10_change 20 = .ok (.getfield 12, 3) := by decide +kernel
theorem dX10_change_23 : decode cX10_change 23 = .ok (.iconst 0, 1) := by decide +kernel
theorem dX10_change_24 : decode cX10_change 24 = .ok (.invokevirtual 66, 3) := by decide +kernel
theorem dX10_change_27 : decode cX10_change 27 = .ok (.ireturn, 1) := by decide +kernel
theorem dX10_change_28 : decode cX10_change 28 = .ok (.aload_n 0, 1) := by decide +kernel
theorem dX10_change_29 : decode cX10_change 29 = .ok (.getfield 39, 3) := by decide +kernel
theorem dX10_change_32 : decode cX10_change 32 = .ok (.iload_n 1, 1) := by decide +kernel
theorem dX10_change_33 : decode cX10_change 33 = .ok (.iload_n 2, 1) := by decide +kernel
theorem dX10_change_34 : decode cX10_change 34 = .ok (.invokevirtual 118, 3) := by decide +kernel
theorem dX10_change_37 : decode cX10_change 37 = .ok (.istore 4, 2) := by decide +kernel
theorem dX10_change_39 : decode cX10_change 39 = .ok (.iload 4, 2) := by decide +kernel
theorem dX10_change_41 : decode cX10_change 41 = .ok (.ifCond .ge 12, 3) := by decide +kernel
theorem dX10_change_44 : decode cX10_change 44 = .ok (.aload_n 0, 1) := by decide +kernel
theorem dX10_change_45 : decode cX10_change 45 = .ok (.getfield 12, 3) := by decide +kernel
theorem dX10_change_48 : decode cX10_change 48 = .ok (.iconst 2, 1) := by decide +kernel
theorem dX10_change_49 : decode cX10_change 49 = .ok (.invokevirtual 66, 3) := by decide +kernel
theorem dX10_change_52 : decode cX10_change 52 = .ok (.ireturn, 1) := by decide +kernel
theorem dX10_change_53 : decode cX10_change 53 = .ok (.aload_n 0, 1) := by decide +kernel
theorem dX10_change_54 : decode cX10_change 54 = .ok (.getfield 39, 3) := by decide +kernel
theorem dX10_change_57 : decode cX10_change 57 = .ok (.iload_n 1, 1) := by decide +kernel
theorem dX10_change_58 : decode cX10_change 58 = .ok (.iload_n 2, 1) := by decide +kernel
theorem dX10_change_59 : decode cX10_change 59 = .ok (.iload 4, 2) := by decide +kernel
theorem dX10_change_61 : decode cX10_change 61 = .ok (.invokevirtual 105, 3) := by decide +kernel
theorem dX10_change_64 : decode cX10_change 64 = .ok (.istore 5, 2) := by decide +kernel
theorem dX10_change_66 : decode cX10_change 66 = .ok (.aload_n 0, 1) := by decide +kernel
theorem dX10_change_67 : decode cX10_change 67 = .ok (.getfield 39, 3) := by decide +kernel
theorem dX10_change_70 : decode cX10_change 70 = .ok (.iload_n 1, 1) := by decide +kernel
theorem dX10_change_71 : decode cX10_change 71 = .ok (.iload_n 2, 1) := by decide +kernel
theorem dX10_change_72 : decode cX10_change 72 = .ok (.iload 4, 2) := by decide +kernel
theorem dX10_change_74 : decode cX10_change 74 = .ok (.iload_n 3, 1) := by decide +kernel
theorem dX10_change_75 : decode cX10_change 75 = .ok (.invokevirtual 122, 3) := by decide +kernel
theorem dX10_change_78 : decode cX10_change 78 = .ok (.aload_n 0, 1) := by decide +kernel
theorem dX10_change_79 : decode cX10_change 79 = .ok (.getfield 31, 3) := by decide +kernel
theorem dX10_change_82 : decode cX10_change 82 = .ok (.invokevirtual 87, 3) := by decide +kernel
theorem dX10_change_85 : decode cX10_change 85 = .ok (.iload 5, 2) := by decide +kernel
theorem dX10_change_87 : decode cX10_change 87 = .ok (.ireturn, 1) := by decide +kernel
theorem dX10_cell_0 : decode cX10_cell 0 = .ok (.iload_n 1, 1) := by decide +kernel
theorem dX10_cell_1 : decode cX10_cell 1 = .ok (.ifCond .lt 15, 3) := by decide +kernel
theorem dX10_cell_4 : decode cX10_cell 4 = .ok (.iload_n 1, 1) := by decide +kernel
theorem dX10_cell_5 : decode cX10_cell 5 = .ok (.iconst 3, 1) := by decide +kernel
theorem dX10_cell_6 : decode cX10_cell 6 = .ok (.if_icmp .ge 10, 3) := by decide +kernel
theorem dX10_cell_9 : decode cX10_cell 9 = .ok (.iload_n 2, 1) := by decide +kernel
theorem dX10_cell_10 : decode cX10_cell 10 = .ok (.invokestatic 115, 3) := by decide +kernel
theorem dX10_cell_13 : decode cX10_cell 13 = .ok (.ifCond .ne 12, 3) := by decide +kernel
theorem dX10_cell_16 : decode cX10_cell 16 = .ok (.aload_n 0, 1) := by decide +kernel
theorem dX10_cell_17 : decode cX10_cell 17 = .ok (.getfield 12, 3) := by decide +kernel
theorem dX10_cell_20 : decode cX10_cell 20 = .ok (.iconst 0, 1) := by decide +kernel
theorem dX10_cell_21 : decode cX10_cell 21 = .ok (.invokevirtual 66, 3) := by decide +kernel
theorem dX10_cell_24 : decode cX10_cell 24 = .ok (.ireturn, 1) := by decide +kernel
theorem dX10_cell_25 : decode cX10_cell 25 = .ok (.aload_n 0, 1) := by decide +kernel
theorem dX10_cell_26 : decode cX10_cell 26 = .ok (.getfield 39, 3) := by decide +kernel
theorem dX10_cell_29 : decode cX10_cell 29 = .ok (.getfield 126, 3) := by decide +kernel
theorem dX10_cell_32 : decode cX10_cell 32 = .ok (.iload_n 1, 1) := by decide +kernel
theorem dX10_cell_33 : decode cX10_cell 33 = .ok (.iaload, 1) := by decide +kernel
theorem dX10_cell_34 : decode cX10_cell 34 = .ok (.istore_n 3, 1) := by decide +kernel
theorem dX10_cell_35 : decode cX10_cell 35 = .ok (.aload_n 0, 1) := by decide +kernel
theorem dX10_cell_36 : decode cX10_cell 36 = .ok (.getfield 39, 3) := by decide +kernel
theorem dX10_cell_39 : decode cX10_cell 39 = .ok (.getfield 126, 3) := by decide +kernel
theorem dX10_cell_42 : decode cX10_cell 42 = .ok (.iload_n 1, 1) := by decide +kernel
theorem dX10_cell_43 : decode cX10_cell 43 = .ok (.iload_n 2, 1) := by decide +kernel
theorem dX10_cell_44 : decode cX10_cell 44 = .ok (.iastore, 1) := by decide +kernel
theorem dX10_cell_45 : decode cX10_cell 45 = .ok (.aload_n 0, 1) := by decide +kernel
theorem dX10_cell_46 : decode cX10_cell 46 = .ok (.getfield 31, 3) := by decide +kernel
theorem dX10_cell_49 : decode cX10_cell 49 = .ok (.invokevirtual 87, 3) := by decide +kernel
theorem dX10_cell_52 : decode cX10_cell 52 = .ok (.iload_n 3, 1) := by decide +kernel
theorem dX10_cell_53 : decode cX10_cell 53 = .ok (.ireturn, 1) := by decide +kernel
theorem dX10_machine_0 : decode cX10_machine 0 = .ok (.iload_n 1, 1) := by decide +kernel
theorem dX10_machine_1 : decode cX10_machine 1 = .ok (.ifCond .lt 8, 3) := by decide +kernel
theorem dX10_machine_4 : decode cX10_machine 4 = .ok (.iload_n 1, 1) := by decide +kernel
theorem dX10_machine_5 : decode cX10_machine 5 = .ok (.iconst 1, 1) := by decide +kernel
theorem dX10_machine_6 : decode cX10_machine 6 = .ok (.if_icmp .le 12, 3) := by decide +kernel
theorem dX10_machine_9 : decode cX10_machine 9 = .ok (.aload_n 0, 1) := by decide +kernel
theorem dX10_machine_10 : decode cX10_machine 10 = .ok (.getfield 12, 3) := by decide +kernel
theorem dX10_machine_13 : decode cX10_machine 13 = .ok (.iconst 0, 1) := by decide +kernel
theorem dX10_machine_14 : decode cX10_machine 14 = .ok (.invokevirtual 66, 3) := by decide +kernel
theorem dX10_machine_17 : decode cX10_machine 17 = .ok (.ireturn, 1) := by decide +kernel
theorem dX10_machine_18 : decode cX10_machine 18 = .ok (.aload_n 0, 1) := by decide +kernel
theorem dX10_machine_19 : decode cX10_machine 19 = .ok (.getfield 39, 3) := by decide +kernel
theorem dX10_machine_22 : decode cX10_machine 22 = .ok (.getfield 129, 3) := by decide +kernel
theorem dX10_machine_25 : decode cX10_machine 25 = .ok (.istore_n 2, 1) := by decide +kernel
theorem dX10_machine_26 : decode cX10_machine 26 = .ok (.aload_n 0, 1) := by decide +kernel
theorem dX10_machine_27 : decode cX10_machine 27 = .ok (.getfield 39, 3) := by decide +kernel
theorem dX10_machine_30 : decode cX10_machine 30 = .ok (.iload_n 1, 1) := by decide +kernel
theorem dX10_machine_31 : decode cX10_machine 31 = .ok (.putfield 129, 3) := by decide +kernel
theorem dX10_machine_34 : decode cX10_machine 34 = .ok (.aload_n 0, 1) := by decide +kernel
theorem dX10_machine_35 : decode cX10_machine 35 = .ok (.getfield 31, 3) := by decide +kernel
theorem dX10_machine_38 : decode cX10_machine 38 = .ok (.invokevirtual 87, 3) := by decide +kernel
theorem dX10_machine_41 : decode cX10_machine 41 = .ok (.iload_n 2, 1) := by decide +kernel
theorem dX10_machine_42 : decode cX10_machine 42 = .ok (.ireturn, 1) := by decide +kernel
theorem dX10_hand_0 : decode cX10_hand 0 = .ok (.aload_n 0, 1) := by decide +kernel
theorem dX10_hand_1 : decode cX10_hand 1 = .ok (.getfield 39, 3) := by decide +kernel
theorem dX10_hand_4 : decode cX10_hand 4 = .ok (.iload_n 1, 1) := by decide +kernel
theorem dX10_hand_5 : decode cX10_hand 5 = .ok (.invokevirtual 90, 3) := by decide +kernel
theorem dX10_hand_8 : decode cX10_hand 8 = .ok (.ifCond .eq 19, 3) := by decide +kernel
