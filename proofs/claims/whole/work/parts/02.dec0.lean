theorem dX0_init_0 : decode cX0_init 0 = .ok (.aload_n 0, 1) := by decide +kernel
theorem dX0_init_1 : decode cX0_init 1 = .ok (.invokespecial 3, 3) := by decide +kernel
theorem dX0_init_4 : decode cX0_init 4 = .ok (.aload_n 0, 1) := by decide +kernel
theorem dX0_init_5 : decode cX0_init 5 = .ok (.bipush 7, 2) := by decide +kernel
theorem dX0_init_7 : decode cX0_init 7 = .ok (.newarray .int, 2) := by decide +kernel
theorem dX0_init_9 : decode cX0_init 9 = .ok (.putfield 9, 3) := by decide +kernel
theorem dX0_init_12 : decode cX0_init 12 = .ok (.return_, 1) := by decide +kernel
theorem dX0_tell_0 : decode cX0_tell 0 = .ok (.aload_n 0, 1) := by decide +kernel
theorem dX0_tell_1 : decode cX0_tell 1 = .ok (.getfield 9, 3) := by decide +kernel
theorem dX0_tell_4 : decode cX0_tell 4 = .ok (.iload_n 1, 1) := by decide +kernel
theorem dX0_tell_5 : decode cX0_tell 5 = .ok (.dup2, 1) := by decide +kernel
theorem dX0_tell_6 : decode cX0_tell 6 = .ok (.iaload, 1) := by decide +kernel
theorem dX0_tell_7 : decode cX0_tell 7 = .ok (.iconst 1, 1) := by decide +kernel
theorem dX0_tell_8 : decode cX0_tell 8 = .ok (.iadd, 1) := by decide +kernel
theorem dX0_tell_9 : decode cX0_tell 9 = .ok (.iastore, 1) := by decide +kernel
theorem dX0_tell_10 : decode cX0_tell 10 = .ok (.aload_n 0, 1) := by decide +kernel
theorem dX0_tell_11 : decode cX0_tell 11 = .ok (.dup, 1) := by decide +kernel
theorem dX0_tell_12 : decode cX0_tell 12 = .ok (.getfield 15, 3) := by decide +kernel
theorem dX0_tell_15 : decode cX0_tell 15 = .ok (.iconst 1, 1) := by decide +kernel
theorem dX0_tell_16 : decode cX0_tell 16 = .ok (.iadd, 1) := by decide +kernel
theorem dX0_tell_17 : decode cX0_tell 17 = .ok (.putfield 15, 3) := by decide +kernel
theorem dX0_tell_20 : decode cX0_tell 20 = .ok (.ldc 19, 2) := by decide +kernel
theorem dX0_tell_22 : decode cX0_tell 22 = .ok (.iload_n 1, 1) := by decide +kernel
theorem dX0_tell_23 : decode cX0_tell 23 = .ok (.isub, 1) := by decide +kernel
theorem dX0_tell_24 : decode cX0_tell 24 = .ok (.ireturn, 1) := by decide +kernel
theorem dX1_init_0 : decode cX1_init 0 = .ok (.aload_n 0, 1) := by decide +kernel
theorem dX1_init_1 : decode cX1_init 1 = .ok (.invokespecial 5, 3) := by decide +kernel
theorem dX1_init_4 : decode cX1_init 4 = .ok (.aload_n 0, 1) := by decide +kernel
theorem dX1_init_5 : decode cX1_init 5 = .ok (.sipush 390, 3) := by decide +kernel
theorem dX1_init_8 : decode cX1_init 8 = .ok (.newarray .int, 2) := by decide +kernel
theorem dX1_init_10 : decode cX1_init 10 = .ok (.putfield 11, 3) := by decide +kernel
theorem dX1_init_13 : decode cX1_init 13 = .ok (.aload_n 0, 1) := by decide +kernel
theorem dX1_init_14 : decode cX1_init 14 = .ok (.bipush 7, 2) := by decide +kernel
theorem dX1_init_16 : decode cX1_init 16 = .ok (.newarray .int, 2) := by decide +kernel
theorem dX1_init_18 : decode cX1_init 18 = .ok (.putfield 15, 3) := by decide +kernel
theorem dX1_init_21 : decode cX1_init 21 = .ok (.aload_n 0, 1) := by decide +kernel
theorem dX1_init_22 : decode cX1_init 22 = .ok (.iconst 3, 1) := by decide +kernel
theorem dX1_init_23 : decode cX1_init 23 = .ok (.newarray .int, 2) := by decide +kernel
theorem dX1_init_25 : decode cX1_init 25 = .ok (.putfield 18, 3) := by decide +kernel
theorem dX1_init_28 : decode cX1_init 28 = .ok (.aload_n 0, 1) := by decide +kernel
theorem dX1_init_29 : decode cX1_init 29 = .ok (.iconst 3, 1) := by decide +kernel
theorem dX1_init_30 : decode cX1_init 30 = .ok (.newarray .int, 2) := by decide +kernel
theorem dX1_init_32 : decode cX1_init 32 = .ok (.putfield 21, 3) := by decide +kernel
theorem dX1_init_35 : decode cX1_init 35 = .ok (.return_, 1) := by decide +kernel
theorem dX1_load_0 : decode cX1_load 0 = .ok (.aload_n 0, 1) := by decide +kernel
theorem dX1_load_1 : decode cX1_load 1 = .ok (.aload_n 1, 1) := by decide +kernel
theorem dX1_load_2 : decode cX1_load 2 = .ok (.getfield 24, 3) := by decide +kernel
theorem dX1_load_5 : decode cX1_load 5 = .ok (.putfield 30, 3) := by decide +kernel
theorem dX1_load_8 : decode cX1_load 8 = .ok (.aload_n 0, 1) := by decide +kernel
theorem dX1_load_9 : decode cX1_load 9 = .ok (.aload_n 1, 1) := by decide +kernel
theorem dX1_load_10 : decode cX1_load 10 = .ok (.getfield 31, 3) := by decide +kernel
theorem dX1_load_13 : decode cX1_load 13 = .ok (.iconst 1, 1) := by decide +kernel
theorem dX1_load_14 : decode cX1_load 14 = .ok (.if_icmp .ne 7, 3) := by decide +kernel
theorem dX1_load_17 : decode cX1_load 17 = .ok (.iconst 1, 1) := by decide +kernel
theorem dX1_load_18 : decode cX1_load 18 = .ok (.goto 4, 3) := by decide +kernel
theorem dX1_load_21 : decode cX1_load 21 = .ok (.iconst 0, 1) := by decide +kernel
theorem dX1_load_22 : decode cX1_load 22 = .ok (.putfield 34, 3) := by decide +kernel
theorem dX1_load_25 : decode cX1_load 25 = .ok (.aload_n 0, 1) := by decide +kernel
theorem dX1_load_26 : decode cX1_load 26 = .ok (.lconst 0, 1) := by decide +kernel
theorem dX1_load_27 : decode cX1_load 27 = .ok (.putfield 38, 3) := by decide +kernel
theorem dX1_load_30 : decode cX1_load 30 = .ok (.iconst 0, 1) := by decide +kernel
theorem dX1_load_31 : decode cX1_load 31 = .ok (.istore 4, 2) := by decide +kernel
theorem dX1_load_33 : decode cX1_load 33 = .ok (.iload 4, 2) := by decide +kernel
theorem dX1_load_35 : decode cX1_load 35 = .ok (.iconst 3, 1) := by decide +kernel
theorem dX1_load_36 : decode cX1_load 36 = .ok (.if_icmp .ge 31, 3) := by decide +kernel
theorem dX1_load_39 : decode cX1_load 39 = .ok (.aload_n 0, 1) := by decide +kernel
theorem dX1_load_40 : decode cX1_load 40 = .ok (.dup, 1) := by decide +kernel
theorem dX1_load_41 : decode cX1_load 41 = .ok (.getfield 38, 3) := by decide +kernel
theorem dX1_load_44 : decode cX1_load 44 = .ok (.aload_n 1, 1) := by decide +kernel
theorem dX1_load_45 : decode cX1_load 45 = .ok (.getfield 42, 3) := by decide +kernel
theorem dX1_load_48 : decode cX1_load 48 = .ok (.iload 4, 2) := by decide +kernel
theorem dX1_load_50 : decode cX1_load 50 = .ok (.iaload, 1) := by decide +kernel
theorem dX1_load_51 : decode cX1_load 51 = .ok (.i2l, 1) := by decide +kernel
theorem dX1_load_52 : decode cX1_load 52 = .ok (.iconst 2, 1) := by decide +kernel
theorem dX1_load_53 : decode cX1_load 53 = .ok (.iload 4, 2) := by decide +kernel
theorem dX1_load_55 : decode cX1_load 55 = .ok (.imul, 1) := by decide +kernel
theorem dX1_load_56 : decode cX1_load 56 = .ok (.lshl, 1) := by decide +kernel
theorem dX1_load_57 : decode cX1_load 57 = .ok (.lor, 1) := by decide +kernel
theorem dX1_load_58 : decode cX1_load 58 = .ok (.putfield 38, 3) := by decide +kernel
theorem dX1_load_61 : decode cX1_load 61 = .ok (.iinc 4 1, 3) := by decide +kernel
theorem dX1_load_64 : decode cX1_load 64 = .ok (.goto (-31), 3) := by decide +kernel
theorem dX1_load_67 : decode cX1_load 67 = .ok (.iconst 0, 1) := by decide +kernel
theorem dX1_load_68 : decode cX1_load 68 = .ok (.istore 4, 2) := by decide +kernel
theorem dX1_load_70 : decode cX1_load 70 = .ok (.iload 4, 2) := by decide +kernel
theorem dX1_load_72 : decode cX1_load 72 = .ok (.iconst 3, 1) := by decide +kernel
theorem dX1_load_73 : decode cX1_load 73 = .ok (.if_icmp .ge 107, 3) := by decide +kernel
theorem dX1_load_76 : decode cX1_load 76 = .ok (.aload_n 0, 1) := by decide +kernel
theorem dX1_load_77 : decode cX1_load 77 = .ok (.getfield 18, 3) := by decide +kernel
theorem dX1_load_80 : decode cX1_load 80 = .ok (.iload 4, 2) := by decide +kernel
theorem dX1_load_82 : decode cX1_load 82 = .ok (.iload 4, 2) := by decide +kernel
theorem dX1_load_84 : decode cX1_load 84 = .ok (.aload_n 0, 1) := by decide +kernel
theorem dX1_load_85 : decode cX1_load 85 = .ok (.getfield 30, 3) := by decide +kernel
theorem dX1_load_88 : decode cX1_load 88 = .ok (.if_icmp .ge 22, 3) := by decide +kernel
theorem dX1_load_91 : decode cX1_load 91 = .ok (.aload_n 0, 1) := by decide +kernel
theorem dX1_load_92 : decode cX1_load 92 = .ok (.aload_n 1, 1) := by decide +kernel
theorem dX1_load_93 : decode cX1_load 93 = .ok (.aload_n 1, 1) := by decide +kernel
theorem dX1_load_94 : decode cX1_load 94 = .ok (.getfield 45, 3) := by decide +kernel
theorem dX1_load_97 : decode cX1_load 97 = .ok (.iload 4, 2) := by decide +kernel
theorem dX1_load_99 : decode cX1_load 99 = .ok (.iaload, 1) := by decide +kernel
theorem dX1_load_100 : decode cX1_load 100 = .ok (.iload 4, 2) := by decide +kernel
theorem dX1_load_102 : decode cX1_load 102 = .ok (.iconst 0, 1) := by decide +kernel
theorem dX1_load_103 : decode cX1_load 103 = .ok (.lload_n 2, 1) := by decide +kernel
theorem dX1_load_104 : decode cX1_load 104 = .ok (.invokevirtual 48, 3) := by decide +kernel
theorem dX1_load_107 : decode cX1_load 107 = .ok (.goto 4, 3) := by decide +kernel
theorem dX1_load_110 : decode cX1_load 110 = .ok (.iconst 0, 1) := by decide +kernel
theorem dX1_load_111 : decode cX1_load 111 = .ok (.iastore, 1) := by decide +kernel
theorem dX1_load_112 : decode cX1_load 112 = .ok (.aload_n 0, 1) := by decide +kernel
theorem dX1_load_113 : decode cX1_load 113 = .ok (.getfield 21, 3) := by decide +kernel
theorem dX1_load_116 : decode cX1_load 116 = .ok (.iload 4, 2) := by decide +kernel
theorem dX1_load_118 : decode cX1_load 118 = .ok (.aload_n 0, 1) := by decide +kernel
theorem dX1_load_119 : decode cX1_load 119 = .ok (.getfield 18, 3) := by decide +kernel
theorem dX1_load_122 : decode cX1_load 122 = .ok (.iload 4, 2) := by decide +kernel
theorem dX1_load_124 : decode cX1_load 124 = .ok (.iaload, 1) := by decide +kernel
theorem dX1_load_125 : decode cX1_load 125 = .ok (.iastore, 1) := by decide +kernel
theorem dX1_load_126 : decode cX1_load 126 = .ok (.iload 4, 2) := by decide +kernel
theorem dX1_load_128 : decode cX1_load 128 = .ok (.aload_n 0, 1) := by decide +kernel
theorem dX1_load_129 : decode cX1_load 129 = .ok (.getfield 30, 3) := by decide +kernel
theorem dX1_load_132 : decode cX1_load 132 = .ok (.if_icmp .ge 42, 3) := by decide +kernel
theorem dX1_load_135 : decode cX1_load 135 = .ok (.aload_n 1, 1) := by decide +kernel
theorem dX1_load_136 : decode cX1_load 136 = .ok (.getfield 52, 3) := by decide +kernel
theorem dX1_load_139 : decode cX1_load 139 = .ok (.iload 4, 2) := by decide +kernel
theorem dX1_load_141 : decode cX1_load 141 = .ok (.iaload, 1) := by decide +kernel
theorem dX1_load_142 : decode cX1_load 142 = .ok (.ifCond .lt 32, 3) := by decide +kernel
theorem dX1_load_145 : decode cX1_load 145 = .ok (.aload_n 0, 1) := by decide +kernel
theorem dX1_load_146 : decode cX1_load 146 = .ok (.getfield 21, 3) := by decide +kernel
theorem dX1_load_149 : decode cX1_load 149 = .ok (.iload 4, 2) := by decide +kernel
theorem dX1_load_151 : decode cX1_load 151 = .ok (.aload_n 0, 1) := by decide +kernel
theorem dX1_load_152 : decode cX1_load 152 = .ok (.aload_n 1, 1) := by decide +kernel
theorem dX1_load_153 : decode cX1_load 153 = .ok (.aload_n 1, 1) := by decide +kernel
theorem dX1_load_154 : decode cX1_load 154 = .ok (.getfield 52, 3) := by decide +kernel
theorem dX1_load_157 : decode cX1_load 157 = .ok (.iload 4, 2) := by decide +kernel
theorem dX1_load_159 : decode cX1_load 159 = .ok (.iaload, 1) := by decide +kernel
theorem dX1_load_160 : decode cX1_load 160 = .ok (.iload 4, 2) := by decide +kernel
theorem dX1_load_162 : decode cX1_load 162 = .ok (.aload_n 0, 1) := by decide +kernel
theorem dX1_load_163 : decode cX1_load 163 = .ok (.getfield 18, 3) := by decide +kernel
theorem dX1_load_166 : decode cX1_load 166 = .ok (.iload 4, 2) := by decide +kernel
theorem dX1_load_168 : decode cX1_load 168 = .ok (.iaload, 1) := by decide +kernel
theorem dX1_load_169 : decode cX1_load 169 = .ok (.lload_n 2, 1) := by decide +kernel
theorem dX1_load_170 : decode cX1_load 170 = .ok (.invokevirtual 48, 3) := by decide +kernel
theorem dX1_load_173 : decode cX1_load 173 = .ok (.iastore, 1) := by decide +kernel
theorem dX1_load_174 : decode cX1_load 174 = .ok (.iinc 4 1, 3) := by decide +kernel
theorem dX1_load_177 : decode cX1_load 177 = .ok (.goto (-107), 3) := by decide +kernel
theorem dX1_load_180 : decode cX1_load 180 = .ok (.return_, 1) := by decide +kernel
theorem dX1_layCall_0 : decode cX1_layCall 0 = .ok (.iload 4, 2) := by decide +kernel
theorem dX1_layCall_2 : decode cX1_layCall 2 = .ok (.istore 7, 2) := by decide +kernel
theorem dX1_layCall_4 : decode cX1_layCall 4 = .ok (.iconst 0, 1) := by decide +kernel
theorem dX1_layCall_5 : decode cX1_layCall 5 = .ok (.istore 8, 2) := by decide +kernel
theorem dX1_layCall_7 : decode cX1_layCall 7 = .ok (.iload 8, 2) := by decide +kernel
theorem dX1_layCall_9 : decode cX1_layCall 9 = .ok (.aload_n 1, 1) := by decide +kernel
theorem dX1_layCall_10 : decode cX1_layCall 10 = .ok (.getfield 55, 3) := by decide +kernel
theorem dX1_layCall_13 : decode cX1_layCall 13 = .ok (.iload_n 2, 1) := by decide +kernel
theorem dX1_layCall_14 : decode cX1_layCall 14 = .ok (.iaload, 1) := by decide +kernel
theorem dX1_layCall_15 : decode cX1_layCall 15 = .ok (.if_icmp .ge 149, 3) := by decide +kernel
theorem dX1_layCall_18 : decode cX1_layCall 18 = .ok (.iload 7, 2) := by decide +kernel
theorem dX1_layCall_20 : decode cX1_layCall 20 = .ok (.bipush 26, 2) := by decide +kernel
theorem dX1_layCall_22 : decode cX1_layCall 22 = .ok (.if_icmp .ge 142, 3) := by decide +kernel
theorem dX1_layCall_25 : decode cX1_layCall 25 = .ok (.aload_n 0, 1) := by decide +kernel
theorem dX1_layCall_26 : decode cX1_layCall 26 = .ok (.getfield 15, 3) := by decide +kernel
theorem dX1_layCall_29 : decode cX1_layCall 29 = .ok (.iload 8, 2) := by decide +kernel
theorem dX1_layCall_31 : decode cX1_layCall 31 = .ok (.iload 7, 2) := by decide +kernel
theorem dX1_layCall_33 : decode cX1_layCall 33 = .ok (.iastore, 1) := by decide +kernel
theorem dX1_layCall_34 : decode cX1_layCall 34 = .ok (.iload_n 3, 1) := by decide +kernel
theorem dX1_layCall_35 : decode cX1_layCall 35 = .ok (.bipush 26, 2) := by decide +kernel
theorem dX1_layCall_37 : decode cX1_layCall 37 = .ok (.imul, 1) := by decide +kernel
theorem dX1_layCall_38 : decode cX1_layCall 38 = .ok (.iload 7, 2) := by decide +kernel
theorem dX1_layCall_40 : decode cX1_layCall 40 = .ok (.iadd, 1) := by decide +kernel
theorem dX1_layCall_41 : decode cX1_layCall 41 = .ok (.iconst 5, 1) := by decide +kernel
theorem dX1_layCall_42 : decode cX1_layCall 42 = .ok (.imul, 1) := by decide +kernel
theorem dX1_layCall_43 : decode cX1_layCall 43 = .ok (.istore 9, 2) := by decide +kernel
theorem dX1_layCall_45 : decode cX1_layCall 45 = .ok (.iconst 0, 1) := by decide +kernel
theorem dX1_layCall_46 : decode cX1_layCall 46 = .ok (.istore 10, 2) := by decide +kernel
theorem dX1_layCall_48 : decode cX1_layCall 48 = .ok (.iload 10, 2) := by decide +kernel
theorem dX1_layCall_50 : decode cX1_layCall 50 = .ok (.iconst 5, 1) := by decide +kernel
theorem dX1_layCall_51 : decode cX1_layCall 51 = .ok (.if_icmp .ge 28, 3) := by decide +kernel
theorem dX1_layCall_54 : decode cX1_layCall 54 = .ok (.aload_n 0, 1) := by decide +kernel
theorem dX1_layCall_55 : decode cX1_layCall 55 = .ok (.getfield 11, 3) := by decide +kernel
theorem dX1_layCall_58 : decode cX1_layCall 58 = .ok (.iload 9, 2) := by decide +kernel
theorem dX1_layCall_60 : decode cX1_layCall 60 = .ok (.iload 10, 2) := by decide +kernel
theorem dX1_layCall_62 : decode cX1_layCall 62 = .ok (.iadd, 1) := by decide +kernel
theorem dX1_layCall_63 : decode cX1_layCall 63 = .ok (.aload_n 1, 1) := by decide +kernel
theorem dX1_layCall_64 : decode cX1_layCall 64 = .ok (.iload_n 2, 1) := by decide +kernel
theorem dX1_layCall_65 : decode cX1_layCall 65 = .ok (.iload 8, 2) := by decide +kernel
theorem dX1_layCall_67 : decode cX1_layCall 67 = .ok (.iload 10, 2) := by decide +kernel
theorem dX1_layCall_69 : decode cX1_layCall 69 = .ok (.invokevirtual 56, 3) := by decide +kernel
theorem dX1_layCall_72 : decode cX1_layCall 72 = .ok (.iastore, 1) := by decide +kernel
theorem dX1_layCall_73 : decode cX1_layCall 73 = .ok (.iinc 10 1, 3) := by decide +kernel
theorem dX1_layCall_76 : decode cX1_layCall 76 = .ok (.goto (-28), 3) := by decide +kernel
theorem dX1_layCall_79 : decode cX1_layCall 79 = .ok (.aload_n 0, 1) := by decide +kernel
theorem dX1_layCall_80 : decode cX1_layCall 80 = .ok (.getfield 11, 3) := by decide +kernel
theorem dX1_layCall_83 : decode cX1_layCall 83 = .ok (.iload 9, 2) := by decide +kernel
theorem dX1_layCall_85 : decode cX1_layCall 85 = .ok (.iaload, 1) := by decide +kernel
theorem dX1_layCall_86 : decode cX1_layCall 86 = .ok (.bipush 6, 2) := by decide +kernel
theorem dX1_layCall_88 : decode cX1_layCall 88 = .ok (.if_icmp .ne 25, 3) := by decide +kernel
theorem dX1_layCall_91 : decode cX1_layCall 91 = .ok (.aload_n 0, 1) := by decide +kernel
theorem dX1_layCall_92 : decode cX1_layCall 92 = .ok (.getfield 11, 3) := by decide +kernel
theorem dX1_layCall_95 : decode cX1_layCall 95 = .ok (.iload 9, 2) := by decide +kernel
theorem dX1_layCall_97 : decode cX1_layCall 97 = .ok (.iconst 4, 1) := by decide +kernel
theorem dX1_layCall_98 : decode cX1_layCall 98 = .ok (.iadd, 1) := by decide +kernel
theorem dX1_layCall_99 : decode cX1_layCall 99 = .ok (.aload_n 0, 1) := by decide +kernel
theorem dX1_layCall_100 : decode cX1_layCall 100 = .ok (.getfield 15, 3) := by decide +kernel
theorem dX1_layCall_103 : decode cX1_layCall 103 = .ok (.aload_n 1, 1) := by decide +kernel
theorem dX1_layCall_104 : decode cX1_layCall 104 = .ok (.iload_n 2, 1) := by decide +kernel
theorem dX1_layCall_105 : decode cX1_layCall 105 = .ok (.iload 8, 2) := by decide +kernel
theorem dX1_layCall_107 : decode cX1_layCall 107 = .ok (.iconst 4, 1) := by decide +kernel
theorem dX1_layCall_108 : decode cX1_layCall 108 = .ok (.invokevirtual 56, 3) := by decide +kernel
theorem dX1_layCall_111 : decode cX1_layCall 111 = .ok (.iaload, 1) := by decide +kernel
theorem dX1_layCall_112 : decode cX1_layCall 112 = .ok (.iastore, 1) := by decide +kernel
theorem dX1_layCall_113 : decode cX1_layCall 113 = .ok (.iinc 7 1, 3) := by decide +kernel
theorem dX1_layCall_116 : decode cX1_layCall 116 = .ok (.lload 5, 2) := by decide +kernel
theorem dX1_layCall_118 : decode cX1_layCall 118 = .ok (.iload_n 2, 1) := by decide +kernel
theorem dX1_layCall_119 : decode cX1_layCall 119 = .ok (.bipush 7, 2) := by decide +kernel
theorem dX1_layCall_121 : decode cX1_layCall 121 = .ok (.imul, 1) := by decide +kernel
theorem dX1_layCall_122 : decode cX1_layCall 122 = .ok (.iload 8, 2) := by decide +kernel
theorem dX1_layCall_124 : decode cX1_layCall 124 = .ok (.iadd, 1) := by decide +kernel
theorem dX1_layCall_125 : decode cX1_layCall 125 = .ok (.lushr, 1) := by decide +kernel
theorem dX1_layCall_126 : decode cX1_layCall 126 = .ok (.lconst 1, 1) := by decide +kernel
theorem dX1_layCall_127 : decode cX1_layCall 127 = .ok (.land, 1) := by decide +kernel
theorem dX1_layCall_128 : decode cX1_layCall 128 = .ok (.lconst 1, 1) := by decide +kernel
theorem dX1_layCall_129 : decode cX1_layCall 129 = .ok (.lcmp, 1) := by decide +kernel
theorem dX1_layCall_130 : decode cX1_layCall 130 = .ok (.ifCond .ne 28, 3) := by decide +kernel
theorem dX1_layCall_133 : decode cX1_layCall 133 = .ok (.iload 7, 2) := by decide +kernel
theorem dX1_layCall_135 : decode cX1_layCall 135 = .ok (.bipush 26, 2) := by decide +kernel
theorem dX1_layCall_137 : decode cX1_layCall 137 = .ok (.if_icmp .ge 21, 3) := by decide +kernel
theorem dX1_layCall_140 : decode cX1_layCall 140 = .ok (.aload_n 0, 1) := by decide +kernel
theorem dX1_layCall_141 : decode cX1_layCall 141 = .ok (.getfield 11, 3) := by decide +kernel
theorem dX1_layCall_144 : decode cX1_layCall 144 = .ok (.iload_n 3, 1) := by decide +kernel
theorem dX1_layCall_145 : decode cX1_layCall 145 = .ok (.bipush 26, 2) := by decide +kernel
theorem dX1_layCall_147 : decode cX1_layCall 147 = .ok (.imul, 1) := by decide +kernel
theorem dX1_layCall_148 : decode cX1_layCall 148 = .ok (.iload 7, 2) := by decide +kernel
theorem dX1_layCall_150 : decode cX1_layCall 150 = .ok (.iadd, 1) := by decide +kernel
theorem dX1_layCall_151 : decode cX1_layCall 151 = .ok (.iconst 5, 1) := by decide +kernel
theorem dX1_layCall_152 : decode cX1_layCall 152 = .ok (.imul, 1) := by decide +kernel
theorem dX1_layCall_153 : decode cX1_layCall 153 = .ok (.iconst 5, 1) := by decide +kernel
theorem dX1_layCall_154 : decode cX1_layCall 154 = .ok (.iastore, 1) := by decide +kernel
theorem dX1_layCall_155 : decode cX1_layCall 155 = .ok (.iinc 7 1, 3) := by decide +kernel
theorem dX1_layCall_158 : decode cX1_layCall 158 = .ok (.iinc 8 1, 3) := by decide +kernel
theorem dX1_layCall_161 : decode cX1_layCall 161 = .ok (.goto (-154), 3) := by decide +kernel
theorem dX1_layCall_164 : decode cX1_layCall 164 = .ok (.iload 7, 2) := by decide +kernel
theorem dX1_layCall_166 : decode cX1_layCall 166 = .ok (.ireturn, 1) := by decide +kernel
theorem dX1_valueIn_0 : decode cX1_valueIn 0 = .ok (.lload_n 0, 1) := by decide +kernel
theorem dX1_valueIn_1 : decode cX1_valueIn 1 = .ok (.iconst 2, 1) := by decide +kernel
theorem dX1_valueIn_2 : decode cX1_valueIn 2 = .ok (.iload_n 2, 1) := by decide +kernel
theorem dX1_valueIn_3 : decode cX1_valueIn 3 = .ok (.imul, 1) := by decide +kernel
theorem dX1_valueIn_4 : decode cX1_valueIn 4 = .ok (.lushr, 1) := by decide +kernel
theorem dX1_valueIn_5 : decode cX1_valueIn 5 = .ok (.l2i, 1) := by decide +kernel
theorem dX1_valueIn_6 : decode cX1_valueIn 6 = .ok (.iconst 3, 1) := by decide +kernel
theorem dX1_valueIn_7 : decode cX1_valueIn 7 = .ok (.iand, 1) := by decide +kernel
theorem dX1_valueIn_8 : decode cX1_valueIn 8 = .ok (.ireturn, 1) := by decide +kernel
theorem dX1_handIn_0 : decode cX1_handIn 0 = .ok (.lload_n 0, 1) := by decide +kernel
theorem dX1_handIn_1 : decode cX1_handIn 1 = .ok (.bipush 6, 2) := by decide +kernel
theorem dX1_handIn_3 : decode cX1_handIn 3 = .ok (.bipush 19, 2) := by decide +kernel
theorem dX1_handIn_5 : decode cX1_handIn 5 = .ok (.iload_n 2, 1) := by decide +kernel
theorem dX1_handIn_6 : decode cX1_handIn 6 = .ok (.imul, 1) := by decide +kernel
theorem dX1_handIn_7 : decode cX1_handIn 7 = .ok (.iadd, 1) := by decide +kernel
theorem dX1_handIn_8 : decode cX1_handIn 8 = .ok (.lushr, 1) := by decide +kernel
theorem dX1_handIn_9 : decode cX1_handIn 9 = .ok (.l2i, 1) := by decide +kernel
theorem dX1_handIn_10 : decode cX1_handIn 10 = .ok (.ldc 60, 2) := by decide +kernel
theorem dX1_handIn_12 : decode cX1_handIn 12 = .ok (.iand, 1) := by decide +kernel
theorem dX1_handIn_13 : decode cX1_handIn 13 = .ok (.ireturn, 1) := by decide +kernel
theorem dX1_withValue_0 : decode cX1_withValue 0 = .ok (.lload_n 0, 1) := by decide +kernel
theorem dX1_withValue_1 : decode cX1_withValue 1 = .ok (.ldc2_w 61, 3) := by decide +kernel
theorem dX1_withValue_4 : decode cX1_withValue 4 = .ok (.iconst 2, 1) := by decide +kernel
theorem dX1_withValue_5 : decode cX1_withValue 5 = .ok (.iload_n 2, 1) := by decide +kernel
theorem dX1_withValue_6 : decode cX1_withValue 6 = .ok (.imul, 1) := by decide +kernel
theorem dX1_withValue_7 : decode cX1_withValue 7 = .ok (.lshl, 1) := by decide +kernel
theorem dX1_withValue_8 : decode cX1_withValue 8 = .ok (.ldc2_w 63, 3) := by decide +kernel
theorem dX1_withValue_11 : decode cX1_withValue 11 = .ok (.lxor, 1) := by decide +kernel
theorem dX1_withValue_12 : decode cX1_withValue 12 = .ok (.land, 1) := by decide +kernel
theorem dX1_withValue_13 : decode cX1_withValue 13 = .ok (.iload_n 3, 1) := by decide +kernel
theorem dX1_withValue_14 : decode cX1_withValue 14 = .ok (.iconst 3, 1) := by decide +kernel
theorem dX1_withValue_15 : decode cX1_withValue 15 = .ok (.iand, 1) := by decide +kernel
theorem dX1_withValue_16 : decode cX1_withValue 16 = .ok (.i2l, 1) := by decide +kernel
theorem dX1_withValue_17 : decode cX1_withValue 17 = .ok (.iconst 2, 1) := by decide +kernel
theorem dX1_withValue_18 : decode cX1_withValue 18 = .ok (.iload_n 2, 1) := by decide +kernel
theorem dX1_withValue_19 : decode cX1_withValue 19 = .ok (.imul, 1) := by decide +kernel
theorem dX1_withValue_20 : decode cX1_withValue 20 = .ok (.lshl, 1) := by decide +kernel
theorem dX1_withValue_21 : decode cX1_withValue 21 = .ok (.lor, 1) := by decide +kernel
theorem dX1_withValue_22 : decode cX1_withValue 22 = .ok (.lreturn, 1) := by decide +kernel
theorem dX1_withHand_0 : decode cX1_withHand 0 = .ok (.bipush 6, 2) := by decide +kernel
theorem dX1_withHand_2 : decode cX1_withHand 2 = .ok (.bipush 19, 2) := by decide +kernel
theorem dX1_withHand_4 : decode cX1_withHand 4 = .ok (.iload_n 2, 1) := by decide +kernel
theorem dX1_withHand_5 : decode cX1_withHand 5 = .ok (.imul, 1) := by decide +kernel
theorem dX1_withHand_6 : decode cX1_withHand 6 = .ok (.iadd, 1) := by decide +kernel
theorem dX1_withHand_7 : decode cX1_withHand 7 = .ok (.istore 4, 2) := by decide +kernel
theorem dX1_withHand_9 : decode cX1_withHand 9 = .ok (.lload_n 0, 1) := by decide +kernel
theorem dX1_withHand_10 : decode cX1_withHand 10 = .ok (.ldc2_w 65, 3) := by decide +kernel
theorem dX1_withHand_13 : decode cX1_withHand 13 = .ok (.iload 4, 2) := by decide +kernel
theorem dX1_withHand_15 : decode cX1_withHand 15 = .ok (.lshl, 1) := by decide +kernel
theorem dX1_withHand_16 : decode cX1_withHand 16 = .ok (.ldc2_w 63, 3) := by decide +kernel
theorem dX1_withHand_19 : decode cX1_withHand 19 = .ok (.lxor, 1) := by decide +kernel
theorem dX1_withHand_20 : decode cX1_withHand 20 = .ok (.land, 1) := by decide +kernel
theorem dX1_withHand_21 : decode cX1_withHand 21 = .ok (.iload_n 3, 1) := by decide +kernel
theorem dX1_withHand_22 : decode cX1_withHand 22 = .ok (.i2l, 1) := by decide +kernel
theorem dX1_withHand_23 : decode cX1_withHand 23 = .ok (.iload 4, 2) := by decide +kernel
theorem dX1_withHand_25 : decode cX1_withHand 25 = .ok (.lshl, 1) := by decide +kernel
theorem dX1_withHand_26 : decode cX1_withHand 26 = .ok (.lor, 1) := by decide +kernel
theorem dX1_withHand_27 : decode cX1_withHand 27 = .ok (.lreturn, 1) := by decide +kernel
theorem dX1_withA_0 : decode cX1_withA 0 = .ok (.iload_n 0, 1) := by decide +kernel
theorem dX1_withA_1 : decode cX1_withA 1 = .ok (.bipush (-97), 2) := by decide +kernel
theorem dX1_withA_3 : decode cX1_withA 3 = .ok (.iand, 1) := by decide +kernel
theorem dX1_withA_4 : decode cX1_withA 4 = .ok (.iload_n 1, 1) := by decide +kernel
theorem dX1_withA_5 : decode cX1_withA 5 = .ok (.iconst 5, 1) := by decide +kernel
theorem dX1_withA_6 : decode cX1_withA 6 = .ok (.ishl, 1) := by decide +kernel
theorem dX1_withA_7 : decode cX1_withA 7 = .ok (.ior, 1) := by decide +kernel
theorem dX1_withA_8 : decode cX1_withA 8 = .ok (.ireturn, 1) := by decide +kernel
theorem dX1_withB_0 : decode cX1_withB 0 = .ok (.iload_n 0, 1) := by decide +kernel
theorem dX1_withB_1 : decode cX1_withB 1 = .ok (.sipush (-385), 3) := by decide +kernel
theorem dX1_withB_4 : decode cX1_withB 4 = .ok (.iand, 1) := by decide +kernel
theorem dX1_withB_5 : decode cX1_withB 5 = .ok (.iload_n 1, 1) := by decide +kernel
theorem dX1_withB_6 : decode cX1_withB 6 = .ok (.bipush 7, 2) := by decide +kernel
theorem dX1_withB_8 : decode cX1_withB 8 = .ok (.ishl, 1) := by decide +kernel
theorem dX1_withB_9 : decode cX1_withB 9 = .ok (.ior, 1) := by decide +kernel
theorem dX1_withB_10 : decode cX1_withB 10 = .ok (.ireturn, 1) := by decide +kernel
theorem dX1_waitingFor_0 : decode cX1_waitingFor 0 = .ok (.iload_n 0, 1) := by decide +kernel
theorem dX1_waitingFor_1 : decode cX1_waitingFor 1 = .ok (.bipush 9, 2) := by decide +kernel
theorem dX1_waitingFor_3 : decode cX1_waitingFor 3 = .ok (.ishr, 1) := by decide +kernel
theorem dX1_waitingFor_4 : decode cX1_waitingFor 4 = .ok (.iconst 3, 1) := by decide +kernel
theorem dX1_waitingFor_5 : decode cX1_waitingFor 5 = .ok (.iand, 1) := by decide +kernel
theorem dX1_waitingFor_6 : decode cX1_waitingFor 6 = .ok (.istore_n 2, 1) := by decide +kernel
theorem dX1_waitingFor_7 : decode cX1_waitingFor 7 = .ok (.iload_n 0, 1) := by decide +kernel
theorem dX1_waitingFor_8 : decode cX1_waitingFor 8 = .ok (.bipush 15, 2) := by decide +kernel
theorem dX1_waitingFor_10 : decode cX1_waitingFor 10 = .ok (.ishr, 1) := by decide +kernel
theorem dX1_waitingFor_11 : decode cX1_waitingFor 11 = .ok (.bipush 15, 2) := by decide +kernel
theorem dX1_waitingFor_13 : decode cX1_waitingFor 13 = .ok (.iand, 1) := by decide +kernel
theorem dX1_waitingFor_14 : decode cX1_waitingFor 14 = .ok (.istore_n 3, 1) := by decide +kernel
theorem dX1_waitingFor_15 : decode cX1_waitingFor 15 = .ok (.iload_n 2, 1) := by decide +kernel
theorem dX1_waitingFor_16 : decode cX1_waitingFor 16 = .ok (.iconst 2, 1) := by decide +kernel
theorem dX1_waitingFor_17 : decode cX1_waitingFor 17 = .ok (.if_icmp .ne 14, 3) := by decide +kernel
theorem dX1_waitingFor_20 : decode cX1_waitingFor 20 = .ok (.iload_n 3, 1) := by decide +kernel
theorem dX1_waitingFor_21 : decode cX1_waitingFor 21 = .ok (.iconst 2, 1) := by decide +kernel
theorem dX1_waitingFor_22 : decode cX1_waitingFor 22 = .ok (.ishr, 1) := by decide +kernel
theorem dX1_waitingFor_23 : decode cX1_waitingFor 23 = .ok (.iload_n 1, 1) := by decide +kernel
theorem dX1_waitingFor_24 : decode cX1_waitingFor 24 = .ok (.if_icmp .ne 7, 3) := by decide +kernel
theorem dX1_waitingFor_27 : decode cX1_waitingFor 27 = .ok (.iload_n 3, 1) := by decide +kernel
theorem dX1_waitingFor_28 : decode cX1_waitingFor 28 = .ok (.iconst 3, 1) := by decide +kernel
theorem dX1_waitingFor_29 : decode cX1_waitingFor 29 = .ok (.iand, 1) := by decide +kernel
theorem dX1_waitingFor_30 : decode cX1_waitingFor 30 = .ok (.ireturn, 1) := by decide +kernel
theorem dX1_waitingFor_31 : decode cX1_waitingFor 31 = .ok (.iload_n 0, 1) := by decide +kernel
theorem dX1_waitingFor_32 : decode cX1_waitingFor 32 = .ok (.bipush 11, 2) := by decide +kernel
theorem dX1_waitingFor_34 : decode cX1_waitingFor 34 = .ok (.ishr, 1) := by decide +kernel
theorem dX1_waitingFor_35 : decode cX1_waitingFor 35 = .ok (.bipush 15, 2) := by decide +kernel
theorem dX1_waitingFor_37 : decode cX1_waitingFor 37 = .ok (.iand, 1) := by decide +kernel
theorem dX1_waitingFor_38 : decode cX1_waitingFor 38 = .ok (.istore 4, 2) := by decide +kernel
theorem dX1_waitingFor_40 : decode cX1_waitingFor 40 = .ok (.iload_n 2, 1) := by decide +kernel
theorem dX1_waitingFor_41 : decode cX1_waitingFor 41 = .ok (.iconst 1, 1) := by decide +kernel
theorem dX1_waitingFor_42 : decode cX1_waitingFor 42 = .ok (.if_icmp .lt 18, 3) := by decide +kernel
theorem dX1_waitingFor_45 : decode cX1_waitingFor 45 = .ok (.iload 4, 2) := by decide +kernel
theorem dX1_waitingFor_47 : decode cX1_waitingFor 47 = .ok (.iconst 2, 1) := by decide +kernel
theorem dX1_waitingFor_48 : decode cX1_waitingFor 48 = .ok (.ishr, 1) := by decide +kernel
theorem dX1_waitingFor_49 : decode cX1_waitingFor 49 = .ok (.iload_n 1, 1) := by decide +kernel
theorem dX1_waitingFor_50 : decode cX1_waitingFor 50 = .ok (.if_icmp .ne 10, 3) := by decide +kernel
theorem dX1_waitingFor_53 : decode cX1_waitingFor 53 = .ok (.iload 4, 2) := by decide +kernel
theorem dX1_waitingFor_55 : decode cX1_waitingFor 55 = .ok (.iconst 3, 1) := by decide +kernel
theorem dX1_waitingFor_56 : decode cX1_waitingFor 56 = .ok (.iand, 1) := by decide +kernel
theorem dX1_waitingFor_57 : decode cX1_waitingFor 57 = .ok (.goto 4, 3) := by decide +kernel
theorem dX1_waitingFor_60 : decode cX1_waitingFor 60 = .ok (.iconst (-1), 1) := by decide +kernel
theorem dX1_waitingFor_61 : decode cX1_waitingFor 61 = .ok (.ireturn, 1) := by decide +kernel
theorem dX1_moved_0 : decode cX1_moved 0 = .ok (.iload_n 3, 1) := by decide +kernel
theorem dX1_moved_1 : decode cX1_moved 1 = .ok (.iconst 3, 1) := by decide +kernel
theorem dX1_moved_2 : decode cX1_moved 2 = .ok (.if_icmp .lt 12, 3) := by decide +kernel
theorem dX1_moved_5 : decode cX1_moved 5 = .ok (.aload_n 0, 1) := by decide +kernel
theorem dX1_moved_6 : decode cX1_moved 6 = .ok (.lload_n 1, 1) := by decide +kernel
theorem dX1_moved_7 : decode cX1_moved 7 = .ok (.iload_n 3, 1) := by decide +kernel
theorem dX1_moved_8 : decode cX1_moved 8 = .ok (.iconst 3, 1) := by decide +kernel
theorem dX1_moved_9 : decode cX1_moved 9 = .ok (.isub, 1) := by decide +kernel
theorem dX1_moved_10 : decode cX1_moved 10 = .ok (.invokevirtual 67, 3) := by decide +kernel
theorem dX1_moved_13 : decode cX1_moved 13 = .ok (.lreturn, 1) := by decide +kernel
theorem dX1_moved_14 : decode cX1_moved 14 = .ok (.iload_n 3, 1) := by decide +kernel
theorem dX1_moved_15 : decode cX1_moved 15 = .ok (.istore 5, 2) := by decide +kernel
theorem dX1_moved_17 : decode cX1_moved 17 = .ok (.lload_n 1, 1) := by decide +kernel
theorem dX1_moved_18 : decode cX1_moved 18 = .ok (.iload 5, 2) := by decide +kernel
theorem dX1_moved_20 : decode cX1_moved 20 = .ok (.invokestatic 71, 3) := by decide +kernel
theorem dX1_moved_23 : decode cX1_moved 23 = .ok (.istore 6, 2) := by decide +kernel
theorem dX1_moved_25 : decode cX1_moved 25 = .ok (.iload 6, 2) := by decide +kernel
theorem dX1_moved_27 : decode cX1_moved 27 = .ok (.bipush 31, 2) := by decide +kernel
theorem dX1_moved_29 : decode cX1_moved 29 = .ok (.iand, 1) := by decide +kernel
theorem dX1_moved_30 : decode cX1_moved 30 = .ok (.istore 7, 2) := by decide +kernel
theorem dX1_moved_32 : decode cX1_moved 32 = .ok (.iload 7, 2) := by decide +kernel
theorem dX1_moved_34 : decode cX1_moved 34 = .ok (.aload_n 0, 1) := by decide +kernel
theorem dX1_moved_35 : decode cX1_moved 35 = .ok (.getfield 21, 3) := by decide +kernel
theorem dX1_moved_38 : decode cX1_moved 38 = .ok (.iload 5, 2) := by decide +kernel
theorem dX1_moved_40 : decode cX1_moved 40 = .ok (.iaload, 1) := by decide +kernel
theorem dX1_moved_41 : decode cX1_moved 41 = .ok (.if_icmp .lt 7, 3) := by decide +kernel
theorem dX1_moved_44 : decode cX1_moved 44 = .ok (.ldc2_w 63, 3) := by decide +kernel
theorem dX1_moved_47 : decode cX1_moved 47 = .ok (.lreturn, 1) := by decide +kernel
theorem dX1_moved_48 : decode cX1_moved 48 = .ok (.iload 5, 2) := by decide +kernel
theorem dX1_moved_50 : decode cX1_moved 50 = .ok (.bipush 26, 2) := by decide +kernel
theorem dX1_moved_52 : decode cX1_moved 52 = .ok (.imul, 1) := by decide +kernel
theorem dX1_moved_53 : decode cX1_moved 53 = .ok (.iload 7, 2) := by decide +kernel
theorem dX1_moved_55 : decode cX1_moved 55 = .ok (.iadd, 1) := by decide +kernel
theorem dX1_moved_56 : decode cX1_moved 56 = .ok (.iconst 5, 1) := by decide +kernel
theorem dX1_moved_57 : decode cX1_moved 57 = .ok (.imul, 1) := by decide +kernel
theorem dX1_moved_58 : decode cX1_moved 58 = .ok (.istore 8, 2) := by decide +kernel
theorem dX1_moved_60 : decode cX1_moved 60 = .ok (.iload 6, 2) := by decide +kernel
theorem dX1_moved_62 : decode cX1_moved 62 = .ok (.iconst 5, 1) := by decide +kernel
theorem dX1_moved_63 : decode cX1_moved 63 = .ok (.ishr, 1) := by decide +kernel
theorem dX1_moved_64 : decode cX1_moved 64 = .ok (.iconst 3, 1) := by decide +kernel
theorem dX1_moved_65 : decode cX1_moved 65 = .ok (.iand, 1) := by decide +kernel
theorem dX1_moved_66 : decode cX1_moved 66 = .ok (.istore 9, 2) := by decide +kernel
theorem dX1_moved_68 : decode cX1_moved 68 = .ok (.iload 6, 2) := by decide +kernel
theorem dX1_moved_70 : decode cX1_moved 70 = .ok (.iconst 1, 1) := by decide +kernel
theorem dX1_moved_71 : decode cX1_moved 71 = .ok (.iadd, 1) := by decide +kernel
theorem dX1_moved_72 : decode cX1_moved 72 = .ok (.istore 10, 2) := by decide +kernel
theorem dX1_moved_74 : decode cX1_moved 74 = .ok (.aload_n 0, 1) := by decide +kernel
theorem dX1_moved_75 : decode cX1_moved 75 = .ok (.getfield 11, 3) := by decide +kernel
theorem dX1_moved_78 : decode cX1_moved 78 = .ok (.iload 8, 2) := by decide +kernel
theorem dX1_moved_80 : decode cX1_moved 80 = .ok (.iaload, 1) := by decide +kernel
theorem dX1_moved_81 : decode cX1_moved 81 = .ok (.tableswitch 190 1 7 #[43, 91, 103, 103, 113, 137, 169], 43) := by decide +kernel
theorem dX1_moved_124 : decode cX1_moved 124 = .ok (.aload_n 0, 1) := by decide +kernel
theorem dX1_moved_125 : decode cX1_moved 125 = .ok (.getfield 11, 3) := by decide +kernel
theorem dX1_moved_128 : decode cX1_moved 128 = .ok (.iload 8, 2) := by decide +kernel
theorem dX1_moved_130 : decode cX1_moved 130 = .ok (.iconst 1, 1) := by decide +kernel
theorem dX1_moved_131 : decode cX1_moved 131 = .ok (.iadd, 1) := by decide +kernel
theorem dX1_moved_132 : decode cX1_moved 132 = .ok (.iaload, 1) := by decide +kernel
theorem dX1_moved_133 : decode cX1_moved 133 = .ok (.istore 11, 2) := by decide +kernel
theorem dX1_moved_135 : decode cX1_moved 135 = .ok (.iload 6, 2) := by decide +kernel
theorem dX1_moved_137 : decode cX1_moved 137 = .ok (.iload 11, 2) := by decide +kernel
theorem dX1_moved_139 : decode cX1_moved 139 = .ok (.invokestatic 75, 3) := by decide +kernel
theorem dX1_moved_142 : decode cX1_moved 142 = .ok (.istore 12, 2) := by decide +kernel
theorem dX1_moved_144 : decode cX1_moved 144 = .ok (.lload_n 1, 1) := by decide +kernel
theorem dX1_moved_145 : decode cX1_moved 145 = .ok (.iload 5, 2) := by decide +kernel
theorem dX1_moved_147 : decode cX1_moved 147 = .ok (.iload 10, 2) := by decide +kernel
theorem dX1_moved_149 : decode cX1_moved 149 = .ok (.iload 12, 2) := by decide +kernel
theorem dX1_moved_151 : decode cX1_moved 151 = .ok (.ifCond .lt 8, 3) := by decide +kernel
theorem dX1_moved_154 : decode cX1_moved 154 = .ok (.iload 12, 2) := by decide +kernel
theorem dX1_moved_156 : decode cX1_moved 156 = .ok (.goto 9, 3) := by decide +kernel
theorem dX1_moved_159 : decode cX1_moved 159 = .ok (.lload_n 1, 1) := by decide +kernel
theorem dX1_moved_160 : decode cX1_moved 160 = .ok (.iload 11, 2) := by decide +kernel
theorem dX1_moved_162 : decode cX1_moved 162 = .ok (.invokestatic 79, 3) := by decide +kernel
theorem dX1_moved_165 : decode cX1_moved 165 = .ok (.invokestatic 82, 3) := by decide +kernel
theorem dX1_moved_168 : decode cX1_moved 168 = .ok (.invokestatic 85, 3) := by decide +kernel
theorem dX1_moved_171 : decode cX1_moved 171 = .ok (.lreturn, 1) := by decide +kernel
theorem dX1_moved_172 : decode cX1_moved 172 = .ok (.aload_n 0, 1) := by decide +kernel
theorem dX1_moved_173 : decode cX1_moved 173 = .ok (.lload_n 1, 1) := by decide +kernel
theorem dX1_moved_174 : decode cX1_moved 174 = .ok (.iload 5, 2) := by decide +kernel
theorem dX1_moved_176 : decode cX1_moved 176 = .ok (.iload 8, 2) := by decide +kernel
theorem dX1_moved_178 : decode cX1_moved 178 = .ok (.iload 4, 2) := by decide +kernel
theorem dX1_moved_180 : decode cX1_moved 180 = .ok (.invokevirtual 89, 3) := by decide +kernel
theorem dX1_moved_183 : decode cX1_moved 183 = .ok (.lreturn, 1) := by decide +kernel
theorem dX1_moved_184 : decode cX1_moved 184 = .ok (.aload_n 0, 1) := by decide +kernel
theorem dX1_moved_185 : decode cX1_moved 185 = .ok (.lload_n 1, 1) := by decide +kernel
theorem dX1_moved_186 : decode cX1_moved 186 = .ok (.iload 5, 2) := by decide +kernel
theorem dX1_moved_188 : decode cX1_moved 188 = .ok (.iload 8, 2) := by decide +kernel
theorem dX1_moved_190 : decode cX1_moved 190 = .ok (.invokevirtual 93, 3) := by decide +kernel
theorem dX1_moved_193 : decode cX1_moved 193 = .ok (.lreturn, 1) := by decide +kernel
theorem dX1_moved_194 : decode cX1_moved 194 = .ok (.iload 6, 2) := by decide +kernel
theorem dX1_moved_196 : decode cX1_moved 196 = .ok (.sipush (-512), 3) := by decide +kernel
theorem dX1_moved_199 : decode cX1_moved 199 = .ok (.iand, 1) := by decide +kernel
theorem dX1_moved_200 : decode cX1_moved 200 = .ok (.ifCond .eq 9, 3) := by decide +kernel
theorem dX1_moved_203 : decode cX1_moved 203 = .ok (.ldc2_w 63, 3) := by decide +kernel
theorem dX1_moved_206 : decode cX1_moved 206 = .ok (.goto 11, 3) := by decide +kernel
theorem dX1_moved_209 : decode cX1_moved 209 = .ok (.lload_n 1, 1) := by decide +kernel
theorem dX1_moved_210 : decode cX1_moved 210 = .ok (.iload 5, 2) := by decide +kernel
theorem dX1_moved_212 : decode cX1_moved 212 = .ok (.iload 10, 2) := by decide +kernel
theorem dX1_moved_214 : decode cX1_moved 214 = .ok (.invokestatic 85, 3) := by decide +kernel
theorem dX1_moved_217 : decode cX1_moved 217 = .ok (.lreturn, 1) := by decide +kernel
theorem dX1_moved_218 : decode cX1_moved 218 = .ok (.lload_n 1, 1) := by decide +kernel
theorem dX1_moved_219 : decode cX1_moved 219 = .ok (.iload 5, 2) := by decide +kernel
theorem dX1_moved_221 : decode cX1_moved 221 = .ok (.iload 9, 2) := by decide +kernel
theorem dX1_moved_223 : decode cX1_moved 223 = .ok (.ifCond .ne 21, 3) := by decide +kernel
theorem dX1_moved_226 : decode cX1_moved 226 = .ok (.iload 6, 2) := by decide +kernel
theorem dX1_moved_228 : decode cX1_moved 228 = .ok (.iload 7, 2) := by decide +kernel
theorem dX1_moved_230 : decode cX1_moved 230 = .ok (.isub, 1) := by decide +kernel
theorem dX1_moved_231 : decode cX1_moved 231 = .ok (.aload_n 0, 1) := by decide +kernel
theorem dX1_moved_232 : decode cX1_moved 232 = .ok (.getfield 11, 3) := by decide +kernel
theorem dX1_moved_235 : decode cX1_moved 235 = .ok (.iload 8, 2) := by decide +kernel
theorem dX1_moved_237 : decode cX1_moved 237 = .ok (.iconst 4, 1) := by decide +kernel
theorem dX1_moved_238 : decode cX1_moved 238 = .ok (.iadd, 1) := by decide +kernel
theorem dX1_moved_239 : decode cX1_moved 239 = .ok (.iaload, 1) := by decide +kernel
theorem dX1_moved_240 : decode cX1_moved 240 = .ok (.iadd, 1) := by decide +kernel
theorem dX1_moved_241 : decode cX1_moved 241 = .ok (.goto 5, 3) := by decide +kernel
theorem dX1_moved_244 : decode cX1_moved 244 = .ok (.iload 10, 2) := by decide +kernel
theorem dX1_moved_246 : decode cX1_moved 246 = .ok (.invokestatic 85, 3) := by decide +kernel
theorem dX1_moved_249 : decode cX1_moved 249 = .ok (.lreturn, 1) := by decide +kernel
theorem dX1_moved_250 : decode cX1_moved 250 = .ok (.lload_n 1, 1) := by decide +kernel
theorem dX1_moved_251 : decode cX1_moved 251 = .ok (.iload 5, 2) := by decide +kernel
theorem dX1_moved_253 : decode cX1_moved 253 = .ok (.iload 10, 2) := by decide +kernel
theorem dX1_moved_255 : decode cX1_moved 255 = .ok (.aload_n 0, 1) := by decide +kernel
theorem dX1_moved_256 : decode cX1_moved 256 = .ok (.getfield 11, 3) := by decide +kernel
theorem dX1_moved_259 : decode cX1_moved 259 = .ok (.iload 8, 2) := by decide +kernel
theorem dX1_moved_261 : decode cX1_moved 261 = .ok (.iconst 2, 1) := by decide +kernel
theorem dX1_moved_262 : decode cX1_moved 262 = .ok (.iadd, 1) := by decide +kernel
theorem dX1_moved_263 : decode cX1_moved 263 = .ok (.iaload, 1) := by decide +kernel
theorem dX1_moved_264 : decode cX1_moved 264 = .ok (.invokestatic 82, 3) := by decide +kernel
theorem dX1_moved_267 : decode cX1_moved 267 = .ok (.invokestatic 85, 3) := by decide +kernel
theorem dX1_moved_270 : decode cX1_moved 270 = .ok (.lreturn, 1) := by decide +kernel
theorem dX1_moved_271 : decode cX1_moved 271 = .ok (.lload_n 1, 1) := by decide +kernel
theorem dX1_moved_272 : decode cX1_moved 272 = .ok (.iload 5, 2) := by decide +kernel
theorem dX1_moved_274 : decode cX1_moved 274 = .ok (.iload 10, 2) := by decide +kernel
theorem dX1_moved_276 : decode cX1_moved 276 = .ok (.iload 9, 2) := by decide +kernel
theorem dX1_moved_278 : decode cX1_moved 278 = .ok (.invokestatic 96, 3) := by decide +kernel
theorem dX1_moved_281 : decode cX1_moved 281 = .ok (.invokestatic 85, 3) := by decide +kernel
theorem dX1_moved_284 : decode cX1_moved 284 = .ok (.lreturn, 1) := by decide +kernel
theorem dX1_written_0 : decode cX1_written 0 = .ok (.lload_n 1, 1) := by decide +kernel
theorem dX1_written_1 : decode cX1_written 1 = .ok (.iload_n 3, 1) := by decide +kernel
theorem dX1_written_2 : decode cX1_written 2 = .ok (.invokestatic 71, 3) := by decide +kernel
theorem dX1_written_5 : decode cX1_written 5 = .ok (.istore 6, 2) := by decide +kernel
theorem dX1_written_7 : decode cX1_written 7 = .ok (.aload_n 0, 1) := by decide +kernel
theorem dX1_written_8 : decode cX1_written 8 = .ok (.getfield 11, 3) := by decide +kernel
theorem dX1_written_11 : decode cX1_written 11 = .ok (.iload 4, 2) := by decide +kernel
theorem dX1_written_13 : decode cX1_written 13 = .ok (.iconst 1, 1) := by decide +kernel
theorem dX1_written_14 : decode cX1_written 14 = .ok (.iadd, 1) := by decide +kernel
theorem dX1_written_15 : decode cX1_written 15 = .ok (.iaload, 1) := by decide +kernel
theorem dX1_written_16 : decode cX1_written 16 = .ok (.istore 7, 2) := by decide +kernel
theorem dX1_written_18 : decode cX1_written 18 = .ok (.aload_n 0, 1) := by decide +kernel
theorem dX1_written_19 : decode cX1_written 19 = .ok (.getfield 11, 3) := by decide +kernel
theorem dX1_written_22 : decode cX1_written 22 = .ok (.iload 4, 2) := by decide +kernel
theorem dX1_written_24 : decode cX1_written 24 = .ok (.iconst 2, 1) := by decide +kernel
theorem dX1_written_25 : decode cX1_written 25 = .ok (.iadd, 1) := by decide +kernel
theorem dX1_written_26 : decode cX1_written 26 = .ok (.iaload, 1) := by decide +kernel
theorem dX1_written_27 : decode cX1_written 27 = .ok (.istore 8, 2) := by decide +kernel
theorem dX1_written_29 : decode cX1_written 29 = .ok (.iload 8, 2) := by decide +kernel
theorem dX1_written_31 : decode cX1_written 31 = .ok (.ifCond .ge 13, 3) := by decide +kernel
theorem dX1_written_34 : decode cX1_written 34 = .ok (.iload 6, 2) := by decide +kernel
theorem dX1_written_36 : decode cX1_written 36 = .ok (.bipush 7, 2) := by decide +kernel
theorem dX1_written_38 : decode cX1_written 38 = .ok (.ishr, 1) := by decide +kernel
theorem dX1_written_39 : decode cX1_written 39 = .ok (.iconst 3, 1) := by decide +kernel
theorem dX1_written_40 : decode cX1_written 40 = .ok (.iand, 1) := by decide +kernel
theorem dX1_written_41 : decode cX1_written 41 = .ok (.goto 5, 3) := by decide +kernel
theorem dX1_written_44 : decode cX1_written 44 = .ok (.iload 8, 2) := by decide +kernel
theorem dX1_written_46 : decode cX1_written 46 = .ok (.istore 9, 2) := by decide +kernel
theorem dX1_written_48 : decode cX1_written 48 = .ok (.iload 5, 2) := by decide +kernel
theorem dX1_written_50 : decode cX1_written 50 = .ok (.ifCond .ne 20, 3) := by decide +kernel
theorem dX1_written_53 : decode cX1_written 53 = .ok (.lload_n 1, 1) := by decide +kernel
theorem dX1_written_54 : decode cX1_written 54 = .ok (.iload 7, 2) := by decide +kernel
theorem dX1_written_56 : decode cX1_written 56 = .ok (.iload 9, 2) := by decide +kernel
theorem dX1_written_58 : decode cX1_written 58 = .ok (.invokestatic 99, 3) := by decide +kernel
theorem dX1_written_61 : decode cX1_written 61 = .ok (.iload_n 3, 1) := by decide +kernel
theorem dX1_written_62 : decode cX1_written 62 = .ok (.iload 6, 2) := by decide +kernel
theorem dX1_written_64 : decode cX1_written 64 = .ok (.iconst 1, 1) := by decide +kernel
theorem dX1_written_65 : decode cX1_written 65 = .ok (.iadd, 1) := by decide +kernel
theorem dX1_written_66 : decode cX1_written 66 = .ok (.invokestatic 85, 3) := by decide +kernel
theorem dX1_written_69 : decode cX1_written 69 = .ok (.lreturn, 1) := by decide +kernel
theorem dX1_written_70 : decode cX1_written 70 = .ok (.iload 6, 2) := by decide +kernel
theorem dX1_written_72 : decode cX1_written 72 = .ok (.bipush 9, 2) := by decide +kernel
theorem dX1_written_74 : decode cX1_written 74 = .ok (.ishr, 1) := by decide +kernel
theorem dX1_written_75 : decode cX1_written 75 = .ok (.iconst 3, 1) := by decide +kernel
theorem dX1_written_76 : decode cX1_written 76 = .ok (.iand, 1) := by decide +kernel
theorem dX1_written_77 : decode cX1_written 77 = .ok (.istore 10, 2) := by decide +kernel
theorem dX1_written_79 : decode cX1_written 79 = .ok (.iload 10, 2) := by decide +kernel
theorem dX1_written_81 : decode cX1_written 81 = .ok (.iconst 2, 1) := by decide +kernel
theorem dX1_written_82 : decode cX1_written 82 = .ok (.if_icmp .lt 7, 3) := by decide +kernel
theorem dX1_written_85 : decode cX1_written 85 = .ok (.ldc2_w 63, 3) := by decide +kernel
theorem dX1_written_88 : decode cX1_written 88 = .ok (.lreturn, 1) := by decide +kernel
theorem dX1_written_89 : decode cX1_written 89 = .ok (.iload 10, 2) := by decide +kernel
theorem dX1_written_91 : decode cX1_written 91 = .ok (.ifCond .ne 8, 3) := by decide +kernel
theorem dX1_written_94 : decode cX1_written 94 = .ok (.bipush 11, 2) := by decide +kernel
theorem dX1_written_96 : decode cX1_written 96 = .ok (.goto 5, 3) := by decide +kernel
theorem dX1_written_99 : decode cX1_written 99 = .ok (.bipush 15, 2) := by decide +kernel
theorem dX1_written_101 : decode cX1_written 101 = .ok (.istore 11, 2) := by decide +kernel
theorem dX1_written_103 : decode cX1_written 103 = .ok (.lload_n 1, 1) := by decide +kernel
theorem dX1_written_104 : decode cX1_written 104 = .ok (.iload_n 3, 1) := by decide +kernel
theorem dX1_written_105 : decode cX1_written 105 = .ok (.iload 6, 2) := by decide +kernel
theorem dX1_written_107 : decode cX1_written 107 = .ok (.iconst 1, 1) := by decide +kernel
theorem dX1_written_108 : decode cX1_written 108 = .ok (.iadd, 1) := by decide +kernel
theorem dX1_written_109 : decode cX1_written 109 = .ok (.sipush 512, 3) := by decide +kernel
theorem dX1_written_112 : decode cX1_written 112 = .ok (.iadd, 1) := by decide +kernel
theorem dX1_written_113 : decode cX1_written 113 = .ok (.iload 7, 2) := by decide +kernel
theorem dX1_written_115 : decode cX1_written 115 = .ok (.iconst 2, 1) := by decide +kernel
theorem dX1_written_116 : decode cX1_written 116 = .ok (.ishl, 1) := by decide +kernel
theorem dX1_written_117 : decode cX1_written 117 = .ok (.iload 9, 2) := by decide +kernel
theorem dX1_written_119 : decode cX1_written 119 = .ok (.ior, 1) := by decide +kernel
theorem dX1_written_120 : decode cX1_written 120 = .ok (.iload 11, 2) := by decide +kernel
theorem dX1_written_122 : decode cX1_written 122 = .ok (.ishl, 1) := by decide +kernel
theorem dX1_written_123 : decode cX1_written 123 = .ok (.iadd, 1) := by decide +kernel
theorem dX1_written_124 : decode cX1_written 124 = .ok (.invokestatic 85, 3) := by decide +kernel
theorem dX1_written_127 : decode cX1_written 127 = .ok (.lreturn, 1) := by decide +kernel
theorem dX1_swapped_0 : decode cX1_swapped 0 = .ok (.lload_n 1, 1) := by decide +kernel
theorem dX1_swapped_1 : decode cX1_swapped 1 = .ok (.iload_n 3, 1) := by decide +kernel
theorem dX1_swapped_2 : decode cX1_swapped 2 = .ok (.invokestatic 71, 3) := by decide +kernel
theorem dX1_swapped_5 : decode cX1_swapped 5 = .ok (.istore 5, 2) := by decide +kernel
theorem dX1_swapped_7 : decode cX1_swapped 7 = .ok (.iload 5, 2) := by decide +kernel
theorem dX1_swapped_9 : decode cX1_swapped 9 = .ok (.sipush (-512), 3) := by decide +kernel
theorem dX1_swapped_12 : decode cX1_swapped 12 = .ok (.iand, 1) := by decide +kernel
theorem dX1_swapped_13 : decode cX1_swapped 13 = .ok (.ifCond .eq 7, 3) := by decide +kernel
theorem dX1_swapped_16 : decode cX1_swapped 16 = .ok (.ldc2_w 63, 3) := by decide +kernel
theorem dX1_swapped_19 : decode cX1_swapped 19 = .ok (.lreturn, 1) := by decide +kernel
theorem dX1_swapped_20 : decode cX1_swapped 20 = .ok (.aload_n 0, 1) := by decide +kernel
theorem dX1_swapped_21 : decode cX1_swapped 21 = .ok (.getfield 11, 3) := by decide +kernel
theorem dX1_swapped_24 : decode cX1_swapped 24 = .ok (.iload 4, 2) := by decide +kernel
theorem dX1_swapped_26 : decode cX1_swapped 26 = .ok (.iconst 1, 1) := by decide +kernel
theorem dX1_swapped_27 : decode cX1_swapped 27 = .ok (.iadd, 1) := by decide +kernel
theorem dX1_swapped_28 : decode cX1_swapped 28 = .ok (.iaload, 1) := by decide +kernel
theorem dX1_swapped_29 : decode cX1_swapped 29 = .ok (.istore 6, 2) := by decide +kernel
theorem dX1_swapped_31 : decode cX1_swapped 31 = .ok (.lload_n 1, 1) := by decide +kernel
theorem dX1_swapped_32 : decode cX1_swapped 32 = .ok (.iload 6, 2) := by decide +kernel
theorem dX1_swapped_34 : decode cX1_swapped 34 = .ok (.invokestatic 79, 3) := by decide +kernel
theorem dX1_swapped_37 : decode cX1_swapped 37 = .ok (.istore 7, 2) := by decide +kernel
theorem dX1_swapped_39 : decode cX1_swapped 39 = .ok (.aload_n 0, 1) := by decide +kernel
theorem dX1_swapped_40 : decode cX1_swapped 40 = .ok (.getfield 11, 3) := by decide +kernel
theorem dX1_swapped_43 : decode cX1_swapped 43 = .ok (.iload 4, 2) := by decide +kernel
theorem dX1_swapped_45 : decode cX1_swapped 45 = .ok (.iconst 2, 1) := by decide +kernel
theorem dX1_swapped_46 : decode cX1_swapped 46 = .ok (.iadd, 1) := by decide +kernel
theorem dX1_swapped_47 : decode cX1_swapped 47 = .ok (.iaload, 1) := by decide +kernel
theorem dX1_swapped_48 : decode cX1_swapped 48 = .ok (.istore 8, 2) := by decide +kernel
theorem dX1_swapped_50 : decode cX1_swapped 50 = .ok (.aload_n 0, 1) := by decide +kernel
theorem dX1_swapped_51 : decode cX1_swapped 51 = .ok (.getfield 11, 3) := by decide +kernel
theorem dX1_swapped_54 : decode cX1_swapped 54 = .ok (.iload 4, 2) := by decide +kernel
theorem dX1_swapped_56 : decode cX1_swapped 56 = .ok (.iaload, 1) := by decide +kernel
theorem dX1_swapped_57 : decode cX1_swapped 57 = .ok (.iconst 4, 1) := by decide +kernel
theorem dX1_swapped_58 : decode cX1_swapped 58 = .ok (.if_icmp .ne 28, 3) := by decide +kernel
theorem dX1_swapped_61 : decode cX1_swapped 61 = .ok (.lload_n 1, 1) := by decide +kernel
theorem dX1_swapped_62 : decode cX1_swapped 62 = .ok (.iload 6, 2) := by decide +kernel
theorem dX1_swapped_64 : decode cX1_swapped 64 = .ok (.iload 7, 2) := by decide +kernel
theorem dX1_swapped_66 : decode cX1_swapped 66 = .ok (.iload 8, 2) := by decide +kernel
theorem dX1_swapped_68 : decode cX1_swapped 68 = .ok (.iadd, 1) := by decide +kernel
theorem dX1_swapped_69 : decode cX1_swapped 69 = .ok (.invokestatic 99, 3) := by decide +kernel
theorem dX1_swapped_72 : decode cX1_swapped 72 = .ok (.iload_n 3, 1) := by decide +kernel
theorem dX1_swapped_73 : decode cX1_swapped 73 = .ok (.iload 5, 2) := by decide +kernel
theorem dX1_swapped_75 : decode cX1_swapped 75 = .ok (.iconst 1, 1) := by decide +kernel
theorem dX1_swapped_76 : decode cX1_swapped 76 = .ok (.iadd, 1) := by decide +kernel
theorem dX1_swapped_77 : decode cX1_swapped 77 = .ok (.iload 7, 2) := by decide +kernel
theorem dX1_swapped_79 : decode cX1_swapped 79 = .ok (.invokestatic 82, 3) := by decide +kernel
theorem dX1_swapped_82 : decode cX1_swapped 82 = .ok (.invokestatic 85, 3) := by decide +kernel
theorem dX1_swapped_85 : decode cX1_swapped 85 = .ok (.lreturn, 1) := by decide +kernel
theorem dX1_swapped_86 : decode cX1_swapped 86 = .ok (.iload 7, 2) := by decide +kernel
theorem dX1_swapped_88 : decode cX1_swapped 88 = .ok (.iload 8, 2) := by decide +kernel
theorem dX1_swapped_90 : decode cX1_swapped 90 = .ok (.if_icmp .eq 17, 3) := by decide +kernel
theorem dX1_swapped_93 : decode cX1_swapped 93 = .ok (.lload_n 1, 1) := by decide +kernel
theorem dX1_swapped_94 : decode cX1_swapped 94 = .ok (.iload_n 3, 1) := by decide +kernel
theorem dX1_swapped_95 : decode cX1_swapped 95 = .ok (.iload 5, 2) := by decide +kernel
theorem dX1_swapped_97 : decode cX1_swapped 97 = .ok (.iconst 1, 1) := by decide +kernel
theorem dX1_swapped_98 : decode cX1_swapped 98 = .ok (.iadd, 1) := by decide +kernel
theorem dX1_swapped_99 : decode cX1_swapped 99 = .ok (.iconst 0, 1) := by decide +kernel
theorem dX1_swapped_100 : decode cX1_swapped 100 = .ok (.invokestatic 82, 3) := by decide +kernel
theorem dX1_swapped_103 : decode cX1_swapped 103 = .ok (.invokestatic 85, 3) := by decide +kernel
theorem dX1_swapped_106 : decode cX1_swapped 106 = .ok (.lreturn, 1) := by decide +kernel
theorem dX1_swapped_107 : decode cX1_swapped 107 = .ok (.lload_n 1, 1) := by decide +kernel
theorem dX1_swapped_108 : decode cX1_swapped 108 = .ok (.iload 6, 2) := by decide +kernel
theorem dX1_swapped_110 : decode cX1_swapped 110 = .ok (.aload_n 0, 1) := by decide +kernel
theorem dX1_swapped_111 : decode cX1_swapped 111 = .ok (.getfield 11, 3) := by decide +kernel
theorem dX1_swapped_114 : decode cX1_swapped 114 = .ok (.iload 4, 2) := by decide +kernel
theorem dX1_swapped_116 : decode cX1_swapped 116 = .ok (.iconst 3, 1) := by decide +kernel
theorem dX1_swapped_117 : decode cX1_swapped 117 = .ok (.iadd, 1) := by decide +kernel
theorem dX1_swapped_118 : decode cX1_swapped 118 = .ok (.iaload, 1) := by decide +kernel
theorem dX1_swapped_119 : decode cX1_swapped 119 = .ok (.invokestatic 99, 3) := by decide +kernel
theorem dX1_swapped_122 : decode cX1_swapped 122 = .ok (.iload_n 3, 1) := by decide +kernel
theorem dX1_swapped_123 : decode cX1_swapped 123 = .ok (.iload 5, 2) := by decide +kernel
theorem dX1_swapped_125 : decode cX1_swapped 125 = .ok (.iconst 1, 1) := by decide +kernel
theorem dX1_swapped_126 : decode cX1_swapped 126 = .ok (.iadd, 1) := by decide +kernel
theorem dX1_swapped_127 : decode cX1_swapped 127 = .ok (.iconst 1, 1) := by decide +kernel
theorem dX1_swapped_128 : decode cX1_swapped 128 = .ok (.invokestatic 82, 3) := by decide +kernel
theorem dX1_swapped_131 : decode cX1_swapped 131 = .ok (.invokestatic 85, 3) := by decide +kernel
theorem dX1_swapped_134 : decode cX1_swapped 134 = .ok (.lreturn, 1) := by decide +kernel
theorem dX1_arrived_0 : decode cX1_arrived 0 = .ok (.lload_n 1, 1) := by decide +kernel
theorem dX1_arrived_1 : decode cX1_arrived 1 = .ok (.iload_n 3, 1) := by decide +kernel
theorem dX1_arrived_2 : decode cX1_arrived 2 = .ok (.invokestatic 71, 3) := by decide +kernel
theorem dX1_arrived_5 : decode cX1_arrived 5 = .ok (.istore 4, 2) := by decide +kernel
theorem dX1_arrived_7 : decode cX1_arrived 7 = .ok (.iload 4, 2) := by decide +kernel
theorem dX1_arrived_9 : decode cX1_arrived 9 = .ok (.bipush 9, 2) := by decide +kernel
theorem dX1_arrived_11 : decode cX1_arrived 11 = .ok (.ishr, 1) := by decide +kernel
theorem dX1_arrived_12 : decode cX1_arrived 12 = .ok (.iconst 3, 1) := by decide +kernel
theorem dX1_arrived_13 : decode cX1_arrived 13 = .ok (.iand, 1) := by decide +kernel
theorem dX1_arrived_14 : decode cX1_arrived 14 = .ok (.istore 5, 2) := by decide +kernel
theorem dX1_arrived_16 : decode cX1_arrived 16 = .ok (.iload 5, 2) := by decide +kernel
theorem dX1_arrived_18 : decode cX1_arrived 18 = .ok (.ifCond .ne 7, 3) := by decide +kernel
theorem dX1_arrived_21 : decode cX1_arrived 21 = .ok (.ldc2_w 63, 3) := by decide +kernel
theorem dX1_arrived_24 : decode cX1_arrived 24 = .ok (.lreturn, 1) := by decide +kernel
theorem dX1_arrived_25 : decode cX1_arrived 25 = .ok (.iload 4, 2) := by decide +kernel
theorem dX1_arrived_27 : decode cX1_arrived 27 = .ok (.bipush 11, 2) := by decide +kernel
theorem dX1_arrived_29 : decode cX1_arrived 29 = .ok (.ishr, 1) := by decide +kernel
theorem dX1_arrived_30 : decode cX1_arrived 30 = .ok (.bipush 15, 2) := by decide +kernel
theorem dX1_arrived_32 : decode cX1_arrived 32 = .ok (.iand, 1) := by decide +kernel
theorem dX1_arrived_33 : decode cX1_arrived 33 = .ok (.istore 6, 2) := by decide +kernel
theorem dX1_arrived_35 : decode cX1_arrived 35 = .ok (.iload 4, 2) := by decide +kernel
theorem dX1_arrived_37 : decode cX1_arrived 37 = .ok (.bipush 15, 2) := by decide +kernel
theorem dX1_arrived_39 : decode cX1_arrived 39 = .ok (.ishr, 1) := by decide +kernel
theorem dX1_arrived_40 : decode cX1_arrived 40 = .ok (.bipush 15, 2) := by decide +kernel
theorem dX1_arrived_42 : decode cX1_arrived 42 = .ok (.iand, 1) := by decide +kernel
theorem dX1_arrived_43 : decode cX1_arrived 43 = .ok (.istore 7, 2) := by decide +kernel
theorem dX1_arrived_45 : decode cX1_arrived 45 = .ok (.iload 4, 2) := by decide +kernel
theorem dX1_arrived_47 : decode cX1_arrived 47 = .ok (.sipush 511, 3) := by decide +kernel
theorem dX1_arrived_50 : decode cX1_arrived 50 = .ok (.iand, 1) := by decide +kernel
theorem dX1_arrived_51 : decode cX1_arrived 51 = .ok (.iload 5, 2) := by decide +kernel
theorem dX1_arrived_53 : decode cX1_arrived 53 = .ok (.iconst 1, 1) := by decide +kernel
theorem dX1_arrived_54 : decode cX1_arrived 54 = .ok (.isub, 1) := by decide +kernel
theorem dX1_arrived_55 : decode cX1_arrived 55 = .ok (.bipush 9, 2) := by decide +kernel
theorem dX1_arrived_57 : decode cX1_arrived 57 = .ok (.ishl, 1) := by decide +kernel
theorem dX1_arrived_58 : decode cX1_arrived 58 = .ok (.ior, 1) := by decide +kernel
theorem dX1_arrived_59 : decode cX1_arrived 59 = .ok (.iload 7, 2) := by decide +kernel
theorem dX1_arrived_61 : decode cX1_arrived 61 = .ok (.bipush 11, 2) := by decide +kernel
theorem dX1_arrived_63 : decode cX1_arrived 63 = .ok (.ishl, 1) := by decide +kernel
theorem dX1_arrived_64 : decode cX1_arrived 64 = .ok (.ior, 1) := by decide +kernel
theorem dX1_arrived_65 : decode cX1_arrived 65 = .ok (.istore 8, 2) := by decide +kernel
theorem dX1_arrived_67 : decode cX1_arrived 67 = .ok (.lload_n 1, 1) := by decide +kernel
theorem dX1_arrived_68 : decode cX1_arrived 68 = .ok (.iload 6, 2) := by decide +kernel
theorem dX1_arrived_70 : decode cX1_arrived 70 = .ok (.iconst 2, 1) := by decide +kernel
theorem dX1_arrived_71 : decode cX1_arrived 71 = .ok (.ishr, 1) := by decide +kernel
theorem dX1_arrived_72 : decode cX1_arrived 72 = .ok (.iload 6, 2) := by decide +kernel
theorem dX1_arrived_74 : decode cX1_arrived 74 = .ok (.iconst 3, 1) := by decide +kernel
theorem dX1_arrived_75 : decode cX1_arrived 75 = .ok (.iand, 1) := by decide +kernel
theorem dX1_arrived_76 : decode cX1_arrived 76 = .ok (.invokestatic 99, 3) := by decide +kernel
theorem dX1_arrived_79 : decode cX1_arrived 79 = .ok (.iload_n 3, 1) := by decide +kernel
theorem dX1_arrived_80 : decode cX1_arrived 80 = .ok (.iload 8, 2) := by decide +kernel
theorem dX1_arrived_82 : decode cX1_arrived 82 = .ok (.invokestatic 85, 3) := by decide +kernel
theorem dX1_arrived_85 : decode cX1_arrived 85 = .ok (.lreturn, 1) := by decide +kernel
theorem dX1_withCallDone_0 : decode cX1_withCallDone 0 = .ok (.lload_n 1, 1) := by decide +kernel
theorem dX1_withCallDone_1 : decode cX1_withCallDone 1 = .ok (.iload_n 3, 1) := by decide +kernel
theorem dX1_withCallDone_2 : decode cX1_withCallDone 2 = .ok (.invokestatic 71, 3) := by decide +kernel
theorem dX1_withCallDone_5 : decode cX1_withCallDone 5 = .ok (.bipush 31, 2) := by decide +kernel
theorem dX1_withCallDone_7 : decode cX1_withCallDone 7 = .ok (.iand, 1) := by decide +kernel
theorem dX1_withCallDone_8 : decode cX1_withCallDone 8 = .ok (.aload_n 0, 1) := by decide +kernel
theorem dX1_withCallDone_9 : decode cX1_withCallDone 9 = .ok (.getfield 18, 3) := by decide +kernel
theorem dX1_withCallDone_12 : decode cX1_withCallDone 12 = .ok (.iload_n 3, 1) := by decide +kernel
theorem dX1_withCallDone_13 : decode cX1_withCallDone 13 = .ok (.iaload, 1) := by decide +kernel
theorem dX1_withCallDone_14 : decode cX1_withCallDone 14 = .ok (.if_icmp .ge 12, 3) := by decide +kernel
theorem dX1_withCallDone_17 : decode cX1_withCallDone 17 = .ok (.aload_n 0, 1) := by decide +kernel
theorem dX1_withCallDone_18 : decode cX1_withCallDone 18 = .ok (.getfield 18, 3) := by decide +kernel
theorem dX1_withCallDone_21 : decode cX1_withCallDone 21 = .ok (.iload_n 3, 1) := by decide +kernel
theorem dX1_withCallDone_22 : decode cX1_withCallDone 22 = .ok (.iaload, 1) := by decide +kernel
theorem dX1_withCallDone_23 : decode cX1_withCallDone 23 = .ok (.goto 9, 3) := by decide +kernel
theorem dX1_withCallDone_26 : decode cX1_withCallDone 26 = .ok (.aload_n 0, 1) := by decide +kernel
theorem dX1_withCallDone_27 : decode cX1_withCallDone 27 = .ok (.getfield 21, 3) := by decide +kernel
theorem dX1_withCallDone_30 : decode cX1_withCallDone 30 = .ok (.iload_n 3, 1) := by decide +kernel
theorem dX1_withCallDone_31 : decode cX1_withCallDone 31 = .ok (.iaload, 1) := by decide +kernel
theorem dX1_withCallDone_32 : decode cX1_withCallDone 32 = .ok (.istore 4, 2) := by decide +kernel
theorem dX1_withCallDone_34 : decode cX1_withCallDone 34 = .ok (.lload_n 1, 1) := by decide +kernel
theorem dX1_withCallDone_35 : decode cX1_withCallDone 35 = .ok (.lstore 5, 2) := by decide +kernel
theorem dX1_withCallDone_37 : decode cX1_withCallDone 37 = .ok (.lload_n 1, 1) := by decide +kernel
theorem dX1_withCallDone_38 : decode cX1_withCallDone 38 = .ok (.lstore 7, 2) := by decide +kernel
theorem dX1_withCallDone_40 : decode cX1_withCallDone 40 = .ok (.iconst 2, 1) := by decide +kernel
theorem dX1_withCallDone_41 : decode cX1_withCallDone 41 = .ok (.istore 9, 2) := by decide +kernel
theorem dX1_withCallDone_43 : decode cX1_withCallDone 43 = .ok (.iconst 1, 1) := by decide +kernel
theorem dX1_withCallDone_44 : decode cX1_withCallDone 44 = .ok (.istore 10, 2) := by decide +kernel
theorem dX1_withCallDone_46 : decode cX1_withCallDone 46 = .ok (.iload 10, 2) := by decide +kernel
theorem dX1_withCallDone_48 : decode cX1_withCallDone 48 = .ok (.sipush 13312, 3) := by decide +kernel
theorem dX1_withCallDone_51 : decode cX1_withCallDone 51 = .ok (.if_icmp .gt 74, 3) := by decide +kernel
theorem dX1_withCallDone_54 : decode cX1_withCallDone 54 = .ok (.aload_n 0, 1) := by decide +kernel
theorem dX1_withCallDone_55 : decode cX1_withCallDone 55 = .ok (.lload 5, 2) := by decide +kernel
theorem dX1_withCallDone_57 : decode cX1_withCallDone 57 = .ok (.iload_n 3, 1) := by decide +kernel
theorem dX1_withCallDone_58 : decode cX1_withCallDone 58 = .ok (.iconst 0, 1) := by decide +kernel
theorem dX1_withCallDone_59 : decode cX1_withCallDone 59 = .ok (.invokevirtual 102, 3) := by decide +kernel
theorem dX1_withCallDone_62 : decode cX1_withCallDone 62 = .ok (.lstore 5, 2) := by decide +kernel
theorem dX1_withCallDone_64 : decode cX1_withCallDone 64 = .ok (.lload 5, 2) := by decide +kernel
theorem dX1_withCallDone_66 : decode cX1_withCallDone 66 = .ok (.ldc2_w 63, 3) := by decide +kernel
theorem dX1_withCallDone_69 : decode cX1_withCallDone 69 = .ok (.lcmp, 1) := by decide +kernel
theorem dX1_withCallDone_70 : decode cX1_withCallDone 70 = .ok (.ifCond .eq 11, 3) := by decide +kernel
theorem dX1_withCallDone_73 : decode cX1_withCallDone 73 = .ok (.lload 5, 2) := by decide +kernel
theorem dX1_withCallDone_75 : decode cX1_withCallDone 75 = .ok (.lload 7, 2) := by decide +kernel
theorem dX1_withCallDone_77 : decode cX1_withCallDone 77 = .ok (.lcmp, 1) := by decide +kernel
theorem dX1_withCallDone_78 : decode cX1_withCallDone 78 = .ok (.ifCond .ne 7, 3) := by decide +kernel
theorem dX1_withCallDone_81 : decode cX1_withCallDone 81 = .ok (.ldc2_w 63, 3) := by decide +kernel
theorem dX1_withCallDone_84 : decode cX1_withCallDone 84 = .ok (.lreturn, 1) := by decide +kernel
theorem dX1_withCallDone_85 : decode cX1_withCallDone 85 = .ok (.lload 5, 2) := by decide +kernel
theorem dX1_withCallDone_87 : decode cX1_withCallDone 87 = .ok (.iload_n 3, 1) := by decide +kernel
theorem dX1_withCallDone_88 : decode cX1_withCallDone 88 = .ok (.invokestatic 71, 3) := by decide +kernel
theorem dX1_withCallDone_91 : decode cX1_withCallDone 91 = .ok (.bipush 31, 2) := by decide +kernel
theorem dX1_withCallDone_93 : decode cX1_withCallDone 93 = .ok (.iand, 1) := by decide +kernel
theorem dX1_withCallDone_94 : decode cX1_withCallDone 94 = .ok (.iload 4, 2) := by decide +kernel
theorem dX1_withCallDone_96 : decode cX1_withCallDone 96 = .ok (.if_icmp .lt 6, 3) := by decide +kernel
theorem dX1_withCallDone_99 : decode cX1_withCallDone 99 = .ok (.lload 5, 2) := by decide +kernel
theorem dX1_withCallDone_101 : decode cX1_withCallDone 101 = .ok (.lreturn, 1) := by decide +kernel
theorem dX1_withCallDone_102 : decode cX1_withCallDone 102 = .ok (.iload 10, 2) := by decide +kernel
theorem dX1_withCallDone_104 : decode cX1_withCallDone 104 = .ok (.iload 9, 2) := by decide +kernel
theorem dX1_withCallDone_106 : decode cX1_withCallDone 106 = .ok (.if_icmp .ne 13, 3) := by decide +kernel
theorem dX1_withCallDone_109 : decode cX1_withCallDone 109 = .ok (.lload 5, 2) := by decide +kernel
theorem dX1_withCallDone_111 : decode cX1_withCallDone 111 = .ok (.lstore 7, 2) := by decide +kernel
theorem dX1_withCallDone_113 : decode cX1_withCallDone 113 = .ok (.iconst 2, 1) := by decide +kernel
theorem dX1_withCallDone_114 : decode cX1_withCallDone 114 = .ok (.iload 9, 2) := by decide +kernel
theorem dX1_withCallDone_116 : decode cX1_withCallDone 116 = .ok (.imul, 1) := by decide +kernel
theorem dX1_withCallDone_117 : decode cX1_withCallDone 117 = .ok (.istore 9, 2) := by decide +kernel
theorem dX1_withCallDone_119 : decode cX1_withCallDone 119 = .ok (.iinc 10 1, 3) := by decide +kernel
theorem dX1_withCallDone_122 : decode cX1_withCallDone 122 = .ok (.goto (-76), 3) := by decide +kernel
theorem dX1_withCallDone_125 : decode cX1_withCallDone 125 = .ok (.ldc2_w 63, 3) := by decide +kernel
theorem dX1_withCallDone_128 : decode cX1_withCallDone 128 = .ok (.lreturn, 1) := by decide +kernel
theorem dX1_hasCallLeft_0 : decode cX1_hasCallLeft 0 = .ok (.lload_n 1, 1) := by decide +kernel
theorem dX1_hasCallLeft_1 : decode cX1_hasCallLeft 1 = .ok (.iload_n 3, 1) := by decide +kernel
theorem dX1_hasCallLeft_2 : decode cX1_hasCallLeft 2 = .ok (.invokestatic 71, 3) := by decide +kernel
theorem dX1_hasCallLeft_5 : decode cX1_hasCallLeft 5 = .ok (.bipush 31, 2) := by decide +kernel
theorem dX1_hasCallLeft_7 : decode cX1_hasCallLeft 7 = .ok (.iand, 1) := by decide +kernel
theorem dX1_hasCallLeft_8 : decode cX1_hasCallLeft 8 = .ok (.aload_n 0, 1) := by decide +kernel
theorem dX1_hasCallLeft_9 : decode cX1_hasCallLeft 9 = .ok (.getfield 21, 3) := by decide +kernel
theorem dX1_hasCallLeft_12 : decode cX1_hasCallLeft 12 = .ok (.iload_n 3, 1) := by decide +kernel
theorem dX1_hasCallLeft_13 : decode cX1_hasCallLeft 13 = .ok (.iaload, 1) := by decide +kernel
theorem dX1_hasCallLeft_14 : decode cX1_hasCallLeft 14 = .ok (.if_icmp .ge 7, 3) := by decide +kernel
theorem dX1_hasCallLeft_17 : decode cX1_hasCallLeft 17 = .ok (.iconst 1, 1) := by decide +kernel
theorem dX1_hasCallLeft_18 : decode cX1_hasCallLeft 18 = .ok (.goto 4, 3) := by decide +kernel
theorem dX1_hasCallLeft_21 : decode cX1_hasCallLeft 21 = .ok (.iconst 0, 1) := by decide +kernel
theorem dX1_hasCallLeft_22 : decode cX1_hasCallLeft 22 = .ok (.ireturn, 1) := by decide +kernel
theorem dX1_isEnd_0 : decode cX1_isEnd 0 = .ok (.iconst 0, 1) := by decide +kernel
theorem dX1_isEnd_1 : decode cX1_isEnd 1 = .ok (.istore_n 3, 1) := by decide +kernel
theorem dX1_isEnd_2 : decode cX1_isEnd 2 = .ok (.iload_n 3, 1) := by decide +kernel
theorem dX1_isEnd_3 : decode cX1_isEnd 3 = .ok (.aload_n 0, 1) := by decide +kernel
theorem dX1_isEnd_4 : decode cX1_isEnd 4 = .ok (.getfield 30, 3) := by decide +kernel
theorem dX1_isEnd_7 : decode cX1_isEnd 7 = .ok (.if_icmp .ge 32, 3) := by decide +kernel
theorem dX1_isEnd_10 : decode cX1_isEnd 10 = .ok (.aload_n 0, 1) := by decide +kernel
theorem dX1_isEnd_11 : decode cX1_isEnd 11 = .ok (.lload_n 1, 1) := by decide +kernel
theorem dX1_isEnd_12 : decode cX1_isEnd 12 = .ok (.iload_n 3, 1) := by decide +kernel
theorem dX1_isEnd_13 : decode cX1_isEnd 13 = .ok (.invokevirtual 106, 3) := by decide +kernel
theorem dX1_isEnd_16 : decode cX1_isEnd 16 = .ok (.ifCond .ne 15, 3) := by decide +kernel
theorem dX1_isEnd_19 : decode cX1_isEnd 19 = .ok (.lload_n 1, 1) := by decide +kernel
theorem dX1_isEnd_20 : decode cX1_isEnd 20 = .ok (.iload_n 3, 1) := by decide +kernel
theorem dX1_isEnd_21 : decode cX1_isEnd 21 = .ok (.invokestatic 71, 3) := by decide +kernel
theorem dX1_isEnd_24 : decode cX1_isEnd 24 = .ok (.sipush (-512), 3) := by decide +kernel
theorem dX1_isEnd_27 : decode cX1_isEnd 27 = .ok (.iand, 1) := by decide +kernel
theorem dX1_isEnd_28 : decode cX1_isEnd 28 = .ok (.ifCond .eq 5, 3) := by decide +kernel
theorem dX1_isEnd_31 : decode cX1_isEnd 31 = .ok (.iconst 0, 1) := by decide +kernel
theorem dX1_isEnd_32 : decode cX1_isEnd 32 = .ok (.ireturn, 1) := by decide +kernel
theorem dX1_isEnd_33 : decode cX1_isEnd 33 = .ok (.iinc 3 1, 3) := by decide +kernel
theorem dX1_isEnd_36 : decode cX1_isEnd 36 = .ok (.goto (-34), 3) := by decide +kernel
theorem dX1_isEnd_39 : decode cX1_isEnd 39 = .ok (.iconst 1, 1) := by decide +kernel
theorem dX1_isEnd_40 : decode cX1_isEnd 40 = .ok (.ireturn, 1) := by decide +kernel
theorem dX1_resultOf_0 : decode cX1_resultOf 0 = .ok (.iconst 0, 1) := by decide +kernel
theorem dX1_resultOf_1 : decode cX1_resultOf 1 = .ok (.istore_n 3, 1) := by decide +kernel
theorem dX1_resultOf_2 : decode cX1_resultOf 2 = .ok (.iconst 0, 1) := by decide +kernel
theorem dX1_resultOf_3 : decode cX1_resultOf 3 = .ok (.istore 4, 2) := by decide +kernel
theorem dX1_resultOf_5 : decode cX1_resultOf 5 = .ok (.iload 4, 2) := by decide +kernel
theorem dX1_resultOf_7 : decode cX1_resultOf 7 = .ok (.iconst 3, 1) := by decide +kernel
theorem dX1_resultOf_8 : decode cX1_resultOf 8 = .ok (.if_icmp .ge 20, 3) := by decide +kernel
theorem dX1_resultOf_11 : decode cX1_resultOf 11 = .ok (.iload_n 3, 1) := by decide +kernel
theorem dX1_resultOf_12 : decode cX1_resultOf 12 = .ok (.iconst 4, 1) := by decide +kernel
theorem dX1_resultOf_13 : decode cX1_resultOf 13 = .ok (.imul, 1) := by decide +kernel
theorem dX1_resultOf_14 : decode cX1_resultOf 14 = .ok (.lload_n 1, 1) := by decide +kernel
theorem dX1_resultOf_15 : decode cX1_resultOf 15 = .ok (.iload 4, 2) := by decide +kernel
theorem dX1_resultOf_17 : decode cX1_resultOf 17 = .ok (.invokestatic 79, 3) := by decide +kernel
theorem dX1_resultOf_20 : decode cX1_resultOf 20 = .ok (.iadd, 1) := by decide +kernel
theorem dX1_resultOf_21 : decode cX1_resultOf 21 = .ok (.istore_n 3, 1) := by decide +kernel
theorem dX1_resultOf_22 : decode cX1_resultOf 22 = .ok (.iinc 4 1, 3) := by decide +kernel
theorem dX1_resultOf_25 : decode cX1_resultOf 25 = .ok (.goto (-20), 3) := by decide +kernel
theorem dX1_resultOf_28 : decode cX1_resultOf 28 = .ok (.iconst 0, 1) := by decide +kernel
theorem dX1_resultOf_29 : decode cX1_resultOf 29 = .ok (.istore 4, 2) := by decide +kernel
theorem dX1_resultOf_31 : decode cX1_resultOf 31 = .ok (.iload 4, 2) := by decide +kernel
theorem dX1_resultOf_33 : decode cX1_resultOf 33 = .ok (.aload_n 0, 1) := by decide +kernel
theorem dX1_resultOf_34 : decode cX1_resultOf 34 = .ok (.getfield 30, 3) := by decide +kernel
theorem dX1_resultOf_37 : decode cX1_resultOf 37 = .ok (.if_icmp .ge 39, 3) := by decide +kernel
theorem dX1_resultOf_40 : decode cX1_resultOf 40 = .ok (.lload_n 1, 1) := by decide +kernel
theorem dX1_resultOf_41 : decode cX1_resultOf 41 = .ok (.iload 4, 2) := by decide +kernel
theorem dX1_resultOf_43 : decode cX1_resultOf 43 = .ok (.invokestatic 71, 3) := by decide +kernel
theorem dX1_resultOf_46 : decode cX1_resultOf 46 = .ok (.istore 5, 2) := by decide +kernel
theorem dX1_resultOf_48 : decode cX1_resultOf 48 = .ok (.iload_n 3, 1) := by decide +kernel
theorem dX1_resultOf_49 : decode cX1_resultOf 49 = .ok (.bipush 16, 2) := by decide +kernel
theorem dX1_resultOf_51 : decode cX1_resultOf 51 = .ok (.imul, 1) := by decide +kernel
theorem dX1_resultOf_52 : decode cX1_resultOf 52 = .ok (.iload 5, 2) := by decide +kernel
theorem dX1_resultOf_54 : decode cX1_resultOf 54 = .ok (.iconst 5, 1) := by decide +kernel
theorem dX1_resultOf_55 : decode cX1_resultOf 55 = .ok (.ishr, 1) := by decide +kernel
theorem dX1_resultOf_56 : decode cX1_resultOf 56 = .ok (.iconst 3, 1) := by decide +kernel
theorem dX1_resultOf_57 : decode cX1_resultOf 57 = .ok (.iand, 1) := by decide +kernel
theorem dX1_resultOf_58 : decode cX1_resultOf 58 = .ok (.iconst 4, 1) := by decide +kernel
theorem dX1_resultOf_59 : decode cX1_resultOf 59 = .ok (.imul, 1) := by decide +kernel
theorem dX1_resultOf_60 : decode cX1_resultOf 60 = .ok (.iadd, 1) := by decide +kernel
theorem dX1_resultOf_61 : decode cX1_resultOf 61 = .ok (.iload 5, 2) := by decide +kernel
theorem dX1_resultOf_63 : decode cX1_resultOf 63 = .ok (.bipush 7, 2) := by decide +kernel
theorem dX1_resultOf_65 : decode cX1_resultOf 65 = .ok (.ishr, 1) := by decide +kernel
theorem dX1_resultOf_66 : decode cX1_resultOf 66 = .ok (.iconst 3, 1) := by decide +kernel
theorem dX1_resultOf_67 : decode cX1_resultOf 67 = .ok (.iand, 1) := by decide +kernel
theorem dX1_resultOf_68 : decode cX1_resultOf 68 = .ok (.iadd, 1) := by decide +kernel
theorem dX1_resultOf_69 : decode cX1_resultOf 69 = .ok (.istore_n 3, 1) := by decide +kernel
theorem dX1_resultOf_70 : decode cX1_resultOf 70 = .ok (.iinc 4 1, 3) := by decide +kernel
theorem dX1_resultOf_73 : decode cX1_resultOf 73 = .ok (.goto (-42), 3) := by decide +kernel
theorem dX1_resultOf_76 : decode cX1_resultOf 76 = .ok (.iload_n 3, 1) := by decide +kernel
theorem dX1_resultOf_77 : decode cX1_resultOf 77 = .ok (.ireturn, 1) := by decide +kernel
theorem dX1_possible_0 : decode cX1_possible 0 = .ok (.iconst 0, 1) := by decide +kernel
theorem dX1_possible_1 : decode cX1_possible 1 = .ok (.istore_n 3, 1) := by decide +kernel
theorem dX1_possible_2 : decode cX1_possible 2 = .ok (.iconst 0, 1) := by decide +kernel
theorem dX1_possible_3 : decode cX1_possible 3 = .ok (.istore 4, 2) := by decide +kernel
theorem dX1_possible_5 : decode cX1_possible 5 = .ok (.iload 4, 2) := by decide +kernel
theorem dX1_possible_7 : decode cX1_possible 7 = .ok (.bipush 6, 2) := by decide +kernel
theorem dX1_possible_9 : decode cX1_possible 9 = .ok (.if_icmp .ge 34, 3) := by decide +kernel
theorem dX1_possible_12 : decode cX1_possible 12 = .ok (.aload_n 0, 1) := by decide +kernel
theorem dX1_possible_13 : decode cX1_possible 13 = .ok (.lload_n 1, 1) := by decide +kernel
theorem dX1_possible_14 : decode cX1_possible 14 = .ok (.iload 4, 2) := by decide +kernel
theorem dX1_possible_16 : decode cX1_possible 16 = .ok (.aload_n 0, 1) := by decide +kernel
theorem dX1_possible_17 : decode cX1_possible 17 = .ok (.getfield 34, 3) := by decide +kernel
theorem dX1_possible_20 : decode cX1_possible 20 = .ok (.invokevirtual 102, 3) := by decide +kernel
theorem dX1_possible_23 : decode cX1_possible 23 = .ok (.ldc2_w 63, 3) := by decide +kernel
theorem dX1_possible_26 : decode cX1_possible 26 = .ok (.lcmp, 1) := by decide +kernel
theorem dX1_possible_27 : decode cX1_possible 27 = .ok (.ifCond .eq 10, 3) := by decide +kernel
theorem dX1_possible_30 : decode cX1_possible 30 = .ok (.iload_n 3, 1) := by decide +kernel
theorem dX1_possible_31 : decode cX1_possible 31 = .ok (.iconst 1, 1) := by decide +kernel
theorem dX1_possible_32 : decode cX1_possible 32 = .ok (.iload 4, 2) := by decide +kernel
theorem dX1_possible_34 : decode cX1_possible 34 = .ok (.ishl, 1) := by decide +kernel
theorem dX1_possible_35 : decode cX1_possible 35 = .ok (.ior, 1) := by decide +kernel
theorem dX1_possible_36 : decode cX1_possible 36 = .ok (.istore_n 3, 1) := by decide +kernel
theorem dX1_possible_37 : decode cX1_possible 37 = .ok (.iinc 4 1, 3) := by decide +kernel
theorem dX1_possible_40 : decode cX1_possible 40 = .ok (.goto (-35), 3) := by decide +kernel
theorem dX1_possible_43 : decode cX1_possible 43 = .ok (.iload_n 3, 1) := by decide +kernel
theorem dX1_possible_44 : decode cX1_possible 44 = .ok (.ireturn, 1) := by decide +kernel
theorem dX1_touched_0 : decode cX1_touched 0 = .ok (.iload_n 3, 1) := by decide +kernel
theorem dX1_touched_1 : decode cX1_touched 1 = .ok (.iconst 3, 1) := by decide +kernel
theorem dX1_touched_2 : decode cX1_touched 2 = .ok (.if_icmp .lt 16, 3) := by decide +kernel
theorem dX1_touched_5 : decode cX1_touched 5 = .ok (.lload_n 1, 1) := by decide +kernel
theorem dX1_touched_6 : decode cX1_touched 6 = .ok (.iload_n 3, 1) := by decide +kernel
theorem dX1_touched_7 : decode cX1_touched 7 = .ok (.iconst 3, 1) := by decide +kernel
theorem dX1_touched_8 : decode cX1_touched 8 = .ok (.isub, 1) := by decide +kernel
theorem dX1_touched_9 : decode cX1_touched 9 = .ok (.invokestatic 71, 3) := by decide +kernel
theorem dX1_touched_12 : decode cX1_touched 12 = .ok (.bipush 13, 2) := by decide +kernel
theorem dX1_touched_14 : decode cX1_touched 14 = .ok (.ishr, 1) := by decide +kernel
theorem dX1_touched_15 : decode cX1_touched 15 = .ok (.iconst 3, 1) := by decide +kernel
theorem dX1_touched_16 : decode cX1_touched 16 = .ok (.iand, 1) := by decide +kernel
theorem dX1_touched_17 : decode cX1_touched 17 = .ok (.ireturn, 1) := by decide +kernel
theorem dX1_touched_18 : decode cX1_touched 18 = .ok (.lload_n 1, 1) := by decide +kernel
theorem dX1_touched_19 : decode cX1_touched 19 = .ok (.iload_n 3, 1) := by decide +kernel
theorem dX1_touched_20 : decode cX1_touched 20 = .ok (.invokestatic 71, 3) := by decide +kernel
theorem dX1_touched_23 : decode cX1_touched 23 = .ok (.istore 4, 2) := by decide +kernel
theorem dX1_touched_25 : decode cX1_touched 25 = .ok (.iload_n 3, 1) := by decide +kernel
theorem dX1_touched_26 : decode cX1_touched 26 = .ok (.bipush 26, 2) := by decide +kernel
theorem dX1_touched_28 : decode cX1_touched 28 = .ok (.imul, 1) := by decide +kernel
theorem dX1_touched_29 : decode cX1_touched 29 = .ok (.iload 4, 2) := by decide +kernel
theorem dX1_touched_31 : decode cX1_touched 31 = .ok (.bipush 31, 2) := by decide +kernel
theorem dX1_touched_33 : decode cX1_touched 33 = .ok (.iand, 1) := by decide +kernel
theorem dX1_touched_34 : decode cX1_touched 34 = .ok (.iadd, 1) := by decide +kernel
theorem dX1_touched_35 : decode cX1_touched 35 = .ok (.iconst 5, 1) := by decide +kernel
theorem dX1_touched_36 : decode cX1_touched 36 = .ok (.imul, 1) := by decide +kernel
theorem dX1_touched_37 : decode cX1_touched 37 = .ok (.istore 5, 2) := by decide +kernel
theorem dX1_touched_39 : decode cX1_touched 39 = .ok (.aload_n 0, 1) := by decide +kernel
theorem dX1_touched_40 : decode cX1_touched 40 = .ok (.getfield 11, 3) := by decide +kernel
theorem dX1_touched_43 : decode cX1_touched 43 = .ok (.iload 5, 2) := by decide +kernel
theorem dX1_touched_45 : decode cX1_touched 45 = .ok (.iaload, 1) := by decide +kernel
theorem dX1_touched_46 : decode cX1_touched 46 = .ok (.tableswitch 92 1 4 #[30, 61, 82, 82], 30) := by decide +kernel
theorem dX1_touched_76 : decode cX1_touched 76 = .ok (.iload 4, 2) := by decide +kernel
theorem dX1_touched_78 : decode cX1_touched 78 = .ok (.aload_n 0, 1) := by decide +kernel
theorem dX1_touched_79 : decode cX1_touched 79 = .ok (.getfield 11, 3) := by decide +kernel
theorem dX1_touched_82 : decode cX1_touched 82 = .ok (.iload 5, 2) := by decide +kernel
theorem dX1_touched_84 : decode cX1_touched 84 = .ok (.iconst 1, 1) := by decide +kernel
theorem dX1_touched_85 : decode cX1_touched 85 = .ok (.iadd, 1) := by decide +kernel
theorem dX1_touched_86 : decode cX1_touched 86 = .ok (.iaload, 1) := by decide +kernel
theorem dX1_touched_87 : decode cX1_touched 87 = .ok (.invokestatic 75, 3) := by decide +kernel
theorem dX1_touched_90 : decode cX1_touched 90 = .ok (.ifCond .lt 7, 3) := by decide +kernel
theorem dX1_touched_93 : decode cX1_touched 93 = .ok (.iconst (-1), 1) := by decide +kernel
theorem dX1_touched_94 : decode cX1_touched 94 = .ok (.goto 12, 3) := by decide +kernel
theorem dX1_touched_97 : decode cX1_touched 97 = .ok (.aload_n 0, 1) := by decide +kernel
theorem dX1_touched_98 : decode cX1_touched 98 = .ok (.getfield 11, 3) := by decide +kernel
theorem dX1_touched_101 : decode cX1_touched 101 = .ok (.iload 5, 2) := by decide +kernel
theorem dX1_touched_103 : decode cX1_touched 103 = .ok (.iconst 1, 1) := by decide +kernel
theorem dX1_touched_104 : decode cX1_touched 104 = .ok (.iadd, 1) := by decide +kernel
theorem dX1_touched_105 : decode cX1_touched 105 = .ok (.iaload, 1) := by decide +kernel
theorem dX1_touched_106 : decode cX1_touched 106 = .ok (.ireturn, 1) := by decide +kernel
theorem dX1_touched_107 : decode cX1_touched 107 = .ok (.aload_n 0, 1) := by decide +kernel
theorem dX1_touched_108 : decode cX1_touched 108 = .ok (.getfield 34, 3) := by decide +kernel
theorem dX1_touched_111 : decode cX1_touched 111 = .ok (.ifCond .eq 7, 3) := by decide +kernel
theorem dX1_touched_114 : decode cX1_touched 114 = .ok (.iconst (-1), 1) := by decide +kernel
theorem dX1_touched_115 : decode cX1_touched 115 = .ok (.goto 12, 3) := by decide +kernel
theorem dX1_touched_118 : decode cX1_touched 118 = .ok (.aload_n 0, 1) := by decide +kernel
theorem dX1_touched_119 : decode cX1_touched 119 = .ok (.getfield 11, 3) := by decide +kernel
theorem dX1_touched_122 : decode cX1_touched 122 = .ok (.iload 5, 2) := by decide +kernel
theorem dX1_touched_124 : decode cX1_touched 124 = .ok (.iconst 1, 1) := by decide +kernel
theorem dX1_touched_125 : decode cX1_touched 125 = .ok (.iadd, 1) := by decide +kernel
theorem dX1_touched_126 : decode cX1_touched 126 = .ok (.iaload, 1) := by decide +kernel
theorem dX1_touched_127 : decode cX1_touched 127 = .ok (.ireturn, 1) := by decide +kernel
theorem dX1_touched_128 : decode cX1_touched 128 = .ok (.aload_n 0, 1) := by decide +kernel
theorem dX1_touched_129 : decode cX1_touched 129 = .ok (.getfield 11, 3) := by decide +kernel
theorem dX1_touched_132 : decode cX1_touched 132 = .ok (.iload 5, 2) := by decide +kernel
theorem dX1_touched_134 : decode cX1_touched 134 = .ok (.iconst 1, 1) := by decide +kernel
theorem dX1_touched_135 : decode cX1_touched 135 = .ok (.iadd, 1) := by decide +kernel
theorem dX1_touched_136 : decode cX1_touched 136 = .ok (.iaload, 1) := by decide +kernel
theorem dX1_touched_137 : decode cX1_touched 137 = .ok (.ireturn, 1) := by decide +kernel
theorem dX1_touched_138 : decode cX1_touched 138 = .ok (.iconst (-1), 1) := by decide +kernel
theorem dX1_touched_139 : decode cX1_touched 139 = .ok (.ireturn, 1) := by decide +kernel
theorem dX1_aboutHand_0 : decode cX1_aboutHand 0 = .ok (.lload_n 1, 1) := by decide +kernel
theorem dX1_aboutHand_1 : decode cX1_aboutHand 1 = .ok (.iload_n 3, 1) := by decide +kernel
theorem dX1_aboutHand_2 : decode cX1_aboutHand 2 = .ok (.invokestatic 71, 3) := by decide +kernel
theorem dX1_aboutHand_5 : decode cX1_aboutHand 5 = .ok (.istore 5, 2) := by decide +kernel
theorem dX1_aboutHand_7 : decode cX1_aboutHand 7 = .ok (.iload 5, 2) := by decide +kernel
theorem dX1_aboutHand_9 : decode cX1_aboutHand 9 = .ok (.bipush 31, 2) := by decide +kernel
theorem dX1_aboutHand_11 : decode cX1_aboutHand 11 = .ok (.iand, 1) := by decide +kernel
theorem dX1_aboutHand_12 : decode cX1_aboutHand 12 = .ok (.istore 6, 2) := by decide +kernel
theorem dX1_aboutHand_14 : decode cX1_aboutHand 14 = .ok (.iload 6, 2) := by decide +kernel
theorem dX1_aboutHand_16 : decode cX1_aboutHand 16 = .ok (.aload_n 0, 1) := by decide +kernel
theorem dX1_aboutHand_17 : decode cX1_aboutHand 17 = .ok (.getfield 21, 3) := by decide +kernel
theorem dX1_aboutHand_20 : decode cX1_aboutHand 20 = .ok (.iload_n 3, 1) := by decide +kernel
theorem dX1_aboutHand_21 : decode cX1_aboutHand 21 = .ok (.iaload, 1) := by decide +kernel
theorem dX1_aboutHand_22 : decode cX1_aboutHand 22 = .ok (.if_icmp .lt 7, 3) := by decide +kernel
theorem dX1_aboutHand_25 : decode cX1_aboutHand 25 = .ok (.iconst 1, 1) := by decide +kernel
theorem dX1_aboutHand_26 : decode cX1_aboutHand 26 = .ok (.goto 4, 3) := by decide +kernel
theorem dX1_aboutHand_29 : decode cX1_aboutHand 29 = .ok (.iconst 0, 1) := by decide +kernel
theorem dX1_aboutHand_30 : decode cX1_aboutHand 30 = .ok (.istore 7, 2) := by decide +kernel
theorem dX1_aboutHand_32 : decode cX1_aboutHand 32 = .ok (.iload 6, 2) := by decide +kernel
theorem dX1_aboutHand_34 : decode cX1_aboutHand 34 = .ok (.aload_n 0, 1) := by decide +kernel
theorem dX1_aboutHand_35 : decode cX1_aboutHand 35 = .ok (.getfield 18, 3) := by decide +kernel
theorem dX1_aboutHand_38 : decode cX1_aboutHand 38 = .ok (.iload_n 3, 1) := by decide +kernel
theorem dX1_aboutHand_39 : decode cX1_aboutHand 39 = .ok (.iaload, 1) := by decide +kernel
theorem dX1_aboutHand_40 : decode cX1_aboutHand 40 = .ok (.if_icmp .lt 7, 3) := by decide +kernel
theorem dX1_aboutHand_43 : decode cX1_aboutHand 43 = .ok (.iconst 1, 1) := by decide +kernel
theorem dX1_aboutHand_44 : decode cX1_aboutHand 44 = .ok (.goto 4, 3) := by decide +kernel
theorem dX1_aboutHand_47 : decode cX1_aboutHand 47 = .ok (.iconst 0, 1) := by decide +kernel
theorem dX1_aboutHand_48 : decode cX1_aboutHand 48 = .ok (.istore 8, 2) := by decide +kernel
theorem dX1_aboutHand_50 : decode cX1_aboutHand 50 = .ok (.iload 4, 2) := by decide +kernel
theorem dX1_aboutHand_52 : decode cX1_aboutHand 52 = .ok (.tableswitch 84 0 3 #[32, 39, 47, 55], 32) := by decide +kernel
theorem dX1_aboutHand_84 : decode cX1_aboutHand 84 = .ok (.iload 5, 2) := by decide +kernel
theorem dX1_aboutHand_86 : decode cX1_aboutHand 86 = .ok (.iconst 5, 1) := by decide +kernel
theorem dX1_aboutHand_87 : decode cX1_aboutHand 87 = .ok (.ishr, 1) := by decide +kernel
theorem dX1_aboutHand_88 : decode cX1_aboutHand 88 = .ok (.iconst 3, 1) := by decide +kernel
theorem dX1_aboutHand_89 : decode cX1_aboutHand 89 = .ok (.iand, 1) := by decide +kernel
theorem dX1_aboutHand_90 : decode cX1_aboutHand 90 = .ok (.ireturn, 1) := by decide +kernel
theorem dX1_aboutHand_91 : decode cX1_aboutHand 91 = .ok (.iload 5, 2) := by decide +kernel
theorem dX1_aboutHand_93 : decode cX1_aboutHand 93 = .ok (.bipush 7, 2) := by decide +kernel
theorem dX1_aboutHand_95 : decode cX1_aboutHand 95 = .ok (.ishr, 1) := by decide +kernel
theorem dX1_aboutHand_96 : decode cX1_aboutHand 96 = .ok (.iconst 3, 1) := by decide +kernel
theorem dX1_aboutHand_97 : decode cX1_aboutHand 97 = .ok (.iand, 1) := by decide +kernel
theorem dX1_aboutHand_98 : decode cX1_aboutHand 98 = .ok (.ireturn, 1) := by decide +kernel
theorem dX1_aboutHand_99 : decode cX1_aboutHand 99 = .ok (.iload 5, 2) := by decide +kernel
theorem dX1_aboutHand_101 : decode cX1_aboutHand 101 = .ok (.bipush 9, 2) := by decide +kernel
theorem dX1_aboutHand_103 : decode cX1_aboutHand 103 = .ok (.ishr, 1) := by decide +kernel
theorem dX1_aboutHand_104 : decode cX1_aboutHand 104 = .ok (.iconst 3, 1) := by decide +kernel
theorem dX1_aboutHand_105 : decode cX1_aboutHand 105 = .ok (.iand, 1) := by decide +kernel
theorem dX1_aboutHand_106 : decode cX1_aboutHand 106 = .ok (.ireturn, 1) := by decide +kernel
theorem dX1_aboutHand_107 : decode cX1_aboutHand 107 = .ok (.iload 7, 2) := by decide +kernel
theorem dX1_aboutHand_109 : decode cX1_aboutHand 109 = .ok (.ifCond .eq 7, 3) := by decide +kernel
theorem dX1_aboutHand_112 : decode cX1_aboutHand 112 = .ok (.iconst 0, 1) := by decide +kernel
theorem dX1_aboutHand_113 : decode cX1_aboutHand 113 = .ok (.goto 22, 3) := by decide +kernel
theorem dX1_aboutHand_116 : decode cX1_aboutHand 116 = .ok (.iload 8, 2) := by decide +kernel
theorem dX1_aboutHand_118 : decode cX1_aboutHand 118 = .ok (.ifCond .eq 15, 3) := by decide +kernel
theorem dX1_aboutHand_121 : decode cX1_aboutHand 121 = .ok (.iload 6, 2) := by decide +kernel
theorem dX1_aboutHand_123 : decode cX1_aboutHand 123 = .ok (.aload_n 0, 1) := by decide +kernel
theorem dX1_aboutHand_124 : decode cX1_aboutHand 124 = .ok (.getfield 18, 3) := by decide +kernel
theorem dX1_aboutHand_127 : decode cX1_aboutHand 127 = .ok (.iload_n 3, 1) := by decide +kernel
theorem dX1_aboutHand_128 : decode cX1_aboutHand 128 = .ok (.iaload, 1) := by decide +kernel
theorem dX1_aboutHand_129 : decode cX1_aboutHand 129 = .ok (.isub, 1) := by decide +kernel
theorem dX1_aboutHand_130 : decode cX1_aboutHand 130 = .ok (.goto 5, 3) := by decide +kernel
theorem dX1_aboutHand_133 : decode cX1_aboutHand 133 = .ok (.iload 6, 2) := by decide +kernel
theorem dX1_aboutHand_135 : decode cX1_aboutHand 135 = .ok (.ireturn, 1) := by decide +kernel
theorem dX1_aboutHand_136 : decode cX1_aboutHand 136 = .ok (.iload 7, 2) := by decide +kernel
theorem dX1_aboutHand_138 : decode cX1_aboutHand 138 = .ok (.ifCond .ne 16, 3) := by decide +kernel
theorem dX1_aboutHand_141 : decode cX1_aboutHand 141 = .ok (.iload 8, 2) := by decide +kernel
theorem dX1_aboutHand_143 : decode cX1_aboutHand 143 = .ok (.ifCond .eq 7, 3) := by decide +kernel
theorem dX1_aboutHand_146 : decode cX1_aboutHand 146 = .ok (.iconst 1, 1) := by decide +kernel
theorem dX1_aboutHand_147 : decode cX1_aboutHand 147 = .ok (.goto 27, 3) := by decide +kernel
theorem dX1_aboutHand_150 : decode cX1_aboutHand 150 = .ok (.iconst 0, 1) := by decide +kernel
theorem dX1_aboutHand_151 : decode cX1_aboutHand 151 = .ok (.goto 23, 3) := by decide +kernel
theorem dX1_aboutHand_154 : decode cX1_aboutHand 154 = .ok (.aload_n 0, 1) := by decide +kernel
theorem dX1_aboutHand_155 : decode cX1_aboutHand 155 = .ok (.getfield 21, 3) := by decide +kernel
theorem dX1_aboutHand_158 : decode cX1_aboutHand 158 = .ok (.iload_n 3, 1) := by decide +kernel
theorem dX1_aboutHand_159 : decode cX1_aboutHand 159 = .ok (.iaload, 1) := by decide +kernel
theorem dX1_aboutHand_160 : decode cX1_aboutHand 160 = .ok (.aload_n 0, 1) := by decide +kernel
theorem dX1_aboutHand_161 : decode cX1_aboutHand 161 = .ok (.getfield 18, 3) := by decide +kernel
theorem dX1_aboutHand_164 : decode cX1_aboutHand 164 = .ok (.iload_n 3, 1) := by decide +kernel
theorem dX1_aboutHand_165 : decode cX1_aboutHand 165 = .ok (.iaload, 1) := by decide +kernel
theorem dX1_aboutHand_166 : decode cX1_aboutHand 166 = .ok (.if_icmp .le 7, 3) := by decide +kernel
theorem dX1_aboutHand_169 : decode cX1_aboutHand 169 = .ok (.iconst 2, 1) := by decide +kernel
theorem dX1_aboutHand_170 : decode cX1_aboutHand 170 = .ok (.goto 4, 3) := by decide +kernel
theorem dX1_aboutHand_173 : decode cX1_aboutHand 173 = .ok (.iconst 1, 1) := by decide +kernel
theorem dX1_aboutHand_174 : decode cX1_aboutHand 174 = .ok (.ireturn, 1) := by decide +kernel
theorem dX2_init_0 : decode cX2_init 0 = .ok (.aload_n 0, 1) := by decide +kernel
theorem dX2_init_1 : decode cX2_init 1 = .ok (.invokespecial 3, 3) := by decide +kernel
theorem dX2_init_4 : decode cX2_init 4 = .ok (.aload_n 0, 1) := by decide +kernel
theorem dX2_init_5 : decode cX2_init 5 = .ok (.iconst 3, 1) := by decide +kernel
theorem dX2_init_6 : decode cX2_init 6 = .ok (.newarray .int, 2) := by decide +kernel
theorem dX2_init_8 : decode cX2_init 8 = .ok (.putfield 9, 3) := by decide +kernel
theorem dX2_init_11 : decode cX2_init 11 = .ok (.return_, 1) := by decide +kernel
theorem dX2_through_0 : decode cX2_through 0 = .ok (.aload_n 0, 1) := by decide +kernel
theorem dX2_through_1 : decode cX2_through 1 = .ok (.getfield 9, 3) := by decide +kernel
theorem dX2_through_4 : decode cX2_through 4 = .ok (.iconst (-1), 1) := by decide +kernel
theorem dX2_through_5 : decode cX2_through 5 = .ok (.invokestatic 15, 3) := by decide +kernel
theorem dX2_through_8 : decode cX2_through 8 = .ok (.aload_n 0, 1) := by decide +kernel
theorem dX2_through_9 : decode cX2_through 9 = .ok (.aload_n 2, 1) := by decide +kernel
theorem dX2_through_10 : decode cX2_through 10 = .ok (.getfield 21, 3) := by decide +kernel
theorem dX2_through_13 : decode cX2_through 13 = .ok (.putfield 27, 3) := by decide +kernel
theorem dX2_through_16 : decode cX2_through 16 = .ok (.aload_n 0, 1) := by decide +kernel
theorem dX2_through_17 : decode cX2_through 17 = .ok (.iconst 0, 1) := by decide +kernel
theorem dX2_through_18 : decode cX2_through 18 = .ok (.putfield 30, 3) := by decide +kernel
theorem dX2_through_21 : decode cX2_through 21 = .ok (.aload_n 0, 1) := by decide +kernel
theorem dX2_through_22 : decode cX2_through 22 = .ok (.iconst 0, 1) := by decide +kernel
theorem dX2_through_23 : decode cX2_through 23 = .ok (.putfield 34, 3) := by decide +kernel
theorem dX2_through_26 : decode cX2_through 26 = .ok (.iconst 0, 1) := by decide +kernel
theorem dX2_through_27 : decode cX2_through 27 = .ok (.istore_n 3, 1) := by decide +kernel
theorem dX2_through_28 : decode cX2_through 28 = .ok (.iload_n 3, 1) := by decide +kernel
theorem dX2_through_29 : decode cX2_through 29 = .ok (.aload_n 1, 1) := by decide +kernel
theorem dX2_through_30 : decode cX2_through 30 = .ok (.getfield 37, 3) := by decide +kernel
theorem dX2_through_33 : decode cX2_through 33 = .ok (.if_icmp .ge 100, 3) := by decide +kernel
theorem dX2_through_36 : decode cX2_through 36 = .ok (.aload_n 1, 1) := by decide +kernel
theorem dX2_through_37 : decode cX2_through 37 = .ok (.getfield 42, 3) := by decide +kernel
theorem dX2_through_40 : decode cX2_through 40 = .ok (.iload_n 3, 1) := by decide +kernel
theorem dX2_through_41 : decode cX2_through 41 = .ok (.laload, 1) := by decide +kernel
theorem dX2_through_42 : decode cX2_through 42 = .ok (.invokestatic 46, 3) := by decide +kernel
theorem dX2_through_45 : decode cX2_through 45 = .ok (.istore 4, 2) := by decide +kernel
theorem dX2_through_47 : decode cX2_through 47 = .ok (.iload 4, 2) := by decide +kernel
theorem dX2_through_49 : decode cX2_through 49 = .ok (.ifCond .ge 9, 3) := by decide +kernel
theorem dX2_through_52 : decode cX2_through 52 = .ok (.ldc2_w 50, 3) := by decide +kernel
theorem dX2_through_55 : decode cX2_through 55 = .ok (.goto 17, 3) := by decide +kernel
theorem dX2_through_58 : decode cX2_through 58 = .ok (.aload_n 2, 1) := by decide +kernel
theorem dX2_through_59 : decode cX2_through 59 = .ok (.aload_n 0, 1) := by decide +kernel
theorem dX2_through_60 : decode cX2_through 60 = .ok (.getfield 27, 3) := by decide +kernel
theorem dX2_through_63 : decode cX2_through 63 = .ok (.iload 4, 2) := by decide +kernel
theorem dX2_through_65 : decode cX2_through 65 = .ok (.aload_n 2, 1) := by decide +kernel
theorem dX2_through_66 : decode cX2_through 66 = .ok (.getfield 52, 3) := by decide +kernel
theorem dX2_through_69 : decode cX2_through 69 = .ok (.invokevirtual 56, 3) := by decide +kernel
theorem dX2_through_72 : decode cX2_through 72 = .ok (.lstore 5, 2) := by decide +kernel
theorem dX2_through_74 : decode cX2_through 74 = .ok (.lload 5, 2) := by decide +kernel
theorem dX2_through_76 : decode cX2_through 76 = .ok (.ldc2_w 50, 3) := by decide +kernel
theorem dX2_through_79 : decode cX2_through 79 = .ok (.lcmp, 1) := by decide +kernel
theorem dX2_through_80 : decode cX2_through 80 = .ok (.ifCond .ne 6, 3) := by decide +kernel
theorem dX2_through_83 : decode cX2_through 83 = .ok (.goto 50, 3) := by decide +kernel
theorem dX2_through_86 : decode cX2_through 86 = .ok (.aload_n 0, 1) := by decide +kernel
theorem dX2_through_87 : decode cX2_through 87 = .ok (.dup, 1) := by decide +kernel
theorem dX2_through_88 : decode cX2_through 88 = .ok (.getfield 34, 3) := by decide +kernel
theorem dX2_through_91 : decode cX2_through 91 = .ok (.aload_n 0, 1) := by decide +kernel
theorem dX2_through_92 : decode cX2_through 92 = .ok (.iload 4, 2) := by decide +kernel
theorem dX2_through_94 : decode cX2_through 94 = .ok (.aload_n 2, 1) := by decide +kernel
theorem dX2_through_95 : decode cX2_through 95 = .ok (.aload_n 0, 1) := by decide +kernel
theorem dX2_through_96 : decode cX2_through 96 = .ok (.getfield 27, 3) := by decide +kernel
theorem dX2_through_99 : decode cX2_through 99 = .ok (.iload 4, 2) := by decide +kernel
theorem dX2_through_101 : decode cX2_through 101 = .ok (.invokevirtual 60, 3) := by decide +kernel
theorem dX2_through_104 : decode cX2_through 104 = .ok (.invokevirtual 64, 3) := by decide +kernel
theorem dX2_through_107 : decode cX2_through 107 = .ok (.iadd, 1) := by decide +kernel
theorem dX2_through_108 : decode cX2_through 108 = .ok (.putfield 34, 3) := by decide +kernel
theorem dX2_through_111 : decode cX2_through 111 = .ok (.aload_n 0, 1) := by decide +kernel
theorem dX2_through_112 : decode cX2_through 112 = .ok (.lload 5, 2) := by decide +kernel
theorem dX2_through_114 : decode cX2_through 114 = .ok (.putfield 27, 3) := by decide +kernel
theorem dX2_through_117 : decode cX2_through 117 = .ok (.aload_n 0, 1) := by decide +kernel
theorem dX2_through_118 : decode cX2_through 118 = .ok (.dup, 1) := by decide +kernel
theorem dX2_through_119 : decode cX2_through 119 = .ok (.getfield 30, 3) := by decide +kernel
theorem dX2_through_122 : decode cX2_through 122 = .ok (.iconst 1, 1) := by decide +kernel
theorem dX2_through_123 : decode cX2_through 123 = .ok (.iadd, 1) := by decide +kernel
theorem dX2_through_124 : decode cX2_through 124 = .ok (.putfield 30, 3) := by decide +kernel
theorem dX2_through_127 : decode cX2_through 127 = .ok (.iinc 3 1, 3) := by decide +kernel
theorem dX2_through_130 : decode cX2_through 130 = .ok (.goto (-102), 3) := by decide +kernel
theorem dX2_through_133 : decode cX2_through 133 = .ok (.return_, 1) := by decide +kernel
theorem dX2_moveFor_0 : decode cX2_moveFor 0 = .ok (.lload_n 0, 1) := by decide +kernel
theorem dX2_moveFor_1 : decode cX2_moveFor 1 = .ok (.lconst 0, 1) := by decide +kernel
theorem dX2_moveFor_2 : decode cX2_moveFor 2 = .ok (.lcmp, 1) := by decide +kernel
theorem dX2_moveFor_3 : decode cX2_moveFor 3 = .ok (.ifCond .lt 14, 3) := by decide +kernel
theorem dX2_moveFor_6 : decode cX2_moveFor 6 = .ok (.lload_n 0, 1) := by decide +kernel
theorem dX2_moveFor_7 : decode cX2_moveFor 7 = .ok (.ldc2_w 68, 3) := by decide +kernel
theorem dX2_moveFor_10 : decode cX2_moveFor 10 = .ok (.lcmp, 1) := by decide +kernel
theorem dX2_moveFor_11 : decode cX2_moveFor 11 = .ok (.ifCond .ge 6, 3) := by decide +kernel
theorem dX2_moveFor_14 : decode cX2_moveFor 14 = .ok (.lload_n 0, 1) := by decide +kernel
theorem dX2_moveFor_15 : decode cX2_moveFor 15 = .ok (.l2i, 1) := by decide +kernel
theorem dX2_moveFor_16 : decode cX2_moveFor 16 = .ok (.ireturn, 1) := by decide +kernel
theorem dX2_moveFor_17 : decode cX2_moveFor 17 = .ok (.lload_n 0, 1) := by decide +kernel
theorem dX2_moveFor_18 : decode cX2_moveFor 18 = .ok (.ldc2_w 70, 3) := by decide +kernel
theorem dX2_moveFor_21 : decode cX2_moveFor 21 = .ok (.lcmp, 1) := by decide +kernel
theorem dX2_moveFor_22 : decode cX2_moveFor 22 = .ok (.ifCond .lt 21, 3) := by decide +kernel
theorem dX2_moveFor_25 : decode cX2_moveFor 25 = .ok (.lload_n 0, 1) := by decide +kernel
theorem dX2_moveFor_26 : decode cX2_moveFor 26 = .ok (.ldc2_w 72, 3) := by decide +kernel
theorem dX2_moveFor_29 : decode cX2_moveFor 29 = .ok (.lcmp, 1) := by decide +kernel
theorem dX2_moveFor_30 : decode cX2_moveFor 30 = .ok (.ifCond .ge 13, 3) := by decide +kernel
theorem dX2_moveFor_33 : decode cX2_moveFor 33 = .ok (.lload_n 0, 1) := by decide +kernel
theorem dX2_moveFor_34 : decode cX2_moveFor 34 = .ok (.l2i, 1) := by decide +kernel
theorem dX2_moveFor_35 : decode cX2_moveFor 35 = .ok (.bipush 10, 2) := by decide +kernel
theorem dX2_moveFor_37 : decode cX2_moveFor 37 = .ok (.isub, 1) := by decide +kernel
theorem dX2_moveFor_38 : decode cX2_moveFor 38 = .ok (.iconst 3, 1) := by decide +kernel
theorem dX2_moveFor_39 : decode cX2_moveFor 39 = .ok (.iadd, 1) := by decide +kernel
theorem dX2_moveFor_40 : decode cX2_moveFor 40 = .ok (.goto 4, 3) := by decide +kernel
theorem dX2_moveFor_43 : decode cX2_moveFor 43 = .ok (.iconst (-1), 1) := by decide +kernel
theorem dX2_moveFor_44 : decode cX2_moveFor 44 = .ok (.ireturn, 1) := by decide +kernel
theorem dX2_priceOf_0 : decode cX2_priceOf 0 = .ok (.iload_n 2, 1) := by decide +kernel
theorem dX2_priceOf_1 : decode cX2_priceOf 1 = .ok (.ifCond .lt 8, 3) := by decide +kernel
theorem dX2_priceOf_4 : decode cX2_priceOf 4 = .ok (.iload_n 2, 1) := by decide +kernel
theorem dX2_priceOf_5 : decode cX2_priceOf 5 = .ok (.iconst 3, 1) := by decide +kernel
theorem dX2_priceOf_6 : decode cX2_priceOf 6 = .ok (.if_icmp .lt 5, 3) := by decide +kernel
theorem dX2_priceOf_9 : decode cX2_priceOf 9 = .ok (.iconst 1, 1) := by decide +kernel
theorem dX2_priceOf_10 : decode cX2_priceOf 10 = .ok (.ireturn, 1) := by decide +kernel
theorem dX2_priceOf_11 : decode cX2_priceOf 11 = .ok (.iload_n 1, 1) := by decide +kernel
theorem dX2_priceOf_12 : decode cX2_priceOf 12 = .ok (.iconst 3, 1) := by decide +kernel
theorem dX2_priceOf_13 : decode cX2_priceOf 13 = .ok (.irem, 1) := by decide +kernel
theorem dX2_priceOf_14 : decode cX2_priceOf 14 = .ok (.istore_n 3, 1) := by decide +kernel
theorem dX2_priceOf_15 : decode cX2_priceOf 15 = .ok (.aload_n 0, 1) := by decide +kernel
theorem dX2_priceOf_16 : decode cX2_priceOf 16 = .ok (.getfield 9, 3) := by decide +kernel
theorem dX2_priceOf_19 : decode cX2_priceOf 19 = .ok (.iload_n 2, 1) := by decide +kernel
theorem dX2_priceOf_20 : decode cX2_priceOf 20 = .ok (.iaload, 1) := by decide +kernel
theorem dX2_priceOf_21 : decode cX2_priceOf 21 = .ok (.ifCond .lt 17, 3) := by decide +kernel
theorem dX2_priceOf_24 : decode cX2_priceOf 24 = .ok (.aload_n 0, 1) := by decide +kernel
theorem dX2_priceOf_25 : decode cX2_priceOf 25 = .ok (.getfield 9, 3) := by decide +kernel
theorem dX2_priceOf_28 : decode cX2_priceOf 28 = .ok (.iload_n 2, 1) := by decide +kernel
theorem dX2_priceOf_29 : decode cX2_priceOf 29 = .ok (.iaload, 1) := by decide +kernel
theorem dX2_priceOf_30 : decode cX2_priceOf 30 = .ok (.iload_n 3, 1) := by decide +kernel
theorem dX2_priceOf_31 : decode cX2_priceOf 31 = .ok (.if_icmp .eq 7, 3) := by decide +kernel
theorem dX2_priceOf_34 : decode cX2_priceOf 34 = .ok (.iconst 1, 1) := by decide +kernel
theorem dX2_priceOf_35 : decode cX2_priceOf 35 = .ok (.goto 4, 3) := by decide +kernel
theorem dX2_priceOf_38 : decode cX2_priceOf 38 = .ok (.iconst 0, 1) := by decide +kernel
theorem dX2_priceOf_39 : decode cX2_priceOf 39 = .ok (.istore 4, 2) := by decide +kernel
theorem dX2_priceOf_41 : decode cX2_priceOf 41 = .ok (.aload_n 0, 1) := by decide +kernel
theorem dX2_priceOf_42 : decode cX2_priceOf 42 = .ok (.getfield 9, 3) := by decide +kernel
theorem dX2_priceOf_45 : decode cX2_priceOf 45 = .ok (.iload_n 2, 1) := by decide +kernel
theorem dX2_priceOf_46 : decode cX2_priceOf 46 = .ok (.iload_n 3, 1) := by decide +kernel
theorem dX2_priceOf_47 : decode cX2_priceOf 47 = .ok (.iastore, 1) := by decide +kernel
theorem dX2_priceOf_48 : decode cX2_priceOf 48 = .ok (.iload 4, 2) := by decide +kernel
theorem dX2_priceOf_50 : decode cX2_priceOf 50 = .ok (.ifCond .eq 7, 3) := by decide +kernel
theorem dX2_priceOf_53 : decode cX2_priceOf 53 = .ok (.iconst 5, 1) := by decide +kernel
theorem dX2_priceOf_54 : decode cX2_priceOf 54 = .ok (.goto 4, 3) := by decide +kernel
theorem dX2_priceOf_57 : decode cX2_priceOf 57 = .ok (.iconst 1, 1) := by decide +kernel
theorem dX2_priceOf_58 : decode cX2_priceOf 58 = .ok (.ireturn, 1) := by decide +kernel
theorem dX3_init_0 : decode cX3_init 0 = .ok (.aload_n 0, 1) := by decide +kernel
theorem dX3_init_1 : decode cX3_init 1 = .ok (.invokespecial 3, 3) := by decide +kernel
theorem dX3_init_4 : decode cX3_init 4 = .ok (.aload_n 0, 1) := by decide +kernel
theorem dX3_init_5 : decode cX3_init 5 = .ok (.new 9, 3) := by decide +kernel
theorem dX3_init_8 : decode cX3_init 8 = .ok (.dup, 1) := by decide +kernel
theorem dX3_init_9 : decode cX3_init 9 = .ok (.invokespecial 11, 3) := by decide +kernel
theorem dX3_init_12 : decode cX3_init 12 = .ok (.putfield 12, 3) := by decide +kernel
theorem dX3_init_15 : decode cX3_init 15 = .ok (.return_, 1) := by decide +kernel
theorem dX3_faultOfNewCall_0 : decode cX3_faultOfNewCall 0 = .ok (.aload_n 0, 1) := by decide +kernel
theorem dX3_faultOfNewCall_1 : decode cX3_faultOfNewCall 1 = .ok (.iconst 0, 1) := by decide +kernel
theorem dX3_faultOfNewCall_2 : decode cX3_faultOfNewCall 2 = .ok (.putfield 18, 3) := by decide +kernel
theorem dX3_faultOfNewCall_5 : decode cX3_faultOfNewCall 5 = .ok (.iconst 0, 1) := by decide +kernel
theorem dX3_faultOfNewCall_6 : decode cX3_faultOfNewCall 6 = .ok (.istore_n 2, 1) := by decide +kernel
theorem dX3_faultOfNewCall_7 : decode cX3_faultOfNewCall 7 = .ok (.iload_n 2, 1) := by decide +kernel
theorem dX3_faultOfNewCall_8 : decode cX3_faultOfNewCall 8 = .ok (.bipush 7, 2) := by decide +kernel
theorem dX3_faultOfNewCall_10 : decode cX3_faultOfNewCall 10 = .ok (.if_icmp .gt 71, 3) := by decide +kernel
theorem dX3_faultOfNewCall_13 : decode cX3_faultOfNewCall 13 = .ok (.aload_n 0, 1) := by decide +kernel
theorem dX3_faultOfNewCall_14 : decode cX3_faultOfNewCall 14 = .ok (.aload_n 1, 1) := by decide +kernel
theorem dX3_faultOfNewCall_15 : decode cX3_faultOfNewCall 15 = .ok (.iload_n 2, 1) := by decide +kernel
theorem dX3_faultOfNewCall_16 : decode cX3_faultOfNewCall 16 = .ok (.invokevirtual 22, 3) := by decide +kernel
theorem dX3_faultOfNewCall_19 : decode cX3_faultOfNewCall 19 = .ok (.ifCond .ne 8, 3) := by decide +kernel
theorem dX3_faultOfNewCall_22 : decode cX3_faultOfNewCall 22 = .ok (.aload_n 0, 1) := by decide +kernel
theorem dX3_faultOfNewCall_23 : decode cX3_faultOfNewCall 23 = .ok (.getfield 26, 3) := by decide +kernel
theorem dX3_faultOfNewCall_26 : decode cX3_faultOfNewCall 26 = .ok (.ireturn, 1) := by decide +kernel
theorem dX3_faultOfNewCall_27 : decode cX3_faultOfNewCall 27 = .ok (.aload_n 0, 1) := by decide +kernel
theorem dX3_faultOfNewCall_28 : decode cX3_faultOfNewCall 28 = .ok (.invokevirtual 29, 3) := by decide +kernel
theorem dX3_faultOfNewCall_31 : decode cX3_faultOfNewCall 31 = .ok (.aload_n 0, 1) := by decide +kernel
theorem dX3_faultOfNewCall_32 : decode cX3_faultOfNewCall 32 = .ok (.getfield 32, 3) := by decide +kernel
theorem dX3_faultOfNewCall_35 : decode cX3_faultOfNewCall 35 = .ok (.ifCond .ne 27, 3) := by decide +kernel
theorem dX3_faultOfNewCall_38 : decode cX3_faultOfNewCall 38 = .ok (.aload_n 1, 1) := by decide +kernel
theorem dX3_faultOfNewCall_39 : decode cX3_faultOfNewCall 39 = .ok (.getfield 35, 3) := by decide +kernel
theorem dX3_faultOfNewCall_42 : decode cX3_faultOfNewCall 42 = .ok (.aload_n 1, 1) := by decide +kernel
theorem dX3_faultOfNewCall_43 : decode cX3_faultOfNewCall 43 = .ok (.getfield 41, 3) := by decide +kernel
theorem dX3_faultOfNewCall_46 : decode cX3_faultOfNewCall 46 = .ok (.iload_n 2, 1) := by decide +kernel
theorem dX3_faultOfNewCall_47 : decode cX3_faultOfNewCall 47 = .ok (.iconst 1, 1) := by decide +kernel
theorem dX3_faultOfNewCall_48 : decode cX3_faultOfNewCall 48 = .ok (.iadd, 1) := by decide +kernel
theorem dX3_faultOfNewCall_49 : decode cX3_faultOfNewCall 49 = .ok (.iastore, 1) := by decide +kernel
theorem dX3_faultOfNewCall_50 : decode cX3_faultOfNewCall 50 = .ok (.aload_n 1, 1) := by decide +kernel
theorem dX3_faultOfNewCall_51 : decode cX3_faultOfNewCall 51 = .ok (.dup, 1) := by decide +kernel
theorem dX3_faultOfNewCall_52 : decode cX3_faultOfNewCall 52 = .ok (.getfield 41, 3) := by decide +kernel
theorem dX3_faultOfNewCall_55 : decode cX3_faultOfNewCall 55 = .ok (.iconst 1, 1) := by decide +kernel
theorem dX3_faultOfNewCall_56 : decode cX3_faultOfNewCall 56 = .ok (.iadd, 1) := by decide +kernel
theorem dX3_faultOfNewCall_57 : decode cX3_faultOfNewCall 57 = .ok (.putfield 41, 3) := by decide +kernel
theorem dX3_faultOfNewCall_60 : decode cX3_faultOfNewCall 60 = .ok (.iconst (-1), 1) := by decide +kernel
theorem dX3_faultOfNewCall_61 : decode cX3_faultOfNewCall 61 = .ok (.ireturn, 1) := by decide +kernel
theorem dX3_faultOfNewCall_62 : decode cX3_faultOfNewCall 62 = .ok (.aload_n 0, 1) := by decide +kernel
theorem dX3_faultOfNewCall_63 : decode cX3_faultOfNewCall 63 = .ok (.getfield 32, 3) := by decide +kernel
theorem dX3_faultOfNewCall_66 : decode cX3_faultOfNewCall 66 = .ok (.iconst 3, 1) := by decide +kernel
theorem dX3_faultOfNewCall_67 : decode cX3_faultOfNewCall 67 = .ok (.if_icmp .eq 8, 3) := by decide +kernel
theorem dX3_faultOfNewCall_70 : decode cX3_faultOfNewCall 70 = .ok (.aload_n 0, 1) := by decide +kernel
theorem dX3_faultOfNewCall_71 : decode cX3_faultOfNewCall 71 = .ok (.getfield 26, 3) := by decide +kernel
theorem dX3_faultOfNewCall_74 : decode cX3_faultOfNewCall 74 = .ok (.ireturn, 1) := by decide +kernel
theorem dX3_faultOfNewCall_75 : decode cX3_faultOfNewCall 75 = .ok (.iinc 2 1, 3) := by decide +kernel
theorem dX3_faultOfNewCall_78 : decode cX3_faultOfNewCall 78 = .ok (.goto (-71), 3) := by decide +kernel
theorem dX3_faultOfNewCall_81 : decode cX3_faultOfNewCall 81 = .ok (.aload_n 0, 1) := by decide +kernel
theorem dX3_faultOfNewCall_82 : decode cX3_faultOfNewCall 82 = .ok (.getfield 26, 3) := by decide +kernel
theorem dX3_faultOfNewCall_85 : decode cX3_faultOfNewCall 85 = .ok (.ireturn, 1) := by decide +kernel
theorem dX3_readStep_0 : decode cX3_readStep 0 = .ok (.aload_n 0, 1) := by decide +kernel
theorem dX3_readStep_1 : decode cX3_readStep 1 = .ok (.invokevirtual 29, 3) := by decide +kernel
theorem dX3_readStep_4 : decode cX3_readStep 4 = .ok (.aload_n 0, 1) := by decide +kernel
theorem dX3_readStep_5 : decode cX3_readStep 5 = .ok (.getfield 32, 3) := by decide +kernel
theorem dX3_readStep_8 : decode cX3_readStep 8 = .ok (.iconst 1, 1) := by decide +kernel
theorem dX3_readStep_9 : decode cX3_readStep 9 = .ok (.if_icmp .ne 9, 3) := by decide +kernel
theorem dX3_readStep_12 : decode cX3_readStep 12 = .ok (.iload_n 2, 1) := by decide +kernel
theorem dX3_readStep_13 : decode cX3_readStep 13 = .ok (.bipush 7, 2) := by decide +kernel
theorem dX3_readStep_15 : decode cX3_readStep 15 = .ok (.if_icmp .lt 5, 3) := by decide +kernel
theorem dX3_readStep_18 : decode cX3_readStep 18 = .ok (.iconst 0, 1) := by decide +kernel
theorem dX3_readStep_19 : decode cX3_readStep 19 = .ok (.ireturn, 1) := by decide +kernel
theorem dX3_readStep_20 : decode cX3_readStep 20 = .ok (.aload_n 0, 1) := by decide +kernel
theorem dX3_readStep_21 : decode cX3_readStep 21 = .ok (.invokevirtual 44, 3) := by decide +kernel
theorem dX3_readStep_24 : decode cX3_readStep 24 = .ok (.istore_n 3, 1) := by decide +kernel
theorem dX3_readStep_25 : decode cX3_readStep 25 = .ok (.iload_n 3, 1) := by decide +kernel
theorem dX3_readStep_26 : decode cX3_readStep 26 = .ok (.ifCond .ge 5, 3) := by decide +kernel
theorem dX3_readStep_29 : decode cX3_readStep 29 = .ok (.iconst 0, 1) := by decide +kernel
theorem dX3_readStep_30 : decode cX3_readStep 30 = .ok (.ireturn, 1) := by decide +kernel
theorem dX3_readStep_31 : decode cX3_readStep 31 = .ok (.aload_n 1, 1) := by decide +kernel
theorem dX3_readStep_32 : decode cX3_readStep 32 = .ok (.aload_n 1, 1) := by decide +kernel
theorem dX3_readStep_33 : decode cX3_readStep 33 = .ok (.getfield 41, 3) := by decide +kernel
theorem dX3_readStep_36 : decode cX3_readStep 36 = .ok (.iload_n 2, 1) := by decide +kernel
theorem dX3_readStep_37 : decode cX3_readStep 37 = .ok (.iconst 0, 1) := by decide +kernel
theorem dX3_readStep_38 : decode cX3_readStep 38 = .ok (.getstatic 48, 3) := by decide +kernel
theorem dX3_readStep_41 : decode cX3_readStep 41 = .ok (.iload_n 3, 1) := by decide +kernel
theorem dX3_readStep_42 : decode cX3_readStep 42 = .ok (.iaload, 1) := by decide +kernel
theorem dX3_readStep_43 : decode cX3_readStep 43 = .ok (.invokevirtual 51, 3) := by decide +kernel
theorem dX3_readStep_46 : decode cX3_readStep 46 = .ok (.iconst 1, 1) := by decide +kernel
theorem dX3_readStep_47 : decode cX3_readStep 47 = .ok (.istore 4, 2) := by decide +kernel
theorem dX3_readStep_49 : decode cX3_readStep 49 = .ok (.iload 4, 2) := by decide +kernel
theorem dX3_readStep_51 : decode cX3_readStep 51 = .ok (.iconst 5, 1) := by decide +kernel
theorem dX3_readStep_52 : decode cX3_readStep 52 = .ok (.if_icmp .ge 72, 3) := by decide +kernel
theorem dX3_readStep_55 : decode cX3_readStep 55 = .ok (.iconst (-1), 1) := by decide +kernel
theorem dX3_readStep_56 : decode cX3_readStep 56 = .ok (.istore 5, 2) := by decide +kernel
theorem dX3_readStep_58 : decode cX3_readStep 58 = .ok (.getstatic 55, 3) := by decide +kernel
theorem dX3_readStep_61 : decode cX3_readStep 61 = .ok (.iload_n 3, 1) := by decide +kernel
theorem dX3_readStep_62 : decode cX3_readStep 62 = .ok (.iaload, 1) := by decide +kernel
theorem dX3_readStep_63 : decode cX3_readStep 63 = .ok (.iload 4, 2) := by decide +kernel
theorem dX3_readStep_65 : decode cX3_readStep 65 = .ok (.ishr, 1) := by decide +kernel
theorem dX3_readStep_66 : decode cX3_readStep 66 = .ok (.iconst 1, 1) := by decide +kernel
theorem dX3_readStep_67 : decode cX3_readStep 67 = .ok (.iand, 1) := by decide +kernel
theorem dX3_readStep_68 : decode cX3_readStep 68 = .ok (.iconst 1, 1) := by decide +kernel
theorem dX3_readStep_69 : decode cX3_readStep 69 = .ok (.if_icmp .ne 36, 3) := by decide +kernel
theorem dX3_readStep_72 : decode cX3_readStep 72 = .ok (.aload_n 0, 1) := by decide +kernel
theorem dX3_readStep_73 : decode cX3_readStep 73 = .ok (.invokevirtual 29, 3) := by decide +kernel
theorem dX3_readStep_76 : decode cX3_readStep 76 = .ok (.aload_n 0, 1) := by decide +kernel
theorem dX3_readStep_77 : decode cX3_readStep 77 = .ok (.getfield 32, 3) := by decide +kernel
theorem dX3_readStep_80 : decode cX3_readStep 80 = .ok (.iconst 2, 1) := by decide +kernel
theorem dX3_readStep_81 : decode cX3_readStep 81 = .ok (.if_icmp .ne 16, 3) := by decide +kernel
theorem dX3_readStep_84 : decode cX3_readStep 84 = .ok (.aload_n 0, 1) := by decide +kernel
theorem dX3_readStep_85 : decode cX3_readStep 85 = .ok (.getfield 58, 3) := by decide +kernel
theorem dX3_readStep_88 : decode cX3_readStep 88 = .ok (.iload 4, 2) := by decide +kernel
theorem dX3_readStep_90 : decode cX3_readStep 90 = .ok (.iload_n 2, 1) := by decide +kernel
theorem dX3_readStep_91 : decode cX3_readStep 91 = .ok (.invokestatic 61, 3) := by decide +kernel
theorem dX3_readStep_94 : decode cX3_readStep 94 = .ok (.if_icmp .le 5, 3) := by decide +kernel
theorem dX3_readStep_97 : decode cX3_readStep 97 = .ok (.iconst 0, 1) := by decide +kernel
theorem dX3_readStep_98 : decode cX3_readStep 98 = .ok (.ireturn, 1) := by decide +kernel
theorem dX3_readStep_99 : decode cX3_readStep 99 = .ok (.aload_n 0, 1) := by decide +kernel
theorem dX3_readStep_100 : decode cX3_readStep 100 = .ok (.getfield 58, 3) := by decide +kernel
theorem dX3_readStep_103 : decode cX3_readStep 103 = .ok (.istore 5, 2) := by decide +kernel
theorem dX3_readStep_105 : decode cX3_readStep 105 = .ok (.aload_n 1, 1) := by decide +kernel
theorem dX3_readStep_106 : decode cX3_readStep 106 = .ok (.aload_n 1, 1) := by decide +kernel
theorem dX3_readStep_107 : decode cX3_readStep 107 = .ok (.getfield 41, 3) := by decide +kernel
theorem dX3_readStep_110 : decode cX3_readStep 110 = .ok (.iload_n 2, 1) := by decide +kernel
theorem dX3_readStep_111 : decode cX3_readStep 111 = .ok (.iload 4, 2) := by decide +kernel
theorem dX3_readStep_113 : decode cX3_readStep 113 = .ok (.iload 5, 2) := by decide +kernel
theorem dX3_readStep_115 : decode cX3_readStep 115 = .ok (.invokevirtual 51, 3) := by decide +kernel
theorem dX3_readStep_118 : decode cX3_readStep 118 = .ok (.iinc 4 1, 3) := by decide +kernel
theorem dX3_readStep_121 : decode cX3_readStep 121 = .ok (.goto (-72), 3) := by decide +kernel
theorem dX3_readStep_124 : decode cX3_readStep 124 = .ok (.iconst 1, 1) := by decide +kernel
theorem dX3_readStep_125 : decode cX3_readStep 125 = .ok (.ireturn, 1) := by decide +kernel
theorem dX3_highestOf_0 : decode cX3_highestOf 0 = .ok (.iload_n 0, 1) := by decide +kernel
theorem dX3_highestOf_1 : decode cX3_highestOf 1 = .ok (.lookupswitch 31 #[(1, 27), (4, 29)], 27) := by decide +kernel
theorem dX3_highestOf_28 : decode cX3_highestOf 28 = .ok (.iconst 2, 1) := by decide +kernel
theorem dX3_highestOf_29 : decode cX3_highestOf 29 = .ok (.ireturn, 1) := by decide +kernel
theorem dX3_highestOf_30 : decode cX3_highestOf 30 = .ok (.iload_n 1, 1) := by decide +kernel
theorem dX3_highestOf_31 : decode cX3_highestOf 31 = .ok (.ireturn, 1) := by decide +kernel
theorem dX3_highestOf_32 : decode cX3_highestOf 32 = .ok (.iconst 3, 1) := by decide +kernel
theorem dX3_highestOf_33 : decode cX3_highestOf 33 = .ok (.ireturn, 1) := by decide +kernel
theorem dX3_nextToken_0 : decode cX3_nextToken 0 = .ok (.aload_n 0, 1) := by decide +kernel
theorem dX3_nextToken_1 : decode cX3_nextToken 1 = .ok (.getfield 18, 3) := by decide +kernel
theorem dX3_nextToken_4 : decode cX3_nextToken 4 = .ok (.aload_n 0, 1) := by decide +kernel
theorem dX3_nextToken_5 : decode cX3_nextToken 5 = .ok (.getfield 12, 3) := by decide +kernel
theorem dX3_nextToken_8 : decode cX3_nextToken 8 = .ok (.getfield 65, 3) := by decide +kernel
theorem dX3_nextToken_11 : decode cX3_nextToken 11 = .ok (.if_icmp .ge 33, 3) := by decide +kernel
theorem dX3_nextToken_14 : decode cX3_nextToken 14 = .ok (.aload_n 0, 1) := by decide +kernel
theorem dX3_nextToken_15 : decode cX3_nextToken 15 = .ok (.getfield 12, 3) := by decide +kernel
theorem dX3_nextToken_18 : decode cX3_nextToken 18 = .ok (.getfield 68, 3) := by decide +kernel
theorem dX3_nextToken_21 : decode cX3_nextToken 21 = .ok (.aload_n 0, 1) := by decide +kernel
theorem dX3_nextToken_22 : decode cX3_nextToken 22 = .ok (.getfield 18, 3) := by decide +kernel
theorem dX3_nextToken_25 : decode cX3_nextToken 25 = .ok (.iaload, 1) := by decide +kernel
theorem dX3_nextToken_26 : decode cX3_nextToken 26 = .ok (.bipush 32, 2) := by decide +kernel
theorem dX3_nextToken_28 : decode cX3_nextToken 28 = .ok (.if_icmp .ne 16, 3) := by decide +kernel
theorem dX3_nextToken_31 : decode cX3_nextToken 31 = .ok (.aload_n 0, 1) := by decide +kernel
theorem dX3_nextToken_32 : decode cX3_nextToken 32 = .ok (.dup, 1) := by decide +kernel
theorem dX3_nextToken_33 : decode cX3_nextToken 33 = .ok (.getfield 18, 3) := by decide +kernel
theorem dX3_nextToken_36 : decode cX3_nextToken 36 = .ok (.iconst 1, 1) := by decide +kernel
theorem dX3_nextToken_37 : decode cX3_nextToken 37 = .ok (.iadd, 1) := by decide +kernel
theorem dX3_nextToken_38 : decode cX3_nextToken 38 = .ok (.putfield 18, 3) := by decide +kernel
theorem dX3_nextToken_41 : decode cX3_nextToken 41 = .ok (.goto (-41), 3) := by decide +kernel
theorem dX3_nextToken_44 : decode cX3_nextToken 44 = .ok (.aload_n 0, 1) := by decide +kernel
theorem dX3_nextToken_45 : decode cX3_nextToken 45 = .ok (.aload_n 0, 1) := by decide +kernel
theorem dX3_nextToken_46 : decode cX3_nextToken 46 = .ok (.getfield 18, 3) := by decide +kernel
theorem dX3_nextToken_49 : decode cX3_nextToken 49 = .ok (.putfield 26, 3) := by decide +kernel
theorem dX3_nextToken_52 : decode cX3_nextToken 52 = .ok (.aload_n 0, 1) := by decide +kernel
theorem dX3_nextToken_53 : decode cX3_nextToken 53 = .ok (.getfield 18, 3) := by decide +kernel
theorem dX3_nextToken_56 : decode cX3_nextToken 56 = .ok (.aload_n 0, 1) := by decide +kernel
theorem dX3_nextToken_57 : decode cX3_nextToken 57 = .ok (.getfield 12, 3) := by decide +kernel
theorem dX3_nextToken_60 : decode cX3_nextToken 60 = .ok (.getfield 65, 3) := by decide +kernel
theorem dX3_nextToken_63 : decode cX3_nextToken 63 = .ok (.if_icmp .lt 11, 3) := by decide +kernel
theorem dX3_nextToken_66 : decode cX3_nextToken 66 = .ok (.aload_n 0, 1) := by decide +kernel
theorem dX3_nextToken_67 : decode cX3_nextToken 67 = .ok (.iconst 0, 1) := by decide +kernel
theorem dX3_nextToken_68 : decode cX3_nextToken 68 = .ok (.putfield 32, 3) := by decide +kernel
theorem dX3_nextToken_71 : decode cX3_nextToken 71 = .ok (.goto 229, 3) := by decide +kernel
theorem dX3_nextToken_74 : decode cX3_nextToken 74 = .ok (.aload_n 0, 1) := by decide +kernel
theorem dX3_nextToken_75 : decode cX3_nextToken 75 = .ok (.getfield 12, 3) := by decide +kernel
theorem dX3_nextToken_78 : decode cX3_nextToken 78 = .ok (.getfield 68, 3) := by decide +kernel
theorem dX3_nextToken_81 : decode cX3_nextToken 81 = .ok (.aload_n 0, 1) := by decide +kernel
theorem dX3_nextToken_82 : decode cX3_nextToken 82 = .ok (.getfield 18, 3) := by decide +kernel
theorem dX3_nextToken_85 : decode cX3_nextToken 85 = .ok (.iaload, 1) := by decide +kernel
theorem dX3_nextToken_86 : decode cX3_nextToken 86 = .ok (.bipush 97, 2) := by decide +kernel
theorem dX3_nextToken_88 : decode cX3_nextToken 88 = .ok (.bipush 122, 2) := by decide +kernel
theorem dX3_nextToken_90 : decode cX3_nextToken 90 = .ok (.invokestatic 71, 3) := by decide +kernel
theorem dX3_nextToken_93 : decode cX3_nextToken 93 = .ok (.ifCond .eq 57, 3) := by decide +kernel
theorem dX3_nextToken_96 : decode cX3_nextToken 96 = .ok (.aload_n 0, 1) := by decide +kernel
theorem dX3_nextToken_97 : decode cX3_nextToken 97 = .ok (.iconst 1, 1) := by decide +kernel
theorem dX3_nextToken_98 : decode cX3_nextToken 98 = .ok (.putfield 32, 3) := by decide +kernel
theorem dX3_nextToken_101 : decode cX3_nextToken 101 = .ok (.aload_n 0, 1) := by decide +kernel
theorem dX3_nextToken_102 : decode cX3_nextToken 102 = .ok (.getfield 18, 3) := by decide +kernel
theorem dX3_nextToken_105 : decode cX3_nextToken 105 = .ok (.aload_n 0, 1) := by decide +kernel
theorem dX3_nextToken_106 : decode cX3_nextToken 106 = .ok (.getfield 12, 3) := by decide +kernel
theorem dX3_nextToken_109 : decode cX3_nextToken 109 = .ok (.getfield 65, 3) := by decide +kernel
theorem dX3_nextToken_112 : decode cX3_nextToken 112 = .ok (.if_icmp .ge 188, 3) := by decide +kernel
theorem dX3_nextToken_115 : decode cX3_nextToken 115 = .ok (.aload_n 0, 1) := by decide +kernel
theorem dX3_nextToken_116 : decode cX3_nextToken 116 = .ok (.getfield 12, 3) := by decide +kernel
theorem dX3_nextToken_119 : decode cX3_nextToken 119 = .ok (.getfield 68, 3) := by decide +kernel
theorem dX3_nextToken_122 : decode cX3_nextToken 122 = .ok (.aload_n 0, 1) := by decide +kernel
theorem dX3_nextToken_123 : decode cX3_nextToken 123 = .ok (.getfield 18, 3) := by decide +kernel
theorem dX3_nextToken_126 : decode cX3_nextToken 126 = .ok (.iaload, 1) := by decide +kernel
theorem dX3_nextToken_127 : decode cX3_nextToken 127 = .ok (.bipush 97, 2) := by decide +kernel
theorem dX3_nextToken_129 : decode cX3_nextToken 129 = .ok (.bipush 122, 2) := by decide +kernel
theorem dX3_nextToken_131 : decode cX3_nextToken 131 = .ok (.invokestatic 71, 3) := by decide +kernel
theorem dX3_nextToken_134 : decode cX3_nextToken 134 = .ok (.ifCond .eq 166, 3) := by decide +kernel
theorem dX3_nextToken_137 : decode cX3_nextToken 137 = .ok (.aload_n 0, 1) := by decide +kernel
theorem dX3_nextToken_138 : decode cX3_nextToken 138 = .ok (.dup, 1) := by decide +kernel
theorem dX3_nextToken_139 : decode cX3_nextToken 139 = .ok (.getfield 18, 3) := by decide +kernel
theorem dX3_nextToken_142 : decode cX3_nextToken 142 = .ok (.iconst 1, 1) := by decide +kernel
theorem dX3_nextToken_143 : decode cX3_nextToken 143 = .ok (.iadd, 1) := by decide +kernel
theorem dX3_nextToken_144 : decode cX3_nextToken 144 = .ok (.putfield 18, 3) := by decide +kernel
theorem dX3_nextToken_147 : decode cX3_nextToken 147 = .ok (.goto (-46), 3) := by decide +kernel
theorem dX3_nextToken_150 : decode cX3_nextToken 150 = .ok (.aload_n 0, 1) := by decide +kernel
theorem dX3_nextToken_151 : decode cX3_nextToken 151 = .ok (.getfield 12, 3) := by decide +kernel
theorem dX3_nextToken_154 : decode cX3_nextToken 154 = .ok (.getfield 68, 3) := by decide +kernel
theorem dX3_nextToken_157 : decode cX3_nextToken 157 = .ok (.aload_n 0, 1) := by decide +kernel
theorem dX3_nextToken_158 : decode cX3_nextToken 158 = .ok (.getfield 18, 3) := by decide +kernel
theorem dX3_nextToken_161 : decode cX3_nextToken 161 = .ok (.iaload, 1) := by decide +kernel
theorem dX3_nextToken_162 : decode cX3_nextToken 162 = .ok (.bipush 48, 2) := by decide +kernel
theorem dX3_nextToken_164 : decode cX3_nextToken 164 = .ok (.bipush 57, 2) := by decide +kernel
theorem dX3_nextToken_166 : decode cX3_nextToken 166 = .ok (.invokestatic 71, 3) := by decide +kernel
theorem dX3_nextToken_169 : decode cX3_nextToken 169 = .ok (.ifCond .eq 95, 3) := by decide +kernel
theorem dX3_nextToken_172 : decode cX3_nextToken 172 = .ok (.aload_n 0, 1) := by decide +kernel
theorem dX3_nextToken_173 : decode cX3_nextToken 173 = .ok (.iconst 2, 1) := by decide +kernel
theorem dX3_nextToken_174 : decode cX3_nextToken 174 = .ok (.putfield 32, 3) := by decide +kernel
theorem dX3_nextToken_177 : decode cX3_nextToken 177 = .ok (.aload_n 0, 1) := by decide +kernel
theorem dX3_nextToken_178 : decode cX3_nextToken 178 = .ok (.iconst 0, 1) := by decide +kernel
theorem dX3_nextToken_179 : decode cX3_nextToken 179 = .ok (.putfield 58, 3) := by decide +kernel
theorem dX3_nextToken_182 : decode cX3_nextToken 182 = .ok (.aload_n 0, 1) := by decide +kernel
theorem dX3_nextToken_183 : decode cX3_nextToken 183 = .ok (.getfield 18, 3) := by decide +kernel
theorem dX3_nextToken_186 : decode cX3_nextToken 186 = .ok (.aload_n 0, 1) := by decide +kernel
theorem dX3_nextToken_187 : decode cX3_nextToken 187 = .ok (.getfield 12, 3) := by decide +kernel
theorem dX3_nextToken_190 : decode cX3_nextToken 190 = .ok (.getfield 65, 3) := by decide +kernel
theorem dX3_nextToken_193 : decode cX3_nextToken 193 = .ok (.if_icmp .ge 107, 3) := by decide +kernel
theorem dX3_nextToken_196 : decode cX3_nextToken 196 = .ok (.aload_n 0, 1) := by decide +kernel
theorem dX3_nextToken_197 : decode cX3_nextToken 197 = .ok (.getfield 12, 3) := by decide +kernel
theorem dX3_nextToken_200 : decode cX3_nextToken 200 = .ok (.getfield 68, 3) := by decide +kernel
theorem dX3_nextToken_203 : decode cX3_nextToken 203 = .ok (.aload_n 0, 1) := by decide +kernel
theorem dX3_nextToken_204 : decode cX3_nextToken 204 = .ok (.getfield 18, 3) := by decide +kernel
theorem dX3_nextToken_207 : decode cX3_nextToken 207 = .ok (.iaload, 1) := by decide +kernel
theorem dX3_nextToken_208 : decode cX3_nextToken 208 = .ok (.bipush 48, 2) := by decide +kernel
theorem dX3_nextToken_210 : decode cX3_nextToken 210 = .ok (.bipush 57, 2) := by decide +kernel
theorem dX3_nextToken_212 : decode cX3_nextToken 212 = .ok (.invokestatic 71, 3) := by decide +kernel
theorem dX3_nextToken_215 : decode cX3_nextToken 215 = .ok (.ifCond .eq 85, 3) := by decide +kernel
theorem dX3_nextToken_218 : decode cX3_nextToken 218 = .ok (.aload_n 0, 1) := by decide +kernel
theorem dX3_nextToken_219 : decode cX3_nextToken 219 = .ok (.sipush 1000, 3) := by decide +kernel
theorem dX3_nextToken_222 : decode cX3_nextToken 222 = .ok (.aload_n 0, 1) := by decide +kernel
theorem dX3_nextToken_223 : decode cX3_nextToken 223 = .ok (.getfield 58, 3) := by decide +kernel
theorem dX3_nextToken_226 : decode cX3_nextToken 226 = .ok (.bipush 10, 2) := by decide +kernel
theorem dX3_nextToken_228 : decode cX3_nextToken 228 = .ok (.imul, 1) := by decide +kernel
theorem dX3_nextToken_229 : decode cX3_nextToken 229 = .ok (.aload_n 0, 1) := by decide +kernel
theorem dX3_nextToken_230 : decode cX3_nextToken 230 = .ok (.getfield 12, 3) := by decide +kernel
theorem dX3_nextToken_233 : decode cX3_nextToken 233 = .ok (.getfield 68, 3) := by decide +kernel
theorem dX3_nextToken_236 : decode cX3_nextToken 236 = .ok (.aload_n 0, 1) := by decide +kernel
theorem dX3_nextToken_237 : decode cX3_nextToken 237 = .ok (.getfield 18, 3) := by decide +kernel
theorem dX3_nextToken_240 : decode cX3_nextToken 240 = .ok (.iaload, 1) := by decide +kernel
theorem dX3_nextToken_241 : decode cX3_nextToken 241 = .ok (.iadd, 1) := by decide +kernel
theorem dX3_nextToken_242 : decode cX3_nextToken 242 = .ok (.bipush 48, 2) := by decide +kernel
theorem dX3_nextToken_244 : decode cX3_nextToken 244 = .ok (.isub, 1) := by decide +kernel
theorem dX3_nextToken_245 : decode cX3_nextToken 245 = .ok (.invokestatic 75, 3) := by decide +kernel
theorem dX3_nextToken_248 : decode cX3_nextToken 248 = .ok (.putfield 58, 3) := by decide +kernel
theorem dX3_nextToken_251 : decode cX3_nextToken 251 = .ok (.aload_n 0, 1) := by decide +kernel
theorem dX3_nextToken_252 : decode cX3_nextToken 252 = .ok (.dup, 1) := by decide +kernel
theorem dX3_nextToken_253 : decode cX3_nextToken 253 = .ok (.getfield 18, 3) := by decide +kernel
theorem dX3_nextToken_256 : decode cX3_nextToken 256 = .ok (.iconst 1, 1) := by decide +kernel
theorem dX3_nextToken_257 : decode cX3_nextToken 257 = .ok (.iadd, 1) := by decide +kernel
theorem dX3_nextToken_258 : decode cX3_nextToken 258 = .ok (.putfield 18, 3) := by decide +kernel
theorem dX3_nextToken_261 : decode cX3_nextToken 261 = .ok (.goto (-79), 3) := by decide +kernel
theorem dX3_nextToken_264 : decode cX3_nextToken 264 = .ok (.aload_n 0, 1) := by decide +kernel
theorem dX3_nextToken_265 : decode cX3_nextToken 265 = .ok (.aload_n 0, 1) := by decide +kernel
theorem dX3_nextToken_266 : decode cX3_nextToken 266 = .ok (.getfield 12, 3) := by decide +kernel
theorem dX3_nextToken_269 : decode cX3_nextToken 269 = .ok (.getfield 68, 3) := by decide +kernel
theorem dX3_nextToken_272 : decode cX3_nextToken 272 = .ok (.aload_n 0, 1) := by decide +kernel
theorem dX3_nextToken_273 : decode cX3_nextToken 273 = .ok (.getfield 18, 3) := by decide +kernel
theorem dX3_nextToken_276 : decode cX3_nextToken 276 = .ok (.iaload, 1) := by decide +kernel
theorem dX3_nextToken_277 : decode cX3_nextToken 277 = .ok (.bipush 59, 2) := by decide +kernel
theorem dX3_nextToken_279 : decode cX3_nextToken 279 = .ok (.if_icmp .ne 7, 3) := by decide +kernel
theorem dX3_nextToken_282 : decode cX3_nextToken 282 = .ok (.iconst 3, 1) := by decide +kernel
theorem dX3_nextToken_283 : decode cX3_nextToken 283 = .ok (.goto 4, 3) := by decide +kernel
theorem dX3_nextToken_286 : decode cX3_nextToken 286 = .ok (.iconst 4, 1) := by decide +kernel
theorem dX3_nextToken_287 : decode cX3_nextToken 287 = .ok (.putfield 32, 3) := by decide +kernel
theorem dX3_nextToken_290 : decode cX3_nextToken 290 = .ok (.aload_n 0, 1) := by decide +kernel
theorem dX3_nextToken_291 : decode cX3_nextToken 291 = .ok (.dup, 1) := by decide +kernel
theorem dX3_nextToken_292 : decode cX3_nextToken 292 = .ok (.getfield 18, 3) := by decide +kernel
theorem dX3_nextToken_295 : decode cX3_nextToken 295 = .ok (.iconst 1, 1) := by decide +kernel
theorem dX3_nextToken_296 : decode cX3_nextToken 296 = .ok (.iadd, 1) := by decide +kernel
theorem dX3_nextToken_297 : decode cX3_nextToken 297 = .ok (.putfield 18, 3) := by decide +kernel
theorem dX3_nextToken_300 : decode cX3_nextToken 300 = .ok (.return_, 1) := by decide +kernel
theorem dX3_isIn_0 : decode cX3_isIn 0 = .ok (.iload_n 0, 1) := by decide +kernel
theorem dX3_isIn_1 : decode cX3_isIn 1 = .ok (.iload_n 1, 1) := by decide +kernel
theorem dX3_isIn_2 : decode cX3_isIn 2 = .ok (.if_icmp .lt 12, 3) := by decide +kernel
theorem dX3_isIn_5 : decode cX3_isIn 5 = .ok (.iload_n 0, 1) := by decide +kernel
theorem dX3_isIn_6 : decode cX3_isIn 6 = .ok (.iload_n 2, 1) := by decide +kernel
theorem dX3_isIn_7 : decode cX3_isIn 7 = .ok (.if_icmp .gt 7, 3) := by decide +kernel
theorem dX3_isIn_10 : decode cX3_isIn 10 = .ok (.iconst 1, 1) := by decide +kernel
theorem dX3_isIn_11 : decode cX3_isIn 11 = .ok (.goto 4, 3) := by decide +kernel
theorem dX3_isIn_14 : decode cX3_isIn 14 = .ok (.iconst 0, 1) := by decide +kernel
theorem dX3_isIn_15 : decode cX3_isIn 15 = .ok (.ireturn, 1) := by decide +kernel
theorem dX3_latestWord_0 : decode cX3_latestWord 0 = .ok (.iconst 0, 1) := by decide +kernel
theorem dX3_latestWord_1 : decode cX3_latestWord 1 = .ok (.istore_n 1, 1) := by decide +kernel
theorem dX3_latestWord_2 : decode cX3_latestWord 2 = .ok (.iload_n 1, 1) := by decide +kernel
theorem dX3_latestWord_3 : decode cX3_latestWord 3 = .ok (.bipush 9, 2) := by decide +kernel
theorem dX3_latestWord_5 : decode cX3_latestWord 5 = .ok (.if_icmp .ge 22, 3) := by decide +kernel
theorem dX3_latestWord_8 : decode cX3_latestWord 8 = .ok (.aload_n 0, 1) := by decide +kernel
theorem dX3_latestWord_9 : decode cX3_latestWord 9 = .ok (.iload_n 1, 1) := by decide +kernel
theorem dX3_latestWord_10 : decode cX3_latestWord 10 = .ok (.invokestatic 80, 3) := by decide +kernel
theorem dX3_latestWord_13 : decode cX3_latestWord 13 = .ok (.invokevirtual 84, 3) := by decide +kernel
theorem dX3_latestWord_16 : decode cX3_latestWord 16 = .ok (.ifCond .eq 5, 3) := by decide +kernel
theorem dX3_latestWord_19 : decode cX3_latestWord 19 = .ok (.iload_n 1, 1) := by decide +kernel
theorem dX3_latestWord_20 : decode cX3_latestWord 20 = .ok (.ireturn, 1) := by decide +kernel
theorem dX3_latestWord_21 : decode cX3_latestWord 21 = .ok (.iinc 1 1, 3) := by decide +kernel
theorem dX3_latestWord_24 : decode cX3_latestWord 24 = .ok (.goto (-22), 3) := by decide +kernel
theorem dX3_latestWord_27 : decode cX3_latestWord 27 = .ok (.iconst (-1), 1) := by decide +kernel
theorem dX3_latestWord_28 : decode cX3_latestWord 28 = .ok (.ireturn, 1) := by decide +kernel
theorem dX3_isLatest_0 : decode cX3_isLatest 0 = .ok (.aload_n 1, 1) := by decide +kernel
theorem dX3_isLatest_1 : decode cX3_isLatest 1 = .ok (.invokevirtual 88, 3) := by decide +kernel
theorem dX3_isLatest_4 : decode cX3_isLatest 4 = .ok (.aload_n 0, 1) := by decide +kernel
theorem dX3_isLatest_5 : decode cX3_isLatest 5 = .ok (.getfield 18, 3) := by decide +kernel
theorem dX3_isLatest_8 : decode cX3_isLatest 8 = .ok (.aload_n 0, 1) := by decide +kernel
theorem dX3_isLatest_9 : decode cX3_isLatest 9 = .ok (.getfield 26, 3) := by decide +kernel
theorem dX3_isLatest_12 : decode cX3_isLatest 12 = .ok (.isub, 1) := by decide +kernel
theorem dX3_isLatest_13 : decode cX3_isLatest 13 = .ok (.if_icmp .eq 5, 3) := by decide +kernel
theorem dX3_isLatest_16 : decode cX3_isLatest 16 = .ok (.iconst 0, 1) := by decide +kernel
theorem dX3_isLatest_17 : decode cX3_isLatest 17 = .ok (.ireturn, 1) := by decide +kernel
theorem dX3_isLatest_18 : decode cX3_isLatest 18 = .ok (.iconst 0, 1) := by decide +kernel
theorem dX3_isLatest_19 : decode cX3_isLatest 19 = .ok (.istore_n 2, 1) := by decide +kernel
theorem dX3_isLatest_20 : decode cX3_isLatest 20 = .ok (.iload_n 2, 1) := by decide +kernel
theorem dX3_isLatest_21 : decode cX3_isLatest 21 = .ok (.aload_n 1, 1) := by decide +kernel
theorem dX3_isLatest_22 : decode cX3_isLatest 22 = .ok (.invokevirtual 88, 3) := by decide +kernel
theorem dX3_isLatest_25 : decode cX3_isLatest 25 = .ok (.if_icmp .ge 33, 3) := by decide +kernel
theorem dX3_isLatest_28 : decode cX3_isLatest 28 = .ok (.aload_n 1, 1) := by decide +kernel
theorem dX3_isLatest_29 : decode cX3_isLatest 29 = .ok (.iload_n 2, 1) := by decide +kernel
theorem dX3_isLatest_30 : decode cX3_isLatest 30 = .ok (.invokevirtual 93, 3) := by decide +kernel
theorem dX3_isLatest_33 : decode cX3_isLatest 33 = .ok (.aload_n 0, 1) := by decide +kernel
theorem dX3_isLatest_34 : decode cX3_isLatest 34 = .ok (.getfield 12, 3) := by decide +kernel
theorem dX3_isLatest_37 : decode cX3_isLatest 37 = .ok (.getfield 68, 3) := by decide +kernel
theorem dX3_isLatest_40 : decode cX3_isLatest 40 = .ok (.aload_n 0, 1) := by decide +kernel
theorem dX3_isLatest_41 : decode cX3_isLatest 41 = .ok (.getfield 26, 3) := by decide +kernel
theorem dX3_isLatest_44 : decode cX3_isLatest 44 = .ok (.iload_n 2, 1) := by decide +kernel
theorem dX3_isLatest_45 : decode cX3_isLatest 45 = .ok (.iadd, 1) := by decide +kernel
theorem dX3_isLatest_46 : decode cX3_isLatest 46 = .ok (.iaload, 1) := by decide +kernel
theorem dX3_isLatest_47 : decode cX3_isLatest 47 = .ok (.if_icmp .eq 5, 3) := by decide +kernel
theorem dX3_isLatest_50 : decode cX3_isLatest 50 = .ok (.iconst 0, 1) := by decide +kernel
theorem dX3_isLatest_51 : decode cX3_isLatest 51 = .ok (.ireturn, 1) := by decide +kernel
theorem dX3_isLatest_52 : decode cX3_isLatest 52 = .ok (.iinc 2 1, 3) := by decide +kernel
theorem dX3_isLatest_55 : decode cX3_isLatest 55 = .ok (.goto (-35), 3) := by decide +kernel
theorem dX3_isLatest_58 : decode cX3_isLatest 58 = .ok (.iconst 1, 1) := by decide +kernel
theorem dX3_isLatest_59 : decode cX3_isLatest 59 = .ok (.ireturn, 1) := by decide +kernel
theorem dX3_spelling_0 : decode cX3_spelling 0 = .ok (.iload_n 0, 1) := by decide +kernel
theorem dX3_spelling_1 : decode cX3_spelling 1 = .ok (.tableswitch 71 0 7 #[47, 50, 53, 56, 59, 62, 65, 68], 47) := by decide +kernel
theorem dX3_spelling_48 : decode cX3_spelling 48 = .ok (.ldc 97, 2) := by decide +kernel
theorem dX3_spelling_50 : decode cX3_spelling 50 = .ok (.areturn, 1) := by decide +kernel
theorem dX3_spelling_51 : decode cX3_spelling 51 = .ok (.ldc 99, 2) := by decide +kernel
theorem dX3_spelling_53 : decode cX3_spelling 53 = .ok (.areturn, 1) := by decide +kernel
theorem dX3_spelling_54 : decode cX3_spelling 54 = .ok (.ldc 101, 2) := by decide +kernel
theorem dX3_spelling_56 : decode cX3_spelling 56 = .ok (.areturn, 1) := by decide +kernel
theorem dX3_spelling_57 : decode cX3_spelling 57 = .ok (.ldc 103, 2) := by decide +kernel
theorem dX3_spelling_59 : decode cX3_spelling 59 = .ok (.areturn, 1) := by decide +kernel
theorem dX3_spelling_60 : decode cX3_spelling 60 = .ok (.ldc 105, 2) := by decide +kernel
theorem dX3_spelling_62 : decode cX3_spelling 62 = .ok (.areturn, 1) := by decide +kernel
theorem dX3_spelling_63 : decode cX3_spelling 63 = .ok (.ldc 107, 2) := by decide +kernel
theorem dX3_spelling_65 : decode cX3_spelling 65 = .ok (.areturn, 1) := by decide +kernel
theorem dX3_spelling_66 : decode cX3_spelling 66 = .ok (.ldc 109, 2) := by decide +kernel
theorem dX3_spelling_68 : decode cX3_spelling 68 = .ok (.areturn, 1) := by decide +kernel
theorem dX3_spelling_69 : decode cX3_spelling 69 = .ok (.ldc 111, 2) := by decide +kernel
theorem dX3_spelling_71 : decode cX3_spelling 71 = .ok (.areturn, 1) := by decide +kernel
theorem dX3_spelling_72 : decode cX3_spelling 72 = .ok (.ldc 113, 2) := by decide +kernel
theorem dX3_spelling_74 : decode cX3_spelling 74 = .ok (.areturn, 1) := by decide +kernel
theorem dX4_init_0 : decode cX4_init 0 = .ok (.aload_n 0, 1) := by decide +kernel
theorem dX4_init_1 : decode cX4_init 1 = .ok (.invokespecial 1, 3) := by decide +kernel
theorem dX4_init_4 : decode cX4_init 4 = .ok (.aload_n 0, 1) := by decide +kernel
theorem dX4_init_5 : decode cX4_init 5 = .ok (.iconst 0, 1) := by decide +kernel
theorem dX4_init_6 : decode cX4_init 6 = .ok (.iload_n 1, 1) := by decide +kernel
theorem dX4_init_7 : decode cX4_init 7 = .ok (.invokestatic 7, 3) := by decide +kernel
theorem dX4_init_10 : decode cX4_init 10 = .ok (.newarray .int, 2) := by decide +kernel
theorem dX4_init_12 : decode cX4_init 12 = .ok (.putfield 13, 3) := by decide +kernel
theorem dX4_init_15 : decode cX4_init 15 = .ok (.return_, 1) := by decide +kernel
theorem dX4_placeFor_0 : decode cX4_placeFor 0 = .ok (.iconst 0, 1) := by decide +kernel
theorem dX4_placeFor_1 : decode cX4_placeFor 1 = .ok (.istore_n 2, 1) := by decide +kernel
theorem dX4_placeFor_2 : decode cX4_placeFor 2 = .ok (.aload_n 0, 1) := by decide +kernel
theorem dX4_placeFor_3 : decode cX4_placeFor 3 = .ok (.getfield 19, 3) := by decide +kernel
theorem dX4_placeFor_6 : decode cX4_placeFor 6 = .ok (.istore_n 3, 1) := by decide +kernel
theorem dX4_placeFor_7 : decode cX4_placeFor 7 = .ok (.iconst 0, 1) := by decide +kernel
theorem dX4_placeFor_8 : decode cX4_placeFor 8 = .ok (.istore 4, 2) := by decide +kernel
theorem dX4_placeFor_10 : decode cX4_placeFor 10 = .ok (.iload 4, 2) := by decide +kernel
theorem dX4_placeFor_12 : decode cX4_placeFor 12 = .ok (.bipush 32, 2) := by decide +kernel
theorem dX4_placeFor_14 : decode cX4_placeFor 14 = .ok (.if_icmp .ge 43, 3) := by decide +kernel
theorem dX4_placeFor_17 : decode cX4_placeFor 17 = .ok (.iload_n 2, 1) := by decide +kernel
theorem dX4_placeFor_18 : decode cX4_placeFor 18 = .ok (.iload_n 3, 1) := by decide +kernel
theorem dX4_placeFor_19 : decode cX4_placeFor 19 = .ok (.if_icmp .ge 38, 3) := by decide +kernel
theorem dX4_placeFor_22 : decode cX4_placeFor 22 = .ok (.iload_n 2, 1) := by decide +kernel
theorem dX4_placeFor_23 : decode cX4_placeFor 23 = .ok (.iload_n 3, 1) := by decide +kernel
theorem dX4_placeFor_24 : decode cX4_placeFor 24 = .ok (.iadd, 1) := by decide +kernel
theorem dX4_placeFor_25 : decode cX4_placeFor 25 = .ok (.iconst 2, 1) := by decide +kernel
theorem dX4_placeFor_26 : decode cX4_placeFor 26 = .ok (.idiv, 1) := by decide +kernel
theorem dX4_placeFor_27 : decode cX4_placeFor 27 = .ok (.istore 5, 2) := by decide +kernel
theorem dX4_placeFor_29 : decode cX4_placeFor 29 = .ok (.aload_n 0, 1) := by decide +kernel
theorem dX4_placeFor_30 : decode cX4_placeFor 30 = .ok (.getfield 13, 3) := by decide +kernel
theorem dX4_placeFor_33 : decode cX4_placeFor 33 = .ok (.iload 5, 2) := by decide +kernel
theorem dX4_placeFor_35 : decode cX4_placeFor 35 = .ok (.iaload, 1) := by decide +kernel
theorem dX4_placeFor_36 : decode cX4_placeFor 36 = .ok (.iload_n 1, 1) := by decide +kernel
theorem dX4_placeFor_37 : decode cX4_placeFor 37 = .ok (.if_icmp .ge 11, 3) := by decide +kernel
theorem dX4_placeFor_40 : decode cX4_placeFor 40 = .ok (.iload 5, 2) := by decide +kernel
theorem dX4_placeFor_42 : decode cX4_placeFor 42 = .ok (.iconst 1, 1) := by decide +kernel
theorem dX4_placeFor_43 : decode cX4_placeFor 43 = .ok (.iadd, 1) := by decide +kernel
theorem dX4_placeFor_44 : decode cX4_placeFor 44 = .ok (.istore_n 2, 1) := by decide +kernel
theorem dX4_placeFor_45 : decode cX4_placeFor 45 = .ok (.goto 6, 3) := by decide +kernel
theorem dX4_placeFor_48 : decode cX4_placeFor 48 = .ok (.iload 5, 2) := by decide +kernel
theorem dX4_placeFor_50 : decode cX4_placeFor 50 = .ok (.istore_n 3, 1) := by decide +kernel
theorem dX4_placeFor_51 : decode cX4_placeFor 51 = .ok (.iinc 4 1, 3) := by decide +kernel
theorem dX4_placeFor_54 : decode cX4_placeFor 54 = .ok (.goto (-44), 3) := by decide +kernel
theorem dX4_placeFor_57 : decode cX4_placeFor 57 = .ok (.iload_n 2, 1) := by decide +kernel
theorem dX4_placeFor_58 : decode cX4_placeFor 58 = .ok (.ireturn, 1) := by decide +kernel
theorem dX4_holds_0 : decode cX4_holds 0 = .ok (.aload_n 0, 1) := by decide +kernel
theorem dX4_holds_1 : decode cX4_holds 1 = .ok (.iload_n 1, 1) := by decide +kernel
theorem dX4_holds_2 : decode cX4_holds 2 = .ok (.invokevirtual 23, 3) := by decide +kernel
theorem dX4_holds_5 : decode cX4_holds 5 = .ok (.istore_n 2, 1) := by decide +kernel
theorem dX4_holds_6 : decode cX4_holds 6 = .ok (.iload_n 2, 1) := by decide +kernel
theorem dX4_holds_7 : decode cX4_holds 7 = .ok (.aload_n 0, 1) := by decide +kernel
theorem dX4_holds_8 : decode cX4_holds 8 = .ok (.getfield 19, 3) := by decide +kernel
theorem dX4_holds_11 : decode cX4_holds 11 = .ok (.if_icmp .ge 17, 3) := by decide +kernel
theorem dX4_holds_14 : decode cX4_holds 14 = .ok (.aload_n 0, 1) := by decide +kernel
theorem dX4_holds_15 : decode cX4_holds 15 = .ok (.getfield 13, 3) := by decide +kernel
theorem dX4_holds_18 : decode cX4_holds 18 = .ok (.iload_n 2, 1) := by decide +kernel
theorem dX4_holds_19 : decode cX4_holds 19 = .ok (.iaload, 1) := by decide +kernel
theorem dX4_holds_20 : decode cX4_holds 20 = .ok (.iload_n 1, 1) := by decide +kernel
theorem dX4_holds_21 : decode cX4_holds 21 = .ok (.if_icmp .ne 7, 3) := by decide +kernel
theorem dX4_holds_24 : decode cX4_holds 24 = .ok (.iconst 1, 1) := by decide +kernel
theorem dX4_holds_25 : decode cX4_holds 25 = .ok (.goto 4, 3) := by decide +kernel
theorem dX4_holds_28 : decode cX4_holds 28 = .ok (.iconst 0, 1) := by decide +kernel
theorem dX4_holds_29 : decode cX4_holds 29 = .ok (.ireturn, 1) := by decide +kernel
theorem dX4_include_0 : decode cX4_include 0 = .ok (.aload_n 0, 1) := by decide +kernel
theorem dX4_include_1 : decode cX4_include 1 = .ok (.iload_n 1, 1) := by decide +kernel
theorem dX4_include_2 : decode cX4_include 2 = .ok (.invokevirtual 23, 3) := by decide +kernel
