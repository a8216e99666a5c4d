theorem dX11_readStep_73 : decode cX11_readStep 73 = .ok (.iconst 3, 1) := by decide +kernel
theorem dX11_readStep_74 : decode cX11_readStep 74 = .ok (.if_icmp .ne 7, 3) := by decide +kernel
theorem dX11_readStep_77 : decode cX11_readStep 77 = .ok (.iconst 3, 1) := by decide +kernel
theorem dX11_readStep_78 : decode cX11_readStep 78 = .ok (.goto 44, 3) := by decide +kernel
theorem dX11_readStep_81 : decode cX11_readStep 81 = .ok (.iload_n 3, 1) := by decide +kernel
theorem dX11_readStep_82 : decode cX11_readStep 82 = .ok (.iconst 4, 1) := by decide +kernel
theorem dX11_readStep_83 : decode cX11_readStep 83 = .ok (.if_icmp .ne 7, 3) := by decide +kernel
theorem dX11_readStep_86 : decode cX11_readStep 86 = .ok (.iconst 4, 1) := by decide +kernel
theorem dX11_readStep_87 : decode cX11_readStep 87 = .ok (.goto 35, 3) := by decide +kernel
theorem dX11_readStep_90 : decode cX11_readStep 90 = .ok (.iload_n 3, 1) := by decide +kernel
theorem dX11_readStep_91 : decode cX11_readStep 91 = .ok (.iconst 5, 1) := by decide +kernel
theorem dX11_readStep_92 : decode cX11_readStep 92 = .ok (.if_icmp .ne 7, 3) := by decide +kernel
theorem dX11_readStep_95 : decode cX11_readStep 95 = .ok (.iconst 5, 1) := by decide +kernel
theorem dX11_readStep_96 : decode cX11_readStep 96 = .ok (.goto 26, 3) := by decide +kernel
theorem dX11_readStep_99 : decode cX11_readStep 99 = .ok (.iload_n 3, 1) := by decide +kernel
theorem dX11_readStep_100 : decode cX11_readStep 100 = .ok (.bipush 6, 2) := by decide +kernel
theorem dX11_readStep_102 : decode cX11_readStep 102 = .ok (.if_icmp .ne 8, 3) := by decide +kernel
theorem dX11_readStep_105 : decode cX11_readStep 105 = .ok (.bipush 7, 2) := by decide +kernel
theorem dX11_readStep_107 : decode cX11_readStep 107 = .ok (.goto 15, 3) := by decide +kernel
theorem dX11_readStep_110 : decode cX11_readStep 110 = .ok (.iload_n 3, 1) := by decide +kernel
theorem dX11_readStep_111 : decode cX11_readStep 111 = .ok (.bipush 7, 2) := by decide +kernel
theorem dX11_readStep_113 : decode cX11_readStep 113 = .ok (.if_icmp .ne 7, 3) := by decide +kernel
theorem dX11_readStep_116 : decode cX11_readStep 116 = .ok (.iconst 0, 1) := by decide +kernel
theorem dX11_readStep_117 : decode cX11_readStep 117 = .ok (.goto 5, 3) := by decide +kernel
theorem dX11_readStep_120 : decode cX11_readStep 120 = .ok (.bipush 6, 2) := by decide +kernel
theorem dX11_readStep_122 : decode cX11_readStep 122 = .ok (.iastore, 1) := by decide +kernel
theorem dX11_readStep_123 : decode cX11_readStep 123 = .ok (.aload_n 0, 1) := by decide +kernel
theorem dX11_readStep_124 : decode cX11_readStep 124 = .ok (.getfield 16, 3) := by decide +kernel
theorem dX11_readStep_127 : decode cX11_readStep 127 = .ok (.iload_n 2, 1) := by decide +kernel
theorem dX11_readStep_128 : decode cX11_readStep 128 = .ok (.iload_n 3, 1) := by decide +kernel
theorem dX11_readStep_129 : decode cX11_readStep 129 = .ok (.iconst 4, 1) := by decide +kernel
theorem dX11_readStep_130 : decode cX11_readStep 130 = .ok (.if_icmp .gt 11, 3) := by decide +kernel
theorem dX11_readStep_133 : decode cX11_readStep 133 = .ok (.aload_n 0, 1) := by decide +kernel
theorem dX11_readStep_134 : decode cX11_readStep 134 = .ok (.iconst 2, 1) := by decide +kernel
theorem dX11_readStep_135 : decode cX11_readStep 135 = .ok (.invokevirtual 211, 3) := by decide +kernel
theorem dX11_readStep_138 : decode cX11_readStep 138 = .ok (.goto 4, 3) := by decide +kernel
theorem dX11_readStep_141 : decode cX11_readStep 141 = .ok (.iconst 0, 1) := by decide +kernel
theorem dX11_readStep_142 : decode cX11_readStep 142 = .ok (.iastore, 1) := by decide +kernel
theorem dX11_readStep_143 : decode cX11_readStep 143 = .ok (.aload_n 0, 1) := by decide +kernel
theorem dX11_readStep_144 : decode cX11_readStep 144 = .ok (.getfield 19, 3) := by decide +kernel
theorem dX11_readStep_147 : decode cX11_readStep 147 = .ok (.iload_n 2, 1) := by decide +kernel
theorem dX11_readStep_148 : decode cX11_readStep 148 = .ok (.iload_n 3, 1) := by decide +kernel
theorem dX11_readStep_149 : decode cX11_readStep 149 = .ok (.iconst 1, 1) := by decide +kernel
theorem dX11_readStep_150 : decode cX11_readStep 150 = .ok (.if_icmp .ne 7, 3) := by decide +kernel
theorem dX11_readStep_153 : decode cX11_readStep 153 = .ok (.iconst (-1), 1) := by decide +kernel
theorem dX11_readStep_154 : decode cX11_readStep 154 = .ok (.goto 33, 3) := by decide +kernel
theorem dX11_readStep_157 : decode cX11_readStep 157 = .ok (.iload_n 3, 1) := by decide +kernel
theorem dX11_readStep_158 : decode cX11_readStep 158 = .ok (.iconst 2, 1) := by decide +kernel
theorem dX11_readStep_159 : decode cX11_readStep 159 = .ok (.if_icmp .eq 19, 3) := by decide +kernel
theorem dX11_readStep_162 : decode cX11_readStep 162 = .ok (.iload_n 3, 1) := by decide +kernel
theorem dX11_readStep_163 : decode cX11_readStep 163 = .ok (.iconst 3, 1) := by decide +kernel
theorem dX11_readStep_164 : decode cX11_readStep 164 = .ok (.if_icmp .eq 14, 3) := by decide +kernel
theorem dX11_readStep_167 : decode cX11_readStep 167 = .ok (.iload_n 3, 1) := by decide +kernel
theorem dX11_readStep_168 : decode cX11_readStep 168 = .ok (.iconst 4, 1) := by decide +kernel
theorem dX11_readStep_169 : decode cX11_readStep 169 = .ok (.if_icmp .eq 9, 3) := by decide +kernel
theorem dX11_readStep_172 : decode cX11_readStep 172 = .ok (.iload_n 3, 1) := by decide +kernel
theorem dX11_readStep_173 : decode cX11_readStep 173 = .ok (.bipush 6, 2) := by decide +kernel
theorem dX11_readStep_175 : decode cX11_readStep 175 = .ok (.if_icmp .ne 11, 3) := by decide +kernel
theorem dX11_readStep_178 : decode cX11_readStep 178 = .ok (.aload_n 0, 1) := by decide +kernel
theorem dX11_readStep_179 : decode cX11_readStep 179 = .ok (.iconst 3, 1) := by decide +kernel
theorem dX11_readStep_180 : decode cX11_readStep 180 = .ok (.invokevirtual 211, 3) := by decide +kernel
theorem dX11_readStep_183 : decode cX11_readStep 183 = .ok (.goto 4, 3) := by decide +kernel
theorem dX11_readStep_186 : decode cX11_readStep 186 = .ok (.iconst 0, 1) := by decide +kernel
theorem dX11_readStep_187 : decode cX11_readStep 187 = .ok (.iastore, 1) := by decide +kernel
theorem dX11_readStep_188 : decode cX11_readStep 188 = .ok (.aload_n 0, 1) := by decide +kernel
theorem dX11_readStep_189 : decode cX11_readStep 189 = .ok (.getfield 22, 3) := by decide +kernel
theorem dX11_readStep_192 : decode cX11_readStep 192 = .ok (.iload_n 2, 1) := by decide +kernel
theorem dX11_readStep_193 : decode cX11_readStep 193 = .ok (.iload_n 3, 1) := by decide +kernel
theorem dX11_readStep_194 : decode cX11_readStep 194 = .ok (.iconst 3, 1) := by decide +kernel
theorem dX11_readStep_195 : decode cX11_readStep 195 = .ok (.if_icmp .ne 11, 3) := by decide +kernel
theorem dX11_readStep_198 : decode cX11_readStep 198 = .ok (.aload_n 0, 1) := by decide +kernel
theorem dX11_readStep_199 : decode cX11_readStep 199 = .ok (.iconst 3, 1) := by decide +kernel
theorem dX11_readStep_200 : decode cX11_readStep 200 = .ok (.invokevirtual 211, 3) := by decide +kernel
theorem dX11_readStep_203 : decode cX11_readStep 203 = .ok (.goto 4, 3) := by decide +kernel
theorem dX11_readStep_206 : decode cX11_readStep 206 = .ok (.iconst 0, 1) := by decide +kernel
theorem dX11_readStep_207 : decode cX11_readStep 207 = .ok (.iastore, 1) := by decide +kernel
theorem dX11_readStep_208 : decode cX11_readStep 208 = .ok (.aload_n 0, 1) := by decide +kernel
theorem dX11_readStep_209 : decode cX11_readStep 209 = .ok (.getfield 25, 3) := by decide +kernel
theorem dX11_readStep_212 : decode cX11_readStep 212 = .ok (.iload_n 2, 1) := by decide +kernel
theorem dX11_readStep_213 : decode cX11_readStep 213 = .ok (.iload_n 3, 1) := by decide +kernel
theorem dX11_readStep_214 : decode cX11_readStep 214 = .ok (.bipush 8, 2) := by decide +kernel
theorem dX11_readStep_216 : decode cX11_readStep 216 = .ok (.if_icmp .ne 11, 3) := by decide +kernel
theorem dX11_readStep_219 : decode cX11_readStep 219 = .ok (.aload_n 0, 1) := by decide +kernel
theorem dX11_readStep_220 : decode cX11_readStep 220 = .ok (.iload_n 1, 1) := by decide +kernel
theorem dX11_readStep_221 : decode cX11_readStep 221 = .ok (.invokevirtual 211, 3) := by decide +kernel
theorem dX11_readStep_224 : decode cX11_readStep 224 = .ok (.goto 4, 3) := by decide +kernel
theorem dX11_readStep_227 : decode cX11_readStep 227 = .ok (.iconst 0, 1) := by decide +kernel
theorem dX11_readStep_228 : decode cX11_readStep 228 = .ok (.iastore, 1) := by decide +kernel
theorem dX11_readStep_229 : decode cX11_readStep 229 = .ok (.return_, 1) := by decide +kernel
theorem dX11_text_0 : decode cX11_text 0 = .ok (.aload_n 0, 1) := by decide +kernel
theorem dX11_text_1 : decode cX11_text 1 = .ok (.getfield 160, 3) := by decide +kernel
theorem dX11_text_4 : decode cX11_text 4 = .ok (.bipush 6, 2) := by decide +kernel
theorem dX11_text_6 : decode cX11_text 6 = .ok (.if_icmp .ne 10, 3) := by decide +kernel
theorem dX11_text_9 : decode cX11_text 9 = .ok (.aload_n 0, 1) := by decide +kernel
theorem dX11_text_10 : decode cX11_text 10 = .ok (.ldc 178, 2) := by decide +kernel
theorem dX11_text_12 : decode cX11_text 12 = .ok (.invokevirtual 171, 3) := by decide +kernel
theorem dX11_text_15 : decode cX11_text 15 = .ok (.ireturn, 1) := by decide +kernel
theorem dX11_text_16 : decode cX11_text 16 = .ok (.aload_n 0, 1) := by decide +kernel
theorem dX11_text_17 : decode cX11_text 17 = .ok (.iconst 0, 1) := by decide +kernel
theorem dX11_text_18 : decode cX11_text 18 = .ok (.putfield 184, 3) := by decide +kernel
theorem dX11_text_21 : decode cX11_text 21 = .ok (.aload_n 0, 1) := by decide +kernel
theorem dX11_text_22 : decode cX11_text 22 = .ok (.iconst (-1), 1) := by decide +kernel
theorem dX11_text_23 : decode cX11_text 23 = .ok (.putfield 202, 3) := by decide +kernel
theorem dX11_text_26 : decode cX11_text 26 = .ok (.iconst 0, 1) := by decide +kernel
theorem dX11_text_27 : decode cX11_text 27 = .ok (.istore_n 1, 1) := by decide +kernel
theorem dX11_text_28 : decode cX11_text 28 = .ok (.aload_n 0, 1) := by decide +kernel
theorem dX11_text_29 : decode cX11_text 29 = .ok (.invokevirtual 208, 3) := by decide +kernel
theorem dX11_text_32 : decode cX11_text 32 = .ok (.iconst 1, 1) := by decide +kernel
theorem dX11_text_33 : decode cX11_text 33 = .ok (.istore_n 2, 1) := by decide +kernel
theorem dX11_text_34 : decode cX11_text 34 = .ok (.iload_n 2, 1) := by decide +kernel
theorem dX11_text_35 : decode cX11_text 35 = .ok (.ifCond .eq 50, 3) := by decide +kernel
theorem dX11_text_38 : decode cX11_text 38 = .ok (.aload_n 0, 1) := by decide +kernel
theorem dX11_text_39 : decode cX11_text 39 = .ok (.getfield 202, 3) := by decide +kernel
theorem dX11_text_42 : decode cX11_text 42 = .ok (.ifCond .ge 43, 3) := by decide +kernel
theorem dX11_text_45 : decode cX11_text 45 = .ok (.aload_n 0, 1) := by decide +kernel
theorem dX11_text_46 : decode cX11_text 46 = .ok (.iload_n 1, 1) := by decide +kernel
theorem dX11_text_47 : decode cX11_text 47 = .ok (.invokevirtual 214, 3) := by decide +kernel
theorem dX11_text_50 : decode cX11_text 50 = .ok (.iinc 1 1, 3) := by decide +kernel
theorem dX11_text_53 : decode cX11_text 53 = .ok (.aload_n 0, 1) := by decide +kernel
theorem dX11_text_54 : decode cX11_text 54 = .ok (.getfield 202, 3) := by decide +kernel
theorem dX11_text_57 : decode cX11_text 57 = .ok (.ifCond .ge 15, 3) := by decide +kernel
theorem dX11_text_60 : decode cX11_text 60 = .ok (.aload_n 0, 1) := by decide +kernel
theorem dX11_text_61 : decode cX11_text 61 = .ok (.getfield 193, 3) := by decide +kernel
theorem dX11_text_64 : decode cX11_text 64 = .ok (.iconst 3, 1) := by decide +kernel
theorem dX11_text_65 : decode cX11_text 65 = .ok (.if_icmp .ne 7, 3) := by decide +kernel
theorem dX11_text_68 : decode cX11_text 68 = .ok (.iconst 1, 1) := by decide +kernel
theorem dX11_text_69 : decode cX11_text 69 = .ok (.goto 4, 3) := by decide +kernel
theorem dX11_text_72 : decode cX11_text 72 = .ok (.iconst 0, 1) := by decide +kernel
theorem dX11_text_73 : decode cX11_text 73 = .ok (.istore_n 2, 1) := by decide +kernel
theorem dX11_text_74 : decode cX11_text 74 = .ok (.iload_n 2, 1) := by decide +kernel
theorem dX11_text_75 : decode cX11_text 75 = .ok (.ifCond .eq (-41), 3) := by decide +kernel
theorem dX11_text_78 : decode cX11_text 78 = .ok (.aload_n 0, 1) := by decide +kernel
theorem dX11_text_79 : decode cX11_text 79 = .ok (.invokevirtual 208, 3) := by decide +kernel
theorem dX11_text_82 : decode cX11_text 82 = .ok (.goto (-48), 3) := by decide +kernel
theorem dX11_text_85 : decode cX11_text 85 = .ok (.aload_n 0, 1) := by decide +kernel
theorem dX11_text_86 : decode cX11_text 86 = .ok (.getfield 202, 3) := by decide +kernel
theorem dX11_text_89 : decode cX11_text 89 = .ok (.ifCond .ge 14, 3) := by decide +kernel
theorem dX11_text_92 : decode cX11_text 92 = .ok (.aload_n 0, 1) := by decide +kernel
theorem dX11_text_93 : decode cX11_text 93 = .ok (.getfield 193, 3) := by decide +kernel
theorem dX11_text_96 : decode cX11_text 96 = .ok (.ifCond .eq 7, 3) := by decide +kernel
theorem dX11_text_99 : decode cX11_text 99 = .ok (.aload_n 0, 1) := by decide +kernel
theorem dX11_text_100 : decode cX11_text 100 = .ok (.invokevirtual 205, 3) := by decide +kernel
theorem dX11_text_103 : decode cX11_text 103 = .ok (.aload_n 0, 1) := by decide +kernel
theorem dX11_text_104 : decode cX11_text 104 = .ok (.getfield 202, 3) := by decide +kernel
theorem dX11_text_107 : decode cX11_text 107 = .ok (.ifCond .lt 10, 3) := by decide +kernel
theorem dX11_text_110 : decode cX11_text 110 = .ok (.iconst (-1), 1) := by decide +kernel
theorem dX11_text_111 : decode cX11_text 111 = .ok (.aload_n 0, 1) := by decide +kernel
theorem dX11_text_112 : decode cX11_text 112 = .ok (.getfield 202, 3) := by decide +kernel
theorem dX11_text_115 : decode cX11_text 115 = .ok (.isub, 1) := by decide +kernel
theorem dX11_text_116 : decode cX11_text 116 = .ok (.ireturn, 1) := by decide +kernel
theorem dX11_text_117 : decode cX11_text 117 = .ok (.aload_n 0, 1) := by decide +kernel
theorem dX11_text_118 : decode cX11_text 118 = .ok (.iconst 0, 1) := by decide +kernel
theorem dX11_text_119 : decode cX11_text 119 = .ok (.putfield 175, 3) := by decide +kernel
theorem dX11_text_122 : decode cX11_text 122 = .ok (.aload_n 0, 1) := by decide +kernel
theorem dX11_text_123 : decode cX11_text 123 = .ok (.getfield 7, 3) := by decide +kernel
theorem dX11_text_126 : decode cX11_text 126 = .ok (.aload_n 0, 1) := by decide +kernel
theorem dX11_text_127 : decode cX11_text 127 = .ok (.getfield 160, 3) := by decide +kernel
theorem dX11_text_130 : decode cX11_text 130 = .ok (.iload_n 1, 1) := by decide +kernel
theorem dX11_text_131 : decode cX11_text 131 = .ok (.iastore, 1) := by decide +kernel
theorem dX11_text_132 : decode cX11_text 132 = .ok (.aload_n 0, 1) := by decide +kernel
theorem dX11_text_133 : decode cX11_text 133 = .ok (.dup, 1) := by decide +kernel
theorem dX11_text_134 : decode cX11_text 134 = .ok (.getfield 160, 3) := by decide +kernel
theorem dX11_text_137 : decode cX11_text 137 = .ok (.iconst 1, 1) := by decide +kernel
theorem dX11_text_138 : decode cX11_text 138 = .ok (.iadd, 1) := by decide +kernel
theorem dX11_text_139 : decode cX11_text 139 = .ok (.putfield 160, 3) := by decide +kernel
theorem dX11_text_142 : decode cX11_text 142 = .ok (.aload_n 0, 1) := by decide +kernel
theorem dX11_text_143 : decode cX11_text 143 = .ok (.iconst 0, 1) := by decide +kernel
theorem dX11_text_144 : decode cX11_text 144 = .ok (.putfield 218, 3) := by decide +kernel
theorem dX11_text_147 : decode cX11_text 147 = .ok (.aload_n 0, 1) := by decide +kernel
theorem dX11_text_148 : decode cX11_text 148 = .ok (.getfield 160, 3) := by decide +kernel
theorem dX11_text_151 : decode cX11_text 151 = .ok (.iconst 1, 1) := by decide +kernel
theorem dX11_text_152 : decode cX11_text 152 = .ok (.isub, 1) := by decide +kernel
theorem dX11_text_153 : decode cX11_text 153 = .ok (.ireturn, 1) := by decide +kernel
theorem dX11_steps_0 : decode cX11_steps 0 = .ok (.aload_n 0, 1) := by decide +kernel
theorem dX11_steps_1 : decode cX11_steps 1 = .ok (.iload_n 1, 1) := by decide +kernel
theorem dX11_steps_2 : decode cX11_steps 2 = .ok (.invokevirtual 167, 3) := by decide +kernel
theorem dX11_steps_5 : decode cX11_steps 5 = .ok (.ifCond .eq 12, 3) := by decide +kernel
theorem dX11_steps_8 : decode cX11_steps 8 = .ok (.aload_n 0, 1) := by decide +kernel
theorem dX11_steps_9 : decode cX11_steps 9 = .ok (.getfield 7, 3) := by decide +kernel
theorem dX11_steps_12 : decode cX11_steps 12 = .ok (.iload_n 1, 1) := by decide +kernel
theorem dX11_steps_13 : decode cX11_steps 13 = .ok (.iaload, 1) := by decide +kernel
theorem dX11_steps_14 : decode cX11_steps 14 = .ok (.goto 9, 3) := by decide +kernel
theorem dX11_steps_17 : decode cX11_steps 17 = .ok (.aload_n 0, 1) := by decide +kernel
theorem dX11_steps_18 : decode cX11_steps 18 = .ok (.ldc 159, 2) := by decide +kernel
theorem dX11_steps_20 : decode cX11_steps 20 = .ok (.invokevirtual 171, 3) := by decide +kernel
theorem dX11_steps_23 : decode cX11_steps 23 = .ok (.ireturn, 1) := by decide +kernel
theorem dX11_step_0 : decode cX11_step 0 = .ok (.aload_n 0, 1) := by decide +kernel
theorem dX11_step_1 : decode cX11_step 1 = .ok (.iload_n 1, 1) := by decide +kernel
theorem dX11_step_2 : decode cX11_step 2 = .ok (.iload_n 2, 1) := by decide +kernel
theorem dX11_step_3 : decode cX11_step 3 = .ok (.invokevirtual 222, 3) := by decide +kernel
theorem dX11_step_6 : decode cX11_step 6 = .ok (.ifCond .eq 12, 3) := by decide +kernel
theorem dX11_step_9 : decode cX11_step 9 = .ok (.iload_n 3, 1) := by decide +kernel
theorem dX11_step_10 : decode cX11_step 10 = .ok (.iconst 0, 1) := by decide +kernel
theorem dX11_step_11 : decode cX11_step 11 = .ok (.iconst 4, 1) := by decide +kernel
theorem dX11_step_12 : decode cX11_step 12 = .ok (.invokestatic 163, 3) := by decide +kernel
theorem dX11_step_15 : decode cX11_step 15 = .ok (.ifCond .ne 10, 3) := by decide +kernel
theorem dX11_step_18 : decode cX11_step 18 = .ok (.aload_n 0, 1) := by decide +kernel
theorem dX11_step_19 : decode cX11_step 19 = .ok (.ldc 159, 2) := by decide +kernel
theorem dX11_step_21 : decode cX11_step 21 = .ok (.invokevirtual 171, 3) := by decide +kernel
theorem dX11_step_24 : decode cX11_step 24 = .ok (.ireturn, 1) := by decide +kernel
theorem dX11_step_25 : decode cX11_step 25 = .ok (.bipush 7, 2) := by decide +kernel
theorem dX11_step_27 : decode cX11_step 27 = .ok (.iload_n 1, 1) := by decide +kernel
theorem dX11_step_28 : decode cX11_step 28 = .ok (.imul, 1) := by decide +kernel
theorem dX11_step_29 : decode cX11_step 29 = .ok (.iload_n 2, 1) := by decide +kernel
theorem dX11_step_30 : decode cX11_step 30 = .ok (.iadd, 1) := by decide +kernel
theorem dX11_step_31 : decode cX11_step 31 = .ok (.istore 4, 2) := by decide +kernel
theorem dX11_step_33 : decode cX11_step 33 = .ok (.aload_n 0, 1) := by decide +kernel
theorem dX11_step_34 : decode cX11_step 34 = .ok (.getfield 13, 3) := by decide +kernel
theorem dX11_step_37 : decode cX11_step 37 = .ok (.iload 4, 2) := by decide +kernel
theorem dX11_step_39 : decode cX11_step 39 = .ok (.iaload, 1) := by decide +kernel
theorem dX11_step_40 : decode cX11_step 40 = .ok (.istore 5, 2) := by decide +kernel
theorem dX11_step_42 : decode cX11_step 42 = .ok (.iload_n 3, 1) := by decide +kernel
theorem dX11_step_43 : decode cX11_step 43 = .ok (.tableswitch 124 0 3 #[29, 32, 59, 101], 29) := by decide +kernel
theorem dX11_step_72 : decode cX11_step 72 = .ok (.iload 5, 2) := by decide +kernel
theorem dX11_step_74 : decode cX11_step 74 = .ok (.ireturn, 1) := by decide +kernel
theorem dX11_step_75 : decode cX11_step 75 = .ok (.iload 5, 2) := by decide +kernel
theorem dX11_step_77 : decode cX11_step 77 = .ok (.iconst 1, 1) := by decide +kernel
theorem dX11_step_78 : decode cX11_step 78 = .ok (.iconst 4, 1) := by decide +kernel
theorem dX11_step_79 : decode cX11_step 79 = .ok (.invokestatic 163, 3) := by decide +kernel
theorem dX11_step_82 : decode cX11_step 82 = .ok (.ifCond .eq 13, 3) := by decide +kernel
theorem dX11_step_85 : decode cX11_step 85 = .ok (.aload_n 0, 1) := by decide +kernel
theorem dX11_step_86 : decode cX11_step 86 = .ok (.getfield 16, 3) := by decide +kernel
theorem dX11_step_89 : decode cX11_step 89 = .ok (.iload 4, 2) := by decide +kernel
theorem dX11_step_91 : decode cX11_step 91 = .ok (.iaload, 1) := by decide +kernel
theorem dX11_step_92 : decode cX11_step 92 = .ok (.goto 9, 3) := by decide +kernel
theorem dX11_step_95 : decode cX11_step 95 = .ok (.aload_n 0, 1) := by decide +kernel
theorem dX11_step_96 : decode cX11_step 96 = .ok (.ldc 226, 2) := by decide +kernel
theorem dX11_step_98 : decode cX11_step 98 = .ok (.invokevirtual 171, 3) := by decide +kernel
theorem dX11_step_101 : decode cX11_step 101 = .ok (.ireturn, 1) := by decide +kernel
theorem dX11_step_102 : decode cX11_step 102 = .ok (.iload 5, 2) := by decide +kernel
theorem dX11_step_104 : decode cX11_step 104 = .ok (.iconst 2, 1) := by decide +kernel
theorem dX11_step_105 : decode cX11_step 105 = .ok (.if_icmp .eq 22, 3) := by decide +kernel
theorem dX11_step_108 : decode cX11_step 108 = .ok (.iload 5, 2) := by decide +kernel
theorem dX11_step_110 : decode cX11_step 110 = .ok (.iconst 3, 1) := by decide +kernel
theorem dX11_step_111 : decode cX11_step 111 = .ok (.if_icmp .eq 16, 3) := by decide +kernel
theorem dX11_step_114 : decode cX11_step 114 = .ok (.iload 5, 2) := by decide +kernel
theorem dX11_step_116 : decode cX11_step 116 = .ok (.iconst 4, 1) := by decide +kernel
theorem dX11_step_117 : decode cX11_step 117 = .ok (.if_icmp .eq 10, 3) := by decide +kernel
theorem dX11_step_120 : decode cX11_step 120 = .ok (.iload 5, 2) := by decide +kernel
theorem dX11_step_122 : decode cX11_step 122 = .ok (.bipush 7, 2) := by decide +kernel
theorem dX11_step_124 : decode cX11_step 124 = .ok (.if_icmp .ne 13, 3) := by decide +kernel
theorem dX11_step_127 : decode cX11_step 127 = .ok (.aload_n 0, 1) := by decide +kernel
theorem dX11_step_128 : decode cX11_step 128 = .ok (.getfield 19, 3) := by decide +kernel
theorem dX11_step_131 : decode cX11_step 131 = .ok (.iload 4, 2) := by decide +kernel
theorem dX11_step_133 : decode cX11_step 133 = .ok (.iaload, 1) := by decide +kernel
theorem dX11_step_134 : decode cX11_step 134 = .ok (.goto 9, 3) := by decide +kernel
theorem dX11_step_137 : decode cX11_step 137 = .ok (.aload_n 0, 1) := by decide +kernel
theorem dX11_step_138 : decode cX11_step 138 = .ok (.ldc 226, 2) := by decide +kernel
theorem dX11_step_140 : decode cX11_step 140 = .ok (.invokevirtual 171, 3) := by decide +kernel
theorem dX11_step_143 : decode cX11_step 143 = .ok (.ireturn, 1) := by decide +kernel
theorem dX11_step_144 : decode cX11_step 144 = .ok (.iload 5, 2) := by decide +kernel
theorem dX11_step_146 : decode cX11_step 146 = .ok (.iconst 3, 1) := by decide +kernel
theorem dX11_step_147 : decode cX11_step 147 = .ok (.if_icmp .ne 13, 3) := by decide +kernel
theorem dX11_step_150 : decode cX11_step 150 = .ok (.aload_n 0, 1) := by decide +kernel
theorem dX11_step_151 : decode cX11_step 151 = .ok (.getfield 22, 3) := by decide +kernel
theorem dX11_step_154 : decode cX11_step 154 = .ok (.iload 4, 2) := by decide +kernel
theorem dX11_step_156 : decode cX11_step 156 = .ok (.iaload, 1) := by decide +kernel
theorem dX11_step_157 : decode cX11_step 157 = .ok (.goto 9, 3) := by decide +kernel
theorem dX11_step_160 : decode cX11_step 160 = .ok (.aload_n 0, 1) := by decide +kernel
theorem dX11_step_161 : decode cX11_step 161 = .ok (.ldc 226, 2) := by decide +kernel
theorem dX11_step_163 : decode cX11_step 163 = .ok (.invokevirtual 171, 3) := by decide +kernel
theorem dX11_step_166 : decode cX11_step 166 = .ok (.ireturn, 1) := by decide +kernel
theorem dX11_step_167 : decode cX11_step 167 = .ok (.iload 5, 2) := by decide +kernel
theorem dX11_step_169 : decode cX11_step 169 = .ok (.bipush 6, 2) := by decide +kernel
theorem dX11_step_171 : decode cX11_step 171 = .ok (.if_icmp .ne 13, 3) := by decide +kernel
theorem dX11_step_174 : decode cX11_step 174 = .ok (.aload_n 0, 1) := by decide +kernel
theorem dX11_step_175 : decode cX11_step 175 = .ok (.getfield 25, 3) := by decide +kernel
theorem dX11_step_178 : decode cX11_step 178 = .ok (.iload 4, 2) := by decide +kernel
theorem dX11_step_180 : decode cX11_step 180 = .ok (.iaload, 1) := by decide +kernel
theorem dX11_step_181 : decode cX11_step 181 = .ok (.goto 9, 3) := by decide +kernel
theorem dX11_step_184 : decode cX11_step 184 = .ok (.aload_n 0, 1) := by decide +kernel
theorem dX11_step_185 : decode cX11_step 185 = .ok (.ldc 226, 2) := by decide +kernel
theorem dX11_step_187 : decode cX11_step 187 = .ok (.invokevirtual 171, 3) := by decide +kernel
theorem dX11_step_190 : decode cX11_step 190 = .ok (.ireturn, 1) := by decide +kernel
theorem dX11_as_0 : decode cX11_as 0 = .ok (.aload_n 0, 1) := by decide +kernel
theorem dX11_as_1 : decode cX11_as 1 = .ok (.iload_n 1, 1) := by decide +kernel
theorem dX11_as_2 : decode cX11_as 2 = .ok (.iload_n 2, 1) := by decide +kernel
theorem dX11_as_3 : decode cX11_as 3 = .ok (.invokevirtual 222, 3) := by decide +kernel
theorem dX11_as_6 : decode cX11_as 6 = .ok (.ifCond .eq 13, 3) := by decide +kernel
theorem dX11_as_9 : decode cX11_as 9 = .ok (.iload_n 3, 1) := by decide +kernel
theorem dX11_as_10 : decode cX11_as 10 = .ok (.iconst 0, 1) := by decide +kernel
theorem dX11_as_11 : decode cX11_as 11 = .ok (.bipush 7, 2) := by decide +kernel
theorem dX11_as_13 : decode cX11_as 13 = .ok (.invokestatic 163, 3) := by decide +kernel
theorem dX11_as_16 : decode cX11_as 16 = .ok (.ifCond .ne 10, 3) := by decide +kernel
theorem dX11_as_19 : decode cX11_as 19 = .ok (.aload_n 0, 1) := by decide +kernel
theorem dX11_as_20 : decode cX11_as 20 = .ok (.ldc 159, 2) := by decide +kernel
theorem dX11_as_22 : decode cX11_as 22 = .ok (.invokevirtual 171, 3) := by decide +kernel
theorem dX11_as_25 : decode cX11_as 25 = .ok (.ireturn, 1) := by decide +kernel
theorem dX11_as_26 : decode cX11_as 26 = .ok (.aload_n 0, 1) := by decide +kernel
theorem dX11_as_27 : decode cX11_as 27 = .ok (.getfield 13, 3) := by decide +kernel
theorem dX11_as_30 : decode cX11_as 30 = .ok (.bipush 7, 2) := by decide +kernel
theorem dX11_as_32 : decode cX11_as 32 = .ok (.iload_n 1, 1) := by decide +kernel
theorem dX11_as_33 : decode cX11_as 33 = .ok (.imul, 1) := by decide +kernel
theorem dX11_as_34 : decode cX11_as 34 = .ok (.iload_n 2, 1) := by decide +kernel
theorem dX11_as_35 : decode cX11_as 35 = .ok (.iadd, 1) := by decide +kernel
theorem dX11_as_36 : decode cX11_as 36 = .ok (.iaload, 1) := by decide +kernel
theorem dX11_as_37 : decode cX11_as 37 = .ok (.istore 4, 2) := by decide +kernel
theorem dX11_as_39 : decode cX11_as 39 = .ok (.iload_n 3, 1) := by decide +kernel
theorem dX11_as_40 : decode cX11_as 40 = .ok (.ifCond .eq 20, 3) := by decide +kernel
theorem dX11_as_43 : decode cX11_as 43 = .ok (.iload_n 3, 1) := by decide +kernel
theorem dX11_as_44 : decode cX11_as 44 = .ok (.iload 4, 2) := by decide +kernel
theorem dX11_as_46 : decode cX11_as 46 = .ok (.if_icmp .eq 14, 3) := by decide +kernel
theorem dX11_as_49 : decode cX11_as 49 = .ok (.iload_n 3, 1) := by decide +kernel
theorem dX11_as_50 : decode cX11_as 50 = .ok (.iconst 3, 1) := by decide +kernel
theorem dX11_as_51 : decode cX11_as 51 = .ok (.if_icmp .ne 14, 3) := by decide +kernel
theorem dX11_as_54 : decode cX11_as 54 = .ok (.iload 4, 2) := by decide +kernel
theorem dX11_as_56 : decode cX11_as 56 = .ok (.iconst 4, 1) := by decide +kernel
theorem dX11_as_57 : decode cX11_as 57 = .ok (.if_icmp .ne 8, 3) := by decide +kernel
theorem dX11_as_60 : decode cX11_as 60 = .ok (.iload 4, 2) := by decide +kernel
theorem dX11_as_62 : decode cX11_as 62 = .ok (.goto 9, 3) := by decide +kernel
theorem dX11_as_65 : decode cX11_as 65 = .ok (.aload_n 0, 1) := by decide +kernel
theorem dX11_as_66 : decode cX11_as 66 = .ok (.ldc 226, 2) := by decide +kernel
theorem dX11_as_68 : decode cX11_as 68 = .ok (.invokevirtual 171, 3) := by decide +kernel
theorem dX11_as_71 : decode cX11_as 71 = .ok (.ireturn, 1) := by decide +kernel
theorem dX11_hasValue_0 : decode cX11_hasValue 0 = .ok (.aload_n 0, 1) := by decide +kernel
theorem dX11_hasValue_1 : decode cX11_hasValue 1 = .ok (.getfield 13, 3) := by decide +kernel
theorem dX11_hasValue_4 : decode cX11_hasValue 4 = .ok (.iload_n 1, 1) := by decide +kernel
theorem dX11_hasValue_5 : decode cX11_hasValue 5 = .ok (.iaload, 1) := by decide +kernel
theorem dX11_hasValue_6 : decode cX11_hasValue 6 = .ok (.iconst 3, 1) := by decide +kernel
theorem dX11_hasValue_7 : decode cX11_hasValue 7 = .ok (.if_icmp .eq 43, 3) := by decide +kernel
theorem dX11_hasValue_10 : decode cX11_hasValue 10 = .ok (.aload_n 0, 1) := by decide +kernel
theorem dX11_hasValue_11 : decode cX11_hasValue 11 = .ok (.getfield 13, 3) := by decide +kernel
theorem dX11_hasValue_14 : decode cX11_hasValue 14 = .ok (.iload_n 1, 1) := by decide +kernel
theorem dX11_hasValue_15 : decode cX11_hasValue 15 = .ok (.iaload, 1) := by decide +kernel
theorem dX11_hasValue_16 : decode cX11_hasValue 16 = .ok (.iconst 4, 1) := by decide +kernel
theorem dX11_hasValue_17 : decode cX11_hasValue 17 = .ok (.if_icmp .eq 33, 3) := by decide +kernel
theorem dX11_hasValue_20 : decode cX11_hasValue 20 = .ok (.aload_n 0, 1) := by decide +kernel
theorem dX11_hasValue_21 : decode cX11_hasValue 21 = .ok (.getfield 13, 3) := by decide +kernel
theorem dX11_hasValue_24 : decode cX11_hasValue 24 = .ok (.iload_n 1, 1) := by decide +kernel
theorem dX11_hasValue_25 : decode cX11_hasValue 25 = .ok (.iaload, 1) := by decide +kernel
theorem dX11_hasValue_26 : decode cX11_hasValue 26 = .ok (.bipush 7, 2) := by decide +kernel
theorem dX11_hasValue_28 : decode cX11_hasValue 28 = .ok (.if_icmp .eq 22, 3) := by decide +kernel
theorem dX11_hasValue_31 : decode cX11_hasValue 31 = .ok (.aload_n 0, 1) := by decide +kernel
theorem dX11_hasValue_32 : decode cX11_hasValue 32 = .ok (.getfield 13, 3) := by decide +kernel
theorem dX11_hasValue_35 : decode cX11_hasValue 35 = .ok (.iload_n 1, 1) := by decide +kernel
theorem dX11_hasValue_36 : decode cX11_hasValue 36 = .ok (.iaload, 1) := by decide +kernel
theorem dX11_hasValue_37 : decode cX11_hasValue 37 = .ok (.iconst 2, 1) := by decide +kernel
theorem dX11_hasValue_38 : decode cX11_hasValue 38 = .ok (.if_icmp .ne 16, 3) := by decide +kernel
theorem dX11_hasValue_41 : decode cX11_hasValue 41 = .ok (.aload_n 0, 1) := by decide +kernel
theorem dX11_hasValue_42 : decode cX11_hasValue 42 = .ok (.getfield 19, 3) := by decide +kernel
theorem dX11_hasValue_45 : decode cX11_hasValue 45 = .ok (.iload_n 1, 1) := by decide +kernel
theorem dX11_hasValue_46 : decode cX11_hasValue 46 = .ok (.iaload, 1) := by decide +kernel
theorem dX11_hasValue_47 : decode cX11_hasValue 47 = .ok (.ifCond .lt 7, 3) := by decide +kernel
theorem dX11_hasValue_50 : decode cX11_hasValue 50 = .ok (.iconst 1, 1) := by decide +kernel
theorem dX11_hasValue_51 : decode cX11_hasValue 51 = .ok (.goto 4, 3) := by decide +kernel
theorem dX11_hasValue_54 : decode cX11_hasValue 54 = .ok (.iconst 0, 1) := by decide +kernel
theorem dX11_hasValue_55 : decode cX11_hasValue 55 = .ok (.ireturn, 1) := by decide +kernel
theorem dX11_put_0 : decode cX11_put 0 = .ok (.aload_n 0, 1) := by decide +kernel
theorem dX11_put_1 : decode cX11_put 1 = .ok (.getfield 13, 3) := by decide +kernel
theorem dX11_put_4 : decode cX11_put 4 = .ok (.iload_n 1, 1) := by decide +kernel
theorem dX11_put_5 : decode cX11_put 5 = .ok (.iaload, 1) := by decide +kernel
theorem dX11_put_6 : decode cX11_put 6 = .ok (.iconst 3, 1) := by decide +kernel
theorem dX11_put_7 : decode cX11_put 7 = .ok (.if_icmp .ne 12, 3) := by decide +kernel
theorem dX11_put_10 : decode cX11_put 10 = .ok (.aload_n 0, 1) := by decide +kernel
theorem dX11_put_11 : decode cX11_put 11 = .ok (.getfield 22, 3) := by decide +kernel
theorem dX11_put_14 : decode cX11_put 14 = .ok (.iload_n 1, 1) := by decide +kernel
theorem dX11_put_15 : decode cX11_put 15 = .ok (.iaload, 1) := by decide +kernel
theorem dX11_put_16 : decode cX11_put 16 = .ok (.goto 9, 3) := by decide +kernel
theorem dX11_put_19 : decode cX11_put 19 = .ok (.aload_n 0, 1) := by decide +kernel
theorem dX11_put_20 : decode cX11_put 20 = .ok (.getfield 19, 3) := by decide +kernel
theorem dX11_put_23 : decode cX11_put 23 = .ok (.iload_n 1, 1) := by decide +kernel
theorem dX11_put_24 : decode cX11_put 24 = .ok (.iaload, 1) := by decide +kernel
theorem dX11_put_25 : decode cX11_put 25 = .ok (.istore_n 3, 1) := by decide +kernel
theorem dX11_put_26 : decode cX11_put 26 = .ok (.aload_n 0, 1) := by decide +kernel
theorem dX11_put_27 : decode cX11_put 27 = .ok (.getfield 22, 3) := by decide +kernel
theorem dX11_put_30 : decode cX11_put 30 = .ok (.iload_n 1, 1) := by decide +kernel
theorem dX11_put_31 : decode cX11_put 31 = .ok (.aload_n 0, 1) := by decide +kernel
theorem dX11_put_32 : decode cX11_put 32 = .ok (.getfield 13, 3) := by decide +kernel
theorem dX11_put_35 : decode cX11_put 35 = .ok (.iload_n 1, 1) := by decide +kernel
theorem dX11_put_36 : decode cX11_put 36 = .ok (.iaload, 1) := by decide +kernel
theorem dX11_put_37 : decode cX11_put 37 = .ok (.iconst 3, 1) := by decide +kernel
theorem dX11_put_38 : decode cX11_put 38 = .ok (.if_icmp .ne 7, 3) := by decide +kernel
theorem dX11_put_41 : decode cX11_put 41 = .ok (.iload_n 2, 1) := by decide +kernel
theorem dX11_put_42 : decode cX11_put 42 = .ok (.goto 9, 3) := by decide +kernel
theorem dX11_put_45 : decode cX11_put 45 = .ok (.aload_n 0, 1) := by decide +kernel
theorem dX11_put_46 : decode cX11_put 46 = .ok (.getfield 22, 3) := by decide +kernel
theorem dX11_put_49 : decode cX11_put 49 = .ok (.iload_n 1, 1) := by decide +kernel
theorem dX11_put_50 : decode cX11_put 50 = .ok (.iaload, 1) := by decide +kernel
theorem dX11_put_51 : decode cX11_put 51 = .ok (.iastore, 1) := by decide +kernel
theorem dX11_put_52 : decode cX11_put 52 = .ok (.aload_n 0, 1) := by decide +kernel
theorem dX11_put_53 : decode cX11_put 53 = .ok (.getfield 19, 3) := by decide +kernel
theorem dX11_put_56 : decode cX11_put 56 = .ok (.iload_n 1, 1) := by decide +kernel
theorem dX11_put_57 : decode cX11_put 57 = .ok (.aload_n 0, 1) := by decide +kernel
theorem dX11_put_58 : decode cX11_put 58 = .ok (.getfield 13, 3) := by decide +kernel
theorem dX11_put_61 : decode cX11_put 61 = .ok (.iload_n 1, 1) := by decide +kernel
theorem dX11_put_62 : decode cX11_put 62 = .ok (.iaload, 1) := by decide +kernel
theorem dX11_put_63 : decode cX11_put 63 = .ok (.iconst 3, 1) := by decide +kernel
theorem dX11_put_64 : decode cX11_put 64 = .ok (.if_icmp .ne 12, 3) := by decide +kernel
theorem dX11_put_67 : decode cX11_put 67 = .ok (.aload_n 0, 1) := by decide +kernel
theorem dX11_put_68 : decode cX11_put 68 = .ok (.getfield 19, 3) := by decide +kernel
theorem dX11_put_71 : decode cX11_put 71 = .ok (.iload_n 1, 1) := by decide +kernel
theorem dX11_put_72 : decode cX11_put 72 = .ok (.iaload, 1) := by decide +kernel
theorem dX11_put_73 : decode cX11_put 73 = .ok (.goto 4, 3) := by decide +kernel
theorem dX11_put_76 : decode cX11_put 76 = .ok (.iload_n 2, 1) := by decide +kernel
theorem dX11_put_77 : decode cX11_put 77 = .ok (.iastore, 1) := by decide +kernel
theorem dX11_put_78 : decode cX11_put 78 = .ok (.aload_n 0, 1) := by decide +kernel
theorem dX11_put_79 : decode cX11_put 79 = .ok (.iconst 0, 1) := by decide +kernel
theorem dX11_put_80 : decode cX11_put 80 = .ok (.putfield 218, 3) := by decide +kernel
theorem dX11_put_83 : decode cX11_put 83 = .ok (.iload_n 3, 1) := by decide +kernel
theorem dX11_put_84 : decode cX11_put 84 = .ok (.ireturn, 1) := by decide +kernel
theorem dX11_change_0 : decode cX11_change 0 = .ok (.aload_n 0, 1) := by decide +kernel
theorem dX11_change_1 : decode cX11_change 1 = .ok (.iload_n 1, 1) := by decide +kernel
theorem dX11_change_2 : decode cX11_change 2 = .ok (.iload_n 2, 1) := by decide +kernel
theorem dX11_change_3 : decode cX11_change 3 = .ok (.invokevirtual 222, 3) := by decide +kernel
theorem dX11_change_6 : decode cX11_change 6 = .ok (.ifCond .eq 12, 3) := by decide +kernel
theorem dX11_change_9 : decode cX11_change 9 = .ok (.iload_n 3, 1) := by decide +kernel
theorem dX11_change_10 : decode cX11_change 10 = .ok (.iconst 0, 1) := by decide +kernel
theorem dX11_change_11 : decode cX11_change 11 = .ok (.iconst 3, 1) := by decide +kernel
theorem dX11_change_12 : decode cX11_change 12 = .ok (.invokestatic 163, 3) := by decide +kernel
theorem dX11_change_15 : decode cX11_change 15 = .ok (.ifCond .ne 10, 3) := by decide +kernel
theorem dX11_change_18 : decode cX11_change 18 = .ok (.aload_n 0, 1) := by decide +kernel
theorem dX11_change_19 : decode cX11_change 19 = .ok (.ldc 159, 2) := by decide +kernel
theorem dX11_change_21 : decode cX11_change 21 = .ok (.invokevirtual 171, 3) := by decide +kernel
theorem dX11_change_24 : decode cX11_change 24 = .ok (.ireturn, 1) := by decide +kernel
theorem dX11_change_25 : decode cX11_change 25 = .ok (.bipush 7, 2) := by decide +kernel
theorem dX11_change_27 : decode cX11_change 27 = .ok (.iload_n 1, 1) := by decide +kernel
theorem dX11_change_28 : decode cX11_change 28 = .ok (.imul, 1) := by decide +kernel
theorem dX11_change_29 : decode cX11_change 29 = .ok (.iload_n 2, 1) := by decide +kernel
theorem dX11_change_30 : decode cX11_change 30 = .ok (.iadd, 1) := by decide +kernel
theorem dX11_change_31 : decode cX11_change 31 = .ok (.istore 4, 2) := by decide +kernel
theorem dX11_change_33 : decode cX11_change 33 = .ok (.aload_n 0, 1) := by decide +kernel
theorem dX11_change_34 : decode cX11_change 34 = .ok (.iload 4, 2) := by decide +kernel
theorem dX11_change_36 : decode cX11_change 36 = .ok (.invokevirtual 227, 3) := by decide +kernel
theorem dX11_change_39 : decode cX11_change 39 = .ok (.ifCond .eq 13, 3) := by decide +kernel
theorem dX11_change_42 : decode cX11_change 42 = .ok (.aload_n 0, 1) := by decide +kernel
theorem dX11_change_43 : decode cX11_change 43 = .ok (.iload 4, 2) := by decide +kernel
theorem dX11_change_45 : decode cX11_change 45 = .ok (.iload_n 3, 1) := by decide +kernel
theorem dX11_change_46 : decode cX11_change 46 = .ok (.invokevirtual 230, 3) := by decide +kernel
theorem dX11_change_49 : decode cX11_change 49 = .ok (.goto 9, 3) := by decide +kernel
theorem dX11_change_52 : decode cX11_change 52 = .ok (.aload_n 0, 1) := by decide +kernel
theorem dX11_change_53 : decode cX11_change 53 = .ok (.ldc 226, 2) := by decide +kernel
theorem dX11_change_55 : decode cX11_change 55 = .ok (.invokevirtual 171, 3) := by decide +kernel
theorem dX11_change_58 : decode cX11_change 58 = .ok (.ireturn, 1) := by decide +kernel
theorem dX11_cell_0 : decode cX11_cell 0 = .ok (.iload_n 1, 1) := by decide +kernel
theorem dX11_cell_1 : decode cX11_cell 1 = .ok (.iconst 0, 1) := by decide +kernel
theorem dX11_cell_2 : decode cX11_cell 2 = .ok (.iconst 2, 1) := by decide +kernel
theorem dX11_cell_3 : decode cX11_cell 3 = .ok (.invokestatic 163, 3) := by decide +kernel
theorem dX11_cell_6 : decode cX11_cell 6 = .ok (.ifCond .eq 12, 3) := by decide +kernel
theorem dX11_cell_9 : decode cX11_cell 9 = .ok (.iload_n 2, 1) := by decide +kernel
theorem dX11_cell_10 : decode cX11_cell 10 = .ok (.iconst 0, 1) := by decide +kernel
theorem dX11_cell_11 : decode cX11_cell 11 = .ok (.iconst 3, 1) := by decide +kernel
theorem dX11_cell_12 : decode cX11_cell 12 = .ok (.invokestatic 163, 3) := by decide +kernel
theorem dX11_cell_15 : decode cX11_cell 15 = .ok (.ifCond .ne 10, 3) := by decide +kernel
theorem dX11_cell_18 : decode cX11_cell 18 = .ok (.aload_n 0, 1) := by decide +kernel
theorem dX11_cell_19 : decode cX11_cell 19 = .ok (.ldc 159, 2) := by decide +kernel
theorem dX11_cell_21 : decode cX11_cell 21 = .ok (.invokevirtual 171, 3) := by decide +kernel
theorem dX11_cell_24 : decode cX11_cell 24 = .ok (.ireturn, 1) := by decide +kernel
theorem dX11_cell_25 : decode cX11_cell 25 = .ok (.aload_n 0, 1) := by decide +kernel
theorem dX11_cell_26 : decode cX11_cell 26 = .ok (.getfield 34, 3) := by decide +kernel
theorem dX11_cell_29 : decode cX11_cell 29 = .ok (.iload_n 1, 1) := by decide +kernel
theorem dX11_cell_30 : decode cX11_cell 30 = .ok (.iaload, 1) := by decide +kernel
theorem dX11_cell_31 : decode cX11_cell 31 = .ok (.istore_n 3, 1) := by decide +kernel
theorem dX11_cell_32 : decode cX11_cell 32 = .ok (.aload_n 0, 1) := by decide +kernel
theorem dX11_cell_33 : decode cX11_cell 33 = .ok (.getfield 34, 3) := by decide +kernel
theorem dX11_cell_36 : decode cX11_cell 36 = .ok (.iload_n 1, 1) := by decide +kernel
theorem dX11_cell_37 : decode cX11_cell 37 = .ok (.iload_n 2, 1) := by decide +kernel
theorem dX11_cell_38 : decode cX11_cell 38 = .ok (.iastore, 1) := by decide +kernel
theorem dX11_cell_39 : decode cX11_cell 39 = .ok (.aload_n 0, 1) := by decide +kernel
theorem dX11_cell_40 : decode cX11_cell 40 = .ok (.iconst 0, 1) := by decide +kernel
theorem dX11_cell_41 : decode cX11_cell 41 = .ok (.putfield 218, 3) := by decide +kernel
theorem dX11_cell_44 : decode cX11_cell 44 = .ok (.iload_n 3, 1) := by decide +kernel
theorem dX11_cell_45 : decode cX11_cell 45 = .ok (.ireturn, 1) := by decide +kernel
theorem dX11_machine_0 : decode cX11_machine 0 = .ok (.iload_n 1, 1) := by decide +kernel
theorem dX11_machine_1 : decode cX11_machine 1 = .ok (.iconst 0, 1) := by decide +kernel
theorem dX11_machine_2 : decode cX11_machine 2 = .ok (.iconst 1, 1) := by decide +kernel
theorem dX11_machine_3 : decode cX11_machine 3 = .ok (.invokestatic 163, 3) := by decide +kernel
theorem dX11_machine_6 : decode cX11_machine 6 = .ok (.ifCond .ne 10, 3) := by decide +kernel
theorem dX11_machine_9 : decode cX11_machine 9 = .ok (.aload_n 0, 1) := by decide +kernel
theorem dX11_machine_10 : decode cX11_machine 10 = .ok (.ldc 159, 2) := by decide +kernel
theorem dX11_machine_12 : decode cX11_machine 12 = .ok (.invokevirtual 171, 3) := by decide +kernel
theorem dX11_machine_15 : decode cX11_machine 15 = .ok (.ireturn, 1) := by decide +kernel
theorem dX11_machine_16 : decode cX11_machine 16 = .ok (.aload_n 0, 1) := by decide +kernel
theorem dX11_machine_17 : decode cX11_machine 17 = .ok (.getfield 155, 3) := by decide +kernel
theorem dX11_machine_20 : decode cX11_machine 20 = .ok (.istore_n 2, 1) := by decide +kernel
theorem dX11_machine_21 : decode cX11_machine 21 = .ok (.aload_n 0, 1) := by decide +kernel
theorem dX11_machine_22 : decode cX11_machine 22 = .ok (.iload_n 1, 1) := by decide +kernel
theorem dX11_machine_23 : decode cX11_machine 23 = .ok (.putfield 155, 3) := by decide +kernel
theorem dX11_machine_26 : decode cX11_machine 26 = .ok (.aload_n 0, 1) := by decide +kernel
theorem dX11_machine_27 : decode cX11_machine 27 = .ok (.iconst 0, 1) := by decide +kernel
theorem dX11_machine_28 : decode cX11_machine 28 = .ok (.putfield 218, 3) := by decide +kernel
theorem dX11_machine_31 : decode cX11_machine 31 = .ok (.iload_n 2, 1) := by decide +kernel
theorem dX11_machine_32 : decode cX11_machine 32 = .ok (.ireturn, 1) := by decide +kernel
theorem dX11_hand_0 : decode cX11_hand 0 = .ok (.aload_n 0, 1) := by decide +kernel
theorem dX11_hand_1 : decode cX11_hand 1 = .ok (.iload_n 1, 1) := by decide +kernel
theorem dX11_hand_2 : decode cX11_hand 2 = .ok (.invokevirtual 167, 3) := by decide +kernel
theorem dX11_hand_5 : decode cX11_hand 5 = .ok (.ifCond .eq 16, 3) := by decide +kernel
theorem dX11_hand_8 : decode cX11_hand 8 = .ok (.iload_n 2, 1) := by decide +kernel
theorem dX11_hand_9 : decode cX11_hand 9 = .ok (.iconst (-1), 1) := by decide +kernel
theorem dX11_hand_10 : decode cX11_hand 10 = .ok (.if_icmp .eq 18, 3) := by decide +kernel
theorem dX11_hand_13 : decode cX11_hand 13 = .ok (.aload_n 0, 1) := by decide +kernel
theorem dX11_hand_14 : decode cX11_hand 14 = .ok (.iload_n 2, 1) := by decide +kernel
theorem dX11_hand_15 : decode cX11_hand 15 = .ok (.invokevirtual 167, 3) := by decide +kernel
theorem dX11_hand_18 : decode cX11_hand 18 = .ok (.ifCond .ne 10, 3) := by decide +kernel
theorem dX11_hand_21 : decode cX11_hand 21 = .ok (.aload_n 0, 1) := by decide +kernel
theorem dX11_hand_22 : decode cX11_hand 22 = .ok (.ldc 159, 2) := by decide +kernel
theorem dX11_hand_24 : decode cX11_hand 24 = .ok (.invokevirtual 171, 3) := by decide +kernel
theorem dX11_hand_27 : decode cX11_hand 27 = .ok (.ireturn, 1) := by decide +kernel
theorem dX11_hand_28 : decode cX11_hand 28 = .ok (.aload_n 0, 1) := by decide +kernel
theorem dX11_hand_29 : decode cX11_hand 29 = .ok (.getfield 234, 3) := by decide +kernel
theorem dX11_hand_32 : decode cX11_hand 32 = .ok (.iconst 3, 1) := by decide +kernel
theorem dX11_hand_33 : decode cX11_hand 33 = .ok (.if_icmp .ne 10, 3) := by decide +kernel
theorem dX11_hand_36 : decode cX11_hand 36 = .ok (.aload_n 0, 1) := by decide +kernel
theorem dX11_hand_37 : decode cX11_hand 37 = .ok (.ldc 178, 2) := by decide +kernel
theorem dX11_hand_39 : decode cX11_hand 39 = .ok (.invokevirtual 171, 3) := by decide +kernel
theorem dX11_hand_42 : decode cX11_hand 42 = .ok (.ireturn, 1) := by decide +kernel
theorem dX11_hand_43 : decode cX11_hand 43 = .ok (.aload_n 0, 1) := by decide +kernel
theorem dX11_hand_44 : decode cX11_hand 44 = .ok (.getfield 28, 3) := by decide +kernel
theorem dX11_hand_47 : decode cX11_hand 47 = .ok (.iconst 2, 1) := by decide +kernel
theorem dX11_hand_48 : decode cX11_hand 48 = .ok (.aload_n 0, 1) := by decide +kernel
theorem dX11_hand_49 : decode cX11_hand 49 = .ok (.getfield 234, 3) := by decide +kernel
theorem dX11_hand_52 : decode cX11_hand 52 = .ok (.imul, 1) := by decide +kernel
theorem dX11_hand_53 : decode cX11_hand 53 = .ok (.iload_n 1, 1) := by decide +kernel
theorem dX11_hand_54 : decode cX11_hand 54 = .ok (.iastore, 1) := by decide +kernel
theorem dX11_hand_55 : decode cX11_hand 55 = .ok (.aload_n 0, 1) := by decide +kernel
theorem dX11_hand_56 : decode cX11_hand 56 = .ok (.getfield 28, 3) := by decide +kernel
theorem dX11_hand_59 : decode cX11_hand 59 = .ok (.iconst 2, 1) := by decide +kernel
theorem dX11_hand_60 : decode cX11_hand 60 = .ok (.aload_n 0, 1) := by decide +kernel
theorem dX11_hand_61 : decode cX11_hand 61 = .ok (.getfield 234, 3) := by decide +kernel
theorem dX11_hand_64 : decode cX11_hand 64 = .ok (.imul, 1) := by decide +kernel
theorem dX11_hand_65 : decode cX11_hand 65 = .ok (.iconst 1, 1) := by decide +kernel
theorem dX11_hand_66 : decode cX11_hand 66 = .ok (.iadd, 1) := by decide +kernel
theorem dX11_hand_67 : decode cX11_hand 67 = .ok (.iload_n 2, 1) := by decide +kernel
theorem dX11_hand_68 : decode cX11_hand 68 = .ok (.iastore, 1) := by decide +kernel
theorem dX11_hand_69 : decode cX11_hand 69 = .ok (.aload_n 0, 1) := by decide +kernel
theorem dX11_hand_70 : decode cX11_hand 70 = .ok (.getfield 31, 3) := by decide +kernel
theorem dX11_hand_73 : decode cX11_hand 73 = .ok (.aload_n 0, 1) := by decide +kernel
theorem dX11_hand_74 : decode cX11_hand 74 = .ok (.getfield 234, 3) := by decide +kernel
theorem dX11_hand_77 : decode cX11_hand 77 = .ok (.iload_n 2, 1) := by decide +kernel
theorem dX11_hand_78 : decode cX11_hand 78 = .ok (.iconst (-1), 1) := by decide +kernel
theorem dX11_hand_79 : decode cX11_hand 79 = .ok (.if_icmp .ne 7, 3) := by decide +kernel
theorem dX11_hand_82 : decode cX11_hand 82 = .ok (.iconst 1, 1) := by decide +kernel
theorem dX11_hand_83 : decode cX11_hand 83 = .ok (.goto 4, 3) := by decide +kernel
theorem dX11_hand_86 : decode cX11_hand 86 = .ok (.iconst 2, 1) := by decide +kernel
theorem dX11_hand_87 : decode cX11_hand 87 = .ok (.iastore, 1) := by decide +kernel
theorem dX11_hand_88 : decode cX11_hand 88 = .ok (.aload_n 0, 1) := by decide +kernel
theorem dX11_hand_89 : decode cX11_hand 89 = .ok (.dup, 1) := by decide +kernel
theorem dX11_hand_90 : decode cX11_hand 90 = .ok (.getfield 234, 3) := by decide +kernel
theorem dX11_hand_93 : decode cX11_hand 93 = .ok (.iconst 1, 1) := by decide +kernel
theorem dX11_hand_94 : decode cX11_hand 94 = .ok (.iadd, 1) := by decide +kernel
theorem dX11_hand_95 : decode cX11_hand 95 = .ok (.putfield 234, 3) := by decide +kernel
theorem dX11_hand_98 : decode cX11_hand 98 = .ok (.aload_n 0, 1) := by decide +kernel
theorem dX11_hand_99 : decode cX11_hand 99 = .ok (.iconst 0, 1) := by decide +kernel
theorem dX11_hand_100 : decode cX11_hand 100 = .ok (.putfield 218, 3) := by decide +kernel
theorem dX11_hand_103 : decode cX11_hand 103 = .ok (.aload_n 0, 1) := by decide +kernel
theorem dX11_hand_104 : decode cX11_hand 104 = .ok (.getfield 234, 3) := by decide +kernel
theorem dX11_hand_107 : decode cX11_hand 107 = .ok (.iconst 1, 1) := by decide +kernel
theorem dX11_hand_108 : decode cX11_hand 108 = .ok (.isub, 1) := by decide +kernel
theorem dX11_hand_109 : decode cX11_hand 109 = .ok (.ireturn, 1) := by decide +kernel
theorem dX11_clear_0 : decode cX11_clear 0 = .ok (.aload_n 0, 1) := by decide +kernel
theorem dX11_clear_1 : decode cX11_clear 1 = .ok (.getfield 234, 3) := by decide +kernel
theorem dX11_clear_4 : decode cX11_clear 4 = .ok (.istore_n 1, 1) := by decide +kernel
theorem dX11_clear_5 : decode cX11_clear 5 = .ok (.aload_n 0, 1) := by decide +kernel
theorem dX11_clear_6 : decode cX11_clear 6 = .ok (.iconst 0, 1) := by decide +kernel
theorem dX11_clear_7 : decode cX11_clear 7 = .ok (.putfield 234, 3) := by decide +kernel
theorem dX11_clear_10 : decode cX11_clear 10 = .ok (.aload_n 0, 1) := by decide +kernel
theorem dX11_clear_11 : decode cX11_clear 11 = .ok (.iconst 0, 1) := by decide +kernel
theorem dX11_clear_12 : decode cX11_clear 12 = .ok (.putfield 218, 3) := by decide +kernel
theorem dX11_clear_15 : decode cX11_clear 15 = .ok (.iload_n 1, 1) := by decide +kernel
theorem dX11_clear_16 : decode cX11_clear 16 = .ok (.ireturn, 1) := by decide +kernel
theorem dX11_isDone_0 : decode cX11_isDone 0 = .ok (.iconst 0, 1) := by decide +kernel
theorem dX11_isDone_1 : decode cX11_isDone 1 = .ok (.istore_n 2, 1) := by decide +kernel
theorem dX11_isDone_2 : decode cX11_isDone 2 = .ok (.iconst 0, 1) := by decide +kernel
theorem dX11_isDone_3 : decode cX11_isDone 3 = .ok (.istore_n 3, 1) := by decide +kernel
theorem dX11_isDone_4 : decode cX11_isDone 4 = .ok (.iload_n 3, 1) := by decide +kernel
theorem dX11_isDone_5 : decode cX11_isDone 5 = .ok (.aload_n 0, 1) := by decide +kernel
theorem dX11_isDone_6 : decode cX11_isDone 6 = .ok (.getfield 234, 3) := by decide +kernel
theorem dX11_isDone_9 : decode cX11_isDone 9 = .ok (.if_icmp .ge 55, 3) := by decide +kernel
theorem dX11_isDone_12 : decode cX11_isDone 12 = .ok (.iload_n 2, 1) := by decide +kernel
theorem dX11_isDone_13 : decode cX11_isDone 13 = .ok (.ifCond .ne 39, 3) := by decide +kernel
theorem dX11_isDone_16 : decode cX11_isDone 16 = .ok (.aload_n 0, 1) := by decide +kernel
theorem dX11_isDone_17 : decode cX11_isDone 17 = .ok (.getfield 28, 3) := by decide +kernel
theorem dX11_isDone_20 : decode cX11_isDone 20 = .ok (.iconst 2, 1) := by decide +kernel
theorem dX11_isDone_21 : decode cX11_isDone 21 = .ok (.iload_n 3, 1) := by decide +kernel
theorem dX11_isDone_22 : decode cX11_isDone 22 = .ok (.imul, 1) := by decide +kernel
theorem dX11_isDone_23 : decode cX11_isDone 23 = .ok (.iaload, 1) := by decide +kernel
theorem dX11_isDone_24 : decode cX11_isDone 24 = .ok (.iload_n 1, 1) := by decide +kernel
theorem dX11_isDone_25 : decode cX11_isDone 25 = .ok (.if_icmp .eq 27, 3) := by decide +kernel
theorem dX11_isDone_28 : decode cX11_isDone 28 = .ok (.aload_n 0, 1) := by decide +kernel
theorem dX11_isDone_29 : decode cX11_isDone 29 = .ok (.getfield 31, 3) := by decide +kernel
theorem dX11_isDone_32 : decode cX11_isDone 32 = .ok (.iload_n 3, 1) := by decide +kernel
theorem dX11_isDone_33 : decode cX11_isDone 33 = .ok (.iaload, 1) := by decide +kernel
theorem dX11_isDone_34 : decode cX11_isDone 34 = .ok (.iconst 2, 1) := by decide +kernel
theorem dX11_isDone_35 : decode cX11_isDone 35 = .ok (.if_icmp .ne 21, 3) := by decide +kernel
theorem dX11_isDone_38 : decode cX11_isDone 38 = .ok (.aload_n 0, 1) := by decide +kernel
theorem dX11_isDone_39 : decode cX11_isDone 39 = .ok (.getfield 28, 3) := by decide +kernel
theorem dX11_isDone_42 : decode cX11_isDone 42 = .ok (.iconst 2, 1) := by decide +kernel
theorem dX11_isDone_43 : decode cX11_isDone 43 = .ok (.iload_n 3, 1) := by decide +kernel
theorem dX11_isDone_44 : decode cX11_isDone 44 = .ok (.imul, 1) := by decide +kernel
theorem dX11_isDone_45 : decode cX11_isDone 45 = .ok (.iconst 1, 1) := by decide +kernel
theorem dX11_isDone_46 : decode cX11_isDone 46 = .ok (.iadd, 1) := by decide +kernel
theorem dX11_isDone_47 : decode cX11_isDone 47 = .ok (.iaload, 1) := by decide +kernel
theorem dX11_isDone_48 : decode cX11_isDone 48 = .ok (.iload_n 1, 1) := by decide +kernel
theorem dX11_isDone_49 : decode cX11_isDone 49 = .ok (.if_icmp .ne 7, 3) := by decide +kernel
theorem dX11_isDone_52 : decode cX11_isDone 52 = .ok (.iconst 1, 1) := by decide +kernel
theorem dX11_isDone_53 : decode cX11_isDone 53 = .ok (.goto 4, 3) := by decide +kernel
theorem dX11_isDone_56 : decode cX11_isDone 56 = .ok (.iconst 0, 1) := by decide +kernel
theorem dX11_isDone_57 : decode cX11_isDone 57 = .ok (.istore_n 2, 1) := by decide +kernel
theorem dX11_isDone_58 : decode cX11_isDone 58 = .ok (.iinc 3 1, 3) := by decide +kernel
theorem dX11_isDone_61 : decode cX11_isDone 61 = .ok (.goto (-57), 3) := by decide +kernel
theorem dX11_isDone_64 : decode cX11_isDone 64 = .ok (.iload_n 2, 1) := by decide +kernel
theorem dX11_isDone_65 : decode cX11_isDone 65 = .ok (.ireturn, 1) := by decide +kernel
theorem dX11_findWrites_0 : decode cX11_findWrites 0 = .ok (.aload_n 0, 1) := by decide +kernel
theorem dX11_findWrites_1 : decode cX11_findWrites 1 = .ok (.iconst 0, 1) := by decide +kernel
theorem dX11_findWrites_2 : decode cX11_findWrites 2 = .ok (.putfield 237, 3) := by decide +kernel
theorem dX11_findWrites_5 : decode cX11_findWrites 5 = .ok (.iconst 0, 1) := by decide +kernel
theorem dX11_findWrites_6 : decode cX11_findWrites 6 = .ok (.istore_n 1, 1) := by decide +kernel
theorem dX11_findWrites_7 : decode cX11_findWrites 7 = .ok (.iload_n 1, 1) := by decide +kernel
theorem dX11_findWrites_8 : decode cX11_findWrites 8 = .ok (.aload_n 0, 1) := by decide +kernel
theorem dX11_findWrites_9 : decode cX11_findWrites 9 = .ok (.getfield 160, 3) := by decide +kernel
theorem dX11_findWrites_12 : decode cX11_findWrites 12 = .ok (.if_icmp .ge 84, 3) := by decide +kernel
theorem dX11_findWrites_15 : decode cX11_findWrites 15 = .ok (.iconst 0, 1) := by decide +kernel
theorem dX11_findWrites_16 : decode cX11_findWrites 16 = .ok (.istore_n 2, 1) := by decide +kernel
theorem dX11_findWrites_17 : decode cX11_findWrites 17 = .ok (.iload_n 2, 1) := by decide +kernel
theorem dX11_findWrites_18 : decode cX11_findWrites 18 = .ok (.aload_n 0, 1) := by decide +kernel
theorem dX11_findWrites_19 : decode cX11_findWrites 19 = .ok (.getfield 7, 3) := by decide +kernel
theorem dX11_findWrites_22 : decode cX11_findWrites 22 = .ok (.iload_n 1, 1) := by decide +kernel
theorem dX11_findWrites_23 : decode cX11_findWrites 23 = .ok (.iaload, 1) := by decide +kernel
theorem dX11_findWrites_24 : decode cX11_findWrites 24 = .ok (.if_icmp .ge 66, 3) := by decide +kernel
theorem dX11_findWrites_27 : decode cX11_findWrites 27 = .ok (.aload_n 0, 1) := by decide +kernel
theorem dX11_findWrites_28 : decode cX11_findWrites 28 = .ok (.iload_n 1, 1) := by decide +kernel
theorem dX11_findWrites_29 : decode cX11_findWrites 29 = .ok (.invokevirtual 240, 3) := by decide +kernel
theorem dX11_findWrites_32 : decode cX11_findWrites 32 = .ok (.ifCond .eq 58, 3) := by decide +kernel
theorem dX11_findWrites_35 : decode cX11_findWrites 35 = .ok (.aload_n 0, 1) := by decide +kernel
theorem dX11_findWrites_36 : decode cX11_findWrites 36 = .ok (.getfield 13, 3) := by decide +kernel
theorem dX11_findWrites_39 : decode cX11_findWrites 39 = .ok (.bipush 7, 2) := by decide +kernel
theorem dX11_findWrites_41 : decode cX11_findWrites 41 = .ok (.iload_n 1, 1) := by decide +kernel
theorem dX11_findWrites_42 : decode cX11_findWrites 42 = .ok (.imul, 1) := by decide +kernel
theorem dX11_findWrites_43 : decode cX11_findWrites 43 = .ok (.iload_n 2, 1) := by decide +kernel
theorem dX11_findWrites_44 : decode cX11_findWrites 44 = .ok (.iadd, 1) := by decide +kernel
theorem dX11_findWrites_45 : decode cX11_findWrites 45 = .ok (.iaload, 1) := by decide +kernel
theorem dX11_findWrites_46 : decode cX11_findWrites 46 = .ok (.iconst 2, 1) := by decide +kernel
theorem dX11_findWrites_47 : decode cX11_findWrites 47 = .ok (.if_icmp .ne 37, 3) := by decide +kernel
theorem dX11_findWrites_50 : decode cX11_findWrites 50 = .ok (.aload_n 0, 1) := by decide +kernel
theorem dX11_findWrites_51 : decode cX11_findWrites 51 = .ok (.getfield 237, 3) := by decide +kernel
theorem dX11_findWrites_54 : decode cX11_findWrites 54 = .ok (.bipush 6, 2) := by decide +kernel
theorem dX11_findWrites_56 : decode cX11_findWrites 56 = .ok (.if_icmp .ge 28, 3) := by decide +kernel
theorem dX11_findWrites_59 : decode cX11_findWrites 59 = .ok (.aload_n 0, 1) := by decide +kernel
theorem dX11_findWrites_60 : decode cX11_findWrites 60 = .ok (.getfield 84, 3) := by decide +kernel
theorem dX11_findWrites_63 : decode cX11_findWrites 63 = .ok (.aload_n 0, 1) := by decide +kernel
theorem dX11_findWrites_64 : decode cX11_findWrites 64 = .ok (.getfield 237, 3) := by decide +kernel
theorem dX11_findWrites_67 : decode cX11_findWrites 67 = .ok (.bipush 7, 2) := by decide +kernel
theorem dX11_findWrites_69 : decode cX11_findWrites 69 = .ok (.iload_n 1, 1) := by decide +kernel
theorem dX11_findWrites_70 : decode cX11_findWrites 70 = .ok (.imul, 1) := by decide +kernel
theorem dX11_findWrites_71 : decode cX11_findWrites 71 = .ok (.iload_n 2, 1) := by decide +kernel
theorem dX11_findWrites_72 : decode cX11_findWrites 72 = .ok (.iadd, 1) := by decide +kernel
theorem dX11_findWrites_73 : decode cX11_findWrites 73 = .ok (.iastore, 1) := by decide +kernel
theorem dX11_findWrites_74 : decode cX11_findWrites 74 = .ok (.aload_n 0, 1) := by decide +kernel
theorem dX11_findWrites_75 : decode cX11_findWrites 75 = .ok (.dup, 1) := by decide +kernel
theorem dX11_findWrites_76 : decode cX11_findWrites 76 = .ok (.getfield 237, 3) := by decide +kernel
theorem dX11_findWrites_79 : decode cX11_findWrites 79 = .ok (.iconst 1, 1) := by decide +kernel
theorem dX11_findWrites_80 : decode cX11_findWrites 80 = .ok (.iadd, 1) := by decide +kernel
theorem dX11_findWrites_81 : decode cX11_findWrites 81 = .ok (.putfield 237, 3) := by decide +kernel
theorem dX11_findWrites_84 : decode cX11_findWrites 84 = .ok (.iinc 2 1, 3) := by decide +kernel
theorem dX11_findWrites_87 : decode cX11_findWrites 87 = .ok (.goto (-70), 3) := by decide +kernel
theorem dX11_findWrites_90 : decode cX11_findWrites 90 = .ok (.iinc 1 1, 3) := by decide +kernel
theorem dX11_findWrites_93 : decode cX11_findWrites 93 = .ok (.goto (-86), 3) := by decide +kernel
theorem dX11_findWrites_96 : decode cX11_findWrites 96 = .ok (.return_, 1) := by decide +kernel
theorem dX11_isFenced_0 : decode cX11_isFenced 0 = .ok (.iconst 0, 1) := by decide +kernel
theorem dX11_isFenced_1 : decode cX11_isFenced 1 = .ok (.istore_n 3, 1) := by decide +kernel
theorem dX11_isFenced_2 : decode cX11_isFenced 2 = .ok (.iconst 0, 1) := by decide +kernel
theorem dX11_isFenced_3 : decode cX11_isFenced 3 = .ok (.istore 4, 2) := by decide +kernel
theorem dX11_isFenced_5 : decode cX11_isFenced 5 = .ok (.iload 4, 2) := by decide +kernel
theorem dX11_isFenced_7 : decode cX11_isFenced 7 = .ok (.aload_n 0, 1) := by decide +kernel
theorem dX11_isFenced_8 : decode cX11_isFenced 8 = .ok (.getfield 237, 3) := by decide +kernel
theorem dX11_isFenced_11 : decode cX11_isFenced 11 = .ok (.if_icmp .ge 40, 3) := by decide +kernel
theorem dX11_isFenced_14 : decode cX11_isFenced 14 = .ok (.iload_n 3, 1) := by decide +kernel
theorem dX11_isFenced_15 : decode cX11_isFenced 15 = .ok (.ifCond .ne 24, 3) := by decide +kernel
theorem dX11_isFenced_18 : decode cX11_isFenced 18 = .ok (.aload_n 0, 1) := by decide +kernel
theorem dX11_isFenced_19 : decode cX11_isFenced 19 = .ok (.getfield 84, 3) := by decide +kernel
theorem dX11_isFenced_22 : decode cX11_isFenced 22 = .ok (.iload 4, 2) := by decide +kernel
theorem dX11_isFenced_24 : decode cX11_isFenced 24 = .ok (.iaload, 1) := by decide +kernel
theorem dX11_isFenced_25 : decode cX11_isFenced 25 = .ok (.iload_n 1, 1) := by decide +kernel
theorem dX11_isFenced_26 : decode cX11_isFenced 26 = .ok (.if_icmp .ne 17, 3) := by decide +kernel
theorem dX11_isFenced_29 : decode cX11_isFenced 29 = .ok (.iload_n 2, 1) := by decide +kernel
theorem dX11_isFenced_30 : decode cX11_isFenced 30 = .ok (.iload 4, 2) := by decide +kernel
theorem dX11_isFenced_32 : decode cX11_isFenced 32 = .ok (.ishr, 1) := by decide +kernel
theorem dX11_isFenced_33 : decode cX11_isFenced 33 = .ok (.iconst 1, 1) := by decide +kernel
theorem dX11_isFenced_34 : decode cX11_isFenced 34 = .ok (.iand, 1) := by decide +kernel
theorem dX11_isFenced_35 : decode cX11_isFenced 35 = .ok (.iconst 1, 1) := by decide +kernel
theorem dX11_isFenced_36 : decode cX11_isFenced 36 = .ok (.if_icmp .ne 7, 3) := by decide +kernel
theorem dX11_isFenced_39 : decode cX11_isFenced 39 = .ok (.iconst 1, 1) := by decide +kernel
theorem dX11_isFenced_40 : decode cX11_isFenced 40 = .ok (.goto 4, 3) := by decide +kernel
theorem dX11_isFenced_43 : decode cX11_isFenced 43 = .ok (.iconst 0, 1) := by decide +kernel
theorem dX11_isFenced_44 : decode cX11_isFenced 44 = .ok (.istore_n 3, 1) := by decide +kernel
theorem dX11_isFenced_45 : decode cX11_isFenced 45 = .ok (.iinc 4 1, 3) := by decide +kernel
theorem dX11_isFenced_48 : decode cX11_isFenced 48 = .ok (.goto (-43), 3) := by decide +kernel
theorem dX11_isFenced_51 : decode cX11_isFenced 51 = .ok (.iload_n 3, 1) := by decide +kernel
theorem dX11_isFenced_52 : decode cX11_isFenced 52 = .ok (.ireturn, 1) := by decide +kernel
theorem dX11_lays_0 : decode cX11_lays 0 = .ok (.aload_n 0, 1) := by decide +kernel
theorem dX11_lays_1 : decode cX11_lays 1 = .ok (.getfield 69, 3) := by decide +kernel
theorem dX11_lays_4 : decode cX11_lays 4 = .ok (.iload_n 1, 1) := by decide +kernel
theorem dX11_lays_5 : decode cX11_lays 5 = .ok (.aload_n 0, 1) := by decide +kernel
theorem dX11_lays_6 : decode cX11_lays 6 = .ok (.getfield 13, 3) := by decide +kernel
theorem dX11_lays_9 : decode cX11_lays 9 = .ok (.iload_n 2, 1) := by decide +kernel
theorem dX11_lays_10 : decode cX11_lays 10 = .ok (.iaload, 1) := by decide +kernel
theorem dX11_lays_11 : decode cX11_lays 11 = .ok (.iastore, 1) := by decide +kernel
theorem dX11_lays_12 : decode cX11_lays 12 = .ok (.aload_n 0, 1) := by decide +kernel
theorem dX11_lays_13 : decode cX11_lays 13 = .ok (.getfield 72, 3) := by decide +kernel
theorem dX11_lays_16 : decode cX11_lays 16 = .ok (.iload_n 1, 1) := by decide +kernel
theorem dX11_lays_17 : decode cX11_lays 17 = .ok (.aload_n 0, 1) := by decide +kernel
theorem dX11_lays_18 : decode cX11_lays 18 = .ok (.getfield 16, 3) := by decide +kernel
theorem dX11_lays_21 : decode cX11_lays 21 = .ok (.iload_n 2, 1) := by decide +kernel
theorem dX11_lays_22 : decode cX11_lays 22 = .ok (.iaload, 1) := by decide +kernel
theorem dX11_lays_23 : decode cX11_lays 23 = .ok (.iastore, 1) := by decide +kernel
theorem dX11_lays_24 : decode cX11_lays 24 = .ok (.aload_n 0, 1) := by decide +kernel
theorem dX11_lays_25 : decode cX11_lays 25 = .ok (.getfield 75, 3) := by decide +kernel
theorem dX11_lays_28 : decode cX11_lays 28 = .ok (.iload_n 1, 1) := by decide +kernel
theorem dX11_lays_29 : decode cX11_lays 29 = .ok (.aload_n 0, 1) := by decide +kernel
theorem dX11_lays_30 : decode cX11_lays 30 = .ok (.getfield 19, 3) := by decide +kernel
theorem dX11_lays_33 : decode cX11_lays 33 = .ok (.iload_n 2, 1) := by decide +kernel
theorem dX11_lays_34 : decode cX11_lays 34 = .ok (.iaload, 1) := by decide +kernel
theorem dX11_lays_35 : decode cX11_lays 35 = .ok (.iastore, 1) := by decide +kernel
theorem dX11_lays_36 : decode cX11_lays 36 = .ok (.aload_n 0, 1) := by decide +kernel
theorem dX11_lays_37 : decode cX11_lays 37 = .ok (.getfield 78, 3) := by decide +kernel
theorem dX11_lays_40 : decode cX11_lays 40 = .ok (.iload_n 1, 1) := by decide +kernel
theorem dX11_lays_41 : decode cX11_lays 41 = .ok (.aload_n 0, 1) := by decide +kernel
theorem dX11_lays_42 : decode cX11_lays 42 = .ok (.getfield 22, 3) := by decide +kernel
theorem dX11_lays_45 : decode cX11_lays 45 = .ok (.iload_n 2, 1) := by decide +kernel
theorem dX11_lays_46 : decode cX11_lays 46 = .ok (.iaload, 1) := by decide +kernel
theorem dX11_lays_47 : decode cX11_lays 47 = .ok (.iastore, 1) := by decide +kernel
theorem dX11_lays_48 : decode cX11_lays 48 = .ok (.aload_n 0, 1) := by decide +kernel
theorem dX11_lays_49 : decode cX11_lays 49 = .ok (.getfield 81, 3) := by decide +kernel
theorem dX11_lays_52 : decode cX11_lays 52 = .ok (.iload_n 1, 1) := by decide +kernel
theorem dX11_lays_53 : decode cX11_lays 53 = .ok (.aload_n 0, 1) := by decide +kernel
theorem dX11_lays_54 : decode cX11_lays 54 = .ok (.getfield 25, 3) := by decide +kernel
theorem dX11_lays_57 : decode cX11_lays 57 = .ok (.iload_n 2, 1) := by decide +kernel
theorem dX11_lays_58 : decode cX11_lays 58 = .ok (.iaload, 1) := by decide +kernel
theorem dX11_lays_59 : decode cX11_lays 59 = .ok (.iastore, 1) := by decide +kernel
theorem dX11_lays_60 : decode cX11_lays 60 = .ok (.return_, 1) := by decide +kernel
theorem dX11_lay_0 : decode cX11_lay 0 = .ok (.iconst 0, 1) := by decide +kernel
theorem dX11_lay_1 : decode cX11_lay 1 = .ok (.istore_n 2, 1) := by decide +kernel
theorem dX11_lay_2 : decode cX11_lay 2 = .ok (.iload_n 2, 1) := by decide +kernel
theorem dX11_lay_3 : decode cX11_lay 3 = .ok (.aload_n 0, 1) := by decide +kernel
theorem dX11_lay_4 : decode cX11_lay 4 = .ok (.getfield 160, 3) := by decide +kernel
theorem dX11_lay_7 : decode cX11_lay 7 = .ok (.if_icmp .ge 157, 3) := by decide +kernel
theorem dX11_lay_10 : decode cX11_lay 10 = .ok (.iconst 0, 1) := by decide +kernel
theorem dX11_lay_11 : decode cX11_lay 11 = .ok (.istore_n 3, 1) := by decide +kernel
theorem dX11_lay_12 : decode cX11_lay 12 = .ok (.iconst 0, 1) := by decide +kernel
theorem dX11_lay_13 : decode cX11_lay 13 = .ok (.istore 4, 2) := by decide +kernel
theorem dX11_lay_15 : decode cX11_lay 15 = .ok (.iload 4, 2) := by decide +kernel
theorem dX11_lay_17 : decode cX11_lay 17 = .ok (.aload_n 0, 1) := by decide +kernel
theorem dX11_lay_18 : decode cX11_lay 18 = .ok (.getfield 7, 3) := by decide +kernel
theorem dX11_lay_21 : decode cX11_lay 21 = .ok (.iload_n 2, 1) := by decide +kernel
theorem dX11_lay_22 : decode cX11_lay 22 = .ok (.iaload, 1) := by decide +kernel
theorem dX11_lay_23 : decode cX11_lay 23 = .ok (.if_icmp .ge 67, 3) := by decide +kernel
theorem dX11_lay_26 : decode cX11_lay 26 = .ok (.aload_n 0, 1) := by decide +kernel
theorem dX11_lay_27 : decode cX11_lay 27 = .ok (.getfield 87, 3) := by decide +kernel
theorem dX11_lay_30 : decode cX11_lay 30 = .ok (.iload 4, 2) := by decide +kernel
theorem dX11_lay_32 : decode cX11_lay 32 = .ok (.iload_n 3, 1) := by decide +kernel
theorem dX11_lay_33 : decode cX11_lay 33 = .ok (.iastore, 1) := by decide +kernel
theorem dX11_lay_34 : decode cX11_lay 34 = .ok (.aload_n 0, 1) := by decide +kernel
theorem dX11_lay_35 : decode cX11_lay 35 = .ok (.bipush 14, 2) := by decide +kernel
theorem dX11_lay_37 : decode cX11_lay 37 = .ok (.iload_n 2, 1) := by decide +kernel
theorem dX11_lay_38 : decode cX11_lay 38 = .ok (.imul, 1) := by decide +kernel
theorem dX11_lay_39 : decode cX11_lay 39 = .ok (.iload_n 3, 1) := by decide +kernel
theorem dX11_lay_40 : decode cX11_lay 40 = .ok (.iadd, 1) := by decide +kernel
theorem dX11_lay_41 : decode cX11_lay 41 = .ok (.bipush 7, 2) := by decide +kernel
theorem dX11_lay_43 : decode cX11_lay 43 = .ok (.iload_n 2, 1) := by decide +kernel
theorem dX11_lay_44 : decode cX11_lay 44 = .ok (.imul, 1) := by decide +kernel
theorem dX11_lay_45 : decode cX11_lay 45 = .ok (.iload 4, 2) := by decide +kernel
theorem dX11_lay_47 : decode cX11_lay 47 = .ok (.iadd, 1) := by decide +kernel
theorem dX11_lay_48 : decode cX11_lay 48 = .ok (.invokevirtual 243, 3) := by decide +kernel
theorem dX11_lay_51 : decode cX11_lay 51 = .ok (.iinc 3 1, 3) := by decide +kernel
theorem dX11_lay_54 : decode cX11_lay 54 = .ok (.aload_n 0, 1) := by decide +kernel
theorem dX11_lay_55 : decode cX11_lay 55 = .ok (.bipush 7, 2) := by decide +kernel
theorem dX11_lay_57 : decode cX11_lay 57 = .ok (.iload_n 2, 1) := by decide +kernel
theorem dX11_lay_58 : decode cX11_lay 58 = .ok (.imul, 1) := by decide +kernel
theorem dX11_lay_59 : decode cX11_lay 59 = .ok (.iload 4, 2) := by decide +kernel
theorem dX11_lay_61 : decode cX11_lay 61 = .ok (.iadd, 1) := by decide +kernel
theorem dX11_lay_62 : decode cX11_lay 62 = .ok (.iload_n 1, 1) := by decide +kernel
theorem dX11_lay_63 : decode cX11_lay 63 = .ok (.invokevirtual 247, 3) := by decide +kernel
theorem dX11_lay_66 : decode cX11_lay 66 = .ok (.ifCond .eq 18, 3) := by decide +kernel
theorem dX11_lay_69 : decode cX11_lay 69 = .ok (.aload_n 0, 1) := by decide +kernel
theorem dX11_lay_70 : decode cX11_lay 70 = .ok (.getfield 69, 3) := by decide +kernel
theorem dX11_lay_73 : decode cX11_lay 73 = .ok (.bipush 14, 2) := by decide +kernel
theorem dX11_lay_75 : decode cX11_lay 75 = .ok (.iload_n 2, 1) := by decide +kernel
theorem dX11_lay_76 : decode cX11_lay 76 = .ok (.imul, 1) := by decide +kernel
theorem dX11_lay_77 : decode cX11_lay 77 = .ok (.iload_n 3, 1) := by decide +kernel
theorem dX11_lay_78 : decode cX11_lay 78 = .ok (.iadd, 1) := by decide +kernel
theorem dX11_lay_79 : decode cX11_lay 79 = .ok (.iconst 5, 1) := by decide +kernel
theorem dX11_lay_80 : decode cX11_lay 80 = .ok (.iastore, 1) := by decide +kernel
theorem dX11_lay_81 : decode cX11_lay 81 = .ok (.iinc 3 1, 3) := by decide +kernel
theorem dX11_lay_84 : decode cX11_lay 84 = .ok (.iinc 4 1, 3) := by decide +kernel
theorem dX11_lay_87 : decode cX11_lay 87 = .ok (.goto (-72), 3) := by decide +kernel
theorem dX11_lay_90 : decode cX11_lay 90 = .ok (.aload_n 0, 1) := by decide +kernel
theorem dX11_lay_91 : decode cX11_lay 91 = .ok (.getfield 66, 3) := by decide +kernel
theorem dX11_lay_94 : decode cX11_lay 94 = .ok (.iload_n 2, 1) := by decide +kernel
theorem dX11_lay_95 : decode cX11_lay 95 = .ok (.iload_n 3, 1) := by decide +kernel
theorem dX11_lay_96 : decode cX11_lay 96 = .ok (.iastore, 1) := by decide +kernel
theorem dX11_lay_97 : decode cX11_lay 97 = .ok (.iconst 0, 1) := by decide +kernel
theorem dX11_lay_98 : decode cX11_lay 98 = .ok (.istore 4, 2) := by decide +kernel
theorem dX11_lay_100 : decode cX11_lay 100 = .ok (.iload 4, 2) := by decide +kernel
theorem dX11_lay_102 : decode cX11_lay 102 = .ok (.iload_n 3, 1) := by decide +kernel
theorem dX11_lay_103 : decode cX11_lay 103 = .ok (.if_icmp .ge 55, 3) := by decide +kernel
theorem dX11_lay_106 : decode cX11_lay 106 = .ok (.aload_n 0, 1) := by decide +kernel
theorem dX11_lay_107 : decode cX11_lay 107 = .ok (.getfield 69, 3) := by decide +kernel
theorem dX11_lay_110 : decode cX11_lay 110 = .ok (.bipush 14, 2) := by decide +kernel
theorem dX11_lay_112 : decode cX11_lay 112 = .ok (.iload_n 2, 1) := by decide +kernel
theorem dX11_lay_113 : decode cX11_lay 113 = .ok (.imul, 1) := by decide +kernel
theorem dX11_lay_114 : decode cX11_lay 114 = .ok (.iload 4, 2) := by decide +kernel
theorem dX11_lay_116 : decode cX11_lay 116 = .ok (.iadd, 1) := by decide +kernel
theorem dX11_lay_117 : decode cX11_lay 117 = .ok (.iaload, 1) := by decide +kernel
theorem dX11_lay_118 : decode cX11_lay 118 = .ok (.bipush 6, 2) := by decide +kernel
theorem dX11_lay_120 : decode cX11_lay 120 = .ok (.if_icmp .ne 32, 3) := by decide +kernel
theorem dX11_lay_123 : decode cX11_lay 123 = .ok (.aload_n 0, 1) := by decide +kernel
theorem dX11_lay_124 : decode cX11_lay 124 = .ok (.getfield 81, 3) := by decide +kernel
theorem dX11_lay_127 : decode cX11_lay 127 = .ok (.bipush 14, 2) := by decide +kernel
theorem dX11_lay_129 : decode cX11_lay 129 = .ok (.iload_n 2, 1) := by decide +kernel
theorem dX11_lay_130 : decode cX11_lay 130 = .ok (.imul, 1) := by decide +kernel
theorem dX11_lay_131 : decode cX11_lay 131 = .ok (.iload 4, 2) := by decide +kernel
theorem dX11_lay_133 : decode cX11_lay 133 = .ok (.iadd, 1) := by decide +kernel
theorem dX11_lay_134 : decode cX11_lay 134 = .ok (.aload_n 0, 1) := by decide +kernel
theorem dX11_lay_135 : decode cX11_lay 135 = .ok (.getfield 87, 3) := by decide +kernel
theorem dX11_lay_138 : decode cX11_lay 138 = .ok (.aload_n 0, 1) := by decide +kernel
theorem dX11_lay_139 : decode cX11_lay 139 = .ok (.getfield 81, 3) := by decide +kernel
theorem dX11_lay_142 : decode cX11_lay 142 = .ok (.bipush 14, 2) := by decide +kernel
theorem dX11_lay_144 : decode cX11_lay 144 = .ok (.iload_n 2, 1) := by decide +kernel
theorem dX11_lay_145 : decode cX11_lay 145 = .ok (.imul, 1) := by decide +kernel
theorem dX11_lay_146 : decode cX11_lay 146 = .ok (.iload 4, 2) := by decide +kernel
theorem dX11_lay_148 : decode cX11_lay 148 = .ok (.iadd, 1) := by decide +kernel
theorem dX11_lay_149 : decode cX11_lay 149 = .ok (.iaload, 1) := by decide +kernel
theorem dX11_lay_150 : decode cX11_lay 150 = .ok (.iaload, 1) := by decide +kernel
theorem dX11_lay_151 : decode cX11_lay 151 = .ok (.iastore, 1) := by decide +kernel
theorem dX11_lay_152 : decode cX11_lay 152 = .ok (.iinc 4 1, 3) := by decide +kernel
theorem dX11_lay_155 : decode cX11_lay 155 = .ok (.goto (-55), 3) := by decide +kernel
theorem dX11_lay_158 : decode cX11_lay 158 = .ok (.iinc 2 1, 3) := by decide +kernel
theorem dX11_lay_161 : decode cX11_lay 161 = .ok (.goto (-159), 3) := by decide +kernel
theorem dX11_lay_164 : decode cX11_lay 164 = .ok (.return_, 1) := by decide +kernel
theorem dX11_begins_0 : decode cX11_begins 0 = .ok (.iconst 0, 1) := by decide +kernel
theorem dX11_begins_1 : decode cX11_begins 1 = .ok (.istore_n 1, 1) := by decide +kernel
theorem dX11_begins_2 : decode cX11_begins 2 = .ok (.iload_n 1, 1) := by decide +kernel
theorem dX11_begins_3 : decode cX11_begins 3 = .ok (.iconst 3, 1) := by decide +kernel
theorem dX11_begins_4 : decode cX11_begins 4 = .ok (.if_icmp .ge 21, 3) := by decide +kernel
theorem dX11_begins_7 : decode cX11_begins 7 = .ok (.aload_n 0, 1) := by decide +kernel
theorem dX11_begins_8 : decode cX11_begins 8 = .ok (.getfield 90, 3) := by decide +kernel
theorem dX11_begins_11 : decode cX11_begins 11 = .ok (.iload_n 1, 1) := by decide +kernel
theorem dX11_begins_12 : decode cX11_begins 12 = .ok (.aload_n 0, 1) := by decide +kernel
theorem dX11_begins_13 : decode cX11_begins 13 = .ok (.getfield 34, 3) := by decide +kernel
theorem dX11_begins_16 : decode cX11_begins 16 = .ok (.iload_n 1, 1) := by decide +kernel
theorem dX11_begins_17 : decode cX11_begins 17 = .ok (.iaload, 1) := by decide +kernel
theorem dX11_begins_18 : decode cX11_begins 18 = .ok (.iastore, 1) := by decide +kernel
theorem dX11_begins_19 : decode cX11_begins 19 = .ok (.iinc 1 1, 3) := by decide +kernel
theorem dX11_begins_22 : decode cX11_begins 22 = .ok (.goto (-20), 3) := by decide +kernel
theorem dX11_begins_25 : decode cX11_begins 25 = .ok (.iconst 0, 1) := by decide +kernel
theorem dX11_begins_26 : decode cX11_begins 26 = .ok (.istore_n 1, 1) := by decide +kernel
theorem dX11_begins_27 : decode cX11_begins 27 = .ok (.iload_n 1, 1) := by decide +kernel
theorem dX11_begins_28 : decode cX11_begins 28 = .ok (.iconst 3, 1) := by decide +kernel
theorem dX11_begins_29 : decode cX11_begins 29 = .ok (.if_icmp .ge 44, 3) := by decide +kernel
theorem dX11_begins_32 : decode cX11_begins 32 = .ok (.aload_n 0, 1) := by decide +kernel
theorem dX11_begins_33 : decode cX11_begins 33 = .ok (.getfield 93, 3) := by decide +kernel
theorem dX11_begins_36 : decode cX11_begins 36 = .ok (.iload_n 1, 1) := by decide +kernel
theorem dX11_begins_37 : decode cX11_begins 37 = .ok (.iconst 0, 1) := by decide +kernel
theorem dX11_begins_38 : decode cX11_begins 38 = .ok (.iastore, 1) := by decide +kernel
theorem dX11_begins_39 : decode cX11_begins 39 = .ok (.aload_n 0, 1) := by decide +kernel
theorem dX11_begins_40 : decode cX11_begins 40 = .ok (.getfield 96, 3) := by decide +kernel
theorem dX11_begins_43 : decode cX11_begins 43 = .ok (.iload_n 1, 1) := by decide +kernel
theorem dX11_begins_44 : decode cX11_begins 44 = .ok (.iconst 0, 1) := by decide +kernel
theorem dX11_begins_45 : decode cX11_begins 45 = .ok (.iastore, 1) := by decide +kernel
theorem dX11_begins_46 : decode cX11_begins 46 = .ok (.aload_n 0, 1) := by decide +kernel
theorem dX11_begins_47 : decode cX11_begins 47 = .ok (.getfield 99, 3) := by decide +kernel
theorem dX11_begins_50 : decode cX11_begins 50 = .ok (.iload_n 1, 1) := by decide +kernel
theorem dX11_begins_51 : decode cX11_begins 51 = .ok (.iconst 0, 1) := by decide +kernel
theorem dX11_begins_52 : decode cX11_begins 52 = .ok (.iastore, 1) := by decide +kernel
theorem dX11_begins_53 : decode cX11_begins 53 = .ok (.aload_n 0, 1) := by decide +kernel
theorem dX11_begins_54 : decode cX11_begins 54 = .ok (.getfield 102, 3) := by decide +kernel
theorem dX11_begins_57 : decode cX11_begins 57 = .ok (.iload_n 1, 1) := by decide +kernel
theorem dX11_begins_58 : decode cX11_begins 58 = .ok (.iconst 0, 1) := by decide +kernel
theorem dX11_begins_59 : decode cX11_begins 59 = .ok (.iastore, 1) := by decide +kernel
theorem dX11_begins_60 : decode cX11_begins 60 = .ok (.aload_n 0, 1) := by decide +kernel
theorem dX11_begins_61 : decode cX11_begins 61 = .ok (.getfield 105, 3) := by decide +kernel
theorem dX11_begins_64 : decode cX11_begins 64 = .ok (.iload_n 1, 1) := by decide +kernel
theorem dX11_begins_65 : decode cX11_begins 65 = .ok (.iconst 0, 1) := by decide +kernel
theorem dX11_begins_66 : decode cX11_begins 66 = .ok (.iastore, 1) := by decide +kernel
theorem dX11_begins_67 : decode cX11_begins 67 = .ok (.iinc 1 1, 3) := by decide +kernel
theorem dX11_begins_70 : decode cX11_begins 70 = .ok (.goto (-43), 3) := by decide +kernel
theorem dX11_begins_73 : decode cX11_begins 73 = .ok (.return_, 1) := by decide +kernel
theorem dX11_waitCode_0 : decode cX11_waitCode 0 = .ok (.iconst 4, 1) := by decide +kernel
theorem dX11_waitCode_1 : decode cX11_waitCode 1 = .ok (.aload_n 0, 1) := by decide +kernel
theorem dX11_waitCode_2 : decode cX11_waitCode 2 = .ok (.getfield 108, 3) := by decide +kernel
theorem dX11_waitCode_5 : decode cX11_waitCode 5 = .ok (.iconst 2, 1) := by decide +kernel
theorem dX11_waitCode_6 : decode cX11_waitCode 6 = .ok (.iload_n 1, 1) := by decide +kernel
theorem dX11_waitCode_7 : decode cX11_waitCode 7 = .ok (.imul, 1) := by decide +kernel
theorem dX11_waitCode_8 : decode cX11_waitCode 8 = .ok (.iaload, 1) := by decide +kernel
theorem dX11_waitCode_9 : decode cX11_waitCode 9 = .ok (.imul, 1) := by decide +kernel
theorem dX11_waitCode_10 : decode cX11_waitCode 10 = .ok (.aload_n 0, 1) := by decide +kernel
theorem dX11_waitCode_11 : decode cX11_waitCode 11 = .ok (.getfield 111, 3) := by decide +kernel
theorem dX11_waitCode_14 : decode cX11_waitCode 14 = .ok (.iconst 2, 1) := by decide +kernel
theorem dX11_waitCode_15 : decode cX11_waitCode 15 = .ok (.iload_n 1, 1) := by decide +kernel
theorem dX11_waitCode_16 : decode cX11_waitCode 16 = .ok (.imul, 1) := by decide +kernel
theorem dX11_waitCode_17 : decode cX11_waitCode 17 = .ok (.iaload, 1) := by decide +kernel
theorem dX11_waitCode_18 : decode cX11_waitCode 18 = .ok (.iadd, 1) := by decide +kernel
theorem dX11_waitCode_19 : decode cX11_waitCode 19 = .ok (.istore_n 2, 1) := by decide +kernel
theorem dX11_waitCode_20 : decode cX11_waitCode 20 = .ok (.iconst 4, 1) := by decide +kernel
theorem dX11_waitCode_21 : decode cX11_waitCode 21 = .ok (.aload_n 0, 1) := by decide +kernel
theorem dX11_waitCode_22 : decode cX11_waitCode 22 = .ok (.getfield 108, 3) := by decide +kernel
theorem dX11_waitCode_25 : decode cX11_waitCode 25 = .ok (.iconst 2, 1) := by decide +kernel
theorem dX11_waitCode_26 : decode cX11_waitCode 26 = .ok (.iload_n 1, 1) := by decide +kernel
theorem dX11_waitCode_27 : decode cX11_waitCode 27 = .ok (.imul, 1) := by decide +kernel
theorem dX11_waitCode_28 : decode cX11_waitCode 28 = .ok (.iconst 1, 1) := by decide +kernel
theorem dX11_waitCode_29 : decode cX11_waitCode 29 = .ok (.iadd, 1) := by decide +kernel
theorem dX11_waitCode_30 : decode cX11_waitCode 30 = .ok (.iaload, 1) := by decide +kernel
theorem dX11_waitCode_31 : decode cX11_waitCode 31 = .ok (.imul, 1) := by decide +kernel
theorem dX11_waitCode_32 : decode cX11_waitCode 32 = .ok (.aload_n 0, 1) := by decide +kernel
theorem dX11_waitCode_33 : decode cX11_waitCode 33 = .ok (.getfield 111, 3) := by decide +kernel
theorem dX11_waitCode_36 : decode cX11_waitCode 36 = .ok (.iconst 2, 1) := by decide +kernel
theorem dX11_waitCode_37 : decode cX11_waitCode 37 = .ok (.iload_n 1, 1) := by decide +kernel
theorem dX11_waitCode_38 : decode cX11_waitCode 38 = .ok (.imul, 1) := by decide +kernel
theorem dX11_waitCode_39 : decode cX11_waitCode 39 = .ok (.iconst 1, 1) := by decide +kernel
theorem dX11_waitCode_40 : decode cX11_waitCode 40 = .ok (.iadd, 1) := by decide +kernel
theorem dX11_waitCode_41 : decode cX11_waitCode 41 = .ok (.iaload, 1) := by decide +kernel
theorem dX11_waitCode_42 : decode cX11_waitCode 42 = .ok (.iadd, 1) := by decide +kernel
theorem dX11_waitCode_43 : decode cX11_waitCode 43 = .ok (.istore_n 3, 1) := by decide +kernel
theorem dX11_waitCode_44 : decode cX11_waitCode 44 = .ok (.aload_n 0, 1) := by decide +kernel
theorem dX11_waitCode_45 : decode cX11_waitCode 45 = .ok (.getfield 105, 3) := by decide +kernel
theorem dX11_waitCode_48 : decode cX11_waitCode 48 = .ok (.iload_n 1, 1) := by decide +kernel
theorem dX11_waitCode_49 : decode cX11_waitCode 49 = .ok (.iaload, 1) := by decide +kernel
theorem dX11_waitCode_50 : decode cX11_waitCode 50 = .ok (.ifCond .ne 7, 3) := by decide +kernel
theorem dX11_waitCode_53 : decode cX11_waitCode 53 = .ok (.iconst 0, 1) := by decide +kernel
theorem dX11_waitCode_54 : decode cX11_waitCode 54 = .ok (.goto 28, 3) := by decide +kernel
theorem dX11_waitCode_57 : decode cX11_waitCode 57 = .ok (.aload_n 0, 1) := by decide +kernel
theorem dX11_waitCode_58 : decode cX11_waitCode 58 = .ok (.getfield 105, 3) := by decide +kernel
theorem dX11_waitCode_61 : decode cX11_waitCode 61 = .ok (.iload_n 1, 1) := by decide +kernel
theorem dX11_waitCode_62 : decode cX11_waitCode 62 = .ok (.iaload, 1) := by decide +kernel
theorem dX11_waitCode_63 : decode cX11_waitCode 63 = .ok (.iconst 1, 1) := by decide +kernel
theorem dX11_waitCode_64 : decode cX11_waitCode 64 = .ok (.if_icmp .ne 9, 3) := by decide +kernel
theorem dX11_waitCode_67 : decode cX11_waitCode 67 = .ok (.iconst 1, 1) := by decide +kernel
theorem dX11_waitCode_68 : decode cX11_waitCode 68 = .ok (.iload_n 2, 1) := by decide +kernel
theorem dX11_waitCode_69 : decode cX11_waitCode 69 = .ok (.iadd, 1) := by decide +kernel
theorem dX11_waitCode_70 : decode cX11_waitCode 70 = .ok (.goto 12, 3) := by decide +kernel
theorem dX11_waitCode_73 : decode cX11_waitCode 73 = .ok (.bipush 13, 2) := by decide +kernel
theorem dX11_waitCode_75 : decode cX11_waitCode 75 = .ok (.bipush 12, 2) := by decide +kernel
theorem dX11_waitCode_77 : decode cX11_waitCode 77 = .ok (.iload_n 2, 1) := by decide +kernel
theorem dX11_waitCode_78 : decode cX11_waitCode 78 = .ok (.imul, 1) := by decide +kernel
theorem dX11_waitCode_79 : decode cX11_waitCode 79 = .ok (.iadd, 1) := by decide +kernel
theorem dX11_waitCode_80 : decode cX11_waitCode 80 = .ok (.iload_n 3, 1) := by decide +kernel
theorem dX11_waitCode_81 : decode cX11_waitCode 81 = .ok (.iadd, 1) := by decide +kernel
theorem dX11_waitCode_82 : decode cX11_waitCode 82 = .ok (.ireturn, 1) := by decide +kernel
theorem dX11_pack_0 : decode cX11_pack 0 = .ok (.ldc2_w 250, 3) := by decide +kernel
theorem dX11_pack_3 : decode cX11_pack 3 = .ok (.aload_n 0, 1) := by decide +kernel
theorem dX11_pack_4 : decode cX11_pack 4 = .ok (.getfield 90, 3) := by decide +kernel
theorem dX11_pack_7 : decode cX11_pack 7 = .ok (.iconst 0, 1) := by decide +kernel
theorem dX11_pack_8 : decode cX11_pack 8 = .ok (.iaload, 1) := by decide +kernel
theorem dX11_pack_9 : decode cX11_pack 9 = .ok (.i2l, 1) := by decide +kernel
theorem dX11_pack_10 : decode cX11_pack 10 = .ok (.lmul, 1) := by decide +kernel
theorem dX11_pack_11 : decode cX11_pack 11 = .ok (.ldc2_w 252, 3) := by decide +kernel
theorem dX11_pack_14 : decode cX11_pack 14 = .ok (.aload_n 0, 1) := by decide +kernel
theorem dX11_pack_15 : decode cX11_pack 15 = .ok (.getfield 90, 3) := by decide +kernel
theorem dX11_pack_18 : decode cX11_pack 18 = .ok (.iconst 1, 1) := by decide +kernel
theorem dX11_pack_19 : decode cX11_pack 19 = .ok (.iaload, 1) := by decide +kernel
theorem dX11_pack_20 : decode cX11_pack 20 = .ok (.i2l, 1) := by decide +kernel
theorem dX11_pack_21 : decode cX11_pack 21 = .ok (.lmul, 1) := by decide +kernel
theorem dX11_pack_22 : decode cX11_pack 22 = .ok (.ladd, 1) := by decide +kernel
theorem dX11_pack_23 : decode cX11_pack 23 = .ok (.aload_n 0, 1) := by decide +kernel
theorem dX11_pack_24 : decode cX11_pack 24 = .ok (.getfield 90, 3) := by decide +kernel
theorem dX11_pack_27 : decode cX11_pack 27 = .ok (.iconst 2, 1) := by decide +kernel
theorem dX11_pack_28 : decode cX11_pack 28 = .ok (.iaload, 1) := by decide +kernel
theorem dX11_pack_29 : decode cX11_pack 29 = .ok (.i2l, 1) := by decide +kernel
theorem dX11_pack_30 : decode cX11_pack 30 = .ok (.ladd, 1) := by decide +kernel
theorem dX11_pack_31 : decode cX11_pack 31 = .ok (.lstore_n 1, 1) := by decide +kernel
theorem dX11_pack_32 : decode cX11_pack 32 = .ok (.iconst 0, 1) := by decide +kernel
theorem dX11_pack_33 : decode cX11_pack 33 = .ok (.istore_n 3, 1) := by decide +kernel
theorem dX11_pack_34 : decode cX11_pack 34 = .ok (.iload_n 3, 1) := by decide +kernel
theorem dX11_pack_35 : decode cX11_pack 35 = .ok (.aload_n 0, 1) := by decide +kernel
theorem dX11_pack_36 : decode cX11_pack 36 = .ok (.getfield 234, 3) := by decide +kernel
theorem dX11_pack_39 : decode cX11_pack 39 = .ok (.if_icmp .ge 71, 3) := by decide +kernel
theorem dX11_pack_42 : decode cX11_pack 42 = .ok (.ldc2_w 254, 3) := by decide +kernel
theorem dX11_pack_45 : decode cX11_pack 45 = .ok (.lload_n 1, 1) := by decide +kernel
theorem dX11_pack_46 : decode cX11_pack 46 = .ok (.lmul, 1) := by decide +kernel
theorem dX11_pack_47 : decode cX11_pack 47 = .ok (.bipush 14, 2) := by decide +kernel
theorem dX11_pack_49 : decode cX11_pack 49 = .ok (.aload_n 0, 1) := by decide +kernel
theorem dX11_pack_50 : decode cX11_pack 50 = .ok (.getfield 93, 3) := by decide +kernel
theorem dX11_pack_53 : decode cX11_pack 53 = .ok (.iload_n 3, 1) := by decide +kernel
theorem dX11_pack_54 : decode cX11_pack 54 = .ok (.iaload, 1) := by decide +kernel
theorem dX11_pack_55 : decode cX11_pack 55 = .ok (.imul, 1) := by decide +kernel
theorem dX11_pack_56 : decode cX11_pack 56 = .ok (.i2l, 1) := by decide +kernel
theorem dX11_pack_57 : decode cX11_pack 57 = .ok (.ladd, 1) := by decide +kernel
theorem dX11_pack_58 : decode cX11_pack 58 = .ok (.aload_n 0, 1) := by decide +kernel
theorem dX11_pack_59 : decode cX11_pack 59 = .ok (.getfield 96, 3) := by decide +kernel
theorem dX11_pack_62 : decode cX11_pack 62 = .ok (.iload_n 3, 1) := by decide +kernel
theorem dX11_pack_63 : decode cX11_pack 63 = .ok (.iaload, 1) := by decide +kernel
theorem dX11_pack_64 : decode cX11_pack 64 = .ok (.i2l, 1) := by decide +kernel
theorem dX11_pack_65 : decode cX11_pack 65 = .ok (.ladd, 1) := by decide +kernel
theorem dX11_pack_66 : decode cX11_pack 66 = .ok (.lstore_n 1, 1) := by decide +kernel
theorem dX11_pack_67 : decode cX11_pack 67 = .ok (.ldc2_w 250, 3) := by decide +kernel
theorem dX11_pack_70 : decode cX11_pack 70 = .ok (.lload_n 1, 1) := by decide +kernel
theorem dX11_pack_71 : decode cX11_pack 71 = .ok (.lmul, 1) := by decide +kernel
theorem dX11_pack_72 : decode cX11_pack 72 = .ok (.iconst 4, 1) := by decide +kernel
theorem dX11_pack_73 : decode cX11_pack 73 = .ok (.aload_n 0, 1) := by decide +kernel
theorem dX11_pack_74 : decode cX11_pack 74 = .ok (.getfield 99, 3) := by decide +kernel
theorem dX11_pack_77 : decode cX11_pack 77 = .ok (.iload_n 3, 1) := by decide +kernel
theorem dX11_pack_78 : decode cX11_pack 78 = .ok (.iaload, 1) := by decide +kernel
theorem dX11_pack_79 : decode cX11_pack 79 = .ok (.imul, 1) := by decide +kernel
theorem dX11_pack_80 : decode cX11_pack 80 = .ok (.i2l, 1) := by decide +kernel
theorem dX11_pack_81 : decode cX11_pack 81 = .ok (.ladd, 1) := by decide +kernel
theorem dX11_pack_82 : decode cX11_pack 82 = .ok (.aload_n 0, 1) := by decide +kernel
theorem dX11_pack_83 : decode cX11_pack 83 = .ok (.getfield 102, 3) := by decide +kernel
theorem dX11_pack_86 : decode cX11_pack 86 = .ok (.iload_n 3, 1) := by decide +kernel
theorem dX11_pack_87 : decode cX11_pack 87 = .ok (.iaload, 1) := by decide +kernel
theorem dX11_pack_88 : decode cX11_pack 88 = .ok (.i2l, 1) := by decide +kernel
theorem dX11_pack_89 : decode cX11_pack 89 = .ok (.ladd, 1) := by decide +kernel
theorem dX11_pack_90 : decode cX11_pack 90 = .ok (.lstore_n 1, 1) := by decide +kernel
theorem dX11_pack_91 : decode cX11_pack 91 = .ok (.ldc2_w 256, 3) := by decide +kernel
theorem dX11_pack_94 : decode cX11_pack 94 = .ok (.lload_n 1, 1) := by decide +kernel
theorem dX11_pack_95 : decode cX11_pack 95 = .ok (.lmul, 1) := by decide +kernel
theorem dX11_pack_96 : decode cX11_pack 96 = .ok (.aload_n 0, 1) := by decide +kernel
theorem dX11_pack_97 : decode cX11_pack 97 = .ok (.iload_n 3, 1) := by decide +kernel
theorem dX11_pack_98 : decode cX11_pack 98 = .ok (.invokevirtual 258, 3) := by decide +kernel
theorem dX11_pack_101 : decode cX11_pack 101 = .ok (.i2l, 1) := by decide +kernel
theorem dX11_pack_102 : decode cX11_pack 102 = .ok (.ladd, 1) := by decide +kernel
theorem dX11_pack_103 : decode cX11_pack 103 = .ok (.lstore_n 1, 1) := by decide +kernel
theorem dX11_pack_104 : decode cX11_pack 104 = .ok (.iinc 3 1, 3) := by decide +kernel
theorem dX11_pack_107 : decode cX11_pack 107 = .ok (.goto (-73), 3) := by decide +kernel
theorem dX11_pack_110 : decode cX11_pack 110 = .ok (.lload_n 1, 1) := by decide +kernel
theorem dX11_pack_111 : decode cX11_pack 111 = .ok (.lreturn, 1) := by decide +kernel
theorem dX11_unpack_0 : decode cX11_unpack 0 = .ok (.lload_n 1, 1) := by decide +kernel
theorem dX11_unpack_1 : decode cX11_unpack 1 = .ok (.lstore_n 3, 1) := by decide +kernel
theorem dX11_unpack_2 : decode cX11_unpack 2 = .ok (.aload_n 0, 1) := by decide +kernel
theorem dX11_unpack_3 : decode cX11_unpack 3 = .ok (.getfield 234, 3) := by decide +kernel
theorem dX11_unpack_6 : decode cX11_unpack 6 = .ok (.iconst 1, 1) := by decide +kernel
theorem dX11_unpack_7 : decode cX11_unpack 7 = .ok (.isub, 1) := by decide +kernel
theorem dX11_unpack_8 : decode cX11_unpack 8 = .ok (.istore 5, 2) := by decide +kernel
theorem dX11_unpack_10 : decode cX11_unpack 10 = .ok (.iload 5, 2) := by decide +kernel
theorem dX11_unpack_12 : decode cX11_unpack 12 = .ok (.ifCond .lt 235, 3) := by decide +kernel
theorem dX11_unpack_15 : decode cX11_unpack 15 = .ok (.lload_n 3, 1) := by decide +kernel
theorem dX11_unpack_16 : decode cX11_unpack 16 = .ok (.ldc2_w 256, 3) := by decide +kernel
theorem dX11_unpack_19 : decode cX11_unpack 19 = .ok (.lrem, 1) := by decide +kernel
theorem dX11_unpack_20 : decode cX11_unpack 20 = .ok (.l2i, 1) := by decide +kernel
theorem dX11_unpack_21 : decode cX11_unpack 21 = .ok (.istore 6, 2) := by decide +kernel
theorem dX11_unpack_23 : decode cX11_unpack 23 = .ok (.lload_n 3, 1) := by decide +kernel
theorem dX11_unpack_24 : decode cX11_unpack 24 = .ok (.ldc2_w 256, 3) := by decide +kernel
theorem dX11_unpack_27 : decode cX11_unpack 27 = .ok (.ldiv, 1) := by decide +kernel
theorem dX11_unpack_28 : decode cX11_unpack 28 = .ok (.lstore_n 3, 1) := by decide +kernel
theorem dX11_unpack_29 : decode cX11_unpack 29 = .ok (.lload_n 3, 1) := by decide +kernel
theorem dX11_unpack_30 : decode cX11_unpack 30 = .ok (.ldc2_w 250, 3) := by decide +kernel
theorem dX11_unpack_33 : decode cX11_unpack 33 = .ok (.lrem, 1) := by decide +kernel
theorem dX11_unpack_34 : decode cX11_unpack 34 = .ok (.l2i, 1) := by decide +kernel
theorem dX11_unpack_35 : decode cX11_unpack 35 = .ok (.istore 7, 2) := by decide +kernel
theorem dX11_unpack_37 : decode cX11_unpack 37 = .ok (.lload_n 3, 1) := by decide +kernel
theorem dX11_unpack_38 : decode cX11_unpack 38 = .ok (.ldc2_w 250, 3) := by decide +kernel
theorem dX11_unpack_41 : decode cX11_unpack 41 = .ok (.ldiv, 1) := by decide +kernel
theorem dX11_unpack_42 : decode cX11_unpack 42 = .ok (.lstore_n 3, 1) := by decide +kernel
theorem dX11_unpack_43 : decode cX11_unpack 43 = .ok (.lload_n 3, 1) := by decide +kernel
theorem dX11_unpack_44 : decode cX11_unpack 44 = .ok (.ldc2_w 254, 3) := by decide +kernel
theorem dX11_unpack_47 : decode cX11_unpack 47 = .ok (.lrem, 1) := by decide +kernel
theorem dX11_unpack_48 : decode cX11_unpack 48 = .ok (.l2i, 1) := by decide +kernel
theorem dX11_unpack_49 : decode cX11_unpack 49 = .ok (.istore 8, 2) := by decide +kernel
theorem dX11_unpack_51 : decode cX11_unpack 51 = .ok (.lload_n 3, 1) := by decide +kernel
theorem dX11_unpack_52 : decode cX11_unpack 52 = .ok (.ldc2_w 254, 3) := by decide +kernel
theorem dX11_unpack_55 : decode cX11_unpack 55 = .ok (.ldiv, 1) := by decide +kernel
theorem dX11_unpack_56 : decode cX11_unpack 56 = .ok (.lstore_n 3, 1) := by decide +kernel
theorem dX11_unpack_57 : decode cX11_unpack 57 = .ok (.aload_n 0, 1) := by decide +kernel
theorem dX11_unpack_58 : decode cX11_unpack 58 = .ok (.getfield 93, 3) := by decide +kernel
theorem dX11_unpack_61 : decode cX11_unpack 61 = .ok (.iload 5, 2) := by decide +kernel
theorem dX11_unpack_63 : decode cX11_unpack 63 = .ok (.iload 8, 2) := by decide +kernel
theorem dX11_unpack_65 : decode cX11_unpack 65 = .ok (.bipush 14, 2) := by decide +kernel
theorem dX11_unpack_67 : decode cX11_unpack 67 = .ok (.idiv, 1) := by decide +kernel
theorem dX11_unpack_68 : decode cX11_unpack 68 = .ok (.iastore, 1) := by decide +kernel
theorem dX11_unpack_69 : decode cX11_unpack 69 = .ok (.aload_n 0, 1) := by decide +kernel
theorem dX11_unpack_70 : decode cX11_unpack 70 = .ok (.getfield 96, 3) := by decide +kernel
theorem dX11_unpack_73 : decode cX11_unpack 73 = .ok (.iload 5, 2) := by decide +kernel
theorem dX11_unpack_75 : decode cX11_unpack 75 = .ok (.iload 8, 2) := by decide +kernel
theorem dX11_unpack_77 : decode cX11_unpack 77 = .ok (.bipush 14, 2) := by decide +kernel
theorem dX11_unpack_79 : decode cX11_unpack 79 = .ok (.irem, 1) := by decide +kernel
theorem dX11_unpack_80 : decode cX11_unpack 80 = .ok (.iastore, 1) := by decide +kernel
theorem dX11_unpack_81 : decode cX11_unpack 81 = .ok (.aload_n 0, 1) := by decide +kernel
theorem dX11_unpack_82 : decode cX11_unpack 82 = .ok (.getfield 99, 3) := by decide +kernel
theorem dX11_unpack_85 : decode cX11_unpack 85 = .ok (.iload 5, 2) := by decide +kernel
theorem dX11_unpack_87 : decode cX11_unpack 87 = .ok (.iload 7, 2) := by decide +kernel
theorem dX11_unpack_89 : decode cX11_unpack 89 = .ok (.iconst 4, 1) := by decide +kernel
theorem dX11_unpack_90 : decode cX11_unpack 90 = .ok (.idiv, 1) := by decide +kernel
theorem dX11_unpack_91 : decode cX11_unpack 91 = .ok (.iastore, 1) := by decide +kernel
theorem dX11_unpack_92 : decode cX11_unpack 92 = .ok (.aload_n 0, 1) := by decide +kernel
theorem dX11_unpack_93 : decode cX11_unpack 93 = .ok (.getfield 102, 3) := by decide +kernel
theorem dX11_unpack_96 : decode cX11_unpack 96 = .ok (.iload 5, 2) := by decide +kernel
theorem dX11_unpack_98 : decode cX11_unpack 98 = .ok (.iload 7, 2) := by decide +kernel
theorem dX11_unpack_100 : decode cX11_unpack 100 = .ok (.iconst 4, 1) := by decide +kernel
theorem dX11_unpack_101 : decode cX11_unpack 101 = .ok (.irem, 1) := by decide +kernel
theorem dX11_unpack_102 : decode cX11_unpack 102 = .ok (.iastore, 1) := by decide +kernel
theorem dX11_unpack_103 : decode cX11_unpack 103 = .ok (.aload_n 0, 1) := by decide +kernel
theorem dX11_unpack_104 : decode cX11_unpack 104 = .ok (.getfield 105, 3) := by decide +kernel
theorem dX11_unpack_107 : decode cX11_unpack 107 = .ok (.iload 5, 2) := by decide +kernel
theorem dX11_unpack_109 : decode cX11_unpack 109 = .ok (.iload 6, 2) := by decide +kernel
theorem dX11_unpack_111 : decode cX11_unpack 111 = .ok (.ifCond .ne 7, 3) := by decide +kernel
theorem dX11_unpack_114 : decode cX11_unpack 114 = .ok (.iconst 0, 1) := by decide +kernel
theorem dX11_unpack_115 : decode cX11_unpack 115 = .ok (.goto 15, 3) := by decide +kernel
theorem dX11_unpack_118 : decode cX11_unpack 118 = .ok (.iload 6, 2) := by decide +kernel
theorem dX11_unpack_120 : decode cX11_unpack 120 = .ok (.bipush 13, 2) := by decide +kernel
theorem dX11_unpack_122 : decode cX11_unpack 122 = .ok (.if_icmp .ge 7, 3) := by decide +kernel
theorem dX11_unpack_125 : decode cX11_unpack 125 = .ok (.iconst 1, 1) := by decide +kernel
theorem dX11_unpack_126 : decode cX11_unpack 126 = .ok (.goto 4, 3) := by decide +kernel
theorem dX11_unpack_129 : decode cX11_unpack 129 = .ok (.iconst 2, 1) := by decide +kernel
theorem dX11_unpack_130 : decode cX11_unpack 130 = .ok (.iastore, 1) := by decide +kernel
theorem dX11_unpack_131 : decode cX11_unpack 131 = .ok (.iload 6, 2) := by decide +kernel
theorem dX11_unpack_133 : decode cX11_unpack 133 = .ok (.ifCond .ne 7, 3) := by decide +kernel
theorem dX11_unpack_136 : decode cX11_unpack 136 = .ok (.iconst 0, 1) := by decide +kernel
theorem dX11_unpack_137 : decode cX11_unpack 137 = .ok (.goto 25, 3) := by decide +kernel
theorem dX11_unpack_140 : decode cX11_unpack 140 = .ok (.iload 6, 2) := by decide +kernel
theorem dX11_unpack_142 : decode cX11_unpack 142 = .ok (.bipush 13, 2) := by decide +kernel
theorem dX11_unpack_144 : decode cX11_unpack 144 = .ok (.if_icmp .ge 10, 3) := by decide +kernel
theorem dX11_unpack_147 : decode cX11_unpack 147 = .ok (.iload 6, 2) := by decide +kernel
theorem dX11_unpack_149 : decode cX11_unpack 149 = .ok (.iconst 1, 1) := by decide +kernel
theorem dX11_unpack_150 : decode cX11_unpack 150 = .ok (.isub, 1) := by decide +kernel
theorem dX11_unpack_151 : decode cX11_unpack 151 = .ok (.goto 11, 3) := by decide +kernel
theorem dX11_unpack_154 : decode cX11_unpack 154 = .ok (.iload 6, 2) := by decide +kernel
theorem dX11_unpack_156 : decode cX11_unpack 156 = .ok (.bipush 13, 2) := by decide +kernel
theorem dX11_unpack_158 : decode cX11_unpack 158 = .ok (.isub, 1) := by decide +kernel
theorem dX11_unpack_159 : decode cX11_unpack 159 = .ok (.bipush 12, 2) := by decide +kernel
theorem dX11_unpack_161 : decode cX11_unpack 161 = .ok (.idiv, 1) := by decide +kernel
theorem dX11_unpack_162 : decode cX11_unpack 162 = .ok (.istore 9, 2) := by decide +kernel
theorem dX11_unpack_164 : decode cX11_unpack 164 = .ok (.iload 6, 2) := by decide +kernel
theorem dX11_unpack_166 : decode cX11_unpack 166 = .ok (.bipush 13, 2) := by decide +kernel
theorem dX11_unpack_168 : decode cX11_unpack 168 = .ok (.if_icmp .ge 7, 3) := by decide +kernel
theorem dX11_unpack_171 : decode cX11_unpack 171 = .ok (.iconst 0, 1) := by decide +kernel
theorem dX11_unpack_172 : decode cX11_unpack 172 = .ok (.goto 11, 3) := by decide +kernel
theorem dX11_unpack_175 : decode cX11_unpack 175 = .ok (.iload 6, 2) := by decide +kernel
theorem dX11_unpack_177 : decode cX11_unpack 177 = .ok (.bipush 13, 2) := by decide +kernel
theorem dX11_unpack_179 : decode cX11_unpack 179 = .ok (.isub, 1) := by decide +kernel
theorem dX11_unpack_180 : decode cX11_unpack 180 = .ok (.bipush 12, 2) := by decide +kernel
theorem dX11_unpack_182 : decode cX11_unpack 182 = .ok (.irem, 1) := by decide +kernel
theorem dX11_unpack_183 : decode cX11_unpack 183 = .ok (.istore 10, 2) := by decide +kernel
theorem dX11_unpack_185 : decode cX11_unpack 185 = .ok (.aload_n 0, 1) := by decide +kernel
theorem dX11_unpack_186 : decode cX11_unpack 186 = .ok (.getfield 108, 3) := by decide +kernel
theorem dX11_unpack_189 : decode cX11_unpack 189 = .ok (.iconst 2, 1) := by decide +kernel
theorem dX11_unpack_190 : decode cX11_unpack 190 = .ok (.iload 5, 2) := by decide +kernel
theorem dX11_unpack_192 : decode cX11_unpack 192 = .ok (.imul, 1) := by decide +kernel
theorem dX11_unpack_193 : decode cX11_unpack 193 = .ok (.iload 9, 2) := by decide +kernel
theorem dX11_unpack_195 : decode cX11_unpack 195 = .ok (.iconst 4, 1) := by decide +kernel
theorem dX11_unpack_196 : decode cX11_unpack 196 = .ok (.idiv, 1) := by decide +kernel
theorem dX11_unpack_197 : decode cX11_unpack 197 = .ok (.iastore, 1) := by decide +kernel
theorem dX11_unpack_198 : decode cX11_unpack 198 = .ok (.aload_n 0, 1) := by decide +kernel
theorem dX11_unpack_199 : decode cX11_unpack 199 = .ok (.getfield 111, 3) := by decide +kernel
theorem dX11_unpack_202 : decode cX11_unpack 202 = .ok (.iconst 2, 1) := by decide +kernel
theorem dX11_unpack_203 : decode cX11_unpack 203 = .ok (.iload 5, 2) := by decide +kernel
theorem dX11_unpack_205 : decode cX11_unpack 205 = .ok (.imul, 1) := by decide +kernel
theorem dX11_unpack_206 : decode cX11_unpack 206 = .ok (.iload 9, 2) := by decide +kernel
theorem dX11_unpack_208 : decode cX11_unpack 208 = .ok (.iconst 4, 1) := by decide +kernel
theorem dX11_unpack_209 : decode cX11_unpack 209 = .ok (.irem, 1) := by decide +kernel
theorem dX11_unpack_210 : decode cX11_unpack 210 = .ok (.iastore, 1) := by decide +kernel
theorem dX11_unpack_211 : decode cX11_unpack 211 = .ok (.aload_n 0, 1) := by decide +kernel
theorem dX11_unpack_212 : decode cX11_unpack 212 = .ok (.getfield 108, 3) := by decide +kernel
theorem dX11_unpack_215 : decode cX11_unpack 215 = .ok (.iconst 2, 1) := by decide +kernel
theorem dX11_unpack_216 : decode cX11_unpack 216 = .ok (.iload 5, 2) := by decide +kernel
theorem dX11_unpack_218 : decode cX11_unpack 218 = .ok (.imul, 1) := by decide +kernel
theorem dX11_unpack_219 : decode cX11_unpack 219 = .ok (.iconst 1, 1) := by decide +kernel
theorem dX11_unpack_220 : decode cX11_unpack 220 = .ok (.iadd, 1) := by decide +kernel
theorem dX11_unpack_221 : decode cX11_unpack 221 = .ok (.iload 10, 2) := by decide +kernel
theorem dX11_unpack_223 : decode cX11_unpack 223 = .ok (.iconst 4, 1) := by decide +kernel
theorem dX11_unpack_224 : decode cX11_unpack 224 = .ok (.idiv, 1) := by decide +kernel
theorem dX11_unpack_225 : decode cX11_unpack 225 = .ok (.iastore, 1) := by decide +kernel
theorem dX11_unpack_226 : decode cX11_unpack 226 = .ok (.aload_n 0, 1) := by decide +kernel
theorem dX11_unpack_227 : decode cX11_unpack 227 = .ok (.getfield 111, 3) := by decide +kernel
theorem dX11_unpack_230 : decode cX11_unpack 230 = .ok (.iconst 2, 1) := by decide +kernel
theorem dX11_unpack_231 : decode cX11_unpack 231 = .ok (.iload 5, 2) := by decide +kernel
theorem dX11_unpack_233 : decode cX11_unpack 233 = .ok (.imul, 1) := by decide +kernel
theorem dX11_unpack_234 : decode cX11_unpack 234 = .ok (.iconst 1, 1) := by decide +kernel
theorem dX11_unpack_235 : decode cX11_unpack 235 = .ok (.iadd, 1) := by decide +kernel
theorem dX11_unpack_236 : decode cX11_unpack 236 = .ok (.iload 10, 2) := by decide +kernel
theorem dX11_unpack_238 : decode cX11_unpack 238 = .ok (.iconst 4, 1) := by decide +kernel
theorem dX11_unpack_239 : decode cX11_unpack 239 = .ok (.irem, 1) := by decide +kernel
theorem dX11_unpack_240 : decode cX11_unpack 240 = .ok (.iastore, 1) := by decide +kernel
theorem dX11_unpack_241 : decode cX11_unpack 241 = .ok (.iinc 5 (-1), 3) := by decide +kernel
theorem dX11_unpack_244 : decode cX11_unpack 244 = .ok (.goto (-234), 3) := by decide +kernel
theorem dX11_unpack_247 : decode cX11_unpack 247 = .ok (.aload_n 0, 1) := by decide +kernel
theorem dX11_unpack_248 : decode cX11_unpack 248 = .ok (.getfield 90, 3) := by decide +kernel
theorem dX11_unpack_251 : decode cX11_unpack 251 = .ok (.iconst 0, 1) := by decide +kernel
theorem dX11_unpack_252 : decode cX11_unpack 252 = .ok (.lload_n 3, 1) := by decide +kernel
theorem dX11_unpack_253 : decode cX11_unpack 253 = .ok (.ldc2_w 250, 3) := by decide +kernel
theorem dX11_unpack_256 : decode cX11_unpack 256 = .ok (.ldiv, 1) := by decide +kernel
theorem dX11_unpack_257 : decode cX11_unpack 257 = .ok (.l2i, 1) := by decide +kernel
theorem dX11_unpack_258 : decode cX11_unpack 258 = .ok (.iastore, 1) := by decide +kernel
theorem dX11_unpack_259 : decode cX11_unpack 259 = .ok (.aload_n 0, 1) := by decide +kernel
theorem dX11_unpack_260 : decode cX11_unpack 260 = .ok (.getfield 90, 3) := by decide +kernel
theorem dX11_unpack_263 : decode cX11_unpack 263 = .ok (.iconst 1, 1) := by decide +kernel
theorem dX11_unpack_264 : decode cX11_unpack 264 = .ok (.lload_n 3, 1) := by decide +kernel
theorem dX11_unpack_265 : decode cX11_unpack 265 = .ok (.ldc2_w 252, 3) := by decide +kernel
theorem dX11_unpack_268 : decode cX11_unpack 268 = .ok (.ldiv, 1) := by decide +kernel
theorem dX11_unpack_269 : decode cX11_unpack 269 = .ok (.ldc2_w 252, 3) := by decide +kernel
theorem dX11_unpack_272 : decode cX11_unpack 272 = .ok (.lrem, 1) := by decide +kernel
theorem dX11_unpack_273 : decode cX11_unpack 273 = .ok (.l2i, 1) := by decide +kernel
theorem dX11_unpack_274 : decode cX11_unpack 274 = .ok (.iastore, 1) := by decide +kernel
theorem dX11_unpack_275 : decode cX11_unpack 275 = .ok (.aload_n 0, 1) := by decide +kernel
theorem dX11_unpack_276 : decode cX11_unpack 276 = .ok (.getfield 90, 3) := by decide +kernel
theorem dX11_unpack_279 : decode cX11_unpack 279 = .ok (.iconst 2, 1) := by decide +kernel
theorem dX11_unpack_280 : decode cX11_unpack 280 = .ok (.lload_n 3, 1) := by decide +kernel
theorem dX11_unpack_281 : decode cX11_unpack 281 = .ok (.ldc2_w 252, 3) := by decide +kernel
theorem dX11_unpack_284 : decode cX11_unpack 284 = .ok (.lrem, 1) := by decide +kernel
theorem dX11_unpack_285 : decode cX11_unpack 285 = .ok (.l2i, 1) := by decide +kernel
theorem dX11_unpack_286 : decode cX11_unpack 286 = .ok (.iastore, 1) := by decide +kernel
theorem dX11_unpack_287 : decode cX11_unpack 287 = .ok (.return_, 1) := by decide +kernel
theorem dX11_isEnd_0 : decode cX11_isEnd 0 = .ok (.iconst 1, 1) := by decide +kernel
theorem dX11_isEnd_1 : decode cX11_isEnd 1 = .ok (.istore_n 1, 1) := by decide +kernel
theorem dX11_isEnd_2 : decode cX11_isEnd 2 = .ok (.iconst 0, 1) := by decide +kernel
theorem dX11_isEnd_3 : decode cX11_isEnd 3 = .ok (.istore_n 2, 1) := by decide +kernel
theorem dX11_isEnd_4 : decode cX11_isEnd 4 = .ok (.iload_n 2, 1) := by decide +kernel
theorem dX11_isEnd_5 : decode cX11_isEnd 5 = .ok (.aload_n 0, 1) := by decide +kernel
theorem dX11_isEnd_6 : decode cX11_isEnd 6 = .ok (.getfield 234, 3) := by decide +kernel
theorem dX11_isEnd_9 : decode cX11_isEnd 9 = .ok (.if_icmp .ge 43, 3) := by decide +kernel
theorem dX11_isEnd_12 : decode cX11_isEnd 12 = .ok (.iload_n 1, 1) := by decide +kernel
theorem dX11_isEnd_13 : decode cX11_isEnd 13 = .ok (.ifCond .eq 31, 3) := by decide +kernel
theorem dX11_isEnd_16 : decode cX11_isEnd 16 = .ok (.aload_n 0, 1) := by decide +kernel
theorem dX11_isEnd_17 : decode cX11_isEnd 17 = .ok (.getfield 93, 3) := by decide +kernel
theorem dX11_isEnd_20 : decode cX11_isEnd 20 = .ok (.iload_n 2, 1) := by decide +kernel
theorem dX11_isEnd_21 : decode cX11_isEnd 21 = .ok (.iaload, 1) := by decide +kernel
theorem dX11_isEnd_22 : decode cX11_isEnd 22 = .ok (.aload_n 0, 1) := by decide +kernel
theorem dX11_isEnd_23 : decode cX11_isEnd 23 = .ok (.getfield 31, 3) := by decide +kernel
theorem dX11_isEnd_26 : decode cX11_isEnd 26 = .ok (.iload_n 2, 1) := by decide +kernel
theorem dX11_isEnd_27 : decode cX11_isEnd 27 = .ok (.iaload, 1) := by decide +kernel
theorem dX11_isEnd_28 : decode cX11_isEnd 28 = .ok (.if_icmp .ne 16, 3) := by decide +kernel
theorem dX11_isEnd_31 : decode cX11_isEnd 31 = .ok (.aload_n 0, 1) := by decide +kernel
theorem dX11_isEnd_32 : decode cX11_isEnd 32 = .ok (.getfield 105, 3) := by decide +kernel
theorem dX11_isEnd_35 : decode cX11_isEnd 35 = .ok (.iload_n 2, 1) := by decide +kernel
theorem dX11_isEnd_36 : decode cX11_isEnd 36 = .ok (.iaload, 1) := by decide +kernel
theorem dX11_isEnd_37 : decode cX11_isEnd 37 = .ok (.ifCond .ne 7, 3) := by decide +kernel
theorem dX11_isEnd_40 : decode cX11_isEnd 40 = .ok (.iconst 1, 1) := by decide +kernel
theorem dX11_isEnd_41 : decode cX11_isEnd 41 = .ok (.goto 4, 3) := by decide +kernel
theorem dX11_isEnd_44 : decode cX11_isEnd 44 = .ok (.iconst 0, 1) := by decide +kernel
theorem dX11_isEnd_45 : decode cX11_isEnd 45 = .ok (.istore_n 1, 1) := by decide +kernel
theorem dX11_isEnd_46 : decode cX11_isEnd 46 = .ok (.iinc 2 1, 3) := by decide +kernel
theorem dX11_isEnd_49 : decode cX11_isEnd 49 = .ok (.goto (-45), 3) := by decide +kernel
theorem dX11_isEnd_52 : decode cX11_isEnd 52 = .ok (.iload_n 1, 1) := by decide +kernel
theorem dX11_isEnd_53 : decode cX11_isEnd 53 = .ok (.ireturn, 1) := by decide +kernel
theorem dX11_resultNow_0 : decode cX11_resultNow 0 = .ok (.bipush 16, 2) := by decide +kernel
theorem dX11_resultNow_2 : decode cX11_resultNow 2 = .ok (.aload_n 0, 1) := by decide +kernel
theorem dX11_resultNow_3 : decode cX11_resultNow 3 = .ok (.getfield 90, 3) := by decide +kernel
theorem dX11_resultNow_6 : decode cX11_resultNow 6 = .ok (.iconst 0, 1) := by decide +kernel
theorem dX11_resultNow_7 : decode cX11_resultNow 7 = .ok (.iaload, 1) := by decide +kernel
theorem dX11_resultNow_8 : decode cX11_resultNow 8 = .ok (.imul, 1) := by decide +kernel
theorem dX11_resultNow_9 : decode cX11_resultNow 9 = .ok (.iconst 4, 1) := by decide +kernel
theorem dX11_resultNow_10 : decode cX11_resultNow 10 = .ok (.aload_n 0, 1) := by decide +kernel
theorem dX11_resultNow_11 : decode cX11_resultNow 11 = .ok (.getfield 90, 3) := by decide +kernel
theorem dX11_resultNow_14 : decode cX11_resultNow 14 = .ok (.iconst 1, 1) := by decide +kernel
theorem dX11_resultNow_15 : decode cX11_resultNow 15 = .ok (.iaload, 1) := by decide +kernel
theorem dX11_resultNow_16 : decode cX11_resultNow 16 = .ok (.imul, 1) := by decide +kernel
theorem dX11_resultNow_17 : decode cX11_resultNow 17 = .ok (.iadd, 1) := by decide +kernel
theorem dX11_resultNow_18 : decode cX11_resultNow 18 = .ok (.aload_n 0, 1) := by decide +kernel
theorem dX11_resultNow_19 : decode cX11_resultNow 19 = .ok (.getfield 90, 3) := by decide +kernel
theorem dX11_resultNow_22 : decode cX11_resultNow 22 = .ok (.iconst 2, 1) := by decide +kernel
theorem dX11_resultNow_23 : decode cX11_resultNow 23 = .ok (.iaload, 1) := by decide +kernel
theorem dX11_resultNow_24 : decode cX11_resultNow 24 = .ok (.iadd, 1) := by decide +kernel
theorem dX11_resultNow_25 : decode cX11_resultNow 25 = .ok (.istore_n 1, 1) := by decide +kernel
theorem dX11_resultNow_26 : decode cX11_resultNow 26 = .ok (.iconst 0, 1) := by decide +kernel
theorem dX11_resultNow_27 : decode cX11_resultNow 27 = .ok (.istore_n 2, 1) := by decide +kernel
theorem dX11_resultNow_28 : decode cX11_resultNow 28 = .ok (.iload_n 2, 1) := by decide +kernel
theorem dX11_resultNow_29 : decode cX11_resultNow 29 = .ok (.aload_n 0, 1) := by decide +kernel
theorem dX11_resultNow_30 : decode cX11_resultNow 30 = .ok (.getfield 234, 3) := by decide +kernel
theorem dX11_resultNow_33 : decode cX11_resultNow 33 = .ok (.if_icmp .ge 30, 3) := by decide +kernel
theorem dX11_resultNow_36 : decode cX11_resultNow 36 = .ok (.bipush 16, 2) := by decide +kernel
theorem dX11_resultNow_38 : decode cX11_resultNow 38 = .ok (.iload_n 1, 1) := by decide +kernel
theorem dX11_resultNow_39 : decode cX11_resultNow 39 = .ok (.imul, 1) := by decide +kernel
theorem dX11_resultNow_40 : decode cX11_resultNow 40 = .ok (.iconst 4, 1) := by decide +kernel
theorem dX11_resultNow_41 : decode cX11_resultNow 41 = .ok (.aload_n 0, 1) := by decide +kernel
theorem dX11_resultNow_42 : decode cX11_resultNow 42 = .ok (.getfield 99, 3) := by decide +kernel
theorem dX11_resultNow_45 : decode cX11_resultNow 45 = .ok (.iload_n 2, 1) := by decide +kernel
theorem dX11_resultNow_46 : decode cX11_resultNow 46 = .ok (.iaload, 1) := by decide +kernel
theorem dX11_resultNow_47 : decode cX11_resultNow 47 = .ok (.imul, 1) := by decide +kernel
theorem dX11_resultNow_48 : decode cX11_resultNow 48 = .ok (.iadd, 1) := by decide +kernel
theorem dX11_resultNow_49 : decode cX11_resultNow 49 = .ok (.aload_n 0, 1) := by decide +kernel
theorem dX11_resultNow_50 : decode cX11_resultNow 50 = .ok (.getfield 102, 3) := by decide +kernel
theorem dX11_resultNow_53 : decode cX11_resultNow 53 = .ok (.iload_n 2, 1) := by decide +kernel
theorem dX11_resultNow_54 : decode cX11_resultNow 54 = .ok (.iaload, 1) := by decide +kernel
theorem dX11_resultNow_55 : decode cX11_resultNow 55 = .ok (.iadd, 1) := by decide +kernel
theorem dX11_resultNow_56 : decode cX11_resultNow 56 = .ok (.istore_n 1, 1) := by decide +kernel
theorem dX11_resultNow_57 : decode cX11_resultNow 57 = .ok (.iinc 2 1, 3) := by decide +kernel
theorem dX11_resultNow_60 : decode cX11_resultNow 60 = .ok (.goto (-32), 3) := by decide +kernel
theorem dX11_resultNow_63 : decode cX11_resultNow 63 = .ok (.iload_n 1, 1) := by decide +kernel
theorem dX11_resultNow_64 : decode cX11_resultNow 64 = .ok (.ireturn, 1) := by decide +kernel
theorem dX11_stepNow_0 : decode cX11_stepNow 0 = .ok (.bipush 14, 2) := by decide +kernel
theorem dX11_stepNow_2 : decode cX11_stepNow 2 = .ok (.aload_n 0, 1) := by decide +kernel
theorem dX11_stepNow_3 : decode cX11_stepNow 3 = .ok (.getfield 28, 3) := by decide +kernel
theorem dX11_stepNow_6 : decode cX11_stepNow 6 = .ok (.iconst 2, 1) := by decide +kernel
theorem dX11_stepNow_7 : decode cX11_stepNow 7 = .ok (.iload_n 1, 1) := by decide +kernel
theorem dX11_stepNow_8 : decode cX11_stepNow 8 = .ok (.imul, 1) := by decide +kernel
theorem dX11_stepNow_9 : decode cX11_stepNow 9 = .ok (.aload_n 0, 1) := by decide +kernel
theorem dX11_stepNow_10 : decode cX11_stepNow 10 = .ok (.getfield 93, 3) := by decide +kernel
theorem dX11_stepNow_13 : decode cX11_stepNow 13 = .ok (.iload_n 1, 1) := by decide +kernel
theorem dX11_stepNow_14 : decode cX11_stepNow 14 = .ok (.iaload, 1) := by decide +kernel
theorem dX11_stepNow_15 : decode cX11_stepNow 15 = .ok (.iadd, 1) := by decide +kernel
theorem dX11_stepNow_16 : decode cX11_stepNow 16 = .ok (.iaload, 1) := by decide +kernel
theorem dX11_stepNow_17 : decode cX11_stepNow 17 = .ok (.imul, 1) := by decide +kernel
theorem dX11_stepNow_18 : decode cX11_stepNow 18 = .ok (.aload_n 0, 1) := by decide +kernel
theorem dX11_stepNow_19 : decode cX11_stepNow 19 = .ok (.getfield 96, 3) := by decide +kernel
theorem dX11_stepNow_22 : decode cX11_stepNow 22 = .ok (.iload_n 1, 1) := by decide +kernel
theorem dX11_stepNow_23 : decode cX11_stepNow 23 = .ok (.iaload, 1) := by decide +kernel
theorem dX11_stepNow_24 : decode cX11_stepNow 24 = .ok (.iadd, 1) := by decide +kernel
theorem dX11_stepNow_25 : decode cX11_stepNow 25 = .ok (.ireturn, 1) := by decide +kernel
theorem dX11_can_0 : decode cX11_can 0 = .ok (.iload_n 1, 1) := by decide +kernel
theorem dX11_can_1 : decode cX11_can 1 = .ok (.bipush 10, 2) := by decide +kernel
theorem dX11_can_3 : decode cX11_can 3 = .ok (.if_icmp .lt 32, 3) := by decide +kernel
theorem dX11_can_6 : decode cX11_can 6 = .ok (.iload_n 1, 1) := by decide +kernel
theorem dX11_can_7 : decode cX11_can 7 = .ok (.bipush 10, 2) := by decide +kernel
theorem dX11_can_9 : decode cX11_can 9 = .ok (.isub, 1) := by decide +kernel
theorem dX11_can_10 : decode cX11_can 10 = .ok (.aload_n 0, 1) := by decide +kernel
theorem dX11_can_11 : decode cX11_can 11 = .ok (.getfield 234, 3) := by decide +kernel
theorem dX11_can_14 : decode cX11_can 14 = .ok (.if_icmp .ge 19, 3) := by decide +kernel
theorem dX11_can_17 : decode cX11_can 17 = .ok (.aload_n 0, 1) := by decide +kernel
theorem dX11_can_18 : decode cX11_can 18 = .ok (.getfield 105, 3) := by decide +kernel
theorem dX11_can_21 : decode cX11_can 21 = .ok (.iload_n 1, 1) := by decide +kernel
theorem dX11_can_22 : decode cX11_can 22 = .ok (.bipush 10, 2) := by decide +kernel
theorem dX11_can_24 : decode cX11_can 24 = .ok (.isub, 1) := by decide +kernel
theorem dX11_can_25 : decode cX11_can 25 = .ok (.iaload, 1) := by decide +kernel
theorem dX11_can_26 : decode cX11_can 26 = .ok (.ifCond .le 7, 3) := by decide +kernel
theorem dX11_can_29 : decode cX11_can 29 = .ok (.iconst 1, 1) := by decide +kernel
theorem dX11_can_30 : decode cX11_can 30 = .ok (.goto 4, 3) := by decide +kernel
theorem dX11_can_33 : decode cX11_can 33 = .ok (.iconst 0, 1) := by decide +kernel
theorem dX11_can_34 : decode cX11_can 34 = .ok (.ireturn, 1) := by decide +kernel
theorem dX11_can_35 : decode cX11_can 35 = .ok (.iload_n 1, 1) := by decide +kernel
theorem dX11_can_36 : decode cX11_can 36 = .ok (.ifCond .lt 26, 3) := by decide +kernel
theorem dX11_can_39 : decode cX11_can 39 = .ok (.iload_n 1, 1) := by decide +kernel
theorem dX11_can_40 : decode cX11_can 40 = .ok (.aload_n 0, 1) := by decide +kernel
theorem dX11_can_41 : decode cX11_can 41 = .ok (.getfield 234, 3) := by decide +kernel
theorem dX11_can_44 : decode cX11_can 44 = .ok (.if_icmp .ge 18, 3) := by decide +kernel
theorem dX11_can_47 : decode cX11_can 47 = .ok (.aload_n 0, 1) := by decide +kernel
theorem dX11_can_48 : decode cX11_can 48 = .ok (.getfield 93, 3) := by decide +kernel
theorem dX11_can_51 : decode cX11_can 51 = .ok (.iload_n 1, 1) := by decide +kernel
theorem dX11_can_52 : decode cX11_can 52 = .ok (.iaload, 1) := by decide +kernel
theorem dX11_can_53 : decode cX11_can 53 = .ok (.aload_n 0, 1) := by decide +kernel
theorem dX11_can_54 : decode cX11_can 54 = .ok (.getfield 31, 3) := by decide +kernel
theorem dX11_can_57 : decode cX11_can 57 = .ok (.iload_n 1, 1) := by decide +kernel
theorem dX11_can_58 : decode cX11_can 58 = .ok (.iaload, 1) := by decide +kernel
theorem dX11_can_59 : decode cX11_can 59 = .ok (.if_icmp .ne 5, 3) := by decide +kernel
theorem dX11_can_62 : decode cX11_can 62 = .ok (.iconst 0, 1) := by decide +kernel
theorem dX11_can_63 : decode cX11_can 63 = .ok (.ireturn, 1) := by decide +kernel
theorem dX11_can_64 : decode cX11_can 64 = .ok (.aload_n 0, 1) := by decide +kernel
theorem dX11_can_65 : decode cX11_can 65 = .ok (.getfield 69, 3) := by decide +kernel
theorem dX11_can_68 : decode cX11_can 68 = .ok (.aload_n 0, 1) := by decide +kernel
theorem dX11_can_69 : decode cX11_can 69 = .ok (.iload_n 1, 1) := by decide +kernel
theorem dX11_can_70 : decode cX11_can 70 = .ok (.invokevirtual 261, 3) := by decide +kernel
theorem dX11_can_73 : decode cX11_can 73 = .ok (.iaload, 1) := by decide +kernel
theorem dX11_can_74 : decode cX11_can 74 = .ok (.istore_n 3, 1) := by decide +kernel
theorem dX11_can_75 : decode cX11_can 75 = .ok (.iload_n 3, 1) := by decide +kernel
theorem dX11_can_76 : decode cX11_can 76 = .ok (.iconst 2, 1) := by decide +kernel
theorem dX11_can_77 : decode cX11_can 77 = .ok (.if_icmp .ne 23, 3) := by decide +kernel
theorem dX11_can_80 : decode cX11_can 80 = .ok (.iload_n 2, 1) := by decide +kernel
theorem dX11_can_81 : decode cX11_can 81 = .ok (.ifCond .eq 13, 3) := by decide +kernel
theorem dX11_can_84 : decode cX11_can 84 = .ok (.aload_n 0, 1) := by decide +kernel
theorem dX11_can_85 : decode cX11_can 85 = .ok (.getfield 105, 3) := by decide +kernel
theorem dX11_can_88 : decode cX11_can 88 = .ok (.iload_n 1, 1) := by decide +kernel
theorem dX11_can_89 : decode cX11_can 89 = .ok (.iaload, 1) := by decide +kernel
theorem dX11_can_90 : decode cX11_can 90 = .ok (.iconst 2, 1) := by decide +kernel
theorem dX11_can_91 : decode cX11_can 91 = .ok (.if_icmp .ge 7, 3) := by decide +kernel
theorem dX11_can_94 : decode cX11_can 94 = .ok (.iconst 1, 1) := by decide +kernel
theorem dX11_can_95 : decode cX11_can 95 = .ok (.goto 4, 3) := by decide +kernel
theorem dX11_can_98 : decode cX11_can 98 = .ok (.iconst 0, 1) := by decide +kernel
theorem dX11_can_99 : decode cX11_can 99 = .ok (.ireturn, 1) := by decide +kernel
theorem dX11_can_100 : decode cX11_can 100 = .ok (.iload_n 3, 1) := by decide +kernel
theorem dX11_can_101 : decode cX11_can 101 = .ok (.iconst 3, 1) := by decide +kernel
theorem dX11_can_102 : decode cX11_can 102 = .ok (.if_icmp .eq 13, 3) := by decide +kernel
theorem dX11_can_105 : decode cX11_can 105 = .ok (.iload_n 3, 1) := by decide +kernel
theorem dX11_can_106 : decode cX11_can 106 = .ok (.iconst 4, 1) := by decide +kernel
theorem dX11_can_107 : decode cX11_can 107 = .ok (.if_icmp .eq 8, 3) := by decide +kernel
theorem dX11_can_110 : decode cX11_can 110 = .ok (.iload_n 3, 1) := by decide +kernel
theorem dX11_can_111 : decode cX11_can 111 = .ok (.iconst 5, 1) := by decide +kernel
theorem dX11_can_112 : decode cX11_can 112 = .ok (.if_icmp .ne 12, 3) := by decide +kernel
theorem dX11_can_115 : decode cX11_can 115 = .ok (.aload_n 0, 1) := by decide +kernel
theorem dX11_can_116 : decode cX11_can 116 = .ok (.getfield 105, 3) := by decide +kernel
theorem dX11_can_119 : decode cX11_can 119 = .ok (.iload_n 1, 1) := by decide +kernel
theorem dX11_can_120 : decode cX11_can 120 = .ok (.iaload, 1) := by decide +kernel
theorem dX11_can_121 : decode cX11_can 121 = .ok (.ifCond .ne 7, 3) := by decide +kernel
theorem dX11_can_124 : decode cX11_can 124 = .ok (.iconst 1, 1) := by decide +kernel
theorem dX11_can_125 : decode cX11_can 125 = .ok (.goto 4, 3) := by decide +kernel
theorem dX11_can_128 : decode cX11_can 128 = .ok (.iconst 0, 1) := by decide +kernel
theorem dX11_can_129 : decode cX11_can 129 = .ok (.ireturn, 1) := by decide +kernel
theorem dX11_waiting_0 : decode cX11_waiting 0 = .ok (.iconst (-1), 1) := by decide +kernel
theorem dX11_waiting_1 : decode cX11_waiting 1 = .ok (.istore_n 3, 1) := by decide +kernel
theorem dX11_waiting_2 : decode cX11_waiting 2 = .ok (.iconst 0, 1) := by decide +kernel
theorem dX11_waiting_3 : decode cX11_waiting 3 = .ok (.istore 4, 2) := by decide +kernel
theorem dX11_waiting_5 : decode cX11_waiting 5 = .ok (.iload 4, 2) := by decide +kernel
theorem dX11_waiting_7 : decode cX11_waiting 7 = .ok (.aload_n 0, 1) := by decide +kernel
theorem dX11_waiting_8 : decode cX11_waiting 8 = .ok (.getfield 105, 3) := by decide +kernel
theorem dX11_waiting_11 : decode cX11_waiting 11 = .ok (.iload_n 1, 1) := by decide +kernel
theorem dX11_waiting_12 : decode cX11_waiting 12 = .ok (.iaload, 1) := by decide +kernel
theorem dX11_waiting_13 : decode cX11_waiting 13 = .ok (.if_icmp .ge 40, 3) := by decide +kernel
theorem dX11_waiting_16 : decode cX11_waiting 16 = .ok (.aload_n 0, 1) := by decide +kernel
theorem dX11_waiting_17 : decode cX11_waiting 17 = .ok (.getfield 108, 3) := by decide +kernel
theorem dX11_waiting_20 : decode cX11_waiting 20 = .ok (.iconst 2, 1) := by decide +kernel
theorem dX11_waiting_21 : decode cX11_waiting 21 = .ok (.iload_n 1, 1) := by decide +kernel
theorem dX11_waiting_22 : decode cX11_waiting 22 = .ok (.imul, 1) := by decide +kernel
theorem dX11_waiting_23 : decode cX11_waiting 23 = .ok (.iload 4, 2) := by decide +kernel
theorem dX11_waiting_25 : decode cX11_waiting 25 = .ok (.iadd, 1) := by decide +kernel
theorem dX11_waiting_26 : decode cX11_waiting 26 = .ok (.iaload, 1) := by decide +kernel
theorem dX11_waiting_27 : decode cX11_waiting 27 = .ok (.iload_n 2, 1) := by decide +kernel
theorem dX11_waiting_28 : decode cX11_waiting 28 = .ok (.if_icmp .ne 17, 3) := by decide +kernel
theorem dX11_waiting_31 : decode cX11_waiting 31 = .ok (.aload_n 0, 1) := by decide +kernel
theorem dX11_waiting_32 : decode cX11_waiting 32 = .ok (.getfield 111, 3) := by decide +kernel
theorem dX11_waiting_35 : decode cX11_waiting 35 = .ok (.iconst 2, 1) := by decide +kernel
theorem dX11_waiting_36 : decode cX11_waiting 36 = .ok (.iload_n 1, 1) := by decide +kernel
theorem dX11_waiting_37 : decode cX11_waiting 37 = .ok (.imul, 1) := by decide +kernel
theorem dX11_waiting_38 : decode cX11_waiting 38 = .ok (.iload 4, 2) := by decide +kernel
theorem dX11_waiting_40 : decode cX11_waiting 40 = .ok (.iadd, 1) := by decide +kernel
theorem dX11_waiting_41 : decode cX11_waiting 41 = .ok (.iaload, 1) := by decide +kernel
theorem dX11_waiting_42 : decode cX11_waiting 42 = .ok (.goto 4, 3) := by decide +kernel
theorem dX11_waiting_45 : decode cX11_waiting 45 = .ok (.iload_n 3, 1) := by decide +kernel
theorem dX11_waiting_46 : decode cX11_waiting 46 = .ok (.istore_n 3, 1) := by decide +kernel
theorem dX11_waiting_47 : decode cX11_waiting 47 = .ok (.iinc 4 1, 3) := by decide +kernel
theorem dX11_waiting_50 : decode cX11_waiting 50 = .ok (.goto (-45), 3) := by decide +kernel
theorem dX11_waiting_53 : decode cX11_waiting 53 = .ok (.iload_n 3, 1) := by decide +kernel
theorem dX11_waiting_54 : decode cX11_waiting 54 = .ok (.ireturn, 1) := by decide +kernel
theorem dX11_writesTo_0 : decode cX11_writesTo 0 = .ok (.iload 4, 2) := by decide +kernel
theorem dX11_writesTo_2 : decode cX11_writesTo 2 = .ok (.ifCond .ne 16, 3) := by decide +kernel
theorem dX11_writesTo_5 : decode cX11_writesTo 5 = .ok (.aload_n 0, 1) := by decide +kernel
theorem dX11_writesTo_6 : decode cX11_writesTo 6 = .ok (.getfield 90, 3) := by decide +kernel
theorem dX11_writesTo_9 : decode cX11_writesTo 9 = .ok (.iload_n 2, 1) := by decide +kernel
theorem dX11_writesTo_10 : decode cX11_writesTo 10 = .ok (.iload_n 3, 1) := by decide +kernel
theorem dX11_writesTo_11 : decode cX11_writesTo 11 = .ok (.iastore, 1) := by decide +kernel
theorem dX11_writesTo_12 : decode cX11_writesTo 12 = .ok (.aload_n 0, 1) := by decide +kernel
theorem dX11_writesTo_13 : decode cX11_writesTo 13 = .ok (.iload_n 2, 1) := by decide +kernel
theorem dX11_writesTo_14 : decode cX11_writesTo 14 = .ok (.putfield 264, 3) := by decide +kernel
theorem dX11_writesTo_17 : decode cX11_writesTo 17 = .ok (.return_, 1) := by decide +kernel
theorem dX11_writesTo_18 : decode cX11_writesTo 18 = .ok (.aload_n 0, 1) := by decide +kernel
theorem dX11_writesTo_19 : decode cX11_writesTo 19 = .ok (.getfield 108, 3) := by decide +kernel
theorem dX11_writesTo_22 : decode cX11_writesTo 22 = .ok (.iconst 2, 1) := by decide +kernel
theorem dX11_writesTo_23 : decode cX11_writesTo 23 = .ok (.iload_n 1, 1) := by decide +kernel
theorem dX11_writesTo_24 : decode cX11_writesTo 24 = .ok (.imul, 1) := by decide +kernel
theorem dX11_writesTo_25 : decode cX11_writesTo 25 = .ok (.aload_n 0, 1) := by decide +kernel
theorem dX11_writesTo_26 : decode cX11_writesTo 26 = .ok (.getfield 105, 3) := by decide +kernel
theorem dX11_writesTo_29 : decode cX11_writesTo 29 = .ok (.iload_n 1, 1) := by decide +kernel
theorem dX11_writesTo_30 : decode cX11_writesTo 30 = .ok (.iaload, 1) := by decide +kernel
theorem dX11_writesTo_31 : decode cX11_writesTo 31 = .ok (.iadd, 1) := by decide +kernel
theorem dX11_writesTo_32 : decode cX11_writesTo 32 = .ok (.iload_n 2, 1) := by decide +kernel
theorem dX11_writesTo_33 : decode cX11_writesTo 33 = .ok (.iastore, 1) := by decide +kernel
theorem dX11_writesTo_34 : decode cX11_writesTo 34 = .ok (.aload_n 0, 1) := by decide +kernel
theorem dX11_writesTo_35 : decode cX11_writesTo 35 = .ok (.getfield 111, 3) := by decide +kernel
theorem dX11_writesTo_38 : decode cX11_writesTo 38 = .ok (.iconst 2, 1) := by decide +kernel
theorem dX11_writesTo_39 : decode cX11_writesTo 39 = .ok (.iload_n 1, 1) := by decide +kernel
theorem dX11_writesTo_40 : decode cX11_writesTo 40 = .ok (.imul, 1) := by decide +kernel
theorem dX11_writesTo_41 : decode cX11_writesTo 41 = .ok (.aload_n 0, 1) := by decide +kernel
theorem dX11_writesTo_42 : decode cX11_writesTo 42 = .ok (.getfield 105, 3) := by decide +kernel
theorem dX11_writesTo_45 : decode cX11_writesTo 45 = .ok (.iload_n 1, 1) := by decide +kernel
theorem dX11_writesTo_46 : decode cX11_writesTo 46 = .ok (.iaload, 1) := by decide +kernel
theorem dX11_writesTo_47 : decode cX11_writesTo 47 = .ok (.iadd, 1) := by decide +kernel
theorem dX11_writesTo_48 : decode cX11_writesTo 48 = .ok (.iload_n 3, 1) := by decide +kernel
theorem dX11_writesTo_49 : decode cX11_writesTo 49 = .ok (.iastore, 1) := by decide +kernel
theorem dX11_writesTo_50 : decode cX11_writesTo 50 = .ok (.aload_n 0, 1) := by decide +kernel
theorem dX11_writesTo_51 : decode cX11_writesTo 51 = .ok (.getfield 105, 3) := by decide +kernel
theorem dX11_writesTo_54 : decode cX11_writesTo 54 = .ok (.iload_n 1, 1) := by decide +kernel
theorem dX11_writesTo_55 : decode cX11_writesTo 55 = .ok (.dup2, 1) := by decide +kernel
theorem dX11_writesTo_56 : decode cX11_writesTo 56 = .ok (.iaload, 1) := by decide +kernel
theorem dX11_writesTo_57 : decode cX11_writesTo 57 = .ok (.iconst 1, 1) := by decide +kernel
theorem dX11_writesTo_58 : decode cX11_writesTo 58 = .ok (.iadd, 1) := by decide +kernel
theorem dX11_writesTo_59 : decode cX11_writesTo 59 = .ok (.iastore, 1) := by decide +kernel
theorem dX11_writesTo_60 : decode cX11_writesTo 60 = .ok (.return_, 1) := by decide +kernel
theorem dX11_goesOn_0 : decode cX11_goesOn 0 = .ok (.aload_n 0, 1) := by decide +kernel
theorem dX11_goesOn_1 : decode cX11_goesOn 1 = .ok (.getfield 96, 3) := by decide +kernel
theorem dX11_goesOn_4 : decode cX11_goesOn 4 = .ok (.iload_n 1, 1) := by decide +kernel
theorem dX11_goesOn_5 : decode cX11_goesOn 5 = .ok (.iload_n 2, 1) := by decide +kernel
theorem dX11_goesOn_6 : decode cX11_goesOn 6 = .ok (.iastore, 1) := by decide +kernel
theorem dX11_goesOn_7 : decode cX11_goesOn 7 = .ok (.iload_n 2, 1) := by decide +kernel
theorem dX11_goesOn_8 : decode cX11_goesOn 8 = .ok (.aload_n 0, 1) := by decide +kernel
theorem dX11_goesOn_9 : decode cX11_goesOn 9 = .ok (.getfield 66, 3) := by decide +kernel
theorem dX11_goesOn_12 : decode cX11_goesOn 12 = .ok (.aload_n 0, 1) := by decide +kernel
theorem dX11_goesOn_13 : decode cX11_goesOn 13 = .ok (.getfield 28, 3) := by decide +kernel
theorem dX11_goesOn_16 : decode cX11_goesOn 16 = .ok (.iconst 2, 1) := by decide +kernel
theorem dX11_goesOn_17 : decode cX11_goesOn 17 = .ok (.iload_n 1, 1) := by decide +kernel
theorem dX11_goesOn_18 : decode cX11_goesOn 18 = .ok (.imul, 1) := by decide +kernel
theorem dX11_goesOn_19 : decode cX11_goesOn 19 = .ok (.aload_n 0, 1) := by decide +kernel
theorem dX11_goesOn_20 : decode cX11_goesOn 20 = .ok (.getfield 93, 3) := by decide +kernel
theorem dX11_goesOn_23 : decode cX11_goesOn 23 = .ok (.iload_n 1, 1) := by decide +kernel
theorem dX11_goesOn_24 : decode cX11_goesOn 24 = .ok (.iaload, 1) := by decide +kernel
theorem dX11_goesOn_25 : decode cX11_goesOn 25 = .ok (.iadd, 1) := by decide +kernel
theorem dX11_goesOn_26 : decode cX11_goesOn 26 = .ok (.iaload, 1) := by decide +kernel
theorem dX11_goesOn_27 : decode cX11_goesOn 27 = .ok (.iaload, 1) := by decide +kernel
theorem dX11_goesOn_28 : decode cX11_goesOn 28 = .ok (.if_icmp .ne 20, 3) := by decide +kernel
theorem dX11_goesOn_31 : decode cX11_goesOn 31 = .ok (.aload_n 0, 1) := by decide +kernel
theorem dX11_goesOn_32 : decode cX11_goesOn 32 = .ok (.getfield 96, 3) := by decide +kernel
theorem dX11_goesOn_35 : decode cX11_goesOn 35 = .ok (.iload_n 1, 1) := by decide +kernel
theorem dX11_goesOn_36 : decode cX11_goesOn 36 = .ok (.iconst 0, 1) := by decide +kernel
theorem dX11_goesOn_37 : decode cX11_goesOn 37 = .ok (.iastore, 1) := by decide +kernel
theorem dX11_goesOn_38 : decode cX11_goesOn 38 = .ok (.aload_n 0, 1) := by decide +kernel
theorem dX11_goesOn_39 : decode cX11_goesOn 39 = .ok (.getfield 93, 3) := by decide +kernel
theorem dX11_goesOn_42 : decode cX11_goesOn 42 = .ok (.iload_n 1, 1) := by decide +kernel
theorem dX11_goesOn_43 : decode cX11_goesOn 43 = .ok (.dup2, 1) := by decide +kernel
theorem dX11_goesOn_44 : decode cX11_goesOn 44 = .ok (.iaload, 1) := by decide +kernel
theorem dX11_goesOn_45 : decode cX11_goesOn 45 = .ok (.iconst 1, 1) := by decide +kernel
theorem dX11_goesOn_46 : decode cX11_goesOn 46 = .ok (.iadd, 1) := by decide +kernel
theorem dX11_goesOn_47 : decode cX11_goesOn 47 = .ok (.iastore, 1) := by decide +kernel
theorem dX11_goesOn_48 : decode cX11_goesOn 48 = .ok (.return_, 1) := by decide +kernel
theorem dX11_stepsOn_0 : decode cX11_stepsOn 0 = .ok (.aload_n 0, 1) := by decide +kernel
theorem dX11_stepsOn_1 : decode cX11_stepsOn 1 = .ok (.iload_n 1, 1) := by decide +kernel
theorem dX11_stepsOn_2 : decode cX11_stepsOn 2 = .ok (.invokevirtual 261, 3) := by decide +kernel
theorem dX11_stepsOn_5 : decode cX11_stepsOn 5 = .ok (.istore_n 3, 1) := by decide +kernel
theorem dX11_stepsOn_6 : decode cX11_stepsOn 6 = .ok (.aload_n 0, 1) := by decide +kernel
theorem dX11_stepsOn_7 : decode cX11_stepsOn 7 = .ok (.getfield 72, 3) := by decide +kernel
theorem dX11_stepsOn_10 : decode cX11_stepsOn 10 = .ok (.iload_n 3, 1) := by decide +kernel
theorem dX11_stepsOn_11 : decode cX11_stepsOn 11 = .ok (.iaload, 1) := by decide +kernel
theorem dX11_stepsOn_12 : decode cX11_stepsOn 12 = .ok (.istore 4, 2) := by decide +kernel
theorem dX11_stepsOn_14 : decode cX11_stepsOn 14 = .ok (.aload_n 0, 1) := by decide +kernel
theorem dX11_stepsOn_15 : decode cX11_stepsOn 15 = .ok (.getfield 96, 3) := by decide +kernel
theorem dX11_stepsOn_18 : decode cX11_stepsOn 18 = .ok (.iload_n 1, 1) := by decide +kernel
theorem dX11_stepsOn_19 : decode cX11_stepsOn 19 = .ok (.iaload, 1) := by decide +kernel
theorem dX11_stepsOn_20 : decode cX11_stepsOn 20 = .ok (.iconst 1, 1) := by decide +kernel
theorem dX11_stepsOn_21 : decode cX11_stepsOn 21 = .ok (.iadd, 1) := by decide +kernel
theorem dX11_stepsOn_22 : decode cX11_stepsOn 22 = .ok (.istore 5, 2) := by decide +kernel
theorem dX11_stepsOn_24 : decode cX11_stepsOn 24 = .ok (.aload_n 0, 1) := by decide +kernel
theorem dX11_stepsOn_25 : decode cX11_stepsOn 25 = .ok (.getfield 69, 3) := by decide +kernel
theorem dX11_stepsOn_28 : decode cX11_stepsOn 28 = .ok (.iload_n 3, 1) := by decide +kernel
theorem dX11_stepsOn_29 : decode cX11_stepsOn 29 = .ok (.iaload, 1) := by decide +kernel
theorem dX11_stepsOn_30 : decode cX11_stepsOn 30 = .ok (.tableswitch 300 0 7 #[46, 61, 111, 146, 215, 300, 260, 285], 46) := by decide +kernel
theorem dX11_stepsOn_76 : decode cX11_stepsOn 76 = .ok (.aload_n 0, 1) := by decide +kernel
theorem dX11_stepsOn_77 : decode cX11_stepsOn 77 = .ok (.getfield 102, 3) := by decide +kernel
theorem dX11_stepsOn_80 : decode cX11_stepsOn 80 = .ok (.iload_n 1, 1) := by decide +kernel
theorem dX11_stepsOn_81 : decode cX11_stepsOn 81 = .ok (.aload_n 0, 1) := by decide +kernel
theorem dX11_stepsOn_82 : decode cX11_stepsOn 82 = .ok (.getfield 99, 3) := by decide +kernel
theorem dX11_stepsOn_85 : decode cX11_stepsOn 85 = .ok (.iload_n 1, 1) := by decide +kernel
theorem dX11_stepsOn_86 : decode cX11_stepsOn 86 = .ok (.iaload, 1) := by decide +kernel
theorem dX11_stepsOn_87 : decode cX11_stepsOn 87 = .ok (.iastore, 1) := by decide +kernel
theorem dX11_stepsOn_88 : decode cX11_stepsOn 88 = .ok (.goto 242, 3) := by decide +kernel
theorem dX11_stepsOn_91 : decode cX11_stepsOn 91 = .ok (.aload_n 0, 1) := by decide +kernel
theorem dX11_stepsOn_92 : decode cX11_stepsOn 92 = .ok (.iload_n 1, 1) := by decide +kernel
theorem dX11_stepsOn_93 : decode cX11_stepsOn 93 = .ok (.iload 4, 2) := by decide +kernel
theorem dX11_stepsOn_95 : decode cX11_stepsOn 95 = .ok (.invokevirtual 267, 3) := by decide +kernel
theorem dX11_stepsOn_98 : decode cX11_stepsOn 98 = .ok (.istore 6, 2) := by decide +kernel
theorem dX11_stepsOn_100 : decode cX11_stepsOn 100 = .ok (.aload_n 0, 1) := by decide +kernel
theorem dX11_stepsOn_101 : decode cX11_stepsOn 101 = .ok (.iload 6, 2) := by decide +kernel
theorem dX11_stepsOn_103 : decode cX11_stepsOn 103 = .ok (.ifCond .ge 8, 3) := by decide +kernel
theorem dX11_stepsOn_106 : decode cX11_stepsOn 106 = .ok (.iload 4, 2) := by decide +kernel
theorem dX11_stepsOn_108 : decode cX11_stepsOn 108 = .ok (.goto 4, 3) := by decide +kernel
theorem dX11_stepsOn_111 : decode cX11_stepsOn 111 = .ok (.iconst (-1), 1) := by decide +kernel
theorem dX11_stepsOn_112 : decode cX11_stepsOn 112 = .ok (.putfield 264, 3) := by decide +kernel
theorem dX11_stepsOn_115 : decode cX11_stepsOn 115 = .ok (.aload_n 0, 1) := by decide +kernel
theorem dX11_stepsOn_116 : decode cX11_stepsOn 116 = .ok (.getfield 99, 3) := by decide +kernel
theorem dX11_stepsOn_119 : decode cX11_stepsOn 119 = .ok (.iload_n 1, 1) := by decide +kernel
theorem dX11_stepsOn_120 : decode cX11_stepsOn 120 = .ok (.iload 6, 2) := by decide +kernel
theorem dX11_stepsOn_122 : decode cX11_stepsOn 122 = .ok (.ifCond .ge 13, 3) := by decide +kernel
theorem dX11_stepsOn_125 : decode cX11_stepsOn 125 = .ok (.aload_n 0, 1) := by decide +kernel
theorem dX11_stepsOn_126 : decode cX11_stepsOn 126 = .ok (.getfield 90, 3) := by decide +kernel
theorem dX11_stepsOn_129 : decode cX11_stepsOn 129 = .ok (.iload 4, 2) := by decide +kernel
theorem dX11_stepsOn_131 : decode cX11_stepsOn 131 = .ok (.iaload, 1) := by decide +kernel
theorem dX11_stepsOn_132 : decode cX11_stepsOn 132 = .ok (.goto 5, 3) := by decide +kernel
theorem dX11_stepsOn_135 : decode cX11_stepsOn 135 = .ok (.iload 6, 2) := by decide +kernel
theorem dX11_stepsOn_137 : decode cX11_stepsOn 137 = .ok (.iastore, 1) := by decide +kernel
theorem dX11_stepsOn_138 : decode cX11_stepsOn 138 = .ok (.goto 192, 3) := by decide +kernel
theorem dX11_stepsOn_141 : decode cX11_stepsOn 141 = .ok (.aload_n 0, 1) := by decide +kernel
theorem dX11_stepsOn_142 : decode cX11_stepsOn 142 = .ok (.iload_n 1, 1) := by decide +kernel
theorem dX11_stepsOn_143 : decode cX11_stepsOn 143 = .ok (.iload 4, 2) := by decide +kernel
theorem dX11_stepsOn_145 : decode cX11_stepsOn 145 = .ok (.aload_n 0, 1) := by decide +kernel
theorem dX11_stepsOn_146 : decode cX11_stepsOn 146 = .ok (.getfield 75, 3) := by decide +kernel
theorem dX11_stepsOn_149 : decode cX11_stepsOn 149 = .ok (.iload_n 3, 1) := by decide +kernel
theorem dX11_stepsOn_150 : decode cX11_stepsOn 150 = .ok (.iaload, 1) := by decide +kernel
theorem dX11_stepsOn_151 : decode cX11_stepsOn 151 = .ok (.ifCond .ge 12, 3) := by decide +kernel
theorem dX11_stepsOn_154 : decode cX11_stepsOn 154 = .ok (.aload_n 0, 1) := by decide +kernel
theorem dX11_stepsOn_155 : decode cX11_stepsOn 155 = .ok (.getfield 102, 3) := by decide +kernel
theorem dX11_stepsOn_158 : decode cX11_stepsOn 158 = .ok (.iload_n 1, 1) := by decide +kernel
theorem dX11_stepsOn_159 : decode cX11_stepsOn 159 = .ok (.iaload, 1) := by decide +kernel
theorem dX11_stepsOn_160 : decode cX11_stepsOn 160 = .ok (.goto 9, 3) := by decide +kernel
theorem dX11_stepsOn_163 : decode cX11_stepsOn 163 = .ok (.aload_n 0, 1) := by decide +kernel
theorem dX11_stepsOn_164 : decode cX11_stepsOn 164 = .ok (.getfield 75, 3) := by decide +kernel
theorem dX11_stepsOn_167 : decode cX11_stepsOn 167 = .ok (.iload_n 3, 1) := by decide +kernel
theorem dX11_stepsOn_168 : decode cX11_stepsOn 168 = .ok (.iaload, 1) := by decide +kernel
theorem dX11_stepsOn_169 : decode cX11_stepsOn 169 = .ok (.iload_n 2, 1) := by decide +kernel
theorem dX11_stepsOn_170 : decode cX11_stepsOn 170 = .ok (.invokevirtual 270, 3) := by decide +kernel
theorem dX11_stepsOn_173 : decode cX11_stepsOn 173 = .ok (.goto 157, 3) := by decide +kernel
theorem dX11_stepsOn_176 : decode cX11_stepsOn 176 = .ok (.aload_n 0, 1) := by decide +kernel
theorem dX11_stepsOn_177 : decode cX11_stepsOn 177 = .ok (.iload 4, 2) := by decide +kernel
theorem dX11_stepsOn_179 : decode cX11_stepsOn 179 = .ok (.putfield 264, 3) := by decide +kernel
theorem dX11_stepsOn_182 : decode cX11_stepsOn 182 = .ok (.aload_n 0, 1) := by decide +kernel
theorem dX11_stepsOn_183 : decode cX11_stepsOn 183 = .ok (.getfield 99, 3) := by decide +kernel
theorem dX11_stepsOn_186 : decode cX11_stepsOn 186 = .ok (.iload_n 1, 1) := by decide +kernel
theorem dX11_stepsOn_187 : decode cX11_stepsOn 187 = .ok (.aload_n 0, 1) := by decide +kernel
theorem dX11_stepsOn_188 : decode cX11_stepsOn 188 = .ok (.getfield 90, 3) := by decide +kernel
theorem dX11_stepsOn_191 : decode cX11_stepsOn 191 = .ok (.iload 4, 2) := by decide +kernel
theorem dX11_stepsOn_193 : decode cX11_stepsOn 193 = .ok (.iaload, 1) := by decide +kernel
theorem dX11_stepsOn_194 : decode cX11_stepsOn 194 = .ok (.aload_n 0, 1) := by decide +kernel
theorem dX11_stepsOn_195 : decode cX11_stepsOn 195 = .ok (.getfield 75, 3) := by decide +kernel
theorem dX11_stepsOn_198 : decode cX11_stepsOn 198 = .ok (.iload_n 3, 1) := by decide +kernel
theorem dX11_stepsOn_199 : decode cX11_stepsOn 199 = .ok (.iaload, 1) := by decide +kernel
theorem dX11_stepsOn_200 : decode cX11_stepsOn 200 = .ok (.if_icmp .ne 7, 3) := by decide +kernel
theorem dX11_stepsOn_203 : decode cX11_stepsOn 203 = .ok (.iconst 1, 1) := by decide +kernel
theorem dX11_stepsOn_204 : decode cX11_stepsOn 204 = .ok (.goto 4, 3) := by decide +kernel
theorem dX11_stepsOn_207 : decode cX11_stepsOn 207 = .ok (.iconst 0, 1) := by decide +kernel
theorem dX11_stepsOn_208 : decode cX11_stepsOn 208 = .ok (.iastore, 1) := by decide +kernel
theorem dX11_stepsOn_209 : decode cX11_stepsOn 209 = .ok (.aload_n 0, 1) := by decide +kernel
theorem dX11_stepsOn_210 : decode cX11_stepsOn 210 = .ok (.getfield 90, 3) := by decide +kernel
theorem dX11_stepsOn_213 : decode cX11_stepsOn 213 = .ok (.iload 4, 2) := by decide +kernel
theorem dX11_stepsOn_215 : decode cX11_stepsOn 215 = .ok (.aload_n 0, 1) := by decide +kernel
theorem dX11_stepsOn_216 : decode cX11_stepsOn 216 = .ok (.getfield 99, 3) := by decide +kernel
theorem dX11_stepsOn_219 : decode cX11_stepsOn 219 = .ok (.iload_n 1, 1) := by decide +kernel
theorem dX11_stepsOn_220 : decode cX11_stepsOn 220 = .ok (.iaload, 1) := by decide +kernel
theorem dX11_stepsOn_221 : decode cX11_stepsOn 221 = .ok (.iconst 1, 1) := by decide +kernel
theorem dX11_stepsOn_222 : decode cX11_stepsOn 222 = .ok (.if_icmp .ne 12, 3) := by decide +kernel
theorem dX11_stepsOn_225 : decode cX11_stepsOn 225 = .ok (.aload_n 0, 1) := by decide +kernel
theorem dX11_stepsOn_226 : decode cX11_stepsOn 226 = .ok (.getfield 78, 3) := by decide +kernel
theorem dX11_stepsOn_229 : decode cX11_stepsOn 229 = .ok (.iload_n 3, 1) := by decide +kernel
theorem dX11_stepsOn_230 : decode cX11_stepsOn 230 = .ok (.iaload, 1) := by decide +kernel
theorem dX11_stepsOn_231 : decode cX11_stepsOn 231 = .ok (.goto 10, 3) := by decide +kernel
theorem dX11_stepsOn_234 : decode cX11_stepsOn 234 = .ok (.aload_n 0, 1) := by decide +kernel
theorem dX11_stepsOn_235 : decode cX11_stepsOn 235 = .ok (.getfield 90, 3) := by decide +kernel
theorem dX11_stepsOn_238 : decode cX11_stepsOn 238 = .ok (.iload 4, 2) := by decide +kernel
theorem dX11_stepsOn_240 : decode cX11_stepsOn 240 = .ok (.iaload, 1) := by decide +kernel
theorem dX11_stepsOn_241 : decode cX11_stepsOn 241 = .ok (.iastore, 1) := by decide +kernel
theorem dX11_stepsOn_242 : decode cX11_stepsOn 242 = .ok (.goto 88, 3) := by decide +kernel
theorem dX11_stepsOn_245 : decode cX11_stepsOn 245 = .ok (.aload_n 0, 1) := by decide +kernel
theorem dX11_stepsOn_246 : decode cX11_stepsOn 246 = .ok (.iload 4, 2) := by decide +kernel
theorem dX11_stepsOn_248 : decode cX11_stepsOn 248 = .ok (.putfield 264, 3) := by decide +kernel
theorem dX11_stepsOn_251 : decode cX11_stepsOn 251 = .ok (.aload_n 0, 1) := by decide +kernel
theorem dX11_stepsOn_252 : decode cX11_stepsOn 252 = .ok (.getfield 99, 3) := by decide +kernel
theorem dX11_stepsOn_255 : decode cX11_stepsOn 255 = .ok (.iload_n 1, 1) := by decide +kernel
theorem dX11_stepsOn_256 : decode cX11_stepsOn 256 = .ok (.aload_n 0, 1) := by decide +kernel
theorem dX11_stepsOn_257 : decode cX11_stepsOn 257 = .ok (.getfield 90, 3) := by decide +kernel
theorem dX11_stepsOn_260 : decode cX11_stepsOn 260 = .ok (.iload 4, 2) := by decide +kernel
theorem dX11_stepsOn_262 : decode cX11_stepsOn 262 = .ok (.iaload, 1) := by decide +kernel
theorem dX11_stepsOn_263 : decode cX11_stepsOn 263 = .ok (.iastore, 1) := by decide +kernel
