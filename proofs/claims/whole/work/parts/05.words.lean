/-! WORDS: where each lies in the tables -/
theorem tb1 {w : Cond} {i : Nat} (h : tables_1_1[i]? = some w) (hg : goodWord w = true) : w ∈ W0 := W0_of (List.mem_append_right (k2_sels lw_privs) (show w ∈ tables_1 from List.mem_append_left _ (List.mem_of_getElem? h))) hg
theorem tb2 {w : Cond} {i : Nat} (h : tables_1_2[i]? = some w) (hg : goodWord w = true) : w ∈ W0 := W0_of (List.mem_append_right (k2_sels lw_privs) (show w ∈ tables_1 from List.mem_append_right _ (List.mem_append_left _ (List.mem_of_getElem? h)))) hg
theorem tb3 {w : Cond} {i : Nat} (h : tables_1_3[i]? = some w) (hg : goodWord w = true) : w ∈ W0 := W0_of (List.mem_append_right (k2_sels lw_privs) (show w ∈ tables_1 from List.mem_append_right _ (List.mem_append_right _ (List.mem_append_left _ (List.mem_of_getElem? h))))) hg
theorem tb4 {w : Cond} {i : Nat} (h : tables_1_4[i]? = some w) (hg : goodWord w = true) : w ∈ W0 := W0_of (List.mem_append_right (k2_sels lw_privs) (show w ∈ tables_1 from List.mem_append_right _ (List.mem_append_right _ (List.mem_append_right _ (List.mem_append_left _ (List.mem_of_getElem? h)))))) hg
theorem tb5 {w : Cond} {i : Nat} (h : tables_1_5[i]? = some w) (hg : goodWord w = true) : w ∈ W0 := W0_of (List.mem_append_right (k2_sels lw_privs) (show w ∈ tables_1 from List.mem_append_right _ (List.mem_append_right _ (List.mem_append_right _ (List.mem_append_right _ (List.mem_append_left _ (List.mem_of_getElem? h))))))) hg
theorem tb6 {w : Cond} {i : Nat} (h : tables_1_6[i]? = some w) (hg : goodWord w = true) : w ∈ W0 := W0_of (List.mem_append_right (k2_sels lw_privs) (show w ∈ tables_1 from List.mem_append_right _ (List.mem_append_right _ (List.mem_append_right _ (List.mem_append_right _ (List.mem_append_right _ (List.mem_append_left _ (List.mem_of_getElem? h)))))))) hg
theorem tb7 {w : Cond} {i : Nat} (h : tables_1_7[i]? = some w) (hg : goodWord w = true) : w ∈ W0 := W0_of (List.mem_append_right (k2_sels lw_privs) (show w ∈ tables_1 from List.mem_append_right _ (List.mem_append_right _ (List.mem_append_right _ (List.mem_append_right _ (List.mem_append_right _ (List.mem_append_right _ (List.mem_of_getElem? h)))))))) hg
theorem tbp1 {i : Nat} {q : MethodName × Nat} (h : lw_privs_1[i]? = some q) : Cond.selects q.1.cls q.1 q.1 ∈ W0 := W0_of (List.mem_append_left _ (List.mem_map.mpr ⟨q, show q ∈ lw_privs from List.mem_append_left _ (List.mem_of_getElem? h), rfl⟩)) rfl
theorem tbp2 {i : Nat} {q : MethodName × Nat} (h : lw_privs_2[i]? = some q) : Cond.selects q.1.cls q.1 q.1 ∈ W0 := W0_of (List.mem_append_left _ (List.mem_map.mpr ⟨q, show q ∈ lw_privs from List.mem_append_right _ (List.mem_append_left _ (List.mem_of_getElem? h)), rfl⟩)) rfl
theorem tbp3 {i : Nat} {q : MethodName × Nat} (h : lw_privs_3[i]? = some q) : Cond.selects q.1.cls q.1 q.1 ∈ W0 := W0_of (List.mem_append_left _ (List.mem_map.mpr ⟨q, show q ∈ lw_privs from List.mem_append_right _ (List.mem_append_right _ (List.mem_append_left _ (List.mem_of_getElem? h))), rfl⟩)) rfl
theorem tbp4 {i : Nat} {q : MethodName × Nat} (h : lw_privs_4[i]? = some q) : Cond.selects q.1.cls q.1 q.1 ∈ W0 := W0_of (List.mem_append_left _ (List.mem_map.mpr ⟨q, show q ∈ lw_privs from List.mem_append_right _ (List.mem_append_right _ (List.mem_append_right _ (List.mem_append_left _ (List.mem_of_getElem? h)))), rfl⟩)) rfl
theorem tbp5 {i : Nat} {q : MethodName × Nat} (h : lw_privs_5[i]? = some q) : Cond.selects q.1.cls q.1 q.1 ∈ W0 := W0_of (List.mem_append_left _ (List.mem_map.mpr ⟨q, show q ∈ lw_privs from List.mem_append_right _ (List.mem_append_right _ (List.mem_append_right _ (List.mem_append_right _ (List.mem_of_getElem? h)))), rfl⟩)) rfl
theorem w_1_0 : Cond.initialized RL ∈ W0 := tb1 (i := 0) rfl rfl
theorem w_1_1 : Cond.initialized RX10 ∈ W0 := tb1 (i := 1) rfl rfl
theorem w_1_2 : Cond.initialized RX0 ∈ W0 := tb1 (i := 2) rfl rfl
theorem w_1_3 : Cond.initialized RX3 ∈ W0 := tb1 (i := 3) rfl rfl
theorem w_1_4 : Cond.initialized RX8 ∈ W0 := tb1 (i := 4) rfl rfl
theorem w_1_5 : Cond.initialized RX7 ∈ W0 := tb1 (i := 5) rfl rfl
theorem w_1_6 : Cond.initialized RX5 ∈ W0 := tb1 (i := 6) rfl rfl
theorem w_1_7 : Cond.initialized RX1 ∈ W0 := tb1 (i := 7) rfl rfl
theorem w_1_8 : Cond.initialized RX9 ∈ W0 := tb1 (i := 8) rfl rfl
theorem w_1_9 : Cond.initialized RX4 ∈ W0 := tb1 (i := 9) rfl rfl
theorem w_1_10 : Cond.initialized RJ9 ∈ W0 := tb1 (i := 10) rfl rfl
theorem w_1_11 : Cond.initialized RX2 ∈ W0 := tb1 (i := 11) rfl rfl
theorem w_1_12 : Cond.initialized RX6 ∈ W0 := tb1 (i := 12) rfl rfl
theorem w_1_13 : Cond.initialized RX11 ∈ W0 := tb1 (i := 13) rfl rfl
theorem w_1_14 : Cond.initialized RJ0 ∈ W0 := tb1 (i := 14) rfl rfl
theorem w_1_15 : Cond.initialized RJ1 ∈ W0 := tb1 (i := 15) rfl rfl
theorem w_1_16 : Cond.initialized RJ3 ∈ W0 := tb1 (i := 16) rfl rfl
theorem w_1_17 : Cond.initialized RJ2 ∈ W0 := tb1 (i := 17) rfl rfl
theorem w_1_18 : Cond.initialized RJ10 ∈ W0 := tb1 (i := 18) rfl rfl
theorem w_1_19 : Cond.initialized RJ7 ∈ W0 := tb1 (i := 19) rfl rfl
theorem w_1_20 : Cond.initialized RJ6 ∈ W0 := tb1 (i := 20) rfl rfl
theorem w_1_23 : Cond.methodLink RL 9 yX10_init ∈ W0 := tb1 (i := 23) rfl rfl
theorem w_1_24 : Cond.instanceMethod yX10_init ∈ W0 := tb1 (i := 24) rfl rfl
theorem w_1_25 : Cond.code yX10_init cX10_init 2 none ∈ W0 := tb1 (i := 25) rfl rfl
theorem w_1_26 : Cond.methodLink RX10 3 objectInit ∈ W0 := tb1 (i := 26) rfl rfl
theorem w_1_27 : Cond.instanceMethod objectInit ∈ W0 := tb1 (i := 27) rfl rfl
theorem w_1_28 : Cond.code objectInit ⟨#[0xb1]⟩ 1 none ∈ W0 := tb1 (i := 28) rfl rfl
theorem w_1_32 : Cond.instanceMethod yX0_init ∈ W0 := tb1 (i := 32) rfl rfl
theorem w_1_33 : Cond.code yX0_init cX0_init 1 none ∈ W0 := tb1 (i := 33) rfl rfl
theorem w_1_34 : Cond.methodLink RX0 3 objectInit ∈ W0 := tb1 (i := 34) rfl rfl
theorem w_1_35 : Cond.fieldLink RX0 9 "ManyHands$Findings" "counts" "[I" ∈ W0 := tb1 (i := 35) rfl rfl
theorem w_1_36 : Cond.fieldLink RX10 269 "ManyHands$Findings" "counts" "[I" ∈ W0 := tb1 (i := 36) rfl rfl
theorem w_1_37 : Cond.fieldLink RX0 15 "ManyHands$Findings" "total" "I" ∈ W0 := tb1 (i := 37) rfl rfl
theorem w_1_38 : Cond.fieldLink RX10 266 "ManyHands$Findings" "total" "I" ∈ W0 := tb1 (i := 38) rfl rfl
theorem w_1_48 : Cond.instanceMethod yX3_init ∈ W0 := tb1 (i := 48) rfl rfl
theorem w_1_49 : Cond.code yX3_init cX3_init 1 none ∈ W0 := tb1 (i := 49) rfl rfl
theorem w_1_50 : Cond.methodLink RX3 3 objectInit ∈ W0 := tb1 (i := 50) rfl rfl
theorem w_1_54 : Cond.instanceMethod yX8_init ∈ W0 := tb1 (i := 54) rfl rfl
theorem w_1_55 : Cond.code yX8_init cX8_init 1 none ∈ W0 := tb1 (i := 55) rfl rfl
theorem w_1_56 : Cond.methodLink RX8 3 objectInit ∈ W0 := tb1 (i := 56) rfl rfl
theorem w_1_57 : Cond.fieldLink RX8 9 "ManyHands$Tape" "bytes" "[I" ∈ W0 := tb1 (i := 57) rfl rfl
theorem w_1_58 : Cond.fieldLink RX3 68 "ManyHands$Tape" "bytes" "[I" ∈ W0 := tb1 (i := 58) rfl rfl
theorem w_1_59 : Cond.fieldLink RX8 15 "ManyHands$Tape" "size" "I" ∈ W0 := tb1 (i := 59) rfl rfl
theorem w_1_60 : Cond.fieldLink RX10 70 "ManyHands$Tape" "size" "I" ∈ W0 := tb1 (i := 60) rfl rfl
theorem w_1_61 : Cond.fieldLink RX3 65 "ManyHands$Tape" "size" "I" ∈ W0 := tb1 (i := 61) rfl rfl
theorem w_1_67 : Cond.fieldLink RX3 12 "ManyHands$Reader" "tape" "LManyHands$Tape;" ∈ W0 := tb1 (i := 67) rfl rfl
theorem w_1_68 : Cond.fieldLink RX10 23 "ManyHands$Reader" "tape" "LManyHands$Tape;" ∈ W0 := tb1 (i := 68) rfl rfl
theorem w_1_69 : Cond.fieldLink RX3 18 "ManyHands$Reader" "at" "I" ∈ W0 := tb1 (i := 69) rfl rfl
theorem w_1_70 : Cond.fieldLink RX3 26 "ManyHands$Reader" "start" "I" ∈ W0 := tb1 (i := 70) rfl rfl
theorem w_1_71 : Cond.fieldLink RX3 32 "ManyHands$Reader" "token" "I" ∈ W0 := tb1 (i := 71) rfl rfl
theorem w_1_72 : Cond.fieldLink RX3 58 "ManyHands$Reader" "number" "I" ∈ W0 := tb1 (i := 72) rfl rfl
theorem w_1_87 : Cond.instanceMethod yX7_init ∈ W0 := tb1 (i := 87) rfl rfl
theorem w_1_88 : Cond.code yX7_init cX7_init 1 none ∈ W0 := tb1 (i := 88) rfl rfl
theorem w_1_89 : Cond.methodLink RX7 3 objectInit ∈ W0 := tb1 (i := 89) rfl rfl
theorem w_1_93 : Cond.instanceMethod yX5_init ∈ W0 := tb1 (i := 93) rfl rfl
theorem w_1_94 : Cond.code yX5_init cX5_init 1 none ∈ W0 := tb1 (i := 94) rfl rfl
theorem w_1_95 : Cond.methodLink RX5 3 objectInit ∈ W0 := tb1 (i := 95) rfl rfl
theorem w_1_96 : Cond.fieldLink RX5 27 "ManyHands$Setup" "calls" "I" ∈ W0 := tb1 (i := 96) rfl rfl
theorem w_1_97 : Cond.fieldLink RX3 41 "ManyHands$Setup" "calls" "I" ∈ W0 := tb1 (i := 97) rfl rfl
theorem w_1_98 : Cond.fieldLink RX10 80 "ManyHands$Setup" "calls" "I" ∈ W0 := tb1 (i := 98) rfl rfl
theorem w_1_99 : Cond.fieldLink RX7 153 "ManyHands$Setup" "calls" "I" ∈ W0 := tb1 (i := 99) rfl rfl
theorem w_1_100 : Cond.fieldLink RX5 9 "ManyHands$Setup" "lengths" "[I" ∈ W0 := tb1 (i := 100) rfl rfl
theorem w_1_101 : Cond.fieldLink RX3 35 "ManyHands$Setup" "lengths" "[I" ∈ W0 := tb1 (i := 101) rfl rfl
theorem w_1_102 : Cond.fieldLink RX1 55 "ManyHands$Setup" "lengths" "[I" ∈ W0 := tb1 (i := 102) rfl rfl
theorem w_1_103 : Cond.fieldLink RX10 94 "ManyHands$Setup" "lengths" "[I" ∈ W0 := tb1 (i := 103) rfl rfl
theorem w_1_104 : Cond.fieldLink RX7 156 "ManyHands$Setup" "lengths" "[I" ∈ W0 := tb1 (i := 104) rfl rfl
theorem w_1_105 : Cond.fieldLink RX5 15 "ManyHands$Setup" "code" "[I" ∈ W0 := tb1 (i := 105) rfl rfl
theorem w_1_106 : Cond.fieldLink RX1 24 "ManyHands$Setup" "hands" "I" ∈ W0 := tb1 (i := 106) rfl rfl
theorem w_1_107 : Cond.fieldLink RX5 39 "ManyHands$Setup" "hands" "I" ∈ W0 := tb1 (i := 107) rfl rfl
theorem w_1_108 : Cond.fieldLink RX10 132 "ManyHands$Setup" "hands" "I" ∈ W0 := tb1 (i := 108) rfl rfl
theorem w_1_109 : Cond.fieldLink RX5 18 "ManyHands$Setup" "firstCalls" "[I" ∈ W0 := tb1 (i := 109) rfl rfl
theorem w_1_110 : Cond.fieldLink RX1 45 "ManyHands$Setup" "firstCalls" "[I" ∈ W0 := tb1 (i := 110) rfl rfl
theorem w_1_111 : Cond.fieldLink RX10 135 "ManyHands$Setup" "firstCalls" "[I" ∈ W0 := tb1 (i := 111) rfl rfl
theorem w_1_112 : Cond.fieldLink RX5 21 "ManyHands$Setup" "thenCalls" "[I" ∈ W0 := tb1 (i := 112) rfl rfl
theorem w_1_113 : Cond.fieldLink RX1 52 "ManyHands$Setup" "thenCalls" "[I" ∈ W0 := tb1 (i := 113) rfl rfl
theorem w_1_114 : Cond.fieldLink RX10 138 "ManyHands$Setup" "thenCalls" "[I" ∈ W0 := tb1 (i := 114) rfl rfl
theorem w_1_115 : Cond.fieldLink RX5 24 "ManyHands$Setup" "firstValues" "[I" ∈ W0 := tb1 (i := 115) rfl rfl
theorem w_1_116 : Cond.fieldLink RX1 42 "ManyHands$Setup" "firstValues" "[I" ∈ W0 := tb1 (i := 116) rfl rfl
theorem w_1_117 : Cond.fieldLink RX10 126 "ManyHands$Setup" "firstValues" "[I" ∈ W0 := tb1 (i := 117) rfl rfl
theorem w_1_118 : Cond.fieldLink RX1 31 "ManyHands$Setup" "machineNumber" "I" ∈ W0 := tb1 (i := 118) rfl rfl
theorem w_1_119 : Cond.fieldLink RX5 42 "ManyHands$Setup" "machineNumber" "I" ∈ W0 := tb1 (i := 119) rfl rfl
theorem w_1_120 : Cond.fieldLink RX10 129 "ManyHands$Setup" "machineNumber" "I" ∈ W0 := tb1 (i := 120) rfl rfl
theorem w_1_141 : Cond.instanceMethod yX1_init ∈ W0 := tb1 (i := 141) rfl rfl
theorem w_1_142 : Cond.code yX1_init cX1_init 1 none ∈ W0 := tb1 (i := 142) rfl rfl
theorem w_1_143 : Cond.methodLink RX1 5 objectInit ∈ W0 := tb1 (i := 143) rfl rfl
theorem w_1_144 : Cond.fieldLink RX1 30 "ManyHands$Machine" "hands" "I" ∈ W0 := tb1 (i := 144) rfl rfl
theorem w_1_145 : Cond.fieldLink RX7 71 "ManyHands$Machine" "hands" "I" ∈ W0 := tb1 (i := 145) rfl rfl
theorem w_1_146 : Cond.fieldLink RX1 34 "ManyHands$Machine" "isLate" "Z" ∈ W0 := tb1 (i := 146) rfl rfl
theorem w_1_147 : Cond.fieldLink RX2 52 "ManyHands$Machine" "isLate" "Z" ∈ W0 := tb1 (i := 147) rfl rfl
theorem w_1_148 : Cond.fieldLink RX9 53 "ManyHands$Machine" "isLate" "Z" ∈ W0 := tb1 (i := 148) rfl rfl
theorem w_1_149 : Cond.fieldLink RX2 21 "ManyHands$Machine" "first" "J" ∈ W0 := tb1 (i := 149) rfl rfl
theorem w_1_150 : Cond.fieldLink RX9 43 "ManyHands$Machine" "first" "J" ∈ W0 := tb1 (i := 150) rfl rfl
theorem w_1_151 : Cond.fieldLink RX1 38 "ManyHands$Machine" "first" "J" ∈ W0 := tb1 (i := 151) rfl rfl
theorem w_1_152 : Cond.fieldLink RX7 63 "ManyHands$Machine" "first" "J" ∈ W0 := tb1 (i := 152) rfl rfl
theorem w_1_153 : Cond.fieldLink RX1 11 "ManyHands$Machine" "code" "[I" ∈ W0 := tb1 (i := 153) rfl rfl
theorem w_1_154 : Cond.fieldLink RX1 15 "ManyHands$Machine" "placesOfSteps" "[I" ∈ W0 := tb1 (i := 154) rfl rfl
theorem w_1_155 : Cond.fieldLink RX1 18 "ManyHands$Machine" "seconds" "[I" ∈ W0 := tb1 (i := 155) rfl rfl
theorem w_1_156 : Cond.fieldLink RX1 21 "ManyHands$Machine" "lengths" "[I" ∈ W0 := tb1 (i := 156) rfl rfl
theorem w_1_175 : Cond.instanceMethod yX9_init ∈ W0 := tb1 (i := 175) rfl rfl
theorem w_1_176 : Cond.code yX9_init cX9_init 1 none ∈ W0 := tb1 (i := 176) rfl rfl
theorem w_1_177 : Cond.methodLink RX9 3 objectInit ∈ W0 := tb1 (i := 177) rfl rfl
theorem w_1_178 : Cond.constant RX9 25 (36000) ∈ W0 := tb1 (i := 178) rfl rfl
theorem w_1_179 : Cond.fieldLink RX9 9 "ManyHands$Turns" "found" "[J" ∈ W0 := tb1 (i := 179) rfl rfl
theorem w_1_180 : Cond.fieldLink RX9 15 "ManyHands$Turns" "slots" "[I" ∈ W0 := tb1 (i := 180) rfl rfl
theorem w_1_181 : Cond.fieldLink RX9 19 "ManyHands$Turns" "slotsOfFound" "[I" ∈ W0 := tb1 (i := 181) rfl rfl
theorem w_1_182 : Cond.fieldLink RX9 22 "ManyHands$Turns" "cameBy" "[I" ∈ W0 := tb1 (i := 182) rfl rfl
theorem w_1_183 : Cond.fieldLink RX9 26 "ManyHands$Turns" "nexts" "[I" ∈ W0 := tb1 (i := 183) rfl rfl
theorem w_1_184 : Cond.fieldLink RX9 29 "ManyHands$Turns" "marks" "[I" ∈ W0 := tb1 (i := 184) rfl rfl
theorem w_1_185 : Cond.fieldLink RX9 32 "ManyHands$Turns" "line" "[I" ∈ W0 := tb1 (i := 185) rfl rfl
theorem w_1_186 : Cond.fieldLink RX9 35 "ManyHands$Turns" "count" "I" ∈ W0 := tb1 (i := 186) rfl rfl
theorem w_1_187 : Cond.fieldLink RX10 149 "ManyHands$Turns" "count" "I" ∈ W0 := tb1 (i := 187) rfl rfl
theorem w_1_188 : Cond.fieldLink RX9 39 "ManyHands$Turns" "isTooLarge" "Z" ∈ W0 := tb1 (i := 188) rfl rfl
theorem w_1_189 : Cond.fieldLink RX7 95 "ManyHands$Turns" "isTooLarge" "Z" ∈ W0 := tb1 (i := 189) rfl rfl
theorem w_1_212 : Cond.methodLink RX7 34 yX4_init ∈ W0 := tb1 (i := 212) rfl rfl
theorem w_1_213 : Cond.instanceMethod yX4_init ∈ W0 := tb1 (i := 213) rfl rfl
theorem w_1_214 : Cond.code yX4_init cX4_init 2 none ∈ W0 := tb1 (i := 214) rfl rfl
theorem w_1_215 : Cond.methodLink RX4 1 objectInit ∈ W0 := tb1 (i := 215) rfl rfl
theorem w_1_216 : Cond.methodLink RX4 7 yJ9_max_7cf53 ∈ W0 := tb1 (i := 216) rfl rfl
theorem w_1_217 : Cond.static yJ9_max_7cf53 ∈ W0 := tb1 (i := 217) rfl rfl
theorem w_1_218 : Cond.code yJ9_max_7cf53 cJ9_max_7cf53 2 (some .int) ∈ W0 := tb1 (i := 218) rfl rfl
theorem w_1_219 : Cond.fieldLink RX4 13 "ManyHands$Row" "items" "[I" ∈ W0 := tb1 (i := 219) rfl rfl
theorem w_1_220 : Cond.fieldLink RX7 106 "ManyHands$Row" "items" "[I" ∈ W0 := tb1 (i := 220) rfl rfl
theorem w_1_221 : Cond.fieldLink RX10 161 "ManyHands$Row" "items" "[I" ∈ W0 := tb1 (i := 221) rfl rfl
theorem w_1_222 : Cond.fieldLink RX4 19 "ManyHands$Row" "size" "I" ∈ W0 := tb1 (i := 222) rfl rfl
theorem w_1_223 : Cond.fieldLink RX7 59 "ManyHands$Row" "size" "I" ∈ W0 := tb1 (i := 223) rfl rfl
theorem w_1_224 : Cond.fieldLink RX9 68 "ManyHands$Row" "size" "I" ∈ W0 := tb1 (i := 224) rfl rfl
theorem w_1_225 : Cond.fieldLink RX10 158 "ManyHands$Row" "size" "I" ∈ W0 := tb1 (i := 225) rfl rfl
theorem w_1_231 : Cond.fieldLink RX7 12 "ManyHands$Study" "setup" "LManyHands$Setup;" ∈ W0 := tb1 (i := 231) rfl rfl
theorem w_1_232 : Cond.fieldLink RX10 35 "ManyHands$Study" "setup" "LManyHands$Setup;" ∈ W0 := tb1 (i := 232) rfl rfl
theorem w_1_233 : Cond.fieldLink RX7 21 "ManyHands$Study" "machine" "LManyHands$Machine;" ∈ W0 := tb1 (i := 233) rfl rfl
theorem w_1_234 : Cond.fieldLink RX10 203 "ManyHands$Study" "machine" "LManyHands$Machine;" ∈ W0 := tb1 (i := 234) rfl rfl
theorem w_1_235 : Cond.fieldLink RX7 28 "ManyHands$Study" "turns" "LManyHands$Turns;" ∈ W0 := tb1 (i := 235) rfl rfl
theorem w_1_236 : Cond.fieldLink RX10 145 "ManyHands$Study" "turns" "LManyHands$Turns;" ∈ W0 := tb1 (i := 236) rfl rfl
theorem w_1_237 : Cond.fieldLink RX7 37 "ManyHands$Study" "endResults" "LManyHands$Row;" ∈ W0 := tb1 (i := 237) rfl rfl
theorem w_1_238 : Cond.fieldLink RX10 154 "ManyHands$Study" "endResults" "LManyHands$Row;" ∈ W0 := tb1 (i := 238) rfl rfl
theorem w_1_239 : Cond.fieldLink RX7 41 "ManyHands$Study" "orderResults" "LManyHands$Row;" ∈ W0 := tb1 (i := 239) rfl rfl
theorem w_2_0 : Cond.fieldLink RX7 44 "ManyHands$Study" "fencePlaces" "[I" ∈ W0 := tb2 (i := 0) rfl rfl
theorem w_2_1 : Cond.fieldLink RX7 48 "ManyHands$Study" "knowsTurns" "Z" ∈ W0 := tb2 (i := 1) rfl rfl
theorem w_2_2 : Cond.fieldLink RX7 52 "ManyHands$Study" "knowsOrders" "Z" ∈ W0 := tb2 (i := 2) rfl rfl
theorem w_2_25 : Cond.instanceMethod yX2_init ∈ W0 := tb2 (i := 25) rfl rfl
theorem w_2_26 : Cond.code yX2_init cX2_init 1 none ∈ W0 := tb2 (i := 26) rfl rfl
theorem w_2_27 : Cond.methodLink RX2 3 objectInit ∈ W0 := tb2 (i := 27) rfl rfl
theorem w_2_28 : Cond.fieldLink RX2 9 "ManyHands$Play" "latestHands" "[I" ∈ W0 := tb2 (i := 28) rfl rfl
theorem w_2_29 : Cond.fieldLink RX2 27 "ManyHands$Play" "state" "J" ∈ W0 := tb2 (i := 29) rfl rfl
theorem w_2_30 : Cond.fieldLink RX10 207 "ManyHands$Play" "state" "J" ∈ W0 := tb2 (i := 30) rfl rfl
theorem w_2_31 : Cond.fieldLink RX2 30 "ManyHands$Play" "done" "I" ∈ W0 := tb2 (i := 31) rfl rfl
theorem w_2_32 : Cond.fieldLink RX10 200 "ManyHands$Play" "done" "I" ∈ W0 := tb2 (i := 32) rfl rfl
theorem w_2_33 : Cond.fieldLink RX2 34 "ManyHands$Play" "price" "I" ∈ W0 := tb2 (i := 33) rfl rfl
theorem w_2_34 : Cond.fieldLink RX10 197 "ManyHands$Play" "price" "I" ∈ W0 := tb2 (i := 34) rfl rfl
theorem w_2_48 : Cond.instanceMethod yX6_init ∈ W0 := tb2 (i := 48) rfl rfl
theorem w_2_49 : Cond.code yX6_init cX6_init 1 none ∈ W0 := tb2 (i := 49) rfl rfl
theorem w_2_50 : Cond.methodLink RX6 3 objectInit ∈ W0 := tb2 (i := 50) rfl rfl
theorem w_2_51 : Cond.fieldLink RX6 15 "ManyHands$Sheet" "bits" "I" ∈ W0 := tb2 (i := 51) rfl rfl
theorem w_2_52 : Cond.fieldLink RX10 242 "ManyHands$Sheet" "bits" "I" ∈ W0 := tb2 (i := 52) rfl rfl
theorem w_2_53 : Cond.fieldLink RX6 19 "ManyHands$Sheet" "size" "I" ∈ W0 := tb2 (i := 53) rfl rfl
theorem w_2_54 : Cond.fieldLink RX2 37 "ManyHands$Sheet" "size" "I" ∈ W0 := tb2 (i := 54) rfl rfl
theorem w_2_55 : Cond.fieldLink RX10 241 "ManyHands$Sheet" "size" "I" ∈ W0 := tb2 (i := 55) rfl rfl
theorem w_2_56 : Cond.fieldLink RX6 9 "ManyHands$Sheet" "numbers" "[J" ∈ W0 := tb2 (i := 56) rfl rfl
theorem w_2_57 : Cond.fieldLink RX2 42 "ManyHands$Sheet" "numbers" "[J" ∈ W0 := tb2 (i := 57) rfl rfl
theorem w_2_58 : Cond.fieldLink RX10 245 "ManyHands$Sheet" "numbers" "[J" ∈ W0 := tb2 (i := 58) rfl rfl
theorem w_2_66 : Cond.fieldLink RX10 12 "ManyHands" "findings" "LManyHands$Findings;" ∈ W0 := tb2 (i := 66) rfl rfl
theorem w_2_67 : Cond.fieldLink RX10 19 "ManyHands" "reader" "LManyHands$Reader;" ∈ W0 := tb2 (i := 67) rfl rfl
theorem w_2_68 : Cond.fieldLink RX10 27 "ManyHands" "tape" "LManyHands$Tape;" ∈ W0 := tb2 (i := 68) rfl rfl
theorem w_2_69 : Cond.fieldLink RX10 31 "ManyHands" "study" "LManyHands$Study;" ∈ W0 := tb2 (i := 69) rfl rfl
theorem w_2_70 : Cond.fieldLink RX10 39 "ManyHands" "now" "LManyHands$Setup;" ∈ W0 := tb2 (i := 70) rfl rfl
theorem w_2_71 : Cond.fieldLink RX10 45 "ManyHands" "kept" "LManyHands$Setup;" ∈ W0 := tb2 (i := 71) rfl rfl
theorem w_2_72 : Cond.fieldLink RX10 48 "ManyHands" "isKept" "Z" ∈ W0 := tb2 (i := 72) rfl rfl
theorem w_2_73 : Cond.fieldLink RX10 55 "ManyHands" "play" "LManyHands$Play;" ∈ W0 := tb2 (i := 73) rfl rfl
theorem w_2_74 : Cond.fieldLink RX10 61 "ManyHands" "sheets" "[LManyHands$Sheet;" ∈ W0 := tb2 (i := 74) rfl rfl
theorem w_2_94 : Cond.methodLink RL 13 yX10_feed ∈ W0 := tb2 (i := 94) rfl rfl
theorem w_2_95 : Cond.instanceMethod yX10_feed ∈ W0 := tb2 (i := 95) rfl rfl
theorem w_2_96 : Cond.selects yX10_feed.cls yX10_feed yX10_feed ∈ W0 := tb2 (i := 96) rfl rfl
theorem w_2_97 : Cond.code yX10_feed cX10_feed 3 (some .int) ∈ W0 := tb2 (i := 97) rfl rfl
theorem w_2_98 : Cond.methodLink RX10 66 yX0_tell ∈ W0 := tb2 (i := 98) rfl rfl
theorem w_2_99 : Cond.instanceMethod yX0_tell ∈ W0 := tb2 (i := 99) rfl rfl
theorem w_2_100 : Cond.selects yX0_tell.cls yX0_tell yX0_tell ∈ W0 := tb2 (i := 100) rfl rfl
theorem w_2_101 : Cond.code yX0_tell cX0_tell 2 (some .int) ∈ W0 := tb2 (i := 101) rfl rfl
theorem w_2_102 : Cond.constant RX0 19 (-1000000001) ∈ W0 := tb2 (i := 102) rfl rfl
theorem w_2_103 : Cond.methodLink RX10 76 yX8_append ∈ W0 := tb2 (i := 103) rfl rfl
theorem w_2_104 : Cond.instanceMethod yX8_append ∈ W0 := tb2 (i := 104) rfl rfl
theorem w_2_105 : Cond.selects yX8_append.cls yX8_append yX8_append ∈ W0 := tb2 (i := 105) rfl rfl
theorem w_2_106 : Cond.code yX8_append cX8_append 4 none ∈ W0 := tb2 (i := 106) rfl rfl
theorem w_2_107 : Cond.methodLink RL 18 yX10_wipe ∈ W0 := tb2 (i := 107) rfl rfl
theorem w_2_108 : Cond.instanceMethod yX10_wipe ∈ W0 := tb2 (i := 108) rfl rfl
theorem w_2_109 : Cond.selects yX10_wipe.cls yX10_wipe yX10_wipe ∈ W0 := tb2 (i := 109) rfl rfl
theorem w_2_110 : Cond.code yX10_wipe cX10_wipe 2 (some .int) ∈ W0 := tb2 (i := 110) rfl rfl
theorem w_2_111 : Cond.methodLink RL 23 yX10_text ∈ W0 := tb2 (i := 111) rfl rfl
theorem w_2_112 : Cond.instanceMethod yX10_text ∈ W0 := tb2 (i := 112) rfl rfl
theorem w_2_113 : Cond.selects yX10_text.cls yX10_text yX10_text ∈ W0 := tb2 (i := 113) rfl rfl
theorem w_2_114 : Cond.code yX10_text cX10_text 2 (some .int) ∈ W0 := tb2 (i := 114) rfl rfl
theorem w_2_115 : Cond.methodLink RX10 83 yX3_faultOfNewCall ∈ W0 := tb2 (i := 115) rfl rfl
theorem w_2_116 : Cond.instanceMethod yX3_faultOfNewCall ∈ W0 := tb2 (i := 116) rfl rfl
theorem w_2_117 : Cond.selects yX3_faultOfNewCall.cls yX3_faultOfNewCall yX3_faultOfNewCall ∈ W0 := tb2 (i := 117) rfl rfl
theorem w_2_118 : Cond.code yX3_faultOfNewCall cX3_faultOfNewCall 3 (some .int) ∈ W0 := tb2 (i := 118) rfl rfl
theorem w_2_119 : Cond.methodLink RX3 22 yX3_readStep ∈ W0 := tb2 (i := 119) rfl rfl
theorem w_2_121 : Cond.instanceMethod yX3_readStep ∈ W0 := tb2 (i := 121) rfl rfl
theorem w_2_122 : Cond.code yX3_readStep cX3_readStep 6 (some .boolean) ∈ W0 := tb2 (i := 122) rfl rfl
theorem w_2_123 : Cond.methodLink RX3 29 yX3_nextToken ∈ W0 := tb2 (i := 123) rfl rfl
theorem w_2_125 : Cond.instanceMethod yX3_nextToken ∈ W0 := tb2 (i := 125) rfl rfl
theorem w_2_126 : Cond.code yX3_nextToken cX3_nextToken 1 none ∈ W0 := tb2 (i := 126) rfl rfl
theorem w_2_127 : Cond.methodLink RX3 71 yX3_isIn ∈ W0 := tb2 (i := 127) rfl rfl
theorem w_2_128 : Cond.static yX3_isIn ∈ W0 := tb2 (i := 128) rfl rfl
theorem w_2_129 : Cond.code yX3_isIn cX3_isIn 3 (some .boolean) ∈ W0 := tb2 (i := 129) rfl rfl
theorem w_2_130 : Cond.methodLink RX3 75 yJ9_min_7cf53 ∈ W0 := tb2 (i := 130) rfl rfl
theorem w_2_131 : Cond.static yJ9_min_7cf53 ∈ W0 := tb2 (i := 131) rfl rfl
theorem w_2_132 : Cond.code yJ9_min_7cf53 cJ9_min_7cf53 2 (some .int) ∈ W0 := tb2 (i := 132) rfl rfl
theorem w_2_133 : Cond.methodLink RX3 44 yX3_latestWord ∈ W0 := tb2 (i := 133) rfl rfl
theorem w_2_135 : Cond.instanceMethod yX3_latestWord ∈ W0 := tb2 (i := 135) rfl rfl
theorem w_2_136 : Cond.code yX3_latestWord cX3_latestWord 2 (some .int) ∈ W0 := tb2 (i := 136) rfl rfl
theorem w_2_137 : Cond.methodLink RX3 80 yX3_spelling ∈ W0 := tb2 (i := 137) rfl rfl
theorem w_2_138 : Cond.static yX3_spelling ∈ W0 := tb2 (i := 138) rfl rfl
theorem w_2_139 : Cond.code yX3_spelling cX3_spelling 1 (some (.object "java/lang/String")) ∈ W0 := tb2 (i := 139) rfl rfl
theorem w_2_149 : Cond.methodLink RX3 84 yX3_isLatest ∈ W0 := tb2 (i := 149) rfl rfl
theorem w_2_151 : Cond.instanceMethod yX3_isLatest ∈ W0 := tb2 (i := 151) rfl rfl
theorem w_2_152 : Cond.code yX3_isLatest cX3_isLatest 3 (some .boolean) ∈ W0 := tb2 (i := 152) rfl rfl
theorem w_2_153 : Cond.methodLink RX3 88 yJ0_length_8abf5 ∈ W0 := tb2 (i := 153) rfl rfl
theorem w_2_154 : Cond.instanceMethod yJ0_length_8abf5 ∈ W0 := tb2 (i := 154) rfl rfl
theorem w_2_155 : Cond.selects yJ0_length_8abf5.cls yJ0_length_8abf5 yJ0_length_8abf5 ∈ W0 := tb2 (i := 155) rfl rfl
theorem w_2_156 : Cond.code yJ0_length_8abf5 cJ0_length_8abf5 1 (some .int) ∈ W0 := tb2 (i := 156) rfl rfl
theorem w_2_157 : Cond.methodLink RJ0 335 yJ0_coder_7d493 ∈ W0 := tb2 (i := 157) rfl rfl
theorem w_2_158 : Cond.instanceMethod yJ0_coder_7d493 ∈ W0 := tb2 (i := 158) rfl rfl
theorem w_2_159 : Cond.selects yJ0_coder_7d493.cls yJ0_coder_7d493 yJ0_coder_7d493 ∈ W0 := tb2 (i := 159) rfl rfl
theorem w_2_160 : Cond.code yJ0_coder_7d493 cJ0_coder_7d493 1 (some .byte) ∈ W0 := tb2 (i := 160) rfl rfl
theorem w_2_161 : Cond.fieldLink RJ0 38 "java/lang/String" "COMPACT_STRINGS" "Z" ∈ W0 := tb2 (i := 161) rfl rfl
theorem w_2_163 : Cond.methodLink RX3 93 yJ0_charAt_5068e ∈ W0 := tb2 (i := 163) rfl rfl
theorem w_2_164 : Cond.instanceMethod yJ0_charAt_5068e ∈ W0 := tb2 (i := 164) rfl rfl
theorem w_2_165 : Cond.selects yJ0_charAt_5068e.cls yJ0_charAt_5068e yJ0_charAt_5068e ∈ W0 := tb2 (i := 165) rfl rfl
theorem w_2_166 : Cond.code yJ0_charAt_5068e cJ0_charAt_5068e 2 (some .char) ∈ W0 := tb2 (i := 166) rfl rfl
theorem w_2_167 : Cond.methodLink RJ0 492 yJ0_isLatin1_aae02 ∈ W0 := tb2 (i := 167) rfl rfl
theorem w_2_168 : Cond.instanceMethod yJ0_isLatin1_aae02 ∈ W0 := tb2 (i := 168) rfl rfl
theorem w_2_169 : Cond.selects yJ0_isLatin1_aae02.cls yJ0_isLatin1_aae02 yJ0_isLatin1_aae02 ∈ W0 := tb2 (i := 169) rfl rfl
theorem w_2_170 : Cond.code yJ0_isLatin1_aae02 cJ0_isLatin1_aae02 1 (some .boolean) ∈ W0 := tb2 (i := 170) rfl rfl
theorem w_2_171 : Cond.methodLink RJ0 495 yJ1_charAt_3b067 ∈ W0 := tb2 (i := 171) rfl rfl
theorem w_2_172 : Cond.static yJ1_charAt_3b067 ∈ W0 := tb2 (i := 172) rfl rfl
theorem w_2_173 : Cond.code yJ1_charAt_3b067 cJ1_charAt_3b067 2 (some .char) ∈ W0 := tb2 (i := 173) rfl rfl
theorem w_2_174 : Cond.methodLink RJ1 9 yJ0_checkIndex_df160 ∈ W0 := tb2 (i := 174) rfl rfl
theorem w_2_175 : Cond.static yJ0_checkIndex_df160 ∈ W0 := tb2 (i := 175) rfl rfl
theorem w_2_176 : Cond.code yJ0_checkIndex_df160 cJ0_checkIndex_df160 2 none ∈ W0 := tb2 (i := 176) rfl rfl
theorem w_2_177 : Cond.fieldLink RJ0 1053 "jdk/internal/util/Preconditions" "SIOOBE_FORMATTER" "Ljava/util/function/BiFunction;" ∈ W0 := tb2 (i := 177) rfl rfl
theorem w_2_179 : Cond.methodLink RJ0 1059 yJ3_checkIndex_8e157 ∈ W0 := tb2 (i := 179) rfl rfl
theorem w_2_180 : Cond.static yJ3_checkIndex_8e157 ∈ W0 := tb2 (i := 180) rfl rfl
theorem w_2_181 : Cond.code yJ3_checkIndex_8e157 cJ3_checkIndex_8e157 3 (some .int) ∈ W0 := tb2 (i := 181) rfl rfl
theorem w_2_182 : Cond.methodLink RJ0 498 yJ2_charAt_3b067 ∈ W0 := tb2 (i := 182) rfl rfl
theorem w_2_183 : Cond.static yJ2_charAt_3b067 ∈ W0 := tb2 (i := 183) rfl rfl
theorem w_2_184 : Cond.code yJ2_charAt_3b067 cJ2_charAt_3b067 2 (some .char) ∈ W0 := tb2 (i := 184) rfl rfl
theorem w_2_185 : Cond.methodLink RJ2 67 yJ2_checkIndex_2214a ∈ W0 := tb2 (i := 185) rfl rfl
theorem w_2_186 : Cond.static yJ2_checkIndex_2214a ∈ W0 := tb2 (i := 186) rfl rfl
theorem w_2_187 : Cond.code yJ2_checkIndex_2214a cJ2_checkIndex_2214a 2 none ∈ W0 := tb2 (i := 187) rfl rfl
theorem w_2_188 : Cond.methodLink RJ2 48 yJ2_length_9d52b ∈ W0 := tb2 (i := 188) rfl rfl
theorem w_2_189 : Cond.static yJ2_length_9d52b ∈ W0 := tb2 (i := 189) rfl rfl
theorem w_2_190 : Cond.code yJ2_length_9d52b cJ2_length_9d52b 1 (some .int) ∈ W0 := tb2 (i := 190) rfl rfl
theorem w_2_191 : Cond.methodLink RJ2 414 yJ0_checkIndex_df160 ∈ W0 := tb2 (i := 191) rfl rfl
theorem w_2_192 : Cond.methodLink RJ2 71 yJ2_getChar_3b067 ∈ W0 := tb2 (i := 192) rfl rfl
theorem w_2_193 : Cond.static yJ2_getChar_3b067 ∈ W0 := tb2 (i := 193) rfl rfl
theorem w_2_194 : Cond.code yJ2_getChar_3b067 cJ2_getChar_3b067 2 (some .char) ∈ W0 := tb2 (i := 194) rfl rfl
theorem w_2_195 : Cond.fieldLink RJ2 44 "java/lang/StringUTF16" "$assertionsDisabled" "Z" ∈ W0 := tb2 (i := 195) rfl rfl
theorem w_2_197 : Cond.fieldLink RJ2 59 "java/lang/StringUTF16" "HI_BYTE_SHIFT" "I" ∈ W0 := tb2 (i := 197) rfl rfl
theorem w_2_199 : Cond.fieldLink RJ2 63 "java/lang/StringUTF16" "LO_BYTE_SHIFT" "I" ∈ W0 := tb2 (i := 199) rfl rfl
theorem w_2_201 : Cond.fieldLink RX3 48 "ManyHands$Reader" "KIND_OF_WORD" "[I" ∈ W0 := tb2 (i := 201) rfl rfl
theorem w_2_203 : Cond.methodLink RX3 51 yX5_putPart ∈ W0 := tb2 (i := 203) rfl rfl
theorem w_2_204 : Cond.instanceMethod yX5_putPart ∈ W0 := tb2 (i := 204) rfl rfl
theorem w_2_205 : Cond.selects yX5_putPart.cls yX5_putPart yX5_putPart ∈ W0 := tb2 (i := 205) rfl rfl
theorem w_2_206 : Cond.code yX5_putPart cX5_putPart 5 none ∈ W0 := tb2 (i := 206) rfl rfl
theorem w_2_207 : Cond.fieldLink RX3 55 "ManyHands$Reader" "PARTS_OF_WORD" "[I" ∈ W0 := tb2 (i := 207) rfl rfl
theorem w_2_209 : Cond.methodLink RX3 61 yX3_highestOf ∈ W0 := tb2 (i := 209) rfl rfl
theorem w_2_210 : Cond.static yX3_highestOf ∈ W0 := tb2 (i := 210) rfl rfl
theorem w_2_211 : Cond.code yX3_highestOf cX3_highestOf 2 (some .int) ∈ W0 := tb2 (i := 211) rfl rfl
theorem w_2_212 : Cond.methodLink RX10 87 yX7_forget ∈ W0 := tb2 (i := 212) rfl rfl
theorem w_2_213 : Cond.instanceMethod yX7_forget ∈ W0 := tb2 (i := 213) rfl rfl
theorem w_2_214 : Cond.selects yX7_forget.cls yX7_forget yX7_forget ∈ W0 := tb2 (i := 214) rfl rfl
theorem w_2_215 : Cond.code yX7_forget cX7_forget 1 none ∈ W0 := tb2 (i := 215) rfl rfl
theorem w_2_217 : Cond.methodLink RL 27 yX10_steps ∈ W0 := tb2 (i := 217) rfl rfl
theorem w_2_218 : Cond.instanceMethod yX10_steps ∈ W0 := tb2 (i := 218) rfl rfl
theorem w_2_219 : Cond.selects yX10_steps.cls yX10_steps yX10_steps ∈ W0 := tb2 (i := 219) rfl rfl
theorem w_2_220 : Cond.code yX10_steps cX10_steps 2 (some .int) ∈ W0 := tb2 (i := 220) rfl rfl
theorem w_2_221 : Cond.methodLink RX10 90 yX5_hasCall ∈ W0 := tb2 (i := 221) rfl rfl
theorem w_2_222 : Cond.instanceMethod yX5_hasCall ∈ W0 := tb2 (i := 222) rfl rfl
theorem w_2_223 : Cond.selects yX5_hasCall.cls yX5_hasCall yX5_hasCall ∈ W0 := tb2 (i := 223) rfl rfl
theorem w_2_224 : Cond.code yX5_hasCall cX5_hasCall 2 (some .boolean) ∈ W0 := tb2 (i := 224) rfl rfl
theorem w_2_225 : Cond.methodLink RL 32 yX10_step ∈ W0 := tb2 (i := 225) rfl rfl
theorem w_2_226 : Cond.instanceMethod yX10_step ∈ W0 := tb2 (i := 226) rfl rfl
theorem w_2_227 : Cond.selects yX10_step.cls yX10_step yX10_step ∈ W0 := tb2 (i := 227) rfl rfl
theorem w_2_228 : Cond.code yX10_step cX10_step 5 (some .int) ∈ W0 := tb2 (i := 228) rfl rfl
theorem w_2_229 : Cond.methodLink RX10 98 yX5_hasStep ∈ W0 := tb2 (i := 229) rfl rfl
theorem w_2_230 : Cond.instanceMethod yX5_hasStep ∈ W0 := tb2 (i := 230) rfl rfl
theorem w_2_231 : Cond.selects yX5_hasStep.cls yX5_hasStep yX5_hasStep ∈ W0 := tb2 (i := 231) rfl rfl
theorem w_2_232 : Cond.code yX5_hasStep cX5_hasStep 3 (some .boolean) ∈ W0 := tb2 (i := 232) rfl rfl
theorem w_2_233 : Cond.methodLink RX5 31 yX5_hasCall ∈ W0 := tb2 (i := 233) rfl rfl
theorem w_2_234 : Cond.fieldLink RX10 102 "ManyHands" "PARTS_OF_KIND" "[I" ∈ W0 := tb2 (i := 234) rfl rfl
theorem w_2_236 : Cond.methodLink RX10 105 yX5_partOf ∈ W0 := tb2 (i := 236) rfl rfl
theorem w_2_237 : Cond.instanceMethod yX5_partOf ∈ W0 := tb2 (i := 237) rfl rfl
theorem w_2_238 : Cond.selects yX5_partOf.cls yX5_partOf yX5_partOf ∈ W0 := tb2 (i := 238) rfl rfl
theorem w_2_239 : Cond.code yX5_partOf cX5_partOf 4 (some .int) ∈ W0 := tb2 (i := 239) rfl rfl
theorem w_3_0 : Cond.methodLink RL 37 yX10_as ∈ W0 := tb3 (i := 0) rfl rfl
theorem w_3_1 : Cond.instanceMethod yX10_as ∈ W0 := tb3 (i := 1) rfl rfl
theorem w_3_2 : Cond.selects yX10_as.cls yX10_as yX10_as ∈ W0 := tb3 (i := 2) rfl rfl
theorem w_3_3 : Cond.code yX10_as cX10_as 5 (some .int) ∈ W0 := tb3 (i := 3) rfl rfl
theorem w_3_4 : Cond.fieldLink RX10 109 "ManyHands" "UNDER" "[I" ∈ W0 := tb3 (i := 4) rfl rfl
theorem w_3_6 : Cond.methodLink RX10 112 yX10_isUnder ∈ W0 := tb3 (i := 6) rfl rfl
theorem w_3_7 : Cond.static yX10_isUnder ∈ W0 := tb3 (i := 7) rfl rfl
theorem w_3_8 : Cond.code yX10_isUnder cX10_isUnder 4 (some .boolean) ∈ W0 := tb3 (i := 8) rfl rfl
theorem w_3_9 : Cond.methodLink RL 41 yX10_change ∈ W0 := tb3 (i := 9) rfl rfl
theorem w_3_10 : Cond.instanceMethod yX10_change ∈ W0 := tb3 (i := 10) rfl rfl
theorem w_3_11 : Cond.selects yX10_change.cls yX10_change yX10_change ∈ W0 := tb3 (i := 11) rfl rfl
theorem w_3_12 : Cond.code yX10_change cX10_change 6 (some .int) ∈ W0 := tb3 (i := 12) rfl rfl
theorem w_3_13 : Cond.methodLink RX10 115 yX10_isValue ∈ W0 := tb3 (i := 13) rfl rfl
theorem w_3_14 : Cond.static yX10_isValue ∈ W0 := tb3 (i := 14) rfl rfl
theorem w_3_15 : Cond.code yX10_isValue cX10_isValue 1 (some .boolean) ∈ W0 := tb3 (i := 15) rfl rfl
theorem w_3_16 : Cond.methodLink RX10 118 yX5_changeablePart ∈ W0 := tb3 (i := 16) rfl rfl
theorem w_3_17 : Cond.instanceMethod yX5_changeablePart ∈ W0 := tb3 (i := 17) rfl rfl
theorem w_3_18 : Cond.selects yX5_changeablePart.cls yX5_changeablePart yX5_changeablePart ∈ W0 := tb3 (i := 18) rfl rfl
theorem w_3_19 : Cond.code yX5_changeablePart cX5_changeablePart 3 (some .int) ∈ W0 := tb3 (i := 19) rfl rfl
theorem w_3_20 : Cond.methodLink RX5 35 yX5_partOf ∈ W0 := tb3 (i := 20) rfl rfl
theorem w_3_21 : Cond.methodLink RX10 122 yX5_putPart ∈ W0 := tb3 (i := 21) rfl rfl
theorem w_3_22 : Cond.methodLink RL 45 yX10_cell ∈ W0 := tb3 (i := 22) rfl rfl
theorem w_3_23 : Cond.instanceMethod yX10_cell ∈ W0 := tb3 (i := 23) rfl rfl
theorem w_3_24 : Cond.selects yX10_cell.cls yX10_cell yX10_cell ∈ W0 := tb3 (i := 24) rfl rfl
theorem w_3_25 : Cond.code yX10_cell cX10_cell 4 (some .int) ∈ W0 := tb3 (i := 25) rfl rfl
theorem w_3_26 : Cond.methodLink RL 49 yX10_machine ∈ W0 := tb3 (i := 26) rfl rfl
theorem w_3_27 : Cond.instanceMethod yX10_machine ∈ W0 := tb3 (i := 27) rfl rfl
theorem w_3_28 : Cond.selects yX10_machine.cls yX10_machine yX10_machine ∈ W0 := tb3 (i := 28) rfl rfl
theorem w_3_29 : Cond.code yX10_machine cX10_machine 3 (some .int) ∈ W0 := tb3 (i := 29) rfl rfl
theorem w_3_30 : Cond.methodLink RL 53 yX10_hand ∈ W0 := tb3 (i := 30) rfl rfl
theorem w_3_31 : Cond.instanceMethod yX10_hand ∈ W0 := tb3 (i := 31) rfl rfl
theorem w_3_32 : Cond.selects yX10_hand.cls yX10_hand yX10_hand ∈ W0 := tb3 (i := 32) rfl rfl
theorem w_3_33 : Cond.code yX10_hand cX10_hand 3 (some .int) ∈ W0 := tb3 (i := 33) rfl rfl
theorem w_3_34 : Cond.methodLink RL 57 yX10_clear ∈ W0 := tb3 (i := 34) rfl rfl
theorem w_3_35 : Cond.instanceMethod yX10_clear ∈ W0 := tb3 (i := 35) rfl rfl
theorem w_3_36 : Cond.selects yX10_clear.cls yX10_clear yX10_clear ∈ W0 := tb3 (i := 36) rfl rfl
theorem w_3_37 : Cond.code yX10_clear cX10_clear 2 (some .int) ∈ W0 := tb3 (i := 37) rfl rfl
theorem w_3_38 : Cond.methodLink RL 61 yX10_states ∈ W0 := tb3 (i := 38) rfl rfl
theorem w_3_39 : Cond.instanceMethod yX10_states ∈ W0 := tb3 (i := 39) rfl rfl
theorem w_3_40 : Cond.selects yX10_states.cls yX10_states yX10_states ∈ W0 := tb3 (i := 40) rfl rfl
theorem w_3_41 : Cond.code yX10_states cX10_states 1 (some .int) ∈ W0 := tb3 (i := 41) rfl rfl
theorem w_3_42 : Cond.methodLink RX10 141 yX7_isTooLarge ∈ W0 := tb3 (i := 42) rfl rfl
theorem w_3_43 : Cond.instanceMethod yX7_isTooLarge ∈ W0 := tb3 (i := 43) rfl rfl
theorem w_3_44 : Cond.selects yX7_isTooLarge.cls yX7_isTooLarge yX7_isTooLarge ∈ W0 := tb3 (i := 44) rfl rfl
theorem w_3_45 : Cond.code yX7_isTooLarge cX7_isTooLarge 1 (some .boolean) ∈ W0 := tb3 (i := 45) rfl rfl
theorem w_3_46 : Cond.methodLink RX7 91 yX7_goThrough ∈ W0 := tb3 (i := 46) rfl rfl
theorem w_3_48 : Cond.instanceMethod yX7_goThrough ∈ W0 := tb3 (i := 48) rfl rfl
theorem w_3_49 : Cond.code yX7_goThrough cX7_goThrough 3 none ∈ W0 := tb3 (i := 49) rfl rfl
theorem w_3_50 : Cond.methodLink RX7 55 yX1_load ∈ W0 := tb3 (i := 50) rfl rfl
theorem w_3_51 : Cond.instanceMethod yX1_load ∈ W0 := tb3 (i := 51) rfl rfl
theorem w_3_52 : Cond.selects yX1_load.cls yX1_load yX1_load ∈ W0 := tb3 (i := 52) rfl rfl
theorem w_3_53 : Cond.code yX1_load cX1_load 5 none ∈ W0 := tb3 (i := 53) rfl rfl
theorem w_3_54 : Cond.methodLink RX1 48 yX1_layCall ∈ W0 := tb3 (i := 54) rfl rfl
theorem w_3_56 : Cond.instanceMethod yX1_layCall ∈ W0 := tb3 (i := 56) rfl rfl
theorem w_3_57 : Cond.code yX1_layCall cX1_layCall 11 (some .int) ∈ W0 := tb3 (i := 57) rfl rfl
theorem w_3_58 : Cond.methodLink RX1 56 yX5_partOf ∈ W0 := tb3 (i := 58) rfl rfl
theorem w_3_59 : Cond.methodLink RX7 98 yX9_explore ∈ W0 := tb3 (i := 59) rfl rfl
theorem w_3_60 : Cond.instanceMethod yX9_explore ∈ W0 := tb3 (i := 60) rfl rfl
theorem w_3_61 : Cond.selects yX9_explore.cls yX9_explore yX9_explore ∈ W0 := tb3 (i := 61) rfl rfl
theorem w_3_62 : Cond.code yX9_explore cX9_explore 7 none ∈ W0 := tb3 (i := 62) rfl rfl
theorem w_3_63 : Cond.methodLink RX9 49 yX9_indexOf ∈ W0 := tb3 (i := 63) rfl rfl
theorem w_3_65 : Cond.instanceMethod yX9_indexOf ∈ W0 := tb3 (i := 65) rfl rfl
theorem w_3_66 : Cond.code yX9_indexOf cX9_indexOf 7 (some .int) ∈ W0 := tb3 (i := 66) rfl rfl
theorem w_3_67 : Cond.constantLong RX9 62 (-7046029254386353131) ∈ W0 := tb3 (i := 67) rfl rfl
theorem w_3_68 : Cond.methodLink RX9 64 yX9_include ∈ W0 := tb3 (i := 68) rfl rfl
theorem w_3_70 : Cond.instanceMethod yX9_include ∈ W0 := tb3 (i := 70) rfl rfl
theorem w_3_71 : Cond.code yX9_include cX9_include 5 (some .int) ∈ W0 := tb3 (i := 71) rfl rfl
theorem w_3_72 : Cond.methodLink RX9 56 yX1_moved ∈ W0 := tb3 (i := 72) rfl rfl
theorem w_3_73 : Cond.instanceMethod yX1_moved ∈ W0 := tb3 (i := 73) rfl rfl
theorem w_3_74 : Cond.selects yX1_moved.cls yX1_moved yX1_moved ∈ W0 := tb3 (i := 74) rfl rfl
theorem w_3_75 : Cond.code yX1_moved cX1_moved 13 (some .long) ∈ W0 := tb3 (i := 75) rfl rfl
theorem w_3_76 : Cond.methodLink RX1 67 yX1_arrived ∈ W0 := tb3 (i := 76) rfl rfl
theorem w_3_78 : Cond.instanceMethod yX1_arrived ∈ W0 := tb3 (i := 78) rfl rfl
theorem w_3_79 : Cond.code yX1_arrived cX1_arrived 9 (some .long) ∈ W0 := tb3 (i := 79) rfl rfl
theorem w_3_80 : Cond.methodLink RX1 71 yX1_handIn ∈ W0 := tb3 (i := 80) rfl rfl
theorem w_3_81 : Cond.static yX1_handIn ∈ W0 := tb3 (i := 81) rfl rfl
theorem w_3_82 : Cond.code yX1_handIn cX1_handIn 3 (some .int) ∈ W0 := tb3 (i := 82) rfl rfl
theorem w_3_83 : Cond.constant RX1 60 (524287) ∈ W0 := tb3 (i := 83) rfl rfl
theorem w_3_84 : Cond.constantLong RX1 63 (-1) ∈ W0 := tb3 (i := 84) rfl rfl
theorem w_3_85 : Cond.methodLink RX1 99 yX1_withValue ∈ W0 := tb3 (i := 85) rfl rfl
theorem w_3_86 : Cond.static yX1_withValue ∈ W0 := tb3 (i := 86) rfl rfl
theorem w_3_87 : Cond.code yX1_withValue cX1_withValue 4 (some .long) ∈ W0 := tb3 (i := 87) rfl rfl
theorem w_3_88 : Cond.constantLong RX1 61 (3) ∈ W0 := tb3 (i := 88) rfl rfl
theorem w_3_89 : Cond.methodLink RX1 85 yX1_withHand ∈ W0 := tb3 (i := 89) rfl rfl
theorem w_3_90 : Cond.static yX1_withHand ∈ W0 := tb3 (i := 90) rfl rfl
theorem w_3_91 : Cond.code yX1_withHand cX1_withHand 5 (some .long) ∈ W0 := tb3 (i := 91) rfl rfl
theorem w_3_92 : Cond.constantLong RX1 65 (524287) ∈ W0 := tb3 (i := 92) rfl rfl
theorem w_3_93 : Cond.methodLink RX1 75 yX1_waitingFor ∈ W0 := tb3 (i := 93) rfl rfl
theorem w_3_94 : Cond.static yX1_waitingFor ∈ W0 := tb3 (i := 94) rfl rfl
theorem w_3_95 : Cond.code yX1_waitingFor cX1_waitingFor 5 (some .int) ∈ W0 := tb3 (i := 95) rfl rfl
theorem w_3_96 : Cond.methodLink RX1 79 yX1_valueIn ∈ W0 := tb3 (i := 96) rfl rfl
theorem w_3_97 : Cond.static yX1_valueIn ∈ W0 := tb3 (i := 97) rfl rfl
theorem w_3_98 : Cond.code yX1_valueIn cX1_valueIn 3 (some .int) ∈ W0 := tb3 (i := 98) rfl rfl
theorem w_3_99 : Cond.methodLink RX1 82 yX1_withA ∈ W0 := tb3 (i := 99) rfl rfl
theorem w_3_100 : Cond.static yX1_withA ∈ W0 := tb3 (i := 100) rfl rfl
theorem w_3_101 : Cond.code yX1_withA cX1_withA 2 (some .int) ∈ W0 := tb3 (i := 101) rfl rfl
theorem w_3_102 : Cond.methodLink RX1 89 yX1_written ∈ W0 := tb3 (i := 102) rfl rfl
theorem w_3_104 : Cond.instanceMethod yX1_written ∈ W0 := tb3 (i := 104) rfl rfl
theorem w_3_105 : Cond.code yX1_written cX1_written 12 (some .long) ∈ W0 := tb3 (i := 105) rfl rfl
theorem w_3_106 : Cond.methodLink RX1 93 yX1_swapped ∈ W0 := tb3 (i := 106) rfl rfl
theorem w_3_108 : Cond.instanceMethod yX1_swapped ∈ W0 := tb3 (i := 108) rfl rfl
theorem w_3_109 : Cond.code yX1_swapped cX1_swapped 9 (some .long) ∈ W0 := tb3 (i := 109) rfl rfl
theorem w_3_110 : Cond.methodLink RX1 96 yX1_withB ∈ W0 := tb3 (i := 110) rfl rfl
theorem w_3_111 : Cond.static yX1_withB ∈ W0 := tb3 (i := 111) rfl rfl
theorem w_3_112 : Cond.code yX1_withB cX1_withB 2 (some .int) ∈ W0 := tb3 (i := 112) rfl rfl
theorem w_3_113 : Cond.constantLong RX9 60 (-1) ∈ W0 := tb3 (i := 113) rfl rfl
theorem w_3_114 : Cond.methodLink RX7 102 yX9_gatherEnds ∈ W0 := tb3 (i := 114) rfl rfl
theorem w_3_115 : Cond.instanceMethod yX9_gatherEnds ∈ W0 := tb3 (i := 115) rfl rfl
theorem w_3_116 : Cond.selects yX9_gatherEnds.cls yX9_gatherEnds yX9_gatherEnds ∈ W0 := tb3 (i := 116) rfl rfl
theorem w_3_117 : Cond.code yX9_gatherEnds cX9_gatherEnds 4 none ∈ W0 := tb3 (i := 117) rfl rfl
theorem w_3_118 : Cond.methodLink RX9 73 yX1_isEnd ∈ W0 := tb3 (i := 118) rfl rfl
theorem w_3_119 : Cond.instanceMethod yX1_isEnd ∈ W0 := tb3 (i := 119) rfl rfl
theorem w_3_120 : Cond.selects yX1_isEnd.cls yX1_isEnd yX1_isEnd ∈ W0 := tb3 (i := 120) rfl rfl
theorem w_3_121 : Cond.code yX1_isEnd cX1_isEnd 4 (some .boolean) ∈ W0 := tb3 (i := 121) rfl rfl
theorem w_3_122 : Cond.methodLink RX1 106 yX1_hasCallLeft ∈ W0 := tb3 (i := 122) rfl rfl
theorem w_3_123 : Cond.instanceMethod yX1_hasCallLeft ∈ W0 := tb3 (i := 123) rfl rfl
theorem w_3_124 : Cond.selects yX1_hasCallLeft.cls yX1_hasCallLeft yX1_hasCallLeft ∈ W0 := tb3 (i := 124) rfl rfl
theorem w_3_125 : Cond.code yX1_hasCallLeft cX1_hasCallLeft 4 (some .boolean) ∈ W0 := tb3 (i := 125) rfl rfl
theorem w_3_126 : Cond.methodLink RX9 77 yX1_resultOf ∈ W0 := tb3 (i := 126) rfl rfl
theorem w_3_127 : Cond.instanceMethod yX1_resultOf ∈ W0 := tb3 (i := 127) rfl rfl
theorem w_3_128 : Cond.selects yX1_resultOf.cls yX1_resultOf yX1_resultOf ∈ W0 := tb3 (i := 128) rfl rfl
theorem w_3_129 : Cond.code yX1_resultOf cX1_resultOf 6 (some .int) ∈ W0 := tb3 (i := 129) rfl rfl
theorem w_3_130 : Cond.methodLink RX9 81 yX4_include ∈ W0 := tb3 (i := 130) rfl rfl
theorem w_3_131 : Cond.instanceMethod yX4_include ∈ W0 := tb3 (i := 131) rfl rfl
theorem w_3_132 : Cond.selects yX4_include.cls yX4_include yX4_include ∈ W0 := tb3 (i := 132) rfl rfl
theorem w_3_133 : Cond.code yX4_include cX4_include 3 none ∈ W0 := tb3 (i := 133) rfl rfl
theorem w_3_134 : Cond.methodLink RX4 23 yX4_placeFor ∈ W0 := tb3 (i := 134) rfl rfl
theorem w_3_136 : Cond.instanceMethod yX4_placeFor ∈ W0 := tb3 (i := 136) rfl rfl
theorem w_3_137 : Cond.code yX4_placeFor cX4_placeFor 6 (some .int) ∈ W0 := tb3 (i := 137) rfl rfl
theorem w_3_138 : Cond.methodLink RX4 27 arraycopyName ∈ W0 := tb3 (i := 138) rfl rfl
theorem w_3_139 : Cond.static arraycopyName ∈ W0 := tb3 (i := 139) rfl rfl
theorem w_3_140 : Cond.native arraycopyName ∈ W0 := tb3 (i := 140) rfl rfl
theorem w_3_141 : Cond.methodLink RL 65 yX10_ends ∈ W0 := tb3 (i := 141) rfl rfl
theorem w_3_142 : Cond.instanceMethod yX10_ends ∈ W0 := tb3 (i := 142) rfl rfl
theorem w_3_143 : Cond.selects yX10_ends.cls yX10_ends yX10_ends ∈ W0 := tb3 (i := 143) rfl rfl
theorem w_3_144 : Cond.code yX10_ends cX10_ends 1 (some .int) ∈ W0 := tb3 (i := 144) rfl rfl
theorem w_3_145 : Cond.methodLink RL 69 yX10_result ∈ W0 := tb3 (i := 145) rfl rfl
theorem w_3_146 : Cond.instanceMethod yX10_result ∈ W0 := tb3 (i := 146) rfl rfl
theorem w_3_147 : Cond.selects yX10_result.cls yX10_result yX10_result ∈ W0 := tb3 (i := 147) rfl rfl
theorem w_3_148 : Cond.code yX10_result cX10_result 2 (some .int) ∈ W0 := tb3 (i := 148) rfl rfl
theorem w_3_149 : Cond.methodLink RL 73 yX10_orders ∈ W0 := tb3 (i := 149) rfl rfl
theorem w_3_150 : Cond.instanceMethod yX10_orders ∈ W0 := tb3 (i := 150) rfl rfl
theorem w_3_151 : Cond.selects yX10_orders.cls yX10_orders yX10_orders ∈ W0 := tb3 (i := 151) rfl rfl
theorem w_3_152 : Cond.code yX10_orders cX10_orders 1 (some .int) ∈ W0 := tb3 (i := 152) rfl rfl
theorem w_3_153 : Cond.methodLink RX10 164 yX7_orderedResults ∈ W0 := tb3 (i := 153) rfl rfl
theorem w_3_154 : Cond.instanceMethod yX7_orderedResults ∈ W0 := tb3 (i := 154) rfl rfl
theorem w_3_155 : Cond.selects yX7_orderedResults.cls yX7_orderedResults yX7_orderedResults ∈ W0 := tb3 (i := 155) rfl rfl
theorem w_3_156 : Cond.code yX7_orderedResults cX7_orderedResults 1 (some (.object "ManyHands$Row")) ∈ W0 := tb3 (i := 156) rfl rfl
theorem w_3_157 : Cond.methodLink RX7 67 yX7_followOrders ∈ W0 := tb3 (i := 157) rfl rfl
theorem w_3_158 : Cond.static yX7_followOrders ∈ W0 := tb3 (i := 158) rfl rfl
theorem w_3_159 : Cond.code yX7_followOrders cX7_followOrders 9 none ∈ W0 := tb3 (i := 159) rfl rfl
theorem w_3_160 : Cond.methodLink RX7 74 yX1_hasCallLeft ∈ W0 := tb3 (i := 160) rfl rfl
theorem w_3_161 : Cond.methodLink RX7 78 yX1_withCallDone ∈ W0 := tb3 (i := 161) rfl rfl
theorem w_3_162 : Cond.instanceMethod yX1_withCallDone ∈ W0 := tb3 (i := 162) rfl rfl
theorem w_3_163 : Cond.selects yX1_withCallDone.cls yX1_withCallDone yX1_withCallDone ∈ W0 := tb3 (i := 163) rfl rfl
theorem w_3_164 : Cond.code yX1_withCallDone cX1_withCallDone 11 (some .long) ∈ W0 := tb3 (i := 164) rfl rfl
theorem w_3_165 : Cond.methodLink RX1 102 yX1_moved ∈ W0 := tb3 (i := 165) rfl rfl
theorem w_3_166 : Cond.constantLong RX7 82 (-1) ∈ W0 := tb3 (i := 166) rfl rfl
theorem w_3_167 : Cond.methodLink RX7 84 yX1_resultOf ∈ W0 := tb3 (i := 167) rfl rfl
theorem w_3_168 : Cond.methodLink RX7 88 yX4_include ∈ W0 := tb3 (i := 168) rfl rfl
theorem w_3_169 : Cond.methodLink RL 77 yX10_inOrder ∈ W0 := tb3 (i := 169) rfl rfl
theorem w_3_170 : Cond.instanceMethod yX10_inOrder ∈ W0 := tb3 (i := 170) rfl rfl
theorem w_3_171 : Cond.selects yX10_inOrder.cls yX10_inOrder yX10_inOrder ∈ W0 := tb3 (i := 171) rfl rfl
theorem w_3_172 : Cond.code yX10_inOrder cX10_inOrder 3 (some .int) ∈ W0 := tb3 (i := 172) rfl rfl
theorem w_3_173 : Cond.methodLink RL 81 yX10_bad ∈ W0 := tb3 (i := 173) rfl rfl
theorem w_3_174 : Cond.instanceMethod yX10_bad ∈ W0 := tb3 (i := 174) rfl rfl
theorem w_3_175 : Cond.selects yX10_bad.cls yX10_bad yX10_bad ∈ W0 := tb3 (i := 175) rfl rfl
theorem w_3_176 : Cond.code yX10_bad cX10_bad 1 (some .int) ∈ W0 := tb3 (i := 176) rfl rfl
theorem w_3_177 : Cond.methodLink RX10 168 yX7_countBad ∈ W0 := tb3 (i := 177) rfl rfl
theorem w_3_178 : Cond.instanceMethod yX7_countBad ∈ W0 := tb3 (i := 178) rfl rfl
theorem w_3_179 : Cond.selects yX7_countBad.cls yX7_countBad yX7_countBad ∈ W0 := tb3 (i := 179) rfl rfl
theorem w_3_180 : Cond.code yX7_countBad cX7_countBad 4 (some .int) ∈ W0 := tb3 (i := 180) rfl rfl
theorem w_3_181 : Cond.methodLink RX7 109 yX4_holds ∈ W0 := tb3 (i := 181) rfl rfl
theorem w_3_182 : Cond.instanceMethod yX4_holds ∈ W0 := tb3 (i := 182) rfl rfl
theorem w_3_183 : Cond.selects yX4_holds.cls yX4_holds yX4_holds ∈ W0 := tb3 (i := 183) rfl rfl
theorem w_3_184 : Cond.code yX4_holds cX4_holds 3 (some .boolean) ∈ W0 := tb3 (i := 184) rfl rfl
theorem w_3_185 : Cond.methodLink RL 85 yX10_worst ∈ W0 := tb3 (i := 185) rfl rfl
theorem w_3_186 : Cond.instanceMethod yX10_worst ∈ W0 := tb3 (i := 186) rfl rfl
theorem w_3_187 : Cond.selects yX10_worst.cls yX10_worst yX10_worst ∈ W0 := tb3 (i := 187) rfl rfl
theorem w_3_188 : Cond.code yX10_worst cX10_worst 2 (some .int) ∈ W0 := tb3 (i := 188) rfl rfl
theorem w_3_189 : Cond.methodLink RX10 172 yX7_leastBad ∈ W0 := tb3 (i := 189) rfl rfl
theorem w_3_190 : Cond.instanceMethod yX7_leastBad ∈ W0 := tb3 (i := 190) rfl rfl
theorem w_3_191 : Cond.selects yX7_leastBad.cls yX7_leastBad yX7_leastBad ∈ W0 := tb3 (i := 191) rfl rfl
theorem w_3_192 : Cond.code yX7_leastBad cX7_leastBad 3 (some .int) ∈ W0 := tb3 (i := 192) rfl rfl
theorem w_3_193 : Cond.methodLink RL 89 yX10_turn ∈ W0 := tb3 (i := 193) rfl rfl
theorem w_3_194 : Cond.instanceMethod yX10_turn ∈ W0 := tb3 (i := 194) rfl rfl
theorem w_3_195 : Cond.selects yX10_turn.cls yX10_turn yX10_turn ∈ W0 := tb3 (i := 195) rfl rfl
theorem w_3_196 : Cond.code yX10_turn cX10_turn 3 (some .int) ∈ W0 := tb3 (i := 196) rfl rfl
theorem w_3_197 : Cond.methodLink RX10 175 yX7_walkToWorst ∈ W0 := tb3 (i := 197) rfl rfl
theorem w_3_198 : Cond.instanceMethod yX7_walkToWorst ∈ W0 := tb3 (i := 198) rfl rfl
theorem w_3_199 : Cond.selects yX7_walkToWorst.cls yX7_walkToWorst yX7_walkToWorst ∈ W0 := tb3 (i := 199) rfl rfl
theorem w_3_200 : Cond.code yX7_walkToWorst cX7_walkToWorst 2 (some .int) ∈ W0 := tb3 (i := 200) rfl rfl
theorem w_3_201 : Cond.methodLink RX7 113 yX7_orderedResults ∈ W0 := tb3 (i := 201) rfl rfl
theorem w_3_202 : Cond.methodLink RX7 117 yX7_leastBad ∈ W0 := tb3 (i := 202) rfl rfl
theorem w_3_203 : Cond.methodLink RX7 121 yX9_walkTo ∈ W0 := tb3 (i := 203) rfl rfl
theorem w_3_204 : Cond.instanceMethod yX9_walkTo ∈ W0 := tb3 (i := 204) rfl rfl
theorem w_3_205 : Cond.selects yX9_walkTo.cls yX9_walkTo yX9_walkTo ∈ W0 := tb3 (i := 205) rfl rfl
theorem w_3_206 : Cond.code yX9_walkTo cX9_walkTo 7 (some .int) ∈ W0 := tb3 (i := 206) rfl rfl
theorem w_3_207 : Cond.methodLink RX10 179 yX9_moveOnPath ∈ W0 := tb3 (i := 207) rfl rfl
theorem w_3_208 : Cond.instanceMethod yX9_moveOnPath ∈ W0 := tb3 (i := 208) rfl rfl
theorem w_3_209 : Cond.selects yX9_moveOnPath.cls yX9_moveOnPath yX9_moveOnPath ∈ W0 := tb3 (i := 209) rfl rfl
theorem w_3_210 : Cond.code yX9_moveOnPath cX9_moveOnPath 2 (some .int) ∈ W0 := tb3 (i := 210) rfl rfl
theorem w_3_211 : Cond.methodLink RL 93 yX10_stuck ∈ W0 := tb3 (i := 211) rfl rfl
theorem w_3_212 : Cond.instanceMethod yX10_stuck ∈ W0 := tb3 (i := 212) rfl rfl
theorem w_3_213 : Cond.selects yX10_stuck.cls yX10_stuck yX10_stuck ∈ W0 := tb3 (i := 213) rfl rfl
theorem w_3_214 : Cond.code yX10_stuck cX10_stuck 1 (some .int) ∈ W0 := tb3 (i := 214) rfl rfl
theorem w_3_215 : Cond.methodLink RX10 182 yX9_countStuck ∈ W0 := tb3 (i := 215) rfl rfl
theorem w_3_216 : Cond.instanceMethod yX9_countStuck ∈ W0 := tb3 (i := 216) rfl rfl
theorem w_3_217 : Cond.selects yX9_countStuck.cls yX9_countStuck yX9_countStuck ∈ W0 := tb3 (i := 217) rfl rfl
theorem w_3_218 : Cond.code yX9_countStuck cX9_countStuck 5 (some .int) ∈ W0 := tb3 (i := 218) rfl rfl
theorem w_3_219 : Cond.methodLink RX9 84 yJ7_fill_fda19 ∈ W0 := tb3 (i := 219) rfl rfl
theorem w_3_220 : Cond.static yJ7_fill_fda19 ∈ W0 := tb3 (i := 220) rfl rfl
theorem w_3_221 : Cond.code yJ7_fill_fda19 cJ7_fill_fda19 5 none ∈ W0 := tb3 (i := 221) rfl rfl
theorem w_3_222 : Cond.methodLink RJ7 13 yJ7_rangeCheck_23922 ∈ W0 := tb3 (i := 222) rfl rfl
theorem w_3_223 : Cond.static yJ7_rangeCheck_23922 ∈ W0 := tb3 (i := 223) rfl rfl
theorem w_3_224 : Cond.code yJ7_rangeCheck_23922 cJ7_rangeCheck_23922 3 none ∈ W0 := tb3 (i := 224) rfl rfl
theorem w_3_225 : Cond.methodLink RX9 90 yX9_leadsOut ∈ W0 := tb3 (i := 225) rfl rfl
theorem w_3_227 : Cond.instanceMethod yX9_leadsOut ∈ W0 := tb3 (i := 227) rfl rfl
theorem w_3_228 : Cond.code yX9_leadsOut cX9_leadsOut 4 (some .boolean) ∈ W0 := tb3 (i := 228) rfl rfl
theorem w_3_229 : Cond.methodLink RL 97 yX10_round ∈ W0 := tb3 (i := 229) rfl rfl
theorem w_3_230 : Cond.instanceMethod yX10_round ∈ W0 := tb3 (i := 230) rfl rfl
theorem w_3_231 : Cond.selects yX10_round.cls yX10_round yX10_round ∈ W0 := tb3 (i := 231) rfl rfl
theorem w_3_232 : Cond.code yX10_round cX10_round 1 (some .int) ∈ W0 := tb3 (i := 232) rfl rfl
theorem w_3_233 : Cond.methodLink RX10 185 yX9_hasRound ∈ W0 := tb3 (i := 233) rfl rfl
theorem w_3_234 : Cond.instanceMethod yX9_hasRound ∈ W0 := tb3 (i := 234) rfl rfl
theorem w_3_235 : Cond.selects yX9_hasRound.cls yX9_hasRound yX9_hasRound ∈ W0 := tb3 (i := 235) rfl rfl
theorem w_3_236 : Cond.code yX9_hasRound cX9_hasRound 3 (some .boolean) ∈ W0 := tb3 (i := 236) rfl rfl
theorem w_3_237 : Cond.methodLink RX9 94 yX9_takeAway ∈ W0 := tb3 (i := 237) rfl rfl
theorem w_3_239 : Cond.instanceMethod yX9_takeAway ∈ W0 := tb3 (i := 239) rfl rfl
theorem w_4_0 : Cond.code yX9_takeAway cX9_takeAway 6 (some .int) ∈ W0 := tb4 (i := 0) rfl rfl
theorem w_4_1 : Cond.methodLink RL 101 yX10_heal ∈ W0 := tb4 (i := 1) rfl rfl
theorem w_4_2 : Cond.instanceMethod yX10_heal ∈ W0 := tb4 (i := 2) rfl rfl
theorem w_4_3 : Cond.selects yX10_heal.cls yX10_heal yX10_heal ∈ W0 := tb4 (i := 3) rfl rfl
theorem w_4_4 : Cond.code yX10_heal cX10_heal 5 (some .int) ∈ W0 := tb4 (i := 4) rfl rfl
theorem w_4_5 : Cond.methodLink RX10 188 yX7_healingValues ∈ W0 := tb4 (i := 5) rfl rfl
theorem w_4_6 : Cond.instanceMethod yX7_healingValues ∈ W0 := tb4 (i := 6) rfl rfl
theorem w_4_7 : Cond.selects yX7_healingValues.cls yX7_healingValues yX7_healingValues ∈ W0 := tb4 (i := 7) rfl rfl
theorem w_4_8 : Cond.code yX7_healingValues cX7_healingValues 7 (some .int) ∈ W0 := tb4 (i := 8) rfl rfl
theorem w_4_9 : Cond.methodLink RX7 125 yX5_partOf ∈ W0 := tb4 (i := 9) rfl rfl
theorem w_4_10 : Cond.methodLink RX7 129 yX5_putPart ∈ W0 := tb4 (i := 10) rfl rfl
theorem w_4_11 : Cond.methodLink RX7 133 yX7_forget ∈ W0 := tb4 (i := 11) rfl rfl
theorem w_4_12 : Cond.methodLink RX7 136 yX7_isTooLarge ∈ W0 := tb4 (i := 12) rfl rfl
theorem w_4_13 : Cond.methodLink RL 105 yX10_fences ∈ W0 := tb4 (i := 13) rfl rfl
theorem w_4_14 : Cond.instanceMethod yX10_fences ∈ W0 := tb4 (i := 14) rfl rfl
theorem w_4_15 : Cond.selects yX10_fences.cls yX10_fences yX10_fences ∈ W0 := tb4 (i := 15) rfl rfl
theorem w_4_16 : Cond.code yX10_fences cX10_fences 2 (some .int) ∈ W0 := tb4 (i := 16) rfl rfl
theorem w_4_17 : Cond.methodLink RX10 191 yX7_fewestFences ∈ W0 := tb4 (i := 17) rfl rfl
theorem w_4_18 : Cond.instanceMethod yX7_fewestFences ∈ W0 := tb4 (i := 18) rfl rfl
theorem w_4_19 : Cond.selects yX7_fewestFences.cls yX7_fewestFences yX7_fewestFences ∈ W0 := tb4 (i := 19) rfl rfl
theorem w_4_20 : Cond.code yX7_fewestFences cX7_fewestFences 6 (some .int) ∈ W0 := tb4 (i := 20) rfl rfl
theorem w_4_21 : Cond.methodLink RX7 139 yX7_findFencePlaces ∈ W0 := tb4 (i := 21) rfl rfl
theorem w_4_23 : Cond.instanceMethod yX7_findFencePlaces ∈ W0 := tb4 (i := 23) rfl rfl
theorem w_4_24 : Cond.code yX7_findFencePlaces cX7_findFencePlaces 4 (some .int) ∈ W0 := tb4 (i := 24) rfl rfl
theorem w_4_25 : Cond.methodLink RX7 159 yX5_isDone ∈ W0 := tb4 (i := 25) rfl rfl
theorem w_4_26 : Cond.instanceMethod yX5_isDone ∈ W0 := tb4 (i := 26) rfl rfl
theorem w_4_27 : Cond.selects yX5_isDone.cls yX5_isDone yX5_isDone ∈ W0 := tb4 (i := 27) rfl rfl
theorem w_4_28 : Cond.code yX5_isDone cX5_isDone 3 (some .boolean) ∈ W0 := tb4 (i := 28) rfl rfl
theorem w_4_29 : Cond.methodLink RX7 143 yJ6_bitCount_0f7a4 ∈ W0 := tb4 (i := 29) rfl rfl
theorem w_4_30 : Cond.static yJ6_bitCount_0f7a4 ∈ W0 := tb4 (i := 30) rfl rfl
theorem w_4_31 : Cond.code yJ6_bitCount_0f7a4 cJ6_bitCount_0f7a4 1 (some .int) ∈ W0 := tb4 (i := 31) rfl rfl
theorem w_4_32 : Cond.constant RJ6 265 (1431655765) ∈ W0 := tb4 (i := 32) rfl rfl
theorem w_4_33 : Cond.constant RJ6 266 (858993459) ∈ W0 := tb4 (i := 33) rfl rfl
theorem w_4_34 : Cond.constant RJ6 267 (252645135) ∈ W0 := tb4 (i := 34) rfl rfl
theorem w_4_35 : Cond.methodLink RX7 149 yX7_tryFences ∈ W0 := tb4 (i := 35) rfl rfl
theorem w_4_37 : Cond.instanceMethod yX7_tryFences ∈ W0 := tb4 (i := 37) rfl rfl
theorem w_4_38 : Cond.code yX7_tryFences cX7_tryFences 7 (some .int) ∈ W0 := tb4 (i := 38) rfl rfl
theorem w_4_39 : Cond.methodLink RL 109 yX10_cost ∈ W0 := tb4 (i := 39) rfl rfl
theorem w_4_40 : Cond.instanceMethod yX10_cost ∈ W0 := tb4 (i := 40) rfl rfl
theorem w_4_41 : Cond.selects yX10_cost.cls yX10_cost yX10_cost ∈ W0 := tb4 (i := 41) rfl rfl
theorem w_4_42 : Cond.code yX10_cost cX10_cost 3 (some .int) ∈ W0 := tb4 (i := 42) rfl rfl
theorem w_4_43 : Cond.methodLink RX10 194 yX10_findingOfTurn ∈ W0 := tb4 (i := 43) rfl rfl
theorem w_4_45 : Cond.instanceMethod yX10_findingOfTurn ∈ W0 := tb4 (i := 45) rfl rfl
theorem w_4_46 : Cond.code yX10_findingOfTurn cX10_findingOfTurn 2 (some .int) ∈ W0 := tb4 (i := 46) rfl rfl
theorem w_4_47 : Cond.methodLink RX10 235 yX10_isSheet ∈ W0 := tb4 (i := 47) rfl rfl
theorem w_4_48 : Cond.static yX10_isSheet ∈ W0 := tb4 (i := 48) rfl rfl
theorem w_4_49 : Cond.code yX10_isSheet cX10_isSheet 1 (some .boolean) ∈ W0 := tb4 (i := 49) rfl rfl
theorem w_4_50 : Cond.methodLink RX10 272 yX1_load ∈ W0 := tb4 (i := 50) rfl rfl
theorem w_4_51 : Cond.methodLink RX10 276 yX2_through ∈ W0 := tb4 (i := 51) rfl rfl
theorem w_4_52 : Cond.instanceMethod yX2_through ∈ W0 := tb4 (i := 52) rfl rfl
theorem w_4_53 : Cond.selects yX2_through.cls yX2_through yX2_through ∈ W0 := tb4 (i := 53) rfl rfl
theorem w_4_54 : Cond.code yX2_through cX2_through 7 none ∈ W0 := tb4 (i := 54) rfl rfl
theorem w_4_55 : Cond.methodLink RX2 15 yJ7_fill_53178 ∈ W0 := tb4 (i := 55) rfl rfl
theorem w_4_56 : Cond.static yJ7_fill_53178 ∈ W0 := tb4 (i := 56) rfl rfl
theorem w_4_57 : Cond.code yJ7_fill_53178 cJ7_fill_53178 4 none ∈ W0 := tb4 (i := 57) rfl rfl
theorem w_4_58 : Cond.methodLink RX2 46 yX2_moveFor ∈ W0 := tb4 (i := 58) rfl rfl
theorem w_4_59 : Cond.static yX2_moveFor ∈ W0 := tb4 (i := 59) rfl rfl
theorem w_4_60 : Cond.code yX2_moveFor cX2_moveFor 2 (some .int) ∈ W0 := tb4 (i := 60) rfl rfl
theorem w_4_61 : Cond.constantLong RX2 68 (3) ∈ W0 := tb4 (i := 61) rfl rfl
theorem w_4_62 : Cond.constantLong RX2 70 (10) ∈ W0 := tb4 (i := 62) rfl rfl
theorem w_4_63 : Cond.constantLong RX2 72 (13) ∈ W0 := tb4 (i := 63) rfl rfl
theorem w_4_64 : Cond.constantLong RX2 50 (-1) ∈ W0 := tb4 (i := 64) rfl rfl
theorem w_4_65 : Cond.methodLink RX2 56 yX1_moved ∈ W0 := tb4 (i := 65) rfl rfl
theorem w_4_66 : Cond.methodLink RX2 60 yX1_touched ∈ W0 := tb4 (i := 66) rfl rfl
theorem w_4_67 : Cond.instanceMethod yX1_touched ∈ W0 := tb4 (i := 67) rfl rfl
theorem w_4_68 : Cond.selects yX1_touched.cls yX1_touched yX1_touched ∈ W0 := tb4 (i := 68) rfl rfl
theorem w_4_69 : Cond.code yX1_touched cX1_touched 6 (some .int) ∈ W0 := tb4 (i := 69) rfl rfl
theorem w_4_70 : Cond.methodLink RX2 64 yX2_priceOf ∈ W0 := tb4 (i := 70) rfl rfl
theorem w_4_72 : Cond.instanceMethod yX2_priceOf ∈ W0 := tb4 (i := 72) rfl rfl
theorem w_4_73 : Cond.code yX2_priceOf cX2_priceOf 5 (some .int) ∈ W0 := tb4 (i := 73) rfl rfl
theorem w_4_74 : Cond.methodLink RL 113 yX10_played ∈ W0 := tb4 (i := 74) rfl rfl
theorem w_4_75 : Cond.instanceMethod yX10_played ∈ W0 := tb4 (i := 75) rfl rfl
theorem w_4_76 : Cond.selects yX10_played.cls yX10_played yX10_played ∈ W0 := tb4 (i := 76) rfl rfl
theorem w_4_77 : Cond.code yX10_played cX10_played 3 (some .int) ∈ W0 := tb4 (i := 77) rfl rfl
theorem w_4_78 : Cond.methodLink RL 117 yX10_judge ∈ W0 := tb4 (i := 78) rfl rfl
theorem w_4_79 : Cond.instanceMethod yX10_judge ∈ W0 := tb4 (i := 79) rfl rfl
theorem w_4_80 : Cond.selects yX10_judge.cls yX10_judge yX10_judge ∈ W0 := tb4 (i := 80) rfl rfl
theorem w_4_81 : Cond.code yX10_judge cX10_judge 3 (some .int) ∈ W0 := tb4 (i := 81) rfl rfl
theorem w_4_82 : Cond.methodLink RX10 211 yX1_isEnd ∈ W0 := tb4 (i := 82) rfl rfl
theorem w_4_83 : Cond.methodLink RX10 217 yX1_resultOf ∈ W0 := tb4 (i := 83) rfl rfl
theorem w_4_84 : Cond.methodLink RX10 221 yX4_holds ∈ W0 := tb4 (i := 84) rfl rfl
theorem w_4_85 : Cond.methodLink RL 121 yX10_moves ∈ W0 := tb4 (i := 85) rfl rfl
theorem w_4_86 : Cond.instanceMethod yX10_moves ∈ W0 := tb4 (i := 86) rfl rfl
theorem w_4_87 : Cond.selects yX10_moves.cls yX10_moves yX10_moves ∈ W0 := tb4 (i := 87) rfl rfl
theorem w_4_88 : Cond.code yX10_moves cX10_moves 3 (some .int) ∈ W0 := tb4 (i := 88) rfl rfl
theorem w_4_89 : Cond.methodLink RX10 224 yX1_possible ∈ W0 := tb4 (i := 89) rfl rfl
theorem w_4_90 : Cond.instanceMethod yX1_possible ∈ W0 := tb4 (i := 90) rfl rfl
theorem w_4_91 : Cond.selects yX1_possible.cls yX1_possible yX1_possible ∈ W0 := tb4 (i := 91) rfl rfl
theorem w_4_92 : Cond.code yX1_possible cX1_possible 5 (some .int) ∈ W0 := tb4 (i := 92) rfl rfl
theorem w_4_93 : Cond.methodLink RL 125 yX10_after ∈ W0 := tb4 (i := 93) rfl rfl
theorem w_4_94 : Cond.instanceMethod yX10_after ∈ W0 := tb4 (i := 94) rfl rfl
theorem w_4_95 : Cond.selects yX10_after.cls yX10_after yX10_after ∈ W0 := tb4 (i := 95) rfl rfl
theorem w_4_96 : Cond.code yX10_after cX10_after 7 (some .int) ∈ W0 := tb4 (i := 96) rfl rfl
theorem w_4_97 : Cond.methodLink RX10 227 yX1_valueIn ∈ W0 := tb4 (i := 97) rfl rfl
theorem w_4_98 : Cond.methodLink RX10 231 yX1_aboutHand ∈ W0 := tb4 (i := 98) rfl rfl
theorem w_4_99 : Cond.instanceMethod yX1_aboutHand ∈ W0 := tb4 (i := 99) rfl rfl
theorem w_4_100 : Cond.selects yX1_aboutHand.cls yX1_aboutHand yX1_aboutHand ∈ W0 := tb4 (i := 100) rfl rfl
theorem w_4_101 : Cond.code yX1_aboutHand cX1_aboutHand 9 (some .int) ∈ W0 := tb4 (i := 101) rfl rfl
theorem w_4_102 : Cond.methodLink RL 129 yX10_sheet ∈ W0 := tb4 (i := 102) rfl rfl
theorem w_4_103 : Cond.instanceMethod yX10_sheet ∈ W0 := tb4 (i := 103) rfl rfl
theorem w_4_104 : Cond.selects yX10_sheet.cls yX10_sheet yX10_sheet ∈ W0 := tb4 (i := 104) rfl rfl
theorem w_4_105 : Cond.code yX10_sheet cX10_sheet 4 (some .int) ∈ W0 := tb4 (i := 105) rfl rfl
theorem w_4_106 : Cond.methodLink RX10 238 yX6_begin ∈ W0 := tb4 (i := 106) rfl rfl
theorem w_4_107 : Cond.instanceMethod yX6_begin ∈ W0 := tb4 (i := 107) rfl rfl
theorem w_4_108 : Cond.selects yX6_begin.cls yX6_begin yX6_begin ∈ W0 := tb4 (i := 108) rfl rfl
theorem w_4_109 : Cond.code yX6_begin cX6_begin 3 none ∈ W0 := tb4 (i := 109) rfl rfl
theorem w_4_110 : Cond.methodLink RX6 22 yJ7_fill_d0a16 ∈ W0 := tb4 (i := 110) rfl rfl
theorem w_4_111 : Cond.static yJ7_fill_d0a16 ∈ W0 := tb4 (i := 111) rfl rfl
theorem w_4_112 : Cond.code yJ7_fill_d0a16 cJ7_fill_d0a16 5 none ∈ W0 := tb4 (i := 112) rfl rfl
theorem w_4_113 : Cond.methodLink RL 135 yX10_write ∈ W0 := tb4 (i := 113) rfl rfl
theorem w_4_114 : Cond.instanceMethod yX10_write ∈ W0 := tb4 (i := 114) rfl rfl
theorem w_4_115 : Cond.selects yX10_write.cls yX10_write yX10_write ∈ W0 := tb4 (i := 115) rfl rfl
theorem w_4_116 : Cond.code yX10_write cX10_write 7 (some .long) ∈ W0 := tb4 (i := 116) rfl rfl
theorem w_4_117 : Cond.methodLink RX10 249 yX6_put ∈ W0 := tb4 (i := 117) rfl rfl
theorem w_4_118 : Cond.instanceMethod yX6_put ∈ W0 := tb4 (i := 118) rfl rfl
theorem w_4_119 : Cond.selects yX6_put.cls yX6_put yX6_put ∈ W0 := tb4 (i := 119) rfl rfl
theorem w_4_120 : Cond.code yX6_put cX6_put 4 none ∈ W0 := tb4 (i := 120) rfl rfl
theorem w_4_121 : Cond.methodLink RL 140 yX10_copy ∈ W0 := tb4 (i := 121) rfl rfl
theorem w_4_122 : Cond.instanceMethod yX10_copy ∈ W0 := tb4 (i := 122) rfl rfl
theorem w_4_123 : Cond.selects yX10_copy.cls yX10_copy yX10_copy ∈ W0 := tb4 (i := 123) rfl rfl
theorem w_4_124 : Cond.code yX10_copy cX10_copy 8 (some .int) ∈ W0 := tb4 (i := 124) rfl rfl
theorem w_4_125 : Cond.methodLink RX10 253 yX6_hasRange ∈ W0 := tb4 (i := 125) rfl rfl
theorem w_4_126 : Cond.instanceMethod yX6_hasRange ∈ W0 := tb4 (i := 126) rfl rfl
theorem w_4_127 : Cond.selects yX6_hasRange.cls yX6_hasRange yX6_hasRange ∈ W0 := tb4 (i := 127) rfl rfl
theorem w_4_128 : Cond.code yX6_hasRange cX6_hasRange 3 (some .boolean) ∈ W0 := tb4 (i := 128) rfl rfl
theorem w_4_129 : Cond.methodLink RX10 256 arraycopyName ∈ W0 := tb4 (i := 129) rfl rfl
theorem w_4_130 : Cond.methodLink RL 145 yX10_lead ∈ W0 := tb4 (i := 130) rfl rfl
theorem w_4_131 : Cond.instanceMethod yX10_lead ∈ W0 := tb4 (i := 131) rfl rfl
theorem w_4_132 : Cond.selects yX10_lead.cls yX10_lead yX10_lead ∈ W0 := tb4 (i := 132) rfl rfl
theorem w_4_133 : Cond.code yX10_lead cX10_lead 4 (some .int) ∈ W0 := tb4 (i := 133) rfl rfl
theorem w_4_134 : Cond.methodLink RL 149 yX10_image ∈ W0 := tb4 (i := 134) rfl rfl
theorem w_4_135 : Cond.instanceMethod yX10_image ∈ W0 := tb4 (i := 135) rfl rfl
theorem w_4_136 : Cond.selects yX10_image.cls yX10_image yX10_image ∈ W0 := tb4 (i := 136) rfl rfl
theorem w_4_137 : Cond.code yX10_image cX10_image 1 (some .int) ∈ W0 := tb4 (i := 137) rfl rfl
theorem w_4_138 : Cond.methodLink RX10 262 yX5_takeFrom ∈ W0 := tb4 (i := 138) rfl rfl
theorem w_4_139 : Cond.instanceMethod yX5_takeFrom ∈ W0 := tb4 (i := 139) rfl rfl
theorem w_4_140 : Cond.selects yX5_takeFrom.cls yX5_takeFrom yX5_takeFrom ∈ W0 := tb4 (i := 140) rfl rfl
theorem w_4_141 : Cond.code yX5_takeFrom cX5_takeFrom 2 none ∈ W0 := tb4 (i := 141) rfl rfl
theorem w_4_142 : Cond.methodLink RX5 45 arraycopyName ∈ W0 := tb4 (i := 142) rfl rfl
theorem w_4_143 : Cond.methodLink RL 153 yX10_undo ∈ W0 := tb4 (i := 143) rfl rfl
theorem w_4_144 : Cond.instanceMethod yX10_undo ∈ W0 := tb4 (i := 144) rfl rfl
theorem w_4_145 : Cond.selects yX10_undo.cls yX10_undo yX10_undo ∈ W0 := tb4 (i := 145) rfl rfl
theorem w_4_146 : Cond.code yX10_undo cX10_undo 1 (some .int) ∈ W0 := tb4 (i := 146) rfl rfl
theorem w_4_147 : Cond.methodLink RL 157 yX10_tear ∈ W0 := tb4 (i := 147) rfl rfl
theorem w_4_148 : Cond.instanceMethod yX10_tear ∈ W0 := tb4 (i := 148) rfl rfl
theorem w_4_149 : Cond.selects yX10_tear.cls yX10_tear yX10_tear ∈ W0 := tb4 (i := 149) rfl rfl
theorem w_4_150 : Cond.code yX10_tear cX10_tear 2 (some .int) ∈ W0 := tb4 (i := 150) rfl rfl
theorem w_4_151 : Cond.methodLink RL 161 yX10_look ∈ W0 := tb4 (i := 151) rfl rfl
theorem w_4_152 : Cond.instanceMethod yX10_look ∈ W0 := tb4 (i := 152) rfl rfl
theorem w_4_153 : Cond.selects yX10_look.cls yX10_look yX10_look ∈ W0 := tb4 (i := 153) rfl rfl
theorem w_4_154 : Cond.code yX10_look cX10_look 2 (some .int) ∈ W0 := tb4 (i := 154) rfl rfl
theorem w_4_155 : Cond.methodLink RL 165 yX10_status ∈ W0 := tb4 (i := 155) rfl rfl
theorem w_4_156 : Cond.instanceMethod yX10_status ∈ W0 := tb4 (i := 156) rfl rfl
theorem w_4_157 : Cond.selects yX10_status.cls yX10_status yX10_status ∈ W0 := tb4 (i := 157) rfl rfl
theorem w_4_158 : Cond.code yX10_status cX10_status 2 (some .int) ∈ W0 := tb4 (i := 158) rfl rfl
theorem w_4_161 : Cond.methodLink RL 12 yX11_init ∈ W0 := tb4 (i := 161) rfl rfl
theorem w_4_162 : Cond.instanceMethod yX11_init ∈ W0 := tb4 (i := 162) rfl rfl
theorem w_4_163 : Cond.code yX11_init cX11_init 1 none ∈ W0 := tb4 (i := 163) rfl rfl
theorem w_4_164 : Cond.methodLink RX11 1 objectInit ∈ W0 := tb4 (i := 164) rfl rfl
theorem w_4_165 : Cond.methodLink RX11 59 yX11_packed ∈ W0 := tb4 (i := 165) rfl rfl
theorem w_4_166 : Cond.static yX11_packed ∈ W0 := tb4 (i := 166) rfl rfl
theorem w_4_167 : Cond.code yX11_packed cX11_packed 7 (some .long) ∈ W0 := tb4 (i := 167) rfl rfl
theorem w_4_168 : Cond.constantLong RX11 179 (256) ∈ W0 := tb4 (i := 168) rfl rfl
theorem w_4_169 : Cond.constant RX11 117 (36006) ∈ W0 := tb4 (i := 169) rfl rfl
theorem w_4_170 : Cond.fieldLink RX11 160 "ManyHandsModel" "calls" "I" ∈ W0 := tb4 (i := 170) rfl rfl
theorem w_4_171 : Cond.fieldLink RX11 7 "ManyHandsModel" "stepMany" "[I" ∈ W0 := tb4 (i := 171) rfl rfl
theorem w_4_172 : Cond.fieldLink RX11 13 "ManyHandsModel" "kind" "[I" ∈ W0 := tb4 (i := 172) rfl rfl
theorem w_4_173 : Cond.fieldLink RX11 16 "ManyHandsModel" "cellOf" "[I" ∈ W0 := tb4 (i := 173) rfl rfl
theorem w_4_174 : Cond.fieldLink RX11 19 "ManyHandsModel" "valueOf" "[I" ∈ W0 := tb4 (i := 174) rfl rfl
theorem w_4_175 : Cond.fieldLink RX11 22 "ManyHandsModel" "otherOf" "[I" ∈ W0 := tb4 (i := 175) rfl rfl
theorem w_4_176 : Cond.fieldLink RX11 25 "ManyHandsModel" "toOf" "[I" ∈ W0 := tb4 (i := 176) rfl rfl
theorem w_4_177 : Cond.fieldLink RX11 234 "ManyHandsModel" "hands" "I" ∈ W0 := tb4 (i := 177) rfl rfl
theorem w_4_178 : Cond.fieldLink RX11 28 "ManyHandsModel" "handCall" "[I" ∈ W0 := tb4 (i := 178) rfl rfl
theorem w_4_179 : Cond.fieldLink RX11 31 "ManyHandsModel" "handMany" "[I" ∈ W0 := tb4 (i := 179) rfl rfl
theorem w_4_180 : Cond.fieldLink RX11 34 "ManyHandsModel" "firstOf" "[I" ∈ W0 := tb4 (i := 180) rfl rfl
theorem w_4_181 : Cond.fieldLink RX11 155 "ManyHandsModel" "machine" "I" ∈ W0 := tb4 (i := 181) rfl rfl
theorem w_4_182 : Cond.fieldLink RX11 37 "ManyHandsModel" "tape" "[I" ∈ W0 := tb4 (i := 182) rfl rfl
theorem w_4_183 : Cond.fieldLink RX11 175 "ManyHandsModel" "taped" "I" ∈ W0 := tb4 (i := 183) rfl rfl
theorem w_4_184 : Cond.fieldLink RX11 40 "ManyHandsModel" "found" "[I" ∈ W0 := tb4 (i := 184) rfl rfl
theorem w_4_185 : Cond.fieldLink RX11 417 "ManyHandsModel" "hasImage" "Z" ∈ W0 := tb4 (i := 185) rfl rfl
theorem w_4_186 : Cond.fieldLink RX11 408 "ManyHandsModel" "keptCalls" "I" ∈ W0 := tb4 (i := 186) rfl rfl
theorem w_4_187 : Cond.fieldLink RX11 411 "ManyHandsModel" "keptHands" "I" ∈ W0 := tb4 (i := 187) rfl rfl
theorem w_4_188 : Cond.fieldLink RX11 414 "ManyHandsModel" "keptMachine" "I" ∈ W0 := tb4 (i := 188) rfl rfl
theorem w_4_189 : Cond.fieldLink RX11 43 "ManyHandsModel" "kept" "[I" ∈ W0 := tb4 (i := 189) rfl rfl
theorem w_4_190 : Cond.fieldLink RX11 46 "ManyHandsModel" "bits" "[I" ∈ W0 := tb4 (i := 190) rfl rfl
theorem w_4_191 : Cond.fieldLink RX11 49 "ManyHandsModel" "sizes" "[I" ∈ W0 := tb4 (i := 191) rfl rfl
theorem w_4_192 : Cond.fieldLink RX11 52 "ManyHandsModel" "numbers" "[J" ∈ W0 := tb4 (i := 192) rfl rfl
theorem w_4_193 : Cond.fieldLink RX11 56 "ManyHandsModel" "carried" "[J" ∈ W0 := tb4 (i := 193) rfl rfl
theorem w_4_194 : Cond.fieldLink RX11 184 "ManyHandsModel" "at" "I" ∈ W0 := tb4 (i := 194) rfl rfl
theorem w_4_195 : Cond.fieldLink RX11 187 "ManyHandsModel" "begin" "I" ∈ W0 := tb4 (i := 195) rfl rfl
theorem w_4_196 : Cond.fieldLink RX11 193 "ManyHandsModel" "token" "I" ∈ W0 := tb4 (i := 196) rfl rfl
theorem w_4_197 : Cond.fieldLink RX11 190 "ManyHandsModel" "tells" "I" ∈ W0 := tb4 (i := 197) rfl rfl
theorem w_4_198 : Cond.fieldLink RX11 202 "ManyHandsModel" "fault" "I" ∈ W0 := tb4 (i := 198) rfl rfl
theorem w_4_199 : Cond.fieldLink RX11 63 "ManyHandsModel" "words" "[J" ∈ W0 := tb4 (i := 199) rfl rfl
theorem w_4_200 : Cond.fieldLink RX11 66 "ManyHandsModel" "doneMany" "[I" ∈ W0 := tb4 (i := 200) rfl rfl
theorem w_4_201 : Cond.fieldLink RX11 69 "ManyHandsModel" "doneKind" "[I" ∈ W0 := tb4 (i := 201) rfl rfl
theorem w_4_202 : Cond.fieldLink RX11 72 "ManyHandsModel" "doneCell" "[I" ∈ W0 := tb4 (i := 202) rfl rfl
theorem w_4_203 : Cond.fieldLink RX11 75 "ManyHandsModel" "doneValue" "[I" ∈ W0 := tb4 (i := 203) rfl rfl
theorem w_4_204 : Cond.fieldLink RX11 78 "ManyHandsModel" "doneOther" "[I" ∈ W0 := tb4 (i := 204) rfl rfl
theorem w_4_205 : Cond.fieldLink RX11 81 "ManyHandsModel" "doneTo" "[I" ∈ W0 := tb4 (i := 205) rfl rfl
theorem w_4_206 : Cond.fieldLink RX11 84 "ManyHandsModel" "writes" "[I" ∈ W0 := tb4 (i := 206) rfl rfl
theorem w_4_207 : Cond.fieldLink RX11 237 "ManyHandsModel" "writeMany" "I" ∈ W0 := tb4 (i := 207) rfl rfl
theorem w_4_208 : Cond.fieldLink RX11 87 "ManyHandsModel" "movedTo" "[I" ∈ W0 := tb4 (i := 208) rfl rfl
theorem w_4_209 : Cond.fieldLink RX11 90 "ManyHandsModel" "cells" "[I" ∈ W0 := tb4 (i := 209) rfl rfl
theorem w_4_210 : Cond.fieldLink RX11 93 "ManyHandsModel" "call" "[I" ∈ W0 := tb4 (i := 210) rfl rfl
theorem w_4_211 : Cond.fieldLink RX11 96 "ManyHandsModel" "place" "[I" ∈ W0 := tb4 (i := 211) rfl rfl
theorem w_4_212 : Cond.fieldLink RX11 99 "ManyHandsModel" "a" "[I" ∈ W0 := tb4 (i := 212) rfl rfl
theorem w_4_213 : Cond.fieldLink RX11 102 "ManyHandsModel" "b" "[I" ∈ W0 := tb4 (i := 213) rfl rfl
theorem w_4_214 : Cond.fieldLink RX11 105 "ManyHandsModel" "waits" "[I" ∈ W0 := tb4 (i := 214) rfl rfl
theorem w_4_215 : Cond.fieldLink RX11 108 "ManyHandsModel" "waitCell" "[I" ∈ W0 := tb4 (i := 215) rfl rfl
theorem w_4_216 : Cond.fieldLink RX11 111 "ManyHandsModel" "waitValue" "[I" ∈ W0 := tb4 (i := 216) rfl rfl
theorem w_4_217 : Cond.fieldLink RX11 264 "ManyHandsModel" "touched" "I" ∈ W0 := tb4 (i := 217) rfl rfl
theorem w_4_218 : Cond.fieldLink RX11 218 "ManyHandsModel" "isFresh" "Z" ∈ W0 := tb4 (i := 218) rfl rfl
theorem w_4_219 : Cond.fieldLink RX11 339 "ManyHandsModel" "isGreat" "Z" ∈ W0 := tb4 (i := 219) rfl rfl
theorem w_4_220 : Cond.fieldLink RX11 282 "ManyHandsModel" "stateMany" "I" ∈ W0 := tb4 (i := 220) rfl rfl
theorem w_4_221 : Cond.fieldLink RX11 114 "ManyHandsModel" "states" "[J" ∈ W0 := tb4 (i := 221) rfl rfl
theorem w_4_222 : Cond.fieldLink RX11 118 "ManyHandsModel" "behind" "[I" ∈ W0 := tb4 (i := 222) rfl rfl
theorem w_4_223 : Cond.fieldLink RX11 121 "ManyHandsModel" "far" "[I" ∈ W0 := tb4 (i := 223) rfl rfl
theorem w_4_224 : Cond.fieldLink RX11 124 "ManyHandsModel" "places" "[I" ∈ W0 := tb4 (i := 224) rfl rfl
theorem w_4_225 : Cond.fieldLink RX11 127 "ManyHandsModel" "mark" "[Z" ∈ W0 := tb4 (i := 225) rfl rfl
theorem w_4_226 : Cond.fieldLink RX11 131 "ManyHandsModel" "endOf" "[I" ∈ W0 := tb4 (i := 226) rfl rfl
theorem w_4_227 : Cond.fieldLink RX11 134 "ManyHandsModel" "results" "[I" ∈ W0 := tb4 (i := 227) rfl rfl
theorem w_4_228 : Cond.fieldLink RX11 320 "ManyHandsModel" "resultMany" "I" ∈ W0 := tb4 (i := 228) rfl rfl
theorem w_4_229 : Cond.fieldLink RX11 137 "ManyHandsModel" "goods" "[I" ∈ W0 := tb4 (i := 229) rfl rfl
theorem w_4_230 : Cond.fieldLink RX11 333 "ManyHandsModel" "goodMany" "I" ∈ W0 := tb4 (i := 230) rfl rfl
theorem w_4_231 : Cond.fieldLink RX11 140 "ManyHandsModel" "before" "[J" ∈ W0 := tb4 (i := 231) rfl rfl
theorem w_4_232 : Cond.fieldLink RX11 143 "ManyHandsModel" "way" "[I" ∈ W0 := tb4 (i := 232) rfl rfl
theorem w_4_233 : Cond.fieldLink RX11 362 "ManyHandsModel" "wayLong" "I" ∈ W0 := tb4 (i := 233) rfl rfl
theorem w_4_234 : Cond.fieldLink RX11 146 "ManyHandsModel" "coming" "[I" ∈ W0 := tb4 (i := 234) rfl rfl
theorem w_4_235 : Cond.fieldLink RX11 149 "ManyHandsModel" "free" "[I" ∈ W0 := tb4 (i := 235) rfl rfl
theorem w_4_236 : Cond.fieldLink RX11 380 "ManyHandsModel" "costs" "I" ∈ W0 := tb4 (i := 236) rfl rfl
theorem w_4_237 : Cond.fieldLink RX11 152 "ManyHandsModel" "latest" "[I" ∈ W0 := tb4 (i := 237) rfl rfl
theorem w_5_136 : Cond.methodLink RL 17 yX11_feed ∈ W0 := tb5 (i := 136) rfl rfl
theorem w_5_137 : Cond.instanceMethod yX11_feed ∈ W0 := tb5 (i := 137) rfl rfl
theorem w_5_138 : Cond.selects yX11_feed.cls yX11_feed yX11_feed ∈ W0 := tb5 (i := 138) rfl rfl
theorem w_5_139 : Cond.code yX11_feed cX11_feed 4 (some .int) ∈ W0 := tb5 (i := 139) rfl rfl
theorem w_5_140 : Cond.methodLink RX11 163 yX11_in ∈ W0 := tb5 (i := 140) rfl rfl
theorem w_5_141 : Cond.static yX11_in ∈ W0 := tb5 (i := 141) rfl rfl
theorem w_5_142 : Cond.code yX11_in cX11_in 3 (some .boolean) ∈ W0 := tb5 (i := 142) rfl rfl
theorem w_5_143 : Cond.constant RX11 159 (-1000000001) ∈ W0 := tb5 (i := 143) rfl rfl
theorem w_5_144 : Cond.methodLink RX11 171 yX11_finds ∈ W0 := tb5 (i := 144) rfl rfl
theorem w_5_146 : Cond.instanceMethod yX11_finds ∈ W0 := tb5 (i := 146) rfl rfl
theorem w_5_147 : Cond.code yX11_finds cX11_finds 2 (some .int) ∈ W0 := tb5 (i := 147) rfl rfl
theorem w_5_148 : Cond.constant RX11 178 (-1000000002) ∈ W0 := tb5 (i := 148) rfl rfl
theorem w_5_149 : Cond.methodLink RL 22 yX11_wipe ∈ W0 := tb5 (i := 149) rfl rfl
theorem w_5_150 : Cond.instanceMethod yX11_wipe ∈ W0 := tb5 (i := 150) rfl rfl
theorem w_5_151 : Cond.selects yX11_wipe.cls yX11_wipe yX11_wipe ∈ W0 := tb5 (i := 151) rfl rfl
theorem w_5_152 : Cond.code yX11_wipe cX11_wipe 2 (some .int) ∈ W0 := tb5 (i := 152) rfl rfl
theorem w_5_153 : Cond.methodLink RL 26 yX11_text ∈ W0 := tb5 (i := 153) rfl rfl
theorem w_5_154 : Cond.instanceMethod yX11_text ∈ W0 := tb5 (i := 154) rfl rfl
theorem w_5_155 : Cond.selects yX11_text.cls yX11_text yX11_text ∈ W0 := tb5 (i := 155) rfl rfl
theorem w_5_156 : Cond.code yX11_text cX11_text 3 (some .int) ∈ W0 := tb5 (i := 156) rfl rfl
theorem w_5_157 : Cond.methodLink RX11 208 yX11_next ∈ W0 := tb5 (i := 157) rfl rfl
theorem w_5_159 : Cond.instanceMethod yX11_next ∈ W0 := tb5 (i := 159) rfl rfl
theorem w_5_160 : Cond.code yX11_next cX11_next 5 none ∈ W0 := tb5 (i := 160) rfl rfl
theorem w_5_161 : Cond.methodLink RX11 181 yX11_byteAt ∈ W0 := tb5 (i := 161) rfl rfl
theorem w_5_163 : Cond.instanceMethod yX11_byteAt ∈ W0 := tb5 (i := 163) rfl rfl
theorem w_5_164 : Cond.code yX11_byteAt cX11_byteAt 2 (some .int) ∈ W0 := tb5 (i := 164) rfl rfl
theorem w_5_165 : Cond.methodLink RX11 196 yX11_isLetter ∈ W0 := tb5 (i := 165) rfl rfl
theorem w_5_167 : Cond.instanceMethod yX11_isLetter ∈ W0 := tb5 (i := 167) rfl rfl
theorem w_5_168 : Cond.code yX11_isLetter cX11_isLetter 2 (some .boolean) ∈ W0 := tb5 (i := 168) rfl rfl
theorem w_5_169 : Cond.methodLink RX11 199 yX11_isDigit ∈ W0 := tb5 (i := 169) rfl rfl
theorem w_5_171 : Cond.instanceMethod yX11_isDigit ∈ W0 := tb5 (i := 171) rfl rfl
theorem w_5_172 : Cond.code yX11_isDigit cX11_isDigit 2 (some .boolean) ∈ W0 := tb5 (i := 172) rfl rfl
theorem w_5_173 : Cond.methodLink RX11 214 yX11_readStep ∈ W0 := tb5 (i := 173) rfl rfl
theorem w_5_175 : Cond.instanceMethod yX11_readStep ∈ W0 := tb5 (i := 175) rfl rfl
theorem w_5_176 : Cond.code yX11_readStep cX11_readStep 4 none ∈ W0 := tb5 (i := 176) rfl rfl
theorem w_5_177 : Cond.methodLink RX11 205 yX11_wrong ∈ W0 := tb5 (i := 177) rfl rfl
theorem w_5_179 : Cond.instanceMethod yX11_wrong ∈ W0 := tb5 (i := 179) rfl rfl
theorem w_5_180 : Cond.code yX11_wrong cX11_wrong 1 none ∈ W0 := tb5 (i := 180) rfl rfl
theorem w_5_181 : Cond.methodLink RX11 211 yX11_number ∈ W0 := tb5 (i := 181) rfl rfl
theorem w_5_183 : Cond.instanceMethod yX11_number ∈ W0 := tb5 (i := 183) rfl rfl
theorem w_5_184 : Cond.code yX11_number cX11_number 3 (some .int) ∈ W0 := tb5 (i := 184) rfl rfl
theorem w_5_185 : Cond.methodLink RL 31 yX11_steps ∈ W0 := tb5 (i := 185) rfl rfl
theorem w_5_186 : Cond.instanceMethod yX11_steps ∈ W0 := tb5 (i := 186) rfl rfl
theorem w_5_187 : Cond.selects yX11_steps.cls yX11_steps yX11_steps ∈ W0 := tb5 (i := 187) rfl rfl
theorem w_5_188 : Cond.code yX11_steps cX11_steps 2 (some .int) ∈ W0 := tb5 (i := 188) rfl rfl
theorem w_5_189 : Cond.methodLink RX11 167 yX11_isCall ∈ W0 := tb5 (i := 189) rfl rfl
theorem w_5_191 : Cond.instanceMethod yX11_isCall ∈ W0 := tb5 (i := 191) rfl rfl
theorem w_5_192 : Cond.code yX11_isCall cX11_isCall 2 (some .boolean) ∈ W0 := tb5 (i := 192) rfl rfl
theorem w_5_193 : Cond.methodLink RL 36 yX11_step ∈ W0 := tb5 (i := 193) rfl rfl
theorem w_5_194 : Cond.instanceMethod yX11_step ∈ W0 := tb5 (i := 194) rfl rfl
theorem w_5_195 : Cond.selects yX11_step.cls yX11_step yX11_step ∈ W0 := tb5 (i := 195) rfl rfl
theorem w_5_196 : Cond.code yX11_step cX11_step 6 (some .int) ∈ W0 := tb5 (i := 196) rfl rfl
theorem w_5_197 : Cond.methodLink RX11 222 yX11_isStep ∈ W0 := tb5 (i := 197) rfl rfl
theorem w_5_199 : Cond.instanceMethod yX11_isStep ∈ W0 := tb5 (i := 199) rfl rfl
theorem w_5_200 : Cond.code yX11_isStep cX11_isStep 3 (some .boolean) ∈ W0 := tb5 (i := 200) rfl rfl
theorem w_5_201 : Cond.constant RX11 226 (-1000000003) ∈ W0 := tb5 (i := 201) rfl rfl
theorem w_5_202 : Cond.methodLink RL 40 yX11_as ∈ W0 := tb5 (i := 202) rfl rfl
theorem w_5_203 : Cond.instanceMethod yX11_as ∈ W0 := tb5 (i := 203) rfl rfl
theorem w_5_204 : Cond.selects yX11_as.cls yX11_as yX11_as ∈ W0 := tb5 (i := 204) rfl rfl
theorem w_5_205 : Cond.code yX11_as cX11_as 5 (some .int) ∈ W0 := tb5 (i := 205) rfl rfl
theorem w_5_206 : Cond.methodLink RL 44 yX11_change ∈ W0 := tb5 (i := 206) rfl rfl
theorem w_5_207 : Cond.instanceMethod yX11_change ∈ W0 := tb5 (i := 207) rfl rfl
theorem w_5_208 : Cond.selects yX11_change.cls yX11_change yX11_change ∈ W0 := tb5 (i := 208) rfl rfl
theorem w_5_209 : Cond.code yX11_change cX11_change 5 (some .int) ∈ W0 := tb5 (i := 209) rfl rfl
theorem w_5_210 : Cond.methodLink RX11 227 yX11_hasValue ∈ W0 := tb5 (i := 210) rfl rfl
theorem w_5_212 : Cond.instanceMethod yX11_hasValue ∈ W0 := tb5 (i := 212) rfl rfl
theorem w_5_213 : Cond.code yX11_hasValue cX11_hasValue 2 (some .boolean) ∈ W0 := tb5 (i := 213) rfl rfl
theorem w_5_214 : Cond.methodLink RX11 230 yX11_put ∈ W0 := tb5 (i := 214) rfl rfl
theorem w_5_216 : Cond.instanceMethod yX11_put ∈ W0 := tb5 (i := 216) rfl rfl
theorem w_5_217 : Cond.code yX11_put cX11_put 4 (some .int) ∈ W0 := tb5 (i := 217) rfl rfl
theorem w_5_218 : Cond.methodLink RL 48 yX11_cell ∈ W0 := tb5 (i := 218) rfl rfl
theorem w_5_219 : Cond.instanceMethod yX11_cell ∈ W0 := tb5 (i := 219) rfl rfl
theorem w_5_220 : Cond.selects yX11_cell.cls yX11_cell yX11_cell ∈ W0 := tb5 (i := 220) rfl rfl
theorem w_5_221 : Cond.code yX11_cell cX11_cell 4 (some .int) ∈ W0 := tb5 (i := 221) rfl rfl
theorem w_5_222 : Cond.methodLink RL 52 yX11_machine ∈ W0 := tb5 (i := 222) rfl rfl
theorem w_5_223 : Cond.instanceMethod yX11_machine ∈ W0 := tb5 (i := 223) rfl rfl
theorem w_5_224 : Cond.selects yX11_machine.cls yX11_machine yX11_machine ∈ W0 := tb5 (i := 224) rfl rfl
theorem w_5_225 : Cond.code yX11_machine cX11_machine 3 (some .int) ∈ W0 := tb5 (i := 225) rfl rfl
theorem w_5_226 : Cond.methodLink RL 56 yX11_hand ∈ W0 := tb5 (i := 226) rfl rfl
theorem w_5_227 : Cond.instanceMethod yX11_hand ∈ W0 := tb5 (i := 227) rfl rfl
theorem w_5_228 : Cond.selects yX11_hand.cls yX11_hand yX11_hand ∈ W0 := tb5 (i := 228) rfl rfl
theorem w_5_229 : Cond.code yX11_hand cX11_hand 3 (some .int) ∈ W0 := tb5 (i := 229) rfl rfl
theorem w_5_230 : Cond.methodLink RL 60 yX11_clear ∈ W0 := tb5 (i := 230) rfl rfl
theorem w_5_231 : Cond.instanceMethod yX11_clear ∈ W0 := tb5 (i := 231) rfl rfl
theorem w_5_232 : Cond.selects yX11_clear.cls yX11_clear yX11_clear ∈ W0 := tb5 (i := 232) rfl rfl
theorem w_5_233 : Cond.code yX11_clear cX11_clear 2 (some .int) ∈ W0 := tb5 (i := 233) rfl rfl
theorem w_5_234 : Cond.methodLink RL 64 yX11_states ∈ W0 := tb5 (i := 234) rfl rfl
theorem w_5_235 : Cond.instanceMethod yX11_states ∈ W0 := tb5 (i := 235) rfl rfl
theorem w_5_236 : Cond.selects yX11_states.cls yX11_states yX11_states ∈ W0 := tb5 (i := 236) rfl rfl
theorem w_5_237 : Cond.code yX11_states cX11_states 1 (some .int) ∈ W0 := tb5 (i := 237) rfl rfl
theorem w_5_238 : Cond.methodLink RX11 351 yX11_lookAll ∈ W0 := tb5 (i := 238) rfl rfl
theorem w_6_0 : Cond.instanceMethod yX11_lookAll ∈ W0 := tb6 (i := 0) rfl rfl
theorem w_6_1 : Cond.code yX11_lookAll cX11_lookAll 1 none ∈ W0 := tb6 (i := 1) rfl rfl
theorem w_6_2 : Cond.methodLink RX11 336 yX11_goesThrough ∈ W0 := tb6 (i := 2) rfl rfl
theorem w_6_4 : Cond.instanceMethod yX11_goesThrough ∈ W0 := tb6 (i := 4) rfl rfl
theorem w_6_5 : Cond.code yX11_goesThrough cX11_goesThrough 5 (some .boolean) ∈ W0 := tb6 (i := 5) rfl rfl
theorem w_6_6 : Cond.methodLink RX11 285 yX11_lay ∈ W0 := tb6 (i := 6) rfl rfl
theorem w_6_8 : Cond.instanceMethod yX11_lay ∈ W0 := tb6 (i := 8) rfl rfl
theorem w_6_9 : Cond.code yX11_lay cX11_lay 5 none ∈ W0 := tb6 (i := 9) rfl rfl
theorem w_6_10 : Cond.methodLink RX11 243 yX11_lays ∈ W0 := tb6 (i := 10) rfl rfl
theorem w_6_12 : Cond.instanceMethod yX11_lays ∈ W0 := tb6 (i := 12) rfl rfl
theorem w_6_13 : Cond.code yX11_lays cX11_lays 3 none ∈ W0 := tb6 (i := 13) rfl rfl
theorem w_6_14 : Cond.methodLink RX11 247 yX11_isFenced ∈ W0 := tb6 (i := 14) rfl rfl
theorem w_6_16 : Cond.instanceMethod yX11_isFenced ∈ W0 := tb6 (i := 16) rfl rfl
theorem w_6_17 : Cond.code yX11_isFenced cX11_isFenced 5 (some .boolean) ∈ W0 := tb6 (i := 17) rfl rfl
theorem w_6_18 : Cond.methodLink RX11 288 yX11_begins ∈ W0 := tb6 (i := 18) rfl rfl
theorem w_6_20 : Cond.instanceMethod yX11_begins ∈ W0 := tb6 (i := 20) rfl rfl
theorem w_6_21 : Cond.code yX11_begins cX11_begins 2 none ∈ W0 := tb6 (i := 21) rfl rfl
theorem w_6_22 : Cond.methodLink RX11 291 yX11_pack ∈ W0 := tb6 (i := 22) rfl rfl
theorem w_6_24 : Cond.instanceMethod yX11_pack ∈ W0 := tb6 (i := 24) rfl rfl
theorem w_6_25 : Cond.code yX11_pack cX11_pack 4 (some .long) ∈ W0 := tb6 (i := 25) rfl rfl
theorem w_6_26 : Cond.constantLong RX11 250 (16) ∈ W0 := tb6 (i := 26) rfl rfl
theorem w_6_27 : Cond.constantLong RX11 252 (4) ∈ W0 := tb6 (i := 27) rfl rfl
theorem w_6_28 : Cond.constantLong RX11 254 (42) ∈ W0 := tb6 (i := 28) rfl rfl
theorem w_6_29 : Cond.constantLong RX11 256 (157) ∈ W0 := tb6 (i := 29) rfl rfl
theorem w_6_30 : Cond.methodLink RX11 258 yX11_waitCode ∈ W0 := tb6 (i := 30) rfl rfl
theorem w_6_32 : Cond.instanceMethod yX11_waitCode ∈ W0 := tb6 (i := 32) rfl rfl
theorem w_6_33 : Cond.code yX11_waitCode cX11_waitCode 4 (some .int) ∈ W0 := tb6 (i := 33) rfl rfl
theorem w_6_34 : Cond.methodLink RX11 295 yX11_placeOf ∈ W0 := tb6 (i := 34) rfl rfl
theorem w_6_36 : Cond.instanceMethod yX11_placeOf ∈ W0 := tb6 (i := 36) rfl rfl
theorem w_6_37 : Cond.code yX11_placeOf cX11_placeOf 5 (some .int) ∈ W0 := tb6 (i := 37) rfl rfl
theorem w_6_38 : Cond.constantLong RX11 280 (16383) ∈ W0 := tb6 (i := 38) rfl rfl
theorem w_6_39 : Cond.methodLink RX11 299 yX11_unpack ∈ W0 := tb6 (i := 39) rfl rfl
theorem w_6_41 : Cond.instanceMethod yX11_unpack ∈ W0 := tb6 (i := 41) rfl rfl
theorem w_6_42 : Cond.code yX11_unpack cX11_unpack 11 none ∈ W0 := tb6 (i := 42) rfl rfl
theorem w_6_43 : Cond.methodLink RX11 303 yX11_isEnd ∈ W0 := tb6 (i := 43) rfl rfl
theorem w_6_45 : Cond.instanceMethod yX11_isEnd ∈ W0 := tb6 (i := 45) rfl rfl
theorem w_6_46 : Cond.code yX11_isEnd cX11_isEnd 3 (some .boolean) ∈ W0 := tb6 (i := 46) rfl rfl
theorem w_6_47 : Cond.methodLink RX11 307 yX11_resultNow ∈ W0 := tb6 (i := 47) rfl rfl
theorem w_6_49 : Cond.instanceMethod yX11_resultNow ∈ W0 := tb6 (i := 49) rfl rfl
theorem w_6_50 : Cond.code yX11_resultNow cX11_resultNow 3 (some .int) ∈ W0 := tb6 (i := 50) rfl rfl
theorem w_6_51 : Cond.methodLink RX11 311 yX11_moveOf ∈ W0 := tb6 (i := 51) rfl rfl
theorem w_6_52 : Cond.static yX11_moveOf ∈ W0 := tb6 (i := 52) rfl rfl
theorem w_6_53 : Cond.code yX11_moveOf cX11_moveOf 1 (some .int) ∈ W0 := tb6 (i := 53) rfl rfl
theorem w_6_54 : Cond.methodLink RX11 314 yX11_can ∈ W0 := tb6 (i := 54) rfl rfl
theorem w_6_56 : Cond.instanceMethod yX11_can ∈ W0 := tb6 (i := 56) rfl rfl
theorem w_6_57 : Cond.code yX11_can cX11_can 4 (some .boolean) ∈ W0 := tb6 (i := 57) rfl rfl
theorem w_6_58 : Cond.methodLink RX11 261 yX11_stepNow ∈ W0 := tb6 (i := 58) rfl rfl
theorem w_6_60 : Cond.instanceMethod yX11_stepNow ∈ W0 := tb6 (i := 60) rfl rfl
theorem w_6_61 : Cond.code yX11_stepNow cX11_stepNow 2 (some .int) ∈ W0 := tb6 (i := 61) rfl rfl
theorem w_6_62 : Cond.methodLink RX11 317 yX11_does ∈ W0 := tb6 (i := 62) rfl rfl
theorem w_6_64 : Cond.instanceMethod yX11_does ∈ W0 := tb6 (i := 64) rfl rfl
theorem w_6_65 : Cond.code yX11_does cX11_does 4 none ∈ W0 := tb6 (i := 65) rfl rfl
theorem w_6_66 : Cond.methodLink RX11 277 yX11_stepsOn ∈ W0 := tb6 (i := 66) rfl rfl
theorem w_6_68 : Cond.instanceMethod yX11_stepsOn ∈ W0 := tb6 (i := 68) rfl rfl
theorem w_6_69 : Cond.code yX11_stepsOn cX11_stepsOn 7 none ∈ W0 := tb6 (i := 69) rfl rfl
theorem w_6_70 : Cond.methodLink RX11 267 yX11_waiting ∈ W0 := tb6 (i := 70) rfl rfl
theorem w_6_72 : Cond.instanceMethod yX11_waiting ∈ W0 := tb6 (i := 72) rfl rfl
theorem w_6_73 : Cond.code yX11_waiting cX11_waiting 5 (some .int) ∈ W0 := tb6 (i := 73) rfl rfl
theorem w_6_74 : Cond.methodLink RX11 270 yX11_writesTo ∈ W0 := tb6 (i := 74) rfl rfl
theorem w_6_76 : Cond.instanceMethod yX11_writesTo ∈ W0 := tb6 (i := 76) rfl rfl
theorem w_6_77 : Cond.code yX11_writesTo cX11_writesTo 5 none ∈ W0 := tb6 (i := 77) rfl rfl
theorem w_6_78 : Cond.methodLink RX11 274 yX11_goesOn ∈ W0 := tb6 (i := 78) rfl rfl
theorem w_6_80 : Cond.instanceMethod yX11_goesOn ∈ W0 := tb6 (i := 80) rfl rfl
theorem w_6_81 : Cond.code yX11_goesOn cX11_goesOn 3 none ∈ W0 := tb6 (i := 81) rfl rfl
theorem w_6_82 : Cond.methodLink RX11 342 yX11_findResults ∈ W0 := tb6 (i := 82) rfl rfl
theorem w_6_84 : Cond.instanceMethod yX11_findResults ∈ W0 := tb6 (i := 84) rfl rfl
theorem w_6_85 : Cond.code yX11_findResults cX11_findResults 2 none ∈ W0 := tb6 (i := 85) rfl rfl
theorem w_6_86 : Cond.methodLink RX11 323 yX11_comes ∈ W0 := tb6 (i := 86) rfl rfl
theorem w_6_87 : Cond.static yX11_comes ∈ W0 := tb6 (i := 87) rfl rfl
theorem w_6_88 : Cond.code yX11_comes cX11_comes 5 (some .int) ∈ W0 := tb6 (i := 88) rfl rfl
theorem w_6_89 : Cond.methodLink RX11 345 yX11_findGoods ∈ W0 := tb6 (i := 89) rfl rfl
theorem w_6_91 : Cond.instanceMethod yX11_findGoods ∈ W0 := tb6 (i := 91) rfl rfl
theorem w_6_92 : Cond.code yX11_findGoods cX11_findGoods 1 none ∈ W0 := tb6 (i := 92) rfl rfl
theorem w_6_93 : Cond.methodLink RX11 330 yX11_ordersFrom ∈ W0 := tb6 (i := 93) rfl rfl
theorem w_6_95 : Cond.instanceMethod yX11_ordersFrom ∈ W0 := tb6 (i := 95) rfl rfl
theorem w_6_96 : Cond.code yX11_ordersFrom cX11_ordersFrom 4 none ∈ W0 := tb6 (i := 96) rfl rfl
theorem w_6_97 : Cond.methodLink RX11 327 yX11_wholeCall ∈ W0 := tb6 (i := 97) rfl rfl
theorem w_6_99 : Cond.instanceMethod yX11_wholeCall ∈ W0 := tb6 (i := 99) rfl rfl
theorem w_6_100 : Cond.code yX11_wholeCall cX11_wholeCall 4 (some .boolean) ∈ W0 := tb6 (i := 100) rfl rfl
theorem w_6_101 : Cond.constant RX11 354 (-1000000007) ∈ W0 := tb6 (i := 101) rfl rfl
theorem w_6_102 : Cond.methodLink RL 68 yX11_ends ∈ W0 := tb6 (i := 102) rfl rfl
theorem w_6_103 : Cond.instanceMethod yX11_ends ∈ W0 := tb6 (i := 103) rfl rfl
theorem w_6_104 : Cond.selects yX11_ends.cls yX11_ends yX11_ends ∈ W0 := tb6 (i := 104) rfl rfl
theorem w_6_105 : Cond.code yX11_ends cX11_ends 1 (some .int) ∈ W0 := tb6 (i := 105) rfl rfl
theorem w_6_106 : Cond.methodLink RL 72 yX11_result ∈ W0 := tb6 (i := 106) rfl rfl
theorem w_6_107 : Cond.instanceMethod yX11_result ∈ W0 := tb6 (i := 107) rfl rfl
theorem w_6_108 : Cond.selects yX11_result.cls yX11_result yX11_result ∈ W0 := tb6 (i := 108) rfl rfl
theorem w_6_109 : Cond.code yX11_result cX11_result 2 (some .int) ∈ W0 := tb6 (i := 109) rfl rfl
theorem w_6_110 : Cond.constant RX11 355 (-1000000004) ∈ W0 := tb6 (i := 110) rfl rfl
theorem w_6_111 : Cond.methodLink RL 76 yX11_orders ∈ W0 := tb6 (i := 111) rfl rfl
theorem w_6_112 : Cond.instanceMethod yX11_orders ∈ W0 := tb6 (i := 112) rfl rfl
theorem w_6_113 : Cond.selects yX11_orders.cls yX11_orders yX11_orders ∈ W0 := tb6 (i := 113) rfl rfl
theorem w_6_114 : Cond.code yX11_orders cX11_orders 1 (some .int) ∈ W0 := tb6 (i := 114) rfl rfl
theorem w_6_115 : Cond.methodLink RL 80 yX11_inOrder ∈ W0 := tb6 (i := 115) rfl rfl
theorem w_6_116 : Cond.instanceMethod yX11_inOrder ∈ W0 := tb6 (i := 116) rfl rfl
theorem w_6_117 : Cond.selects yX11_inOrder.cls yX11_inOrder yX11_inOrder ∈ W0 := tb6 (i := 117) rfl rfl
theorem w_6_118 : Cond.code yX11_inOrder cX11_inOrder 2 (some .int) ∈ W0 := tb6 (i := 118) rfl rfl
theorem w_6_119 : Cond.methodLink RL 84 yX11_bad ∈ W0 := tb6 (i := 119) rfl rfl
theorem w_6_120 : Cond.instanceMethod yX11_bad ∈ W0 := tb6 (i := 120) rfl rfl
theorem w_6_121 : Cond.selects yX11_bad.cls yX11_bad yX11_bad ∈ W0 := tb6 (i := 121) rfl rfl
theorem w_6_122 : Cond.code yX11_bad cX11_bad 1 (some .int) ∈ W0 := tb6 (i := 122) rfl rfl
theorem w_6_123 : Cond.methodLink RX11 356 yX11_badMany ∈ W0 := tb6 (i := 123) rfl rfl
theorem w_6_125 : Cond.instanceMethod yX11_badMany ∈ W0 := tb6 (i := 125) rfl rfl
theorem w_6_126 : Cond.code yX11_badMany cX11_badMany 3 (some .int) ∈ W0 := tb6 (i := 126) rfl rfl
theorem w_6_127 : Cond.methodLink RX11 348 yX11_isGood ∈ W0 := tb6 (i := 127) rfl rfl
theorem w_6_129 : Cond.instanceMethod yX11_isGood ∈ W0 := tb6 (i := 129) rfl rfl
theorem w_6_130 : Cond.code yX11_isGood cX11_isGood 4 (some .boolean) ∈ W0 := tb6 (i := 130) rfl rfl
theorem w_6_131 : Cond.methodLink RL 88 yX11_worst ∈ W0 := tb6 (i := 131) rfl rfl
theorem w_6_132 : Cond.instanceMethod yX11_worst ∈ W0 := tb6 (i := 132) rfl rfl
theorem w_6_133 : Cond.selects yX11_worst.cls yX11_worst yX11_worst ∈ W0 := tb6 (i := 133) rfl rfl
theorem w_6_134 : Cond.code yX11_worst cX11_worst 2 (some .int) ∈ W0 := tb6 (i := 134) rfl rfl
theorem w_6_135 : Cond.methodLink RX11 359 yX11_leastBad ∈ W0 := tb6 (i := 135) rfl rfl
theorem w_6_137 : Cond.instanceMethod yX11_leastBad ∈ W0 := tb6 (i := 137) rfl rfl
theorem w_6_138 : Cond.code yX11_leastBad cX11_leastBad 2 (some .int) ∈ W0 := tb6 (i := 138) rfl rfl
theorem w_6_139 : Cond.methodLink RL 92 yX11_turn ∈ W0 := tb6 (i := 139) rfl rfl
theorem w_6_140 : Cond.instanceMethod yX11_turn ∈ W0 := tb6 (i := 140) rfl rfl
theorem w_6_141 : Cond.selects yX11_turn.cls yX11_turn yX11_turn ∈ W0 := tb6 (i := 141) rfl rfl
theorem w_6_142 : Cond.code yX11_turn cX11_turn 3 (some .int) ∈ W0 := tb6 (i := 142) rfl rfl
theorem w_6_143 : Cond.methodLink RX11 368 yX11_leads ∈ W0 := tb6 (i := 143) rfl rfl
theorem w_6_145 : Cond.instanceMethod yX11_leads ∈ W0 := tb6 (i := 145) rfl rfl
theorem w_6_146 : Cond.code yX11_leads cX11_leads 2 (some .int) ∈ W0 := tb6 (i := 146) rfl rfl
theorem w_6_147 : Cond.methodLink RX11 365 yX11_findWay ∈ W0 := tb6 (i := 147) rfl rfl
theorem w_6_149 : Cond.instanceMethod yX11_findWay ∈ W0 := tb6 (i := 149) rfl rfl
theorem w_6_150 : Cond.code yX11_findWay cX11_findWay 5 none ∈ W0 := tb6 (i := 150) rfl rfl
theorem w_6_151 : Cond.methodLink RL 96 yX11_stuck ∈ W0 := tb6 (i := 151) rfl rfl
theorem w_6_152 : Cond.instanceMethod yX11_stuck ∈ W0 := tb6 (i := 152) rfl rfl
theorem w_6_153 : Cond.selects yX11_stuck.cls yX11_stuck yX11_stuck ∈ W0 := tb6 (i := 153) rfl rfl
theorem w_6_154 : Cond.code yX11_stuck cX11_stuck 5 (some .int) ∈ W0 := tb6 (i := 154) rfl rfl
theorem w_6_155 : Cond.methodLink RL 100 yX11_round ∈ W0 := tb6 (i := 155) rfl rfl
theorem w_6_156 : Cond.instanceMethod yX11_round ∈ W0 := tb6 (i := 156) rfl rfl
theorem w_6_157 : Cond.selects yX11_round.cls yX11_round yX11_round ∈ W0 := tb6 (i := 157) rfl rfl
theorem w_6_158 : Cond.code yX11_round cX11_round 5 (some .int) ∈ W0 := tb6 (i := 158) rfl rfl
theorem w_6_159 : Cond.methodLink RL 104 yX11_heal ∈ W0 := tb6 (i := 159) rfl rfl
theorem w_6_160 : Cond.instanceMethod yX11_heal ∈ W0 := tb6 (i := 160) rfl rfl
theorem w_6_161 : Cond.selects yX11_heal.cls yX11_heal yX11_heal ∈ W0 := tb6 (i := 161) rfl rfl
theorem w_6_162 : Cond.code yX11_heal cX11_heal 10 (some .int) ∈ W0 := tb6 (i := 162) rfl rfl
theorem w_6_163 : Cond.methodLink RX11 371 yX11_badWith ∈ W0 := tb6 (i := 163) rfl rfl
theorem w_6_165 : Cond.instanceMethod yX11_badWith ∈ W0 := tb6 (i := 165) rfl rfl
theorem w_6_166 : Cond.code yX11_badWith cX11_badWith 2 (some .int) ∈ W0 := tb6 (i := 166) rfl rfl
theorem w_6_167 : Cond.methodLink RL 108 yX11_fences ∈ W0 := tb6 (i := 167) rfl rfl
theorem w_6_168 : Cond.instanceMethod yX11_fences ∈ W0 := tb6 (i := 168) rfl rfl
theorem w_6_169 : Cond.selects yX11_fences.cls yX11_fences yX11_fences ∈ W0 := tb6 (i := 169) rfl rfl
theorem w_6_170 : Cond.code yX11_fences cX11_fences 4 (some .int) ∈ W0 := tb6 (i := 170) rfl rfl
theorem w_6_171 : Cond.methodLink RX11 374 yX11_findWrites ∈ W0 := tb6 (i := 171) rfl rfl
theorem w_6_173 : Cond.instanceMethod yX11_findWrites ∈ W0 := tb6 (i := 173) rfl rfl
theorem w_6_174 : Cond.code yX11_findWrites cX11_findWrites 3 none ∈ W0 := tb6 (i := 174) rfl rfl
theorem w_6_175 : Cond.methodLink RX11 240 yX11_isDone ∈ W0 := tb6 (i := 175) rfl rfl
theorem w_6_177 : Cond.instanceMethod yX11_isDone ∈ W0 := tb6 (i := 177) rfl rfl
theorem w_6_178 : Cond.code yX11_isDone cX11_isDone 4 (some .boolean) ∈ W0 := tb6 (i := 178) rfl rfl
theorem w_6_179 : Cond.methodLink RX11 377 yX11_ones ∈ W0 := tb6 (i := 179) rfl rfl
theorem w_6_180 : Cond.static yX11_ones ∈ W0 := tb6 (i := 180) rfl rfl
theorem w_6_181 : Cond.code yX11_ones cX11_ones 3 (some .int) ∈ W0 := tb6 (i := 181) rfl rfl
theorem w_6_182 : Cond.methodLink RL 112 yX11_cost ∈ W0 := tb6 (i := 182) rfl rfl
theorem w_6_183 : Cond.instanceMethod yX11_cost ∈ W0 := tb6 (i := 183) rfl rfl
theorem w_6_184 : Cond.selects yX11_cost.cls yX11_cost yX11_cost ∈ W0 := tb6 (i := 184) rfl rfl
theorem w_6_185 : Cond.code yX11_cost cX11_cost 3 (some .int) ∈ W0 := tb6 (i := 185) rfl rfl
theorem w_6_186 : Cond.methodLink RX11 393 yX11_playedWhole ∈ W0 := tb6 (i := 186) rfl rfl
theorem w_6_188 : Cond.instanceMethod yX11_playedWhole ∈ W0 := tb6 (i := 188) rfl rfl
theorem w_6_189 : Cond.code yX11_playedWhole cX11_playedWhole 2 (some .int) ∈ W0 := tb6 (i := 189) rfl rfl
theorem w_6_190 : Cond.methodLink RX11 385 yX11_isSheet ∈ W0 := tb6 (i := 190) rfl rfl
theorem w_6_191 : Cond.static yX11_isSheet ∈ W0 := tb6 (i := 191) rfl rfl
theorem w_6_192 : Cond.code yX11_isSheet cX11_isSheet 1 (some .boolean) ∈ W0 := tb6 (i := 192) rfl rfl
theorem w_6_193 : Cond.constant RX11 388 (-1000000006) ∈ W0 := tb6 (i := 193) rfl rfl
theorem w_6_194 : Cond.methodLink RX11 389 yX11_plays ∈ W0 := tb6 (i := 194) rfl rfl
theorem w_6_196 : Cond.instanceMethod yX11_plays ∈ W0 := tb6 (i := 196) rfl rfl
theorem w_6_197 : Cond.code yX11_plays cX11_plays 6 (some .int) ∈ W0 := tb6 (i := 197) rfl rfl
theorem w_6_198 : Cond.constantLong RX11 383 (12) ∈ W0 := tb6 (i := 198) rfl rfl
theorem w_6_199 : Cond.constant RX11 392 (-1000000005) ∈ W0 := tb6 (i := 199) rfl rfl
theorem w_6_200 : Cond.methodLink RL 116 yX11_played ∈ W0 := tb6 (i := 200) rfl rfl
theorem w_6_201 : Cond.instanceMethod yX11_played ∈ W0 := tb6 (i := 201) rfl rfl
theorem w_6_202 : Cond.selects yX11_played.cls yX11_played yX11_played ∈ W0 := tb6 (i := 202) rfl rfl
theorem w_6_203 : Cond.code yX11_played cX11_played 2 (some .int) ∈ W0 := tb6 (i := 203) rfl rfl
theorem w_6_204 : Cond.methodLink RL 120 yX11_judge ∈ W0 := tb6 (i := 204) rfl rfl
theorem w_6_205 : Cond.instanceMethod yX11_judge ∈ W0 := tb6 (i := 205) rfl rfl
theorem w_6_206 : Cond.selects yX11_judge.cls yX11_judge yX11_judge ∈ W0 := tb6 (i := 206) rfl rfl
theorem w_6_207 : Cond.code yX11_judge cX11_judge 4 (some .int) ∈ W0 := tb6 (i := 207) rfl rfl
theorem w_6_208 : Cond.methodLink RL 124 yX11_moves ∈ W0 := tb6 (i := 208) rfl rfl
theorem w_6_209 : Cond.instanceMethod yX11_moves ∈ W0 := tb6 (i := 209) rfl rfl
theorem w_6_210 : Cond.selects yX11_moves.cls yX11_moves yX11_moves ∈ W0 := tb6 (i := 210) rfl rfl
theorem w_6_211 : Cond.code yX11_moves cX11_moves 5 (some .int) ∈ W0 := tb6 (i := 211) rfl rfl
theorem w_6_212 : Cond.methodLink RL 128 yX11_after ∈ W0 := tb6 (i := 212) rfl rfl
theorem w_6_213 : Cond.instanceMethod yX11_after ∈ W0 := tb6 (i := 213) rfl rfl
theorem w_6_214 : Cond.selects yX11_after.cls yX11_after yX11_after ∈ W0 := tb6 (i := 214) rfl rfl
theorem w_6_215 : Cond.code yX11_after cX11_after 6 (some .int) ∈ W0 := tb6 (i := 215) rfl rfl
theorem w_6_216 : Cond.methodLink RL 132 yX11_sheet ∈ W0 := tb6 (i := 216) rfl rfl
theorem w_6_217 : Cond.instanceMethod yX11_sheet ∈ W0 := tb6 (i := 217) rfl rfl
theorem w_6_218 : Cond.selects yX11_sheet.cls yX11_sheet yX11_sheet ∈ W0 := tb6 (i := 218) rfl rfl
theorem w_6_219 : Cond.code yX11_sheet cX11_sheet 4 (some .int) ∈ W0 := tb6 (i := 219) rfl rfl
theorem w_6_220 : Cond.methodLink RX11 396 yX11_layRow ∈ W0 := tb6 (i := 220) rfl rfl
theorem w_6_222 : Cond.instanceMethod yX11_layRow ∈ W0 := tb6 (i := 222) rfl rfl
theorem w_6_223 : Cond.code yX11_layRow cX11_layRow 5 none ∈ W0 := tb6 (i := 223) rfl rfl
theorem w_6_224 : Cond.methodLink RL 139 yX11_write ∈ W0 := tb6 (i := 224) rfl rfl
theorem w_6_225 : Cond.instanceMethod yX11_write ∈ W0 := tb6 (i := 225) rfl rfl
theorem w_6_226 : Cond.selects yX11_write.cls yX11_write yX11_write ∈ W0 := tb6 (i := 226) rfl rfl
theorem w_6_227 : Cond.code yX11_write cX11_write 7 (some .long) ∈ W0 := tb6 (i := 227) rfl rfl
theorem w_6_228 : Cond.methodLink RL 144 yX11_copy ∈ W0 := tb6 (i := 228) rfl rfl
theorem w_6_229 : Cond.instanceMethod yX11_copy ∈ W0 := tb6 (i := 229) rfl rfl
theorem w_6_230 : Cond.selects yX11_copy.cls yX11_copy yX11_copy ∈ W0 := tb6 (i := 230) rfl rfl
theorem w_6_231 : Cond.code yX11_copy cX11_copy 7 (some .int) ∈ W0 := tb6 (i := 231) rfl rfl
theorem w_6_232 : Cond.methodLink RL 148 yX11_lead ∈ W0 := tb6 (i := 232) rfl rfl
theorem w_6_233 : Cond.instanceMethod yX11_lead ∈ W0 := tb6 (i := 233) rfl rfl
theorem w_6_234 : Cond.selects yX11_lead.cls yX11_lead yX11_lead ∈ W0 := tb6 (i := 234) rfl rfl
theorem w_6_235 : Cond.code yX11_lead cX11_lead 4 (some .int) ∈ W0 := tb6 (i := 235) rfl rfl
theorem w_6_236 : Cond.methodLink RL 152 yX11_image ∈ W0 := tb6 (i := 236) rfl rfl
theorem w_6_237 : Cond.instanceMethod yX11_image ∈ W0 := tb6 (i := 237) rfl rfl
theorem w_6_238 : Cond.selects yX11_image.cls yX11_image yX11_image ∈ W0 := tb6 (i := 238) rfl rfl
theorem w_6_239 : Cond.code yX11_image cX11_image 1 (some .int) ∈ W0 := tb6 (i := 239) rfl rfl
theorem w_7_0 : Cond.methodLink RX11 404 yX11_passAll ∈ W0 := tb7 (i := 0) rfl rfl
theorem w_7_2 : Cond.instanceMethod yX11_passAll ∈ W0 := tb7 (i := 2) rfl rfl
theorem w_7_3 : Cond.code yX11_passAll cX11_passAll 4 none ∈ W0 := tb7 (i := 3) rfl rfl
theorem w_7_4 : Cond.methodLink RX11 400 yX11_passes ∈ W0 := tb7 (i := 4) rfl rfl
theorem w_7_6 : Cond.instanceMethod yX11_passes ∈ W0 := tb7 (i := 6) rfl rfl
theorem w_7_7 : Cond.code yX11_passes cX11_passes 4 (some .int) ∈ W0 := tb7 (i := 7) rfl rfl
theorem w_7_8 : Cond.methodLink RL 156 yX11_undo ∈ W0 := tb7 (i := 8) rfl rfl
theorem w_7_9 : Cond.instanceMethod yX11_undo ∈ W0 := tb7 (i := 9) rfl rfl
theorem w_7_10 : Cond.selects yX11_undo.cls yX11_undo yX11_undo ∈ W0 := tb7 (i := 10) rfl rfl
theorem w_7_11 : Cond.code yX11_undo cX11_undo 1 (some .int) ∈ W0 := tb7 (i := 11) rfl rfl
theorem w_7_12 : Cond.methodLink RL 160 yX11_tear ∈ W0 := tb7 (i := 12) rfl rfl
theorem w_7_13 : Cond.instanceMethod yX11_tear ∈ W0 := tb7 (i := 13) rfl rfl
theorem w_7_14 : Cond.selects yX11_tear.cls yX11_tear yX11_tear ∈ W0 := tb7 (i := 14) rfl rfl
theorem w_7_15 : Cond.code yX11_tear cX11_tear 2 (some .int) ∈ W0 := tb7 (i := 15) rfl rfl
theorem w_7_16 : Cond.methodLink RL 164 yX11_look ∈ W0 := tb7 (i := 16) rfl rfl
theorem w_7_17 : Cond.instanceMethod yX11_look ∈ W0 := tb7 (i := 17) rfl rfl
theorem w_7_18 : Cond.selects yX11_look.cls yX11_look yX11_look ∈ W0 := tb7 (i := 18) rfl rfl
theorem w_7_19 : Cond.code yX11_look cX11_look 2 (some .int) ∈ W0 := tb7 (i := 19) rfl rfl
theorem w_7_20 : Cond.methodLink RL 168 yX11_status ∈ W0 := tb7 (i := 20) rfl rfl
theorem w_7_21 : Cond.instanceMethod yX11_status ∈ W0 := tb7 (i := 21) rfl rfl
theorem w_7_22 : Cond.selects yX11_status.cls yX11_status yX11_status ∈ W0 := tb7 (i := 22) rfl rfl
theorem w_7_23 : Cond.code yX11_status cX11_status 4 (some .int) ∈ W0 := tb7 (i := 23) rfl rfl
theorem w_7_24 : Cond.constantLong RL 133 (4294967295) ∈ W0 := tb7 (i := 24) rfl rfl
theorem w_7_25 : Cond.fieldLink RJ0 9 "java/lang/String" "value" "[B" ∈ W0 := tb7 (i := 25) rfl rfl
theorem w_7_26 : Cond.fieldLink RJ0 15 "java/lang/String" "coder" "B" ∈ W0 := tb7 (i := 26) rfl rfl
theorem w_p1_0 : Cond.selects yX3_readStep.cls yX3_readStep yX3_readStep ∈ W0 := tbp1 (i := 0) (q := (yX3_readStep, 5)) rfl
theorem w_p1_1 : Cond.selects yX3_nextToken.cls yX3_nextToken yX3_nextToken ∈ W0 := tbp1 (i := 1) (q := (yX3_nextToken, 5)) rfl
theorem w_p1_2 : Cond.selects yX3_latestWord.cls yX3_latestWord yX3_latestWord ∈ W0 := tbp1 (i := 2) (q := (yX3_latestWord, 5)) rfl
theorem w_p1_3 : Cond.selects yX3_isLatest.cls yX3_isLatest yX3_isLatest ∈ W0 := tbp1 (i := 3) (q := (yX3_isLatest, 5)) rfl
theorem w_p1_4 : Cond.selects yX7_goThrough.cls yX7_goThrough yX7_goThrough ∈ W0 := tbp1 (i := 4) (q := (yX7_goThrough, 8)) rfl
theorem w_p1_5 : Cond.selects yX1_layCall.cls yX1_layCall yX1_layCall ∈ W0 := tbp1 (i := 5) (q := (yX1_layCall, 7)) rfl
theorem w_p1_6 : Cond.selects yX9_indexOf.cls yX9_indexOf yX9_indexOf ∈ W0 := tbp1 (i := 6) (q := (yX9_indexOf, 9)) rfl
theorem w_p1_7 : Cond.selects yX9_include.cls yX9_include yX9_include ∈ W0 := tbp1 (i := 7) (q := (yX9_include, 9)) rfl
theorem w_p1_8 : Cond.selects yX1_arrived.cls yX1_arrived yX1_arrived ∈ W0 := tbp1 (i := 8) (q := (yX1_arrived, 7)) rfl
theorem w_p1_9 : Cond.selects yX1_written.cls yX1_written yX1_written ∈ W0 := tbp1 (i := 9) (q := (yX1_written, 7)) rfl
theorem w_p1_10 : Cond.selects yX1_swapped.cls yX1_swapped yX1_swapped ∈ W0 := tbp1 (i := 10) (q := (yX1_swapped, 7)) rfl
theorem w_p1_11 : Cond.selects yX4_placeFor.cls yX4_placeFor yX4_placeFor ∈ W0 := tbp1 (i := 11) (q := (yX4_placeFor, 2)) rfl
theorem w_p1_12 : Cond.selects yX9_leadsOut.cls yX9_leadsOut yX9_leadsOut ∈ W0 := tbp1 (i := 12) (q := (yX9_leadsOut, 9)) rfl
theorem w_p1_13 : Cond.selects yX9_takeAway.cls yX9_takeAway yX9_takeAway ∈ W0 := tbp1 (i := 13) (q := (yX9_takeAway, 9)) rfl
theorem w_p1_14 : Cond.selects yX7_findFencePlaces.cls yX7_findFencePlaces yX7_findFencePlaces ∈ W0 := tbp1 (i := 14) (q := (yX7_findFencePlaces, 8)) rfl
theorem w_p1_15 : Cond.selects yX7_tryFences.cls yX7_tryFences yX7_tryFences ∈ W0 := tbp1 (i := 15) (q := (yX7_tryFences, 8)) rfl
theorem w_p2_0 : Cond.selects yX10_findingOfTurn.cls yX10_findingOfTurn yX10_findingOfTurn ∈ W0 := tbp2 (i := 0) (q := (yX10_findingOfTurn, 9)) rfl
theorem w_p2_1 : Cond.selects yX2_priceOf.cls yX2_priceOf yX2_priceOf ∈ W0 := tbp2 (i := 1) (q := (yX2_priceOf, 4)) rfl
theorem w_p2_2 : Cond.selects yX11_finds.cls yX11_finds yX11_finds ∈ W0 := tbp2 (i := 2) (q := (yX11_finds, 68)) rfl
theorem w_p2_3 : Cond.selects yX11_next.cls yX11_next yX11_next ∈ W0 := tbp2 (i := 3) (q := (yX11_next, 68)) rfl
theorem w_p2_4 : Cond.selects yX11_byteAt.cls yX11_byteAt yX11_byteAt ∈ W0 := tbp2 (i := 4) (q := (yX11_byteAt, 68)) rfl
theorem w_p2_5 : Cond.selects yX11_isLetter.cls yX11_isLetter yX11_isLetter ∈ W0 := tbp2 (i := 5) (q := (yX11_isLetter, 68)) rfl
theorem w_p2_6 : Cond.selects yX11_isDigit.cls yX11_isDigit yX11_isDigit ∈ W0 := tbp2 (i := 6) (q := (yX11_isDigit, 68)) rfl
theorem w_p2_7 : Cond.selects yX11_readStep.cls yX11_readStep yX11_readStep ∈ W0 := tbp2 (i := 7) (q := (yX11_readStep, 68)) rfl
theorem w_p2_8 : Cond.selects yX11_wrong.cls yX11_wrong yX11_wrong ∈ W0 := tbp2 (i := 8) (q := (yX11_wrong, 68)) rfl
theorem w_p2_9 : Cond.selects yX11_number.cls yX11_number yX11_number ∈ W0 := tbp2 (i := 9) (q := (yX11_number, 68)) rfl
theorem w_p2_10 : Cond.selects yX11_isCall.cls yX11_isCall yX11_isCall ∈ W0 := tbp2 (i := 10) (q := (yX11_isCall, 68)) rfl
theorem w_p2_11 : Cond.selects yX11_isStep.cls yX11_isStep yX11_isStep ∈ W0 := tbp2 (i := 11) (q := (yX11_isStep, 68)) rfl
theorem w_p2_12 : Cond.selects yX11_hasValue.cls yX11_hasValue yX11_hasValue ∈ W0 := tbp2 (i := 12) (q := (yX11_hasValue, 68)) rfl
theorem w_p2_13 : Cond.selects yX11_put.cls yX11_put yX11_put ∈ W0 := tbp2 (i := 13) (q := (yX11_put, 68)) rfl
theorem w_p2_14 : Cond.selects yX11_lookAll.cls yX11_lookAll yX11_lookAll ∈ W0 := tbp2 (i := 14) (q := (yX11_lookAll, 68)) rfl
theorem w_p2_15 : Cond.selects yX11_goesThrough.cls yX11_goesThrough yX11_goesThrough ∈ W0 := tbp2 (i := 15) (q := (yX11_goesThrough, 68)) rfl
theorem w_p3_0 : Cond.selects yX11_lay.cls yX11_lay yX11_lay ∈ W0 := tbp3 (i := 0) (q := (yX11_lay, 68)) rfl
theorem w_p3_1 : Cond.selects yX11_lays.cls yX11_lays yX11_lays ∈ W0 := tbp3 (i := 1) (q := (yX11_lays, 68)) rfl
theorem w_p3_2 : Cond.selects yX11_isFenced.cls yX11_isFenced yX11_isFenced ∈ W0 := tbp3 (i := 2) (q := (yX11_isFenced, 68)) rfl
theorem w_p3_3 : Cond.selects yX11_begins.cls yX11_begins yX11_begins ∈ W0 := tbp3 (i := 3) (q := (yX11_begins, 68)) rfl
theorem w_p3_4 : Cond.selects yX11_pack.cls yX11_pack yX11_pack ∈ W0 := tbp3 (i := 4) (q := (yX11_pack, 68)) rfl
theorem w_p3_5 : Cond.selects yX11_waitCode.cls yX11_waitCode yX11_waitCode ∈ W0 := tbp3 (i := 5) (q := (yX11_waitCode, 68)) rfl
theorem w_p3_6 : Cond.selects yX11_placeOf.cls yX11_placeOf yX11_placeOf ∈ W0 := tbp3 (i := 6) (q := (yX11_placeOf, 68)) rfl
theorem w_p3_7 : Cond.selects yX11_unpack.cls yX11_unpack yX11_unpack ∈ W0 := tbp3 (i := 7) (q := (yX11_unpack, 68)) rfl
theorem w_p3_8 : Cond.selects yX11_isEnd.cls yX11_isEnd yX11_isEnd ∈ W0 := tbp3 (i := 8) (q := (yX11_isEnd, 68)) rfl
theorem w_p3_9 : Cond.selects yX11_resultNow.cls yX11_resultNow yX11_resultNow ∈ W0 := tbp3 (i := 9) (q := (yX11_resultNow, 68)) rfl
theorem w_p3_10 : Cond.selects yX11_can.cls yX11_can yX11_can ∈ W0 := tbp3 (i := 10) (q := (yX11_can, 68)) rfl
theorem w_p3_11 : Cond.selects yX11_stepNow.cls yX11_stepNow yX11_stepNow ∈ W0 := tbp3 (i := 11) (q := (yX11_stepNow, 68)) rfl
theorem w_p3_12 : Cond.selects yX11_does.cls yX11_does yX11_does ∈ W0 := tbp3 (i := 12) (q := (yX11_does, 68)) rfl
theorem w_p3_13 : Cond.selects yX11_stepsOn.cls yX11_stepsOn yX11_stepsOn ∈ W0 := tbp3 (i := 13) (q := (yX11_stepsOn, 68)) rfl
theorem w_p3_14 : Cond.selects yX11_waiting.cls yX11_waiting yX11_waiting ∈ W0 := tbp3 (i := 14) (q := (yX11_waiting, 68)) rfl
theorem w_p3_15 : Cond.selects yX11_writesTo.cls yX11_writesTo yX11_writesTo ∈ W0 := tbp3 (i := 15) (q := (yX11_writesTo, 68)) rfl
theorem w_p4_0 : Cond.selects yX11_goesOn.cls yX11_goesOn yX11_goesOn ∈ W0 := tbp4 (i := 0) (q := (yX11_goesOn, 68)) rfl
theorem w_p4_1 : Cond.selects yX11_findResults.cls yX11_findResults yX11_findResults ∈ W0 := tbp4 (i := 1) (q := (yX11_findResults, 68)) rfl
theorem w_p4_2 : Cond.selects yX11_findGoods.cls yX11_findGoods yX11_findGoods ∈ W0 := tbp4 (i := 2) (q := (yX11_findGoods, 68)) rfl
theorem w_p4_3 : Cond.selects yX11_ordersFrom.cls yX11_ordersFrom yX11_ordersFrom ∈ W0 := tbp4 (i := 3) (q := (yX11_ordersFrom, 68)) rfl
theorem w_p4_4 : Cond.selects yX11_wholeCall.cls yX11_wholeCall yX11_wholeCall ∈ W0 := tbp4 (i := 4) (q := (yX11_wholeCall, 68)) rfl
theorem w_p4_5 : Cond.selects yX11_badMany.cls yX11_badMany yX11_badMany ∈ W0 := tbp4 (i := 5) (q := (yX11_badMany, 68)) rfl
theorem w_p4_6 : Cond.selects yX11_isGood.cls yX11_isGood yX11_isGood ∈ W0 := tbp4 (i := 6) (q := (yX11_isGood, 68)) rfl
theorem w_p4_7 : Cond.selects yX11_leastBad.cls yX11_leastBad yX11_leastBad ∈ W0 := tbp4 (i := 7) (q := (yX11_leastBad, 68)) rfl
theorem w_p4_8 : Cond.selects yX11_leads.cls yX11_leads yX11_leads ∈ W0 := tbp4 (i := 8) (q := (yX11_leads, 68)) rfl
theorem w_p4_9 : Cond.selects yX11_findWay.cls yX11_findWay yX11_findWay ∈ W0 := tbp4 (i := 9) (q := (yX11_findWay, 68)) rfl
theorem w_p4_10 : Cond.selects yX11_badWith.cls yX11_badWith yX11_badWith ∈ W0 := tbp4 (i := 10) (q := (yX11_badWith, 68)) rfl
theorem w_p4_11 : Cond.selects yX11_findWrites.cls yX11_findWrites yX11_findWrites ∈ W0 := tbp4 (i := 11) (q := (yX11_findWrites, 68)) rfl
theorem w_p4_12 : Cond.selects yX11_isDone.cls yX11_isDone yX11_isDone ∈ W0 := tbp4 (i := 12) (q := (yX11_isDone, 68)) rfl
theorem w_p4_13 : Cond.selects yX11_playedWhole.cls yX11_playedWhole yX11_playedWhole ∈ W0 := tbp4 (i := 13) (q := (yX11_playedWhole, 68)) rfl
theorem w_p4_14 : Cond.selects yX11_plays.cls yX11_plays yX11_plays ∈ W0 := tbp4 (i := 14) (q := (yX11_plays, 68)) rfl
theorem w_p4_15 : Cond.selects yX11_layRow.cls yX11_layRow yX11_layRow ∈ W0 := tbp4 (i := 15) (q := (yX11_layRow, 68)) rfl
theorem w_p5_0 : Cond.selects yX11_passAll.cls yX11_passAll yX11_passAll ∈ W0 := tbp5 (i := 0) (q := (yX11_passAll, 68)) rfl
theorem w_p5_1 : Cond.selects yX11_passes.cls yX11_passes yX11_passes ∈ W0 := tbp5 (i := 1) (q := (yX11_passes, 68)) rfl
theorem in_X0 : ∀ w ∈ u_ws RX0 TX0 2, w ∈ W0 := by
  intro w hw
  obtain ⟨k, hk, rfl⟩ := List.mem_map.mp hw
  have hk := List.mem_range.mp hk
  match k, hk with
  | 0, _ => exact tb1 (i := 39) rfl rfl
  | 1, _ => exact tb1 (i := 41) rfl rfl
  | k + 2, h => exact absurd h (by omega)
theorem in_X1 : ∀ w ∈ u_ws RX1 TX1 7, w ∈ W0 := by
  intro w hw
  obtain ⟨k, hk, rfl⟩ := List.mem_map.mp hw
  have hk := List.mem_range.mp hk
  match k, hk with
  | 0, _ => exact tb1 (i := 157) rfl rfl
  | 1, _ => exact tb1 (i := 159) rfl rfl
  | 2, _ => exact tb1 (i := 161) rfl rfl
  | 3, _ => exact tb1 (i := 163) rfl rfl
  | 4, _ => exact tb1 (i := 165) rfl rfl
  | 5, _ => exact tb1 (i := 167) rfl rfl
  | 6, _ => exact tb1 (i := 169) rfl rfl
  | k + 7, h => exact absurd h (by omega)
theorem in_X2 : ∀ w ∈ u_ws RX2 TX2 4, w ∈ W0 := by
  intro w hw
  obtain ⟨k, hk, rfl⟩ := List.mem_map.mp hw
  have hk := List.mem_range.mp hk
  match k, hk with
  | 0, _ => exact tb2 (i := 35) rfl rfl
  | 1, _ => exact tb2 (i := 37) rfl rfl
  | 2, _ => exact tb2 (i := 39) rfl rfl
  | 3, _ => exact tb2 (i := 41) rfl rfl
  | k + 4, h => exact absurd h (by omega)
theorem in_X3 : ∀ w ∈ u_ws RX3 TX3 5, w ∈ W0 := by
  intro w hw
  obtain ⟨k, hk, rfl⟩ := List.mem_map.mp hw
  have hk := List.mem_range.mp hk
  match k, hk with
  | 0, _ => exact tb1 (i := 73) rfl rfl
  | 1, _ => exact tb1 (i := 75) rfl rfl
  | 2, _ => exact tb1 (i := 77) rfl rfl
  | 3, _ => exact tb1 (i := 79) rfl rfl
  | 4, _ => exact tb1 (i := 81) rfl rfl
  | k + 5, h => exact absurd h (by omega)
theorem in_X4 : ∀ w ∈ u_ws RX4 TX4 2, w ∈ W0 := by
  intro w hw
  obtain ⟨k, hk, rfl⟩ := List.mem_map.mp hw
  have hk := List.mem_range.mp hk
  match k, hk with
  | 0, _ => exact tb1 (i := 226) rfl rfl
  | 1, _ => exact tb1 (i := 228) rfl rfl
  | k + 2, h => exact absurd h (by omega)
theorem in_X5 : ∀ w ∈ u_ws RX5 TX5 8, w ∈ W0 := by
  intro w hw
  obtain ⟨k, hk, rfl⟩ := List.mem_map.mp hw
  have hk := List.mem_range.mp hk
  match k, hk with
  | 0, _ => exact tb1 (i := 121) rfl rfl
  | 1, _ => exact tb1 (i := 123) rfl rfl
  | 2, _ => exact tb1 (i := 125) rfl rfl
  | 3, _ => exact tb1 (i := 127) rfl rfl
  | 4, _ => exact tb1 (i := 129) rfl rfl
  | 5, _ => exact tb1 (i := 131) rfl rfl
  | 6, _ => exact tb1 (i := 133) rfl rfl
  | 7, _ => exact tb1 (i := 135) rfl rfl
  | k + 8, h => exact absurd h (by omega)
theorem in_X6 : ∀ w ∈ u_ws RX6 TX6 3, w ∈ W0 := by
  intro w hw
  obtain ⟨k, hk, rfl⟩ := List.mem_map.mp hw
  have hk := List.mem_range.mp hk
  match k, hk with
  | 0, _ => exact tb2 (i := 59) rfl rfl
  | 1, _ => exact tb2 (i := 61) rfl rfl
  | 2, _ => exact tb2 (i := 63) rfl rfl
  | k + 3, h => exact absurd h (by omega)
theorem in_X7 : ∀ w ∈ u_ws RX7 TX7 8, w ∈ W0 := by
  intro w hw
  obtain ⟨k, hk, rfl⟩ := List.mem_map.mp hw
  have hk := List.mem_range.mp hk
  match k, hk with
  | 0, _ => exact tb2 (i := 3) rfl rfl
  | 1, _ => exact tb2 (i := 5) rfl rfl
  | 2, _ => exact tb2 (i := 7) rfl rfl
  | 3, _ => exact tb2 (i := 9) rfl rfl
  | 4, _ => exact tb2 (i := 11) rfl rfl
  | 5, _ => exact tb2 (i := 13) rfl rfl
  | 6, _ => exact tb2 (i := 15) rfl rfl
  | 7, _ => exact tb2 (i := 17) rfl rfl
  | k + 8, h => exact absurd h (by omega)
theorem in_X8 : ∀ w ∈ u_ws RX8 TX8 2, w ∈ W0 := by
  intro w hw
  obtain ⟨k, hk, rfl⟩ := List.mem_map.mp hw
  have hk := List.mem_range.mp hk
  match k, hk with
  | 0, _ => exact tb1 (i := 62) rfl rfl
  | 1, _ => exact tb1 (i := 64) rfl rfl
  | k + 2, h => exact absurd h (by omega)
theorem in_X9 : ∀ w ∈ u_ws RX9 TX9 9, w ∈ W0 := by
  intro w hw
  obtain ⟨k, hk, rfl⟩ := List.mem_map.mp hw
  have hk := List.mem_range.mp hk
  match k, hk with
  | 0, _ => exact tb1 (i := 190) rfl rfl
  | 1, _ => exact tb1 (i := 192) rfl rfl
  | 2, _ => exact tb1 (i := 194) rfl rfl
  | 3, _ => exact tb1 (i := 196) rfl rfl
  | 4, _ => exact tb1 (i := 198) rfl rfl
  | 5, _ => exact tb1 (i := 200) rfl rfl
  | 6, _ => exact tb1 (i := 202) rfl rfl
  | 7, _ => exact tb1 (i := 204) rfl rfl
  | 8, _ => exact tb1 (i := 206) rfl rfl
  | k + 9, h => exact absurd h (by omega)
theorem in_X10 : ∀ w ∈ u_ws RX10 TX10 9, w ∈ W0 := by
  intro w hw
  obtain ⟨k, hk, rfl⟩ := List.mem_map.mp hw
  have hk := List.mem_range.mp hk
  match k, hk with
  | 0, _ => exact tb2 (i := 75) rfl rfl
  | 1, _ => exact tb2 (i := 77) rfl rfl
  | 2, _ => exact tb2 (i := 79) rfl rfl
  | 3, _ => exact tb2 (i := 81) rfl rfl
  | 4, _ => exact tb2 (i := 83) rfl rfl
  | 5, _ => exact tb2 (i := 85) rfl rfl
  | 6, _ => exact tb2 (i := 87) rfl rfl
  | 7, _ => exact tb2 (i := 89) rfl rfl
  | 8, _ => exact tb2 (i := 91) rfl rfl
  | k + 9, h => exact absurd h (by omega)
theorem in_X11 : ∀ w ∈ u_ws RX11 TX11 68, w ∈ W0 := by
  intro w hw
  obtain ⟨k, hk, rfl⟩ := List.mem_map.mp hw
  have hk := List.mem_range.mp hk
  match k, hk with
  | 0, _ => exact tb4 (i := 238) rfl rfl
  | 1, _ => exact tb5 (i := 0) rfl rfl
  | 2, _ => exact tb5 (i := 2) rfl rfl
  | 3, _ => exact tb5 (i := 4) rfl rfl
  | 4, _ => exact tb5 (i := 6) rfl rfl
  | 5, _ => exact tb5 (i := 8) rfl rfl
  | 6, _ => exact tb5 (i := 10) rfl rfl
  | 7, _ => exact tb5 (i := 12) rfl rfl
  | 8, _ => exact tb5 (i := 14) rfl rfl
  | 9, _ => exact tb5 (i := 16) rfl rfl
  | 10, _ => exact tb5 (i := 18) rfl rfl
  | 11, _ => exact tb5 (i := 20) rfl rfl
  | 12, _ => exact tb5 (i := 22) rfl rfl
  | 13, _ => exact tb5 (i := 24) rfl rfl
  | 14, _ => exact tb5 (i := 26) rfl rfl
  | 15, _ => exact tb5 (i := 28) rfl rfl
  | 16, _ => exact tb5 (i := 30) rfl rfl
  | 17, _ => exact tb5 (i := 32) rfl rfl
  | 18, _ => exact tb5 (i := 34) rfl rfl
  | 19, _ => exact tb5 (i := 36) rfl rfl
  | 20, _ => exact tb5 (i := 38) rfl rfl
  | 21, _ => exact tb5 (i := 40) rfl rfl
  | 22, _ => exact tb5 (i := 42) rfl rfl
  | 23, _ => exact tb5 (i := 44) rfl rfl
  | 24, _ => exact tb5 (i := 46) rfl rfl
  | 25, _ => exact tb5 (i := 48) rfl rfl
  | 26, _ => exact tb5 (i := 50) rfl rfl
  | 27, _ => exact tb5 (i := 52) rfl rfl
  | 28, _ => exact tb5 (i := 54) rfl rfl
  | 29, _ => exact tb5 (i := 56) rfl rfl
  | 30, _ => exact tb5 (i := 58) rfl rfl
  | 31, _ => exact tb5 (i := 60) rfl rfl
  | 32, _ => exact tb5 (i := 62) rfl rfl
  | 33, _ => exact tb5 (i := 64) rfl rfl
  | 34, _ => exact tb5 (i := 66) rfl rfl
  | 35, _ => exact tb5 (i := 68) rfl rfl
  | 36, _ => exact tb5 (i := 70) rfl rfl
  | 37, _ => exact tb5 (i := 72) rfl rfl
  | 38, _ => exact tb5 (i := 74) rfl rfl
  | 39, _ => exact tb5 (i := 76) rfl rfl
  | 40, _ => exact tb5 (i := 78) rfl rfl
  | 41, _ => exact tb5 (i := 80) rfl rfl
  | 42, _ => exact tb5 (i := 82) rfl rfl
  | 43, _ => exact tb5 (i := 84) rfl rfl
  | 44, _ => exact tb5 (i := 86) rfl rfl
  | 45, _ => exact tb5 (i := 88) rfl rfl
  | 46, _ => exact tb5 (i := 90) rfl rfl
  | 47, _ => exact tb5 (i := 92) rfl rfl
  | 48, _ => exact tb5 (i := 94) rfl rfl
  | 49, _ => exact tb5 (i := 96) rfl rfl
  | 50, _ => exact tb5 (i := 98) rfl rfl
  | 51, _ => exact tb5 (i := 100) rfl rfl
  | 52, _ => exact tb5 (i := 102) rfl rfl
  | 53, _ => exact tb5 (i := 104) rfl rfl
  | 54, _ => exact tb5 (i := 106) rfl rfl
  | 55, _ => exact tb5 (i := 108) rfl rfl
  | 56, _ => exact tb5 (i := 110) rfl rfl
  | 57, _ => exact tb5 (i := 112) rfl rfl
  | 58, _ => exact tb5 (i := 114) rfl rfl
  | 59, _ => exact tb5 (i := 116) rfl rfl
  | 60, _ => exact tb5 (i := 118) rfl rfl
  | 61, _ => exact tb5 (i := 120) rfl rfl
  | 62, _ => exact tb5 (i := 122) rfl rfl
  | 63, _ => exact tb5 (i := 124) rfl rfl
  | 64, _ => exact tb5 (i := 126) rfl rfl
  | 65, _ => exact tb5 (i := 128) rfl rfl
  | 66, _ => exact tb5 (i := 130) rfl rfl
  | 67, _ => exact tb5 (i := 132) rfl rfl
  | k + 68, h => exact absurd h (by omega)
theorem ms_J9_max_7cf53 : MS yJ9_max_7cf53 cJ9_max_7cf53 2 (some .int) 2 := ⟨w_1_217, w_1_10, w_1_218, by decide, by decide, by decide +kernel⟩
theorem mv_X10_feed : MV yX10_feed cX10_feed 3 (some .int) 2 := ⟨⟨w_2_95, w_2_96⟩, w_1_1, w_2_97, by decide, by decide, by decide +kernel⟩
theorem mv_X0_tell : MV yX0_tell cX0_tell 2 (some .int) 1 := ⟨⟨w_2_99, w_2_100⟩, w_1_2, w_2_101, by decide, by decide, by decide +kernel⟩
theorem mv_X8_append : MV yX8_append cX8_append 4 none 2 := ⟨⟨w_2_104, w_2_105⟩, w_1_4, w_2_106, by decide, by decide, by decide +kernel⟩
theorem mv_X10_wipe : MV yX10_wipe cX10_wipe 2 (some .int) 0 := ⟨⟨w_2_108, w_2_109⟩, w_1_1, w_2_110, by decide, by decide, by decide +kernel⟩
theorem mv_X10_text : MV yX10_text cX10_text 2 (some .int) 0 := ⟨⟨w_2_112, w_2_113⟩, w_1_1, w_2_114, by decide, by decide, by decide +kernel⟩
theorem mv_X3_faultOfNewCall : MV yX3_faultOfNewCall cX3_faultOfNewCall 3 (some .int) 1 := ⟨⟨w_2_116, w_2_117⟩, w_1_3, w_2_118, by decide, by decide, by decide +kernel⟩
theorem mv_X3_readStep : MV yX3_readStep cX3_readStep 6 (some .boolean) 2 := ⟨⟨w_2_121, w_p1_0⟩, w_1_3, w_2_122, by decide, by decide, by decide +kernel⟩
theorem mv_X3_nextToken : MV yX3_nextToken cX3_nextToken 1 none 0 := ⟨⟨w_2_125, w_p1_1⟩, w_1_3, w_2_126, by decide, by decide, by decide +kernel⟩
theorem ms_X3_isIn : MS yX3_isIn cX3_isIn 3 (some .boolean) 3 := ⟨w_2_128, w_1_3, w_2_129, by decide, by decide, by decide +kernel⟩
theorem ms_J9_min_7cf53 : MS yJ9_min_7cf53 cJ9_min_7cf53 2 (some .int) 2 := ⟨w_2_131, w_1_10, w_2_132, by decide, by decide, by decide +kernel⟩
theorem mv_X3_latestWord : MV yX3_latestWord cX3_latestWord 2 (some .int) 0 := ⟨⟨w_2_135, w_p1_2⟩, w_1_3, w_2_136, by decide, by decide, by decide +kernel⟩
theorem ms_X3_spelling : MS yX3_spelling cX3_spelling 1 (some (.object "java/lang/String")) 1 := ⟨w_2_138, w_1_3, w_2_139, by decide, by decide, by decide +kernel⟩
theorem mv_X3_isLatest : MV yX3_isLatest cX3_isLatest 3 (some .boolean) 1 := ⟨⟨w_2_151, w_p1_3⟩, w_1_3, w_2_152, by decide, by decide, by decide +kernel⟩
theorem mv_J0_length_8abf5 : MV yJ0_length_8abf5 cJ0_length_8abf5 1 (some .int) 0 := ⟨⟨w_2_154, w_2_155⟩, w_1_14, w_2_156, by decide, by decide, by decide +kernel⟩
theorem mv_J0_coder_7d493 : MV yJ0_coder_7d493 cJ0_coder_7d493 1 (some .byte) 0 := ⟨⟨w_2_158, w_2_159⟩, w_1_14, w_2_160, by decide, by decide, by decide +kernel⟩
theorem mv_J0_charAt_5068e : MV yJ0_charAt_5068e cJ0_charAt_5068e 2 (some .char) 1 := ⟨⟨w_2_164, w_2_165⟩, w_1_14, w_2_166, by decide, by decide, by decide +kernel⟩
theorem mv_J0_isLatin1_aae02 : MV yJ0_isLatin1_aae02 cJ0_isLatin1_aae02 1 (some .boolean) 0 := ⟨⟨w_2_168, w_2_169⟩, w_1_14, w_2_170, by decide, by decide, by decide +kernel⟩
theorem ms_J1_charAt_3b067 : MS yJ1_charAt_3b067 cJ1_charAt_3b067 2 (some .char) 2 := ⟨w_2_172, w_1_15, w_2_173, by decide, by decide, by decide +kernel⟩
theorem ms_J0_checkIndex_df160 : MS yJ0_checkIndex_df160 cJ0_checkIndex_df160 2 none 2 := ⟨w_2_175, w_1_14, w_2_176, by decide, by decide, by decide +kernel⟩
theorem ms_J3_checkIndex_8e157 : MS yJ3_checkIndex_8e157 cJ3_checkIndex_8e157 3 (some .int) 3 := ⟨w_2_180, w_1_16, w_2_181, by decide, by decide, by decide +kernel⟩
theorem ms_J2_charAt_3b067 : MS yJ2_charAt_3b067 cJ2_charAt_3b067 2 (some .char) 2 := ⟨w_2_183, w_1_17, w_2_184, by decide, by decide, by decide +kernel⟩
theorem ms_J2_checkIndex_2214a : MS yJ2_checkIndex_2214a cJ2_checkIndex_2214a 2 none 2 := ⟨w_2_186, w_1_17, w_2_187, by decide, by decide, by decide +kernel⟩
theorem ms_J2_length_9d52b : MS yJ2_length_9d52b cJ2_length_9d52b 1 (some .int) 1 := ⟨w_2_189, w_1_17, w_2_190, by decide, by decide, by decide +kernel⟩
theorem ms_J2_getChar_3b067 : MS yJ2_getChar_3b067 cJ2_getChar_3b067 2 (some .char) 2 := ⟨w_2_193, w_1_17, w_2_194, by decide, by decide, by decide +kernel⟩
theorem mv_X5_putPart : MV yX5_putPart cX5_putPart 5 none 4 := ⟨⟨w_2_204, w_2_205⟩, w_1_6, w_2_206, by decide, by decide, by decide +kernel⟩
theorem ms_X3_highestOf : MS yX3_highestOf cX3_highestOf 2 (some .int) 2 := ⟨w_2_210, w_1_3, w_2_211, by decide, by decide, by decide +kernel⟩
theorem mv_X7_forget : MV yX7_forget cX7_forget 1 none 0 := ⟨⟨w_2_213, w_2_214⟩, w_1_5, w_2_215, by decide, by decide, by decide +kernel⟩
theorem mv_X10_steps : MV yX10_steps cX10_steps 2 (some .int) 1 := ⟨⟨w_2_218, w_2_219⟩, w_1_1, w_2_220, by decide, by decide, by decide +kernel⟩
theorem mv_X5_hasCall : MV yX5_hasCall cX5_hasCall 2 (some .boolean) 1 := ⟨⟨w_2_222, w_2_223⟩, w_1_6, w_2_224, by decide, by decide, by decide +kernel⟩
theorem mv_X10_step : MV yX10_step cX10_step 5 (some .int) 3 := ⟨⟨w_2_226, w_2_227⟩, w_1_1, w_2_228, by decide, by decide, by decide +kernel⟩
theorem mv_X5_hasStep : MV yX5_hasStep cX5_hasStep 3 (some .boolean) 2 := ⟨⟨w_2_230, w_2_231⟩, w_1_6, w_2_232, by decide, by decide, by decide +kernel⟩
theorem mv_X5_partOf : MV yX5_partOf cX5_partOf 4 (some .int) 3 := ⟨⟨w_2_237, w_2_238⟩, w_1_6, w_2_239, by decide, by decide, by decide +kernel⟩
theorem mv_X10_as : MV yX10_as cX10_as 5 (some .int) 3 := ⟨⟨w_3_1, w_3_2⟩, w_1_1, w_3_3, by decide, by decide, by decide +kernel⟩
theorem ms_X10_isUnder : MS yX10_isUnder cX10_isUnder 4 (some .boolean) 2 := ⟨w_3_7, w_1_1, w_3_8, by decide, by decide, by decide +kernel⟩
theorem mv_X10_change : MV yX10_change cX10_change 6 (some .int) 3 := ⟨⟨w_3_10, w_3_11⟩, w_1_1, w_3_12, by decide, by decide, by decide +kernel⟩
theorem ms_X10_isValue : MS yX10_isValue cX10_isValue 1 (some .boolean) 1 := ⟨w_3_14, w_1_1, w_3_15, by decide, by decide, by decide +kernel⟩
theorem mv_X5_changeablePart : MV yX5_changeablePart cX5_changeablePart 3 (some .int) 2 := ⟨⟨w_3_17, w_3_18⟩, w_1_6, w_3_19, by decide, by decide, by decide +kernel⟩
theorem mv_X10_cell : MV yX10_cell cX10_cell 4 (some .int) 2 := ⟨⟨w_3_23, w_3_24⟩, w_1_1, w_3_25, by decide, by decide, by decide +kernel⟩
theorem mv_X10_machine : MV yX10_machine cX10_machine 3 (some .int) 1 := ⟨⟨w_3_27, w_3_28⟩, w_1_1, w_3_29, by decide, by decide, by decide +kernel⟩
theorem mv_X10_hand : MV yX10_hand cX10_hand 3 (some .int) 2 := ⟨⟨w_3_31, w_3_32⟩, w_1_1, w_3_33, by decide, by decide, by decide +kernel⟩
theorem mv_X10_clear : MV yX10_clear cX10_clear 2 (some .int) 0 := ⟨⟨w_3_35, w_3_36⟩, w_1_1, w_3_37, by decide, by decide, by decide +kernel⟩
theorem mv_X10_states : MV yX10_states cX10_states 1 (some .int) 0 := ⟨⟨w_3_39, w_3_40⟩, w_1_1, w_3_41, by decide, by decide, by decide +kernel⟩
theorem mv_X7_isTooLarge : MV yX7_isTooLarge cX7_isTooLarge 1 (some .boolean) 0 := ⟨⟨w_3_43, w_3_44⟩, w_1_5, w_3_45, by decide, by decide, by decide +kernel⟩
theorem mv_X7_goThrough : MV yX7_goThrough cX7_goThrough 3 none 1 := ⟨⟨w_3_48, w_p1_4⟩, w_1_5, w_3_49, by decide, by decide, by decide +kernel⟩
theorem mv_X1_load : MV yX1_load cX1_load 5 none 2 := ⟨⟨w_3_51, w_3_52⟩, w_1_7, w_3_53, by decide, by decide, by decide +kernel⟩
theorem mv_X1_layCall : MV yX1_layCall cX1_layCall 11 (some .int) 5 := ⟨⟨w_3_56, w_p1_5⟩, w_1_7, w_3_57, by decide, by decide, by decide +kernel⟩
theorem mv_X9_explore : MV yX9_explore cX9_explore 7 none 1 := ⟨⟨w_3_60, w_3_61⟩, w_1_8, w_3_62, by decide, by decide, by decide +kernel⟩
theorem mv_X9_indexOf : MV yX9_indexOf cX9_indexOf 7 (some .int) 2 := ⟨⟨w_3_65, w_p1_6⟩, w_1_8, w_3_66, by decide, by decide, by decide +kernel⟩
theorem mv_X9_include : MV yX9_include cX9_include 5 (some .int) 3 := ⟨⟨w_3_70, w_p1_7⟩, w_1_8, w_3_71, by decide, by decide, by decide +kernel⟩
theorem mv_X1_moved : MV yX1_moved cX1_moved 13 (some .long) 3 := ⟨⟨w_3_73, w_3_74⟩, w_1_7, w_3_75, by decide, by decide, by decide +kernel⟩
theorem mv_X1_arrived : MV yX1_arrived cX1_arrived 9 (some .long) 2 := ⟨⟨w_3_78, w_p1_8⟩, w_1_7, w_3_79, by decide, by decide, by decide +kernel⟩
theorem ms_X1_handIn : MS yX1_handIn cX1_handIn 3 (some .int) 2 := ⟨w_3_81, w_1_7, w_3_82, by decide, by decide, by decide +kernel⟩
theorem ms_X1_withValue : MS yX1_withValue cX1_withValue 4 (some .long) 3 := ⟨w_3_86, w_1_7, w_3_87, by decide, by decide, by decide +kernel⟩
theorem ms_X1_withHand : MS yX1_withHand cX1_withHand 5 (some .long) 3 := ⟨w_3_90, w_1_7, w_3_91, by decide, by decide, by decide +kernel⟩
theorem ms_X1_waitingFor : MS yX1_waitingFor cX1_waitingFor 5 (some .int) 2 := ⟨w_3_94, w_1_7, w_3_95, by decide, by decide, by decide +kernel⟩
theorem ms_X1_valueIn : MS yX1_valueIn cX1_valueIn 3 (some .int) 2 := ⟨w_3_97, w_1_7, w_3_98, by decide, by decide, by decide +kernel⟩
theorem ms_X1_withA : MS yX1_withA cX1_withA 2 (some .int) 2 := ⟨w_3_100, w_1_7, w_3_101, by decide, by decide, by decide +kernel⟩
theorem mv_X1_written : MV yX1_written cX1_written 12 (some .long) 4 := ⟨⟨w_3_104, w_p1_9⟩, w_1_7, w_3_105, by decide, by decide, by decide +kernel⟩
theorem mv_X1_swapped : MV yX1_swapped cX1_swapped 9 (some .long) 3 := ⟨⟨w_3_108, w_p1_10⟩, w_1_7, w_3_109, by decide, by decide, by decide +kernel⟩
theorem ms_X1_withB : MS yX1_withB cX1_withB 2 (some .int) 2 := ⟨w_3_111, w_1_7, w_3_112, by decide, by decide, by decide +kernel⟩
theorem mv_X9_gatherEnds : MV yX9_gatherEnds cX9_gatherEnds 4 none 2 := ⟨⟨w_3_115, w_3_116⟩, w_1_8, w_3_117, by decide, by decide, by decide +kernel⟩
theorem mv_X1_isEnd : MV yX1_isEnd cX1_isEnd 4 (some .boolean) 1 := ⟨⟨w_3_119, w_3_120⟩, w_1_7, w_3_121, by decide, by decide, by decide +kernel⟩
theorem mv_X1_hasCallLeft : MV yX1_hasCallLeft cX1_hasCallLeft 4 (some .boolean) 2 := ⟨⟨w_3_123, w_3_124⟩, w_1_7, w_3_125, by decide, by decide, by decide +kernel⟩
theorem mv_X1_resultOf : MV yX1_resultOf cX1_resultOf 6 (some .int) 1 := ⟨⟨w_3_127, w_3_128⟩, w_1_7, w_3_129, by decide, by decide, by decide +kernel⟩
theorem mv_X4_include : MV yX4_include cX4_include 3 none 1 := ⟨⟨w_3_131, w_3_132⟩, w_1_9, w_3_133, by decide, by decide, by decide +kernel⟩
theorem mv_X4_placeFor : MV yX4_placeFor cX4_placeFor 6 (some .int) 1 := ⟨⟨w_3_136, w_p1_11⟩, w_1_9, w_3_137, by decide, by decide, by decide +kernel⟩
theorem mv_X10_ends : MV yX10_ends cX10_ends 1 (some .int) 0 := ⟨⟨w_3_142, w_3_143⟩, w_1_1, w_3_144, by decide, by decide, by decide +kernel⟩
theorem mv_X10_result : MV yX10_result cX10_result 2 (some .int) 1 := ⟨⟨w_3_146, w_3_147⟩, w_1_1, w_3_148, by decide, by decide, by decide +kernel⟩
theorem mv_X10_orders : MV yX10_orders cX10_orders 1 (some .int) 0 := ⟨⟨w_3_150, w_3_151⟩, w_1_1, w_3_152, by decide, by decide, by decide +kernel⟩
theorem mv_X7_orderedResults : MV yX7_orderedResults cX7_orderedResults 1 (some (.object "ManyHands$Row")) 0 := ⟨⟨w_3_154, w_3_155⟩, w_1_5, w_3_156, by decide, by decide, by decide +kernel⟩
theorem ms_X7_followOrders : MS yX7_followOrders cX7_followOrders 9 none 4 := ⟨w_3_158, w_1_5, w_3_159, by decide, by decide, by decide +kernel⟩
theorem mv_X1_withCallDone : MV yX1_withCallDone cX1_withCallDone 11 (some .long) 2 := ⟨⟨w_3_162, w_3_163⟩, w_1_7, w_3_164, by decide, by decide, by decide +kernel⟩
theorem mv_X10_inOrder : MV yX10_inOrder cX10_inOrder 3 (some .int) 1 := ⟨⟨w_3_170, w_3_171⟩, w_1_1, w_3_172, by decide, by decide, by decide +kernel⟩
theorem mv_X10_bad : MV yX10_bad cX10_bad 1 (some .int) 0 := ⟨⟨w_3_174, w_3_175⟩, w_1_1, w_3_176, by decide, by decide, by decide +kernel⟩
theorem mv_X7_countBad : MV yX7_countBad cX7_countBad 4 (some .int) 1 := ⟨⟨w_3_178, w_3_179⟩, w_1_5, w_3_180, by decide, by decide, by decide +kernel⟩
theorem mv_X4_holds : MV yX4_holds cX4_holds 3 (some .boolean) 1 := ⟨⟨w_3_182, w_3_183⟩, w_1_9, w_3_184, by decide, by decide, by decide +kernel⟩
theorem mv_X10_worst : MV yX10_worst cX10_worst 2 (some .int) 0 := ⟨⟨w_3_186, w_3_187⟩, w_1_1, w_3_188, by decide, by decide, by decide +kernel⟩
theorem mv_X7_leastBad : MV yX7_leastBad cX7_leastBad 3 (some .int) 1 := ⟨⟨w_3_190, w_3_191⟩, w_1_5, w_3_192, by decide, by decide, by decide +kernel⟩
theorem mv_X10_turn : MV yX10_turn cX10_turn 3 (some .int) 1 := ⟨⟨w_3_194, w_3_195⟩, w_1_1, w_3_196, by decide, by decide, by decide +kernel⟩
theorem mv_X7_walkToWorst : MV yX7_walkToWorst cX7_walkToWorst 2 (some .int) 0 := ⟨⟨w_3_198, w_3_199⟩, w_1_5, w_3_200, by decide, by decide, by decide +kernel⟩
theorem mv_X9_walkTo : MV yX9_walkTo cX9_walkTo 7 (some .int) 2 := ⟨⟨w_3_204, w_3_205⟩, w_1_8, w_3_206, by decide, by decide, by decide +kernel⟩
theorem mv_X9_moveOnPath : MV yX9_moveOnPath cX9_moveOnPath 2 (some .int) 1 := ⟨⟨w_3_208, w_3_209⟩, w_1_8, w_3_210, by decide, by decide, by decide +kernel⟩
theorem mv_X10_stuck : MV yX10_stuck cX10_stuck 1 (some .int) 0 := ⟨⟨w_3_212, w_3_213⟩, w_1_1, w_3_214, by decide, by decide, by decide +kernel⟩
theorem mv_X9_countStuck : MV yX9_countStuck cX9_countStuck 5 (some .int) 0 := ⟨⟨w_3_216, w_3_217⟩, w_1_8, w_3_218, by decide, by decide, by decide +kernel⟩
theorem ms_J7_fill_fda19 : MS yJ7_fill_fda19 cJ7_fill_fda19 5 none 4 := ⟨w_3_220, w_1_19, w_3_221, by decide, by decide, by decide +kernel⟩
theorem ms_J7_rangeCheck_23922 : MS yJ7_rangeCheck_23922 cJ7_rangeCheck_23922 3 none 3 := ⟨w_3_223, w_1_19, w_3_224, by decide, by decide, by decide +kernel⟩
theorem mv_X9_leadsOut : MV yX9_leadsOut cX9_leadsOut 4 (some .boolean) 1 := ⟨⟨w_3_227, w_p1_12⟩, w_1_8, w_3_228, by decide, by decide, by decide +kernel⟩
theorem mv_X10_round : MV yX10_round cX10_round 1 (some .int) 0 := ⟨⟨w_3_230, w_3_231⟩, w_1_1, w_3_232, by decide, by decide, by decide +kernel⟩
theorem mv_X9_hasRound : MV yX9_hasRound cX9_hasRound 3 (some .boolean) 0 := ⟨⟨w_3_234, w_3_235⟩, w_1_8, w_3_236, by decide, by decide, by decide +kernel⟩
theorem mv_X9_takeAway : MV yX9_takeAway cX9_takeAway 6 (some .int) 2 := ⟨⟨w_3_239, w_p1_13⟩, w_1_8, w_4_0, by decide, by decide, by decide +kernel⟩
theorem mv_X10_heal : MV yX10_heal cX10_heal 5 (some .int) 2 := ⟨⟨w_4_2, w_4_3⟩, w_1_1, w_4_4, by decide, by decide, by decide +kernel⟩
theorem mv_X7_healingValues : MV yX7_healingValues cX7_healingValues 7 (some .int) 3 := ⟨⟨w_4_6, w_4_7⟩, w_1_5, w_4_8, by decide, by decide, by decide +kernel⟩
theorem mv_X10_fences : MV yX10_fences cX10_fences 2 (some .int) 0 := ⟨⟨w_4_14, w_4_15⟩, w_1_1, w_4_16, by decide, by decide, by decide +kernel⟩
theorem mv_X7_fewestFences : MV yX7_fewestFences cX7_fewestFences 6 (some .int) 0 := ⟨⟨w_4_18, w_4_19⟩, w_1_5, w_4_20, by decide, by decide, by decide +kernel⟩
theorem mv_X7_findFencePlaces : MV yX7_findFencePlaces cX7_findFencePlaces 4 (some .int) 0 := ⟨⟨w_4_23, w_p1_14⟩, w_1_5, w_4_24, by decide, by decide, by decide +kernel⟩
theorem mv_X5_isDone : MV yX5_isDone cX5_isDone 3 (some .boolean) 1 := ⟨⟨w_4_26, w_4_27⟩, w_1_6, w_4_28, by decide, by decide, by decide +kernel⟩
theorem ms_J6_bitCount_0f7a4 : MS yJ6_bitCount_0f7a4 cJ6_bitCount_0f7a4 1 (some .int) 1 := ⟨w_4_30, w_1_20, w_4_31, by decide, by decide, by decide +kernel⟩
theorem mv_X7_tryFences : MV yX7_tryFences cX7_tryFences 7 (some .int) 3 := ⟨⟨w_4_37, w_p1_15⟩, w_1_5, w_4_38, by decide, by decide, by decide +kernel⟩
theorem mv_X10_cost : MV yX10_cost cX10_cost 3 (some .int) 1 := ⟨⟨w_4_40, w_4_41⟩, w_1_1, w_4_42, by decide, by decide, by decide +kernel⟩
theorem mv_X10_findingOfTurn : MV yX10_findingOfTurn cX10_findingOfTurn 2 (some .int) 1 := ⟨⟨w_4_45, w_p2_0⟩, w_1_1, w_4_46, by decide, by decide, by decide +kernel⟩
theorem ms_X10_isSheet : MS yX10_isSheet cX10_isSheet 1 (some .boolean) 1 := ⟨w_4_48, w_1_1, w_4_49, by decide, by decide, by decide +kernel⟩
theorem mv_X2_through : MV yX2_through cX2_through 7 none 2 := ⟨⟨w_4_52, w_4_53⟩, w_1_11, w_4_54, by decide, by decide, by decide +kernel⟩
theorem ms_J7_fill_53178 : MS yJ7_fill_53178 cJ7_fill_53178 4 none 2 := ⟨w_4_56, w_1_19, w_4_57, by decide, by decide, by decide +kernel⟩
theorem ms_X2_moveFor : MS yX2_moveFor cX2_moveFor 2 (some .int) 1 := ⟨w_4_59, w_1_11, w_4_60, by decide, by decide, by decide +kernel⟩
theorem mv_X1_touched : MV yX1_touched cX1_touched 6 (some .int) 2 := ⟨⟨w_4_67, w_4_68⟩, w_1_7, w_4_69, by decide, by decide, by decide +kernel⟩
theorem mv_X2_priceOf : MV yX2_priceOf cX2_priceOf 5 (some .int) 2 := ⟨⟨w_4_72, w_p2_1⟩, w_1_11, w_4_73, by decide, by decide, by decide +kernel⟩
theorem mv_X10_played : MV yX10_played cX10_played 3 (some .int) 1 := ⟨⟨w_4_75, w_4_76⟩, w_1_1, w_4_77, by decide, by decide, by decide +kernel⟩
theorem mv_X10_judge : MV yX10_judge cX10_judge 3 (some .int) 1 := ⟨⟨w_4_79, w_4_80⟩, w_1_1, w_4_81, by decide, by decide, by decide +kernel⟩
theorem mv_X10_moves : MV yX10_moves cX10_moves 3 (some .int) 1 := ⟨⟨w_4_86, w_4_87⟩, w_1_1, w_4_88, by decide, by decide, by decide +kernel⟩
theorem mv_X1_possible : MV yX1_possible cX1_possible 5 (some .int) 1 := ⟨⟨w_4_90, w_4_91⟩, w_1_7, w_4_92, by decide, by decide, by decide +kernel⟩
theorem mv_X10_after : MV yX10_after cX10_after 7 (some .int) 2 := ⟨⟨w_4_94, w_4_95⟩, w_1_1, w_4_96, by decide, by decide, by decide +kernel⟩
theorem mv_X1_aboutHand : MV yX1_aboutHand cX1_aboutHand 9 (some .int) 3 := ⟨⟨w_4_99, w_4_100⟩, w_1_7, w_4_101, by decide, by decide, by decide +kernel⟩
theorem mv_X10_sheet : MV yX10_sheet cX10_sheet 4 (some .int) 3 := ⟨⟨w_4_103, w_4_104⟩, w_1_1, w_4_105, by decide, by decide, by decide +kernel⟩
theorem mv_X6_begin : MV yX6_begin cX6_begin 3 none 2 := ⟨⟨w_4_107, w_4_108⟩, w_1_12, w_4_109, by decide, by decide, by decide +kernel⟩
theorem ms_J7_fill_d0a16 : MS yJ7_fill_d0a16 cJ7_fill_d0a16 5 none 2 := ⟨w_4_111, w_1_19, w_4_112, by decide, by decide, by decide +kernel⟩
theorem mv_X10_write : MV yX10_write cX10_write 7 (some .long) 3 := ⟨⟨w_4_114, w_4_115⟩, w_1_1, w_4_116, by decide, by decide, by decide +kernel⟩
theorem mv_X6_put : MV yX6_put cX6_put 4 none 2 := ⟨⟨w_4_118, w_4_119⟩, w_1_12, w_4_120, by decide, by decide, by decide +kernel⟩
theorem mv_X10_copy : MV yX10_copy cX10_copy 8 (some .int) 5 := ⟨⟨w_4_122, w_4_123⟩, w_1_1, w_4_124, by decide, by decide, by decide +kernel⟩
theorem mv_X6_hasRange : MV yX6_hasRange cX6_hasRange 3 (some .boolean) 2 := ⟨⟨w_4_126, w_4_127⟩, w_1_12, w_4_128, by decide, by decide, by decide +kernel⟩
theorem mv_X10_lead : MV yX10_lead cX10_lead 4 (some .int) 1 := ⟨⟨w_4_131, w_4_132⟩, w_1_1, w_4_133, by decide, by decide, by decide +kernel⟩
theorem mv_X10_image : MV yX10_image cX10_image 1 (some .int) 0 := ⟨⟨w_4_135, w_4_136⟩, w_1_1, w_4_137, by decide, by decide, by decide +kernel⟩
theorem mv_X5_takeFrom : MV yX5_takeFrom cX5_takeFrom 2 none 1 := ⟨⟨w_4_139, w_4_140⟩, w_1_6, w_4_141, by decide, by decide, by decide +kernel⟩
theorem mv_X10_undo : MV yX10_undo cX10_undo 1 (some .int) 0 := ⟨⟨w_4_144, w_4_145⟩, w_1_1, w_4_146, by decide, by decide, by decide +kernel⟩
theorem mv_X10_tear : MV yX10_tear cX10_tear 2 (some .int) 0 := ⟨⟨w_4_148, w_4_149⟩, w_1_1, w_4_150, by decide, by decide, by decide +kernel⟩
theorem mv_X10_look : MV yX10_look cX10_look 2 (some .int) 1 := ⟨⟨w_4_152, w_4_153⟩, w_1_1, w_4_154, by decide, by decide, by decide +kernel⟩
theorem mv_X10_status : MV yX10_status cX10_status 2 (some .int) 1 := ⟨⟨w_4_156, w_4_157⟩, w_1_1, w_4_158, by decide, by decide, by decide +kernel⟩
theorem ms_X11_packed : MS yX11_packed cX11_packed 7 (some .long) 5 := ⟨w_4_166, w_1_13, w_4_167, by decide, by decide, by decide +kernel⟩
theorem mv_X11_feed : MV yX11_feed cX11_feed 4 (some .int) 2 := ⟨⟨w_5_137, w_5_138⟩, w_1_13, w_5_139, by decide, by decide, by decide +kernel⟩
theorem ms_X11_in : MS yX11_in cX11_in 3 (some .boolean) 3 := ⟨w_5_141, w_1_13, w_5_142, by decide, by decide, by decide +kernel⟩
theorem mv_X11_finds : MV yX11_finds cX11_finds 2 (some .int) 1 := ⟨⟨w_5_146, w_p2_2⟩, w_1_13, w_5_147, by decide, by decide, by decide +kernel⟩
theorem mv_X11_wipe : MV yX11_wipe cX11_wipe 2 (some .int) 0 := ⟨⟨w_5_150, w_5_151⟩, w_1_13, w_5_152, by decide, by decide, by decide +kernel⟩
theorem mv_X11_text : MV yX11_text cX11_text 3 (some .int) 0 := ⟨⟨w_5_154, w_5_155⟩, w_1_13, w_5_156, by decide, by decide, by decide +kernel⟩
theorem mv_X11_next : MV yX11_next cX11_next 5 none 0 := ⟨⟨w_5_159, w_p2_3⟩, w_1_13, w_5_160, by decide, by decide, by decide +kernel⟩
theorem mv_X11_byteAt : MV yX11_byteAt cX11_byteAt 2 (some .int) 1 := ⟨⟨w_5_163, w_p2_4⟩, w_1_13, w_5_164, by decide, by decide, by decide +kernel⟩
theorem mv_X11_isLetter : MV yX11_isLetter cX11_isLetter 2 (some .boolean) 1 := ⟨⟨w_5_167, w_p2_5⟩, w_1_13, w_5_168, by decide, by decide, by decide +kernel⟩
theorem mv_X11_isDigit : MV yX11_isDigit cX11_isDigit 2 (some .boolean) 1 := ⟨⟨w_5_171, w_p2_6⟩, w_1_13, w_5_172, by decide, by decide, by decide +kernel⟩
theorem mv_X11_readStep : MV yX11_readStep cX11_readStep 4 none 1 := ⟨⟨w_5_175, w_p2_7⟩, w_1_13, w_5_176, by decide, by decide, by decide +kernel⟩
theorem mv_X11_wrong : MV yX11_wrong cX11_wrong 1 none 0 := ⟨⟨w_5_179, w_p2_8⟩, w_1_13, w_5_180, by decide, by decide, by decide +kernel⟩
theorem mv_X11_number : MV yX11_number cX11_number 3 (some .int) 1 := ⟨⟨w_5_183, w_p2_9⟩, w_1_13, w_5_184, by decide, by decide, by decide +kernel⟩
theorem mv_X11_steps : MV yX11_steps cX11_steps 2 (some .int) 1 := ⟨⟨w_5_186, w_5_187⟩, w_1_13, w_5_188, by decide, by decide, by decide +kernel⟩
theorem mv_X11_isCall : MV yX11_isCall cX11_isCall 2 (some .boolean) 1 := ⟨⟨w_5_191, w_p2_10⟩, w_1_13, w_5_192, by decide, by decide, by decide +kernel⟩
theorem mv_X11_step : MV yX11_step cX11_step 6 (some .int) 3 := ⟨⟨w_5_194, w_5_195⟩, w_1_13, w_5_196, by decide, by decide, by decide +kernel⟩
theorem mv_X11_isStep : MV yX11_isStep cX11_isStep 3 (some .boolean) 2 := ⟨⟨w_5_199, w_p2_11⟩, w_1_13, w_5_200, by decide, by decide, by decide +kernel⟩
theorem mv_X11_as : MV yX11_as cX11_as 5 (some .int) 3 := ⟨⟨w_5_203, w_5_204⟩, w_1_13, w_5_205, by decide, by decide, by decide +kernel⟩
theorem mv_X11_change : MV yX11_change cX11_change 5 (some .int) 3 := ⟨⟨w_5_207, w_5_208⟩, w_1_13, w_5_209, by decide, by decide, by decide +kernel⟩
theorem mv_X11_hasValue : MV yX11_hasValue cX11_hasValue 2 (some .boolean) 1 := ⟨⟨w_5_212, w_p2_12⟩, w_1_13, w_5_213, by decide, by decide, by decide +kernel⟩
theorem mv_X11_put : MV yX11_put cX11_put 4 (some .int) 2 := ⟨⟨w_5_216, w_p2_13⟩, w_1_13, w_5_217, by decide, by decide, by decide +kernel⟩
theorem mv_X11_cell : MV yX11_cell cX11_cell 4 (some .int) 2 := ⟨⟨w_5_219, w_5_220⟩, w_1_13, w_5_221, by decide, by decide, by decide +kernel⟩
theorem mv_X11_machine : MV yX11_machine cX11_machine 3 (some .int) 1 := ⟨⟨w_5_223, w_5_224⟩, w_1_13, w_5_225, by decide, by decide, by decide +kernel⟩
theorem mv_X11_hand : MV yX11_hand cX11_hand 3 (some .int) 2 := ⟨⟨w_5_227, w_5_228⟩, w_1_13, w_5_229, by decide, by decide, by decide +kernel⟩
theorem mv_X11_clear : MV yX11_clear cX11_clear 2 (some .int) 0 := ⟨⟨w_5_231, w_5_232⟩, w_1_13, w_5_233, by decide, by decide, by decide +kernel⟩
theorem mv_X11_states : MV yX11_states cX11_states 1 (some .int) 0 := ⟨⟨w_5_235, w_5_236⟩, w_1_13, w_5_237, by decide, by decide, by decide +kernel⟩
theorem mv_X11_lookAll : MV yX11_lookAll cX11_lookAll 1 none 0 := ⟨⟨w_6_0, w_p2_14⟩, w_1_13, w_6_1, by decide, by decide, by decide +kernel⟩
theorem mv_X11_goesThrough : MV yX11_goesThrough cX11_goesThrough 5 (some .boolean) 1 := ⟨⟨w_6_4, w_p2_15⟩, w_1_13, w_6_5, by decide, by decide, by decide +kernel⟩
theorem mv_X11_lay : MV yX11_lay cX11_lay 5 none 1 := ⟨⟨w_6_8, w_p3_0⟩, w_1_13, w_6_9, by decide, by decide, by decide +kernel⟩
theorem mv_X11_lays : MV yX11_lays cX11_lays 3 none 2 := ⟨⟨w_6_12, w_p3_1⟩, w_1_13, w_6_13, by decide, by decide, by decide +kernel⟩
theorem mv_X11_isFenced : MV yX11_isFenced cX11_isFenced 5 (some .boolean) 2 := ⟨⟨w_6_16, w_p3_2⟩, w_1_13, w_6_17, by decide, by decide, by decide +kernel⟩
theorem mv_X11_begins : MV yX11_begins cX11_begins 2 none 0 := ⟨⟨w_6_20, w_p3_3⟩, w_1_13, w_6_21, by decide, by decide, by decide +kernel⟩
theorem mv_X11_pack : MV yX11_pack cX11_pack 4 (some .long) 0 := ⟨⟨w_6_24, w_p3_4⟩, w_1_13, w_6_25, by decide, by decide, by decide +kernel⟩
theorem mv_X11_waitCode : MV yX11_waitCode cX11_waitCode 4 (some .int) 1 := ⟨⟨w_6_32, w_p3_5⟩, w_1_13, w_6_33, by decide, by decide, by decide +kernel⟩
theorem mv_X11_placeOf : MV yX11_placeOf cX11_placeOf 5 (some .int) 2 := ⟨⟨w_6_36, w_p3_6⟩, w_1_13, w_6_37, by decide, by decide, by decide +kernel⟩
theorem mv_X11_unpack : MV yX11_unpack cX11_unpack 11 none 1 := ⟨⟨w_6_41, w_p3_7⟩, w_1_13, w_6_42, by decide, by decide, by decide +kernel⟩
theorem mv_X11_isEnd : MV yX11_isEnd cX11_isEnd 3 (some .boolean) 0 := ⟨⟨w_6_45, w_p3_8⟩, w_1_13, w_6_46, by decide, by decide, by decide +kernel⟩
theorem mv_X11_resultNow : MV yX11_resultNow cX11_resultNow 3 (some .int) 0 := ⟨⟨w_6_49, w_p3_9⟩, w_1_13, w_6_50, by decide, by decide, by decide +kernel⟩
theorem ms_X11_moveOf : MS yX11_moveOf cX11_moveOf 1 (some .int) 1 := ⟨w_6_52, w_1_13, w_6_53, by decide, by decide, by decide +kernel⟩
theorem mv_X11_can : MV yX11_can cX11_can 4 (some .boolean) 2 := ⟨⟨w_6_56, w_p3_10⟩, w_1_13, w_6_57, by decide, by decide, by decide +kernel⟩
theorem mv_X11_stepNow : MV yX11_stepNow cX11_stepNow 2 (some .int) 1 := ⟨⟨w_6_60, w_p3_11⟩, w_1_13, w_6_61, by decide, by decide, by decide +kernel⟩
theorem mv_X11_does : MV yX11_does cX11_does 4 none 2 := ⟨⟨w_6_64, w_p3_12⟩, w_1_13, w_6_65, by decide, by decide, by decide +kernel⟩
theorem mv_X11_stepsOn : MV yX11_stepsOn cX11_stepsOn 7 none 2 := ⟨⟨w_6_68, w_p3_13⟩, w_1_13, w_6_69, by decide, by decide, by decide +kernel⟩
theorem mv_X11_waiting : MV yX11_waiting cX11_waiting 5 (some .int) 2 := ⟨⟨w_6_72, w_p3_14⟩, w_1_13, w_6_73, by decide, by decide, by decide +kernel⟩
theorem mv_X11_writesTo : MV yX11_writesTo cX11_writesTo 5 none 4 := ⟨⟨w_6_76, w_p3_15⟩, w_1_13, w_6_77, by decide, by decide, by decide +kernel⟩
theorem mv_X11_goesOn : MV yX11_goesOn cX11_goesOn 3 none 2 := ⟨⟨w_6_80, w_p4_0⟩, w_1_13, w_6_81, by decide, by decide, by decide +kernel⟩
theorem mv_X11_findResults : MV yX11_findResults cX11_findResults 2 none 0 := ⟨⟨w_6_84, w_p4_1⟩, w_1_13, w_6_85, by decide, by decide, by decide +kernel⟩
theorem ms_X11_comes : MS yX11_comes cX11_comes 5 (some .int) 3 := ⟨w_6_87, w_1_13, w_6_88, by decide, by decide, by decide +kernel⟩
theorem mv_X11_findGoods : MV yX11_findGoods cX11_findGoods 1 none 0 := ⟨⟨w_6_91, w_p4_2⟩, w_1_13, w_6_92, by decide, by decide, by decide +kernel⟩
theorem mv_X11_ordersFrom : MV yX11_ordersFrom cX11_ordersFrom 4 none 1 := ⟨⟨w_6_95, w_p4_3⟩, w_1_13, w_6_96, by decide, by decide, by decide +kernel⟩
theorem mv_X11_wholeCall : MV yX11_wholeCall cX11_wholeCall 4 (some .boolean) 1 := ⟨⟨w_6_99, w_p4_4⟩, w_1_13, w_6_100, by decide, by decide, by decide +kernel⟩
theorem mv_X11_ends : MV yX11_ends cX11_ends 1 (some .int) 0 := ⟨⟨w_6_103, w_6_104⟩, w_1_13, w_6_105, by decide, by decide, by decide +kernel⟩
theorem mv_X11_result : MV yX11_result cX11_result 2 (some .int) 1 := ⟨⟨w_6_107, w_6_108⟩, w_1_13, w_6_109, by decide, by decide, by decide +kernel⟩
theorem mv_X11_orders : MV yX11_orders cX11_orders 1 (some .int) 0 := ⟨⟨w_6_112, w_6_113⟩, w_1_13, w_6_114, by decide, by decide, by decide +kernel⟩
theorem mv_X11_inOrder : MV yX11_inOrder cX11_inOrder 2 (some .int) 1 := ⟨⟨w_6_116, w_6_117⟩, w_1_13, w_6_118, by decide, by decide, by decide +kernel⟩
theorem mv_X11_bad : MV yX11_bad cX11_bad 1 (some .int) 0 := ⟨⟨w_6_120, w_6_121⟩, w_1_13, w_6_122, by decide, by decide, by decide +kernel⟩
theorem mv_X11_badMany : MV yX11_badMany cX11_badMany 3 (some .int) 0 := ⟨⟨w_6_125, w_p4_5⟩, w_1_13, w_6_126, by decide, by decide, by decide +kernel⟩
theorem mv_X11_isGood : MV yX11_isGood cX11_isGood 4 (some .boolean) 1 := ⟨⟨w_6_129, w_p4_6⟩, w_1_13, w_6_130, by decide, by decide, by decide +kernel⟩
theorem mv_X11_worst : MV yX11_worst cX11_worst 2 (some .int) 0 := ⟨⟨w_6_132, w_6_133⟩, w_1_13, w_6_134, by decide, by decide, by decide +kernel⟩
theorem mv_X11_leastBad : MV yX11_leastBad cX11_leastBad 2 (some .int) 0 := ⟨⟨w_6_137, w_p4_7⟩, w_1_13, w_6_138, by decide, by decide, by decide +kernel⟩
theorem mv_X11_turn : MV yX11_turn cX11_turn 3 (some .int) 1 := ⟨⟨w_6_140, w_6_141⟩, w_1_13, w_6_142, by decide, by decide, by decide +kernel⟩
theorem mv_X11_leads : MV yX11_leads cX11_leads 2 (some .int) 0 := ⟨⟨w_6_145, w_p4_8⟩, w_1_13, w_6_146, by decide, by decide, by decide +kernel⟩
theorem mv_X11_findWay : MV yX11_findWay cX11_findWay 5 none 1 := ⟨⟨w_6_149, w_p4_9⟩, w_1_13, w_6_150, by decide, by decide, by decide +kernel⟩
theorem mv_X11_stuck : MV yX11_stuck cX11_stuck 5 (some .int) 0 := ⟨⟨w_6_152, w_6_153⟩, w_1_13, w_6_154, by decide, by decide, by decide +kernel⟩
theorem mv_X11_round : MV yX11_round cX11_round 5 (some .int) 0 := ⟨⟨w_6_156, w_6_157⟩, w_1_13, w_6_158, by decide, by decide, by decide +kernel⟩
theorem mv_X11_heal : MV yX11_heal cX11_heal 10 (some .int) 2 := ⟨⟨w_6_160, w_6_161⟩, w_1_13, w_6_162, by decide, by decide, by decide +kernel⟩
theorem mv_X11_badWith : MV yX11_badWith cX11_badWith 2 (some .int) 1 := ⟨⟨w_6_165, w_p4_10⟩, w_1_13, w_6_166, by decide, by decide, by decide +kernel⟩
theorem mv_X11_fences : MV yX11_fences cX11_fences 4 (some .int) 0 := ⟨⟨w_6_168, w_6_169⟩, w_1_13, w_6_170, by decide, by decide, by decide +kernel⟩
theorem mv_X11_findWrites : MV yX11_findWrites cX11_findWrites 3 none 0 := ⟨⟨w_6_173, w_p4_11⟩, w_1_13, w_6_174, by decide, by decide, by decide +kernel⟩
theorem mv_X11_isDone : MV yX11_isDone cX11_isDone 4 (some .boolean) 1 := ⟨⟨w_6_177, w_p4_12⟩, w_1_13, w_6_178, by decide, by decide, by decide +kernel⟩
theorem ms_X11_ones : MS yX11_ones cX11_ones 3 (some .int) 1 := ⟨w_6_180, w_1_13, w_6_181, by decide, by decide, by decide +kernel⟩
theorem mv_X11_cost : MV yX11_cost cX11_cost 3 (some .int) 1 := ⟨⟨w_6_183, w_6_184⟩, w_1_13, w_6_185, by decide, by decide, by decide +kernel⟩
theorem mv_X11_playedWhole : MV yX11_playedWhole cX11_playedWhole 2 (some .int) 1 := ⟨⟨w_6_188, w_p4_13⟩, w_1_13, w_6_189, by decide, by decide, by decide +kernel⟩
theorem ms_X11_isSheet : MS yX11_isSheet cX11_isSheet 1 (some .boolean) 1 := ⟨w_6_191, w_1_13, w_6_192, by decide, by decide, by decide +kernel⟩
theorem mv_X11_plays : MV yX11_plays cX11_plays 6 (some .int) 1 := ⟨⟨w_6_196, w_p4_14⟩, w_1_13, w_6_197, by decide, by decide, by decide +kernel⟩
theorem mv_X11_played : MV yX11_played cX11_played 2 (some .int) 1 := ⟨⟨w_6_201, w_6_202⟩, w_1_13, w_6_203, by decide, by decide, by decide +kernel⟩
theorem mv_X11_judge : MV yX11_judge cX11_judge 4 (some .int) 1 := ⟨⟨w_6_205, w_6_206⟩, w_1_13, w_6_207, by decide, by decide, by decide +kernel⟩
theorem mv_X11_moves : MV yX11_moves cX11_moves 5 (some .int) 1 := ⟨⟨w_6_209, w_6_210⟩, w_1_13, w_6_211, by decide, by decide, by decide +kernel⟩
theorem mv_X11_after : MV yX11_after cX11_after 6 (some .int) 2 := ⟨⟨w_6_213, w_6_214⟩, w_1_13, w_6_215, by decide, by decide, by decide +kernel⟩
theorem mv_X11_sheet : MV yX11_sheet cX11_sheet 4 (some .int) 3 := ⟨⟨w_6_217, w_6_218⟩, w_1_13, w_6_219, by decide, by decide, by decide +kernel⟩
theorem mv_X11_layRow : MV yX11_layRow cX11_layRow 5 none 3 := ⟨⟨w_6_222, w_p4_15⟩, w_1_13, w_6_223, by decide, by decide, by decide +kernel⟩
theorem mv_X11_write : MV yX11_write cX11_write 7 (some .long) 3 := ⟨⟨w_6_225, w_6_226⟩, w_1_13, w_6_227, by decide, by decide, by decide +kernel⟩
theorem mv_X11_copy : MV yX11_copy cX11_copy 7 (some .int) 5 := ⟨⟨w_6_229, w_6_230⟩, w_1_13, w_6_231, by decide, by decide, by decide +kernel⟩
theorem mv_X11_lead : MV yX11_lead cX11_lead 4 (some .int) 1 := ⟨⟨w_6_233, w_6_234⟩, w_1_13, w_6_235, by decide, by decide, by decide +kernel⟩
theorem mv_X11_image : MV yX11_image cX11_image 1 (some .int) 0 := ⟨⟨w_6_237, w_6_238⟩, w_1_13, w_6_239, by decide, by decide, by decide +kernel⟩
theorem mv_X11_passAll : MV yX11_passAll cX11_passAll 4 none 1 := ⟨⟨w_7_2, w_p5_0⟩, w_1_13, w_7_3, by decide, by decide, by decide +kernel⟩
theorem mv_X11_passes : MV yX11_passes cX11_passes 4 (some .int) 3 := ⟨⟨w_7_6, w_p5_1⟩, w_1_13, w_7_7, by decide, by decide, by decide +kernel⟩
theorem mv_X11_undo : MV yX11_undo cX11_undo 1 (some .int) 0 := ⟨⟨w_7_9, w_7_10⟩, w_1_13, w_7_11, by decide, by decide, by decide +kernel⟩
theorem mv_X11_tear : MV yX11_tear cX11_tear 2 (some .int) 0 := ⟨⟨w_7_13, w_7_14⟩, w_1_13, w_7_15, by decide, by decide, by decide +kernel⟩
theorem mv_X11_look : MV yX11_look cX11_look 2 (some .int) 1 := ⟨⟨w_7_17, w_7_18⟩, w_1_13, w_7_19, by decide, by decide, by decide +kernel⟩
theorem mv_X11_status : MV yX11_status cX11_status 4 (some .int) 1 := ⟨⟨w_7_21, w_7_22⟩, w_1_13, w_7_23, by decide, by decide, by decide +kernel⟩
def alen (k : Nat) : Nat := match lay[k]? with
  | some (.inl (_, n)) => n
  | _ => 0
def isRow (k : Nat) : Prop := k = 26 ∨ k = 28
theorem isRow_l {k : Nat} (h : isRow k) : lay[k]? = some (.inr (4, [some (some (k + 1)), none])) := by
  rcases h with rfl | rfl <;> rfl
theorem isRow_a1 {k : Nat} (h : isRow k) : lay[k + 1]? = some (.inl (0, alen (k + 1))) := by
  rcases h with rfl | rfl <;> rfl
def isSh (k : Nat) : Prop := k = 40 ∨ k = 42 ∨ k = 44 ∨ k = 46
theorem isSh_l {k : Nat} (h : isSh k) : lay[k]? = some (.inr (6, [none, none, some (some (k + 1))])) := by
  rcases h with rfl | rfl | rfl | rfl <;> rfl
theorem isSh_a1 {k : Nat} (h : isSh k) : lay[k + 1]? = some (.inl (2, 40)) := by
  rcases h with rfl | rfl | rfl | rfl <;> rfl
def isSe (k : Nat) : Prop := k = 7 ∨ k = 31
theorem isSe_l {k : Nat} (h : isSe k) : lay[k]? = some (.inr (5, [none, some (some (k + 1)), some (some (k + 2)), none, some (some (k + 3)), some (some (k + 4)), some (some (k + 5)), none])) := by
  rcases h with rfl | rfl <;> rfl
theorem isSe_a1 {k : Nat} (h : isSe k) : lay[k + 1]? = some (.inl (0, 6)) := by
  rcases h with rfl | rfl <;> rfl
theorem isSe_a2 {k : Nat} (h : isSe k) : lay[k + 2]? = some (.inl (0, 210)) := by
  rcases h with rfl | rfl <;> rfl
theorem isSe_a3 {k : Nat} (h : isSe k) : lay[k + 3]? = some (.inl (0, 3)) := by
  rcases h with rfl | rfl <;> rfl
theorem isSe_a4 {k : Nat} (h : isSe k) : lay[k + 4]? = some (.inl (0, 3)) := by
  rcases h with rfl | rfl <;> rfl
theorem isSe_a5 {k : Nat} (h : isSe k) : lay[k + 5]? = some (.inl (0, 3)) := by
  rcases h with rfl | rfl <;> rfl
def shI (i : Int32) : Nat := 39 + 1 + 2 * ix i
theorem isSh_of {i : Int32} (h : vp_in i 4) : isSh (shI i) := by
  have h1 : i.toNatClampNeg < 4 := Nat.not_le.mp fun q => h (Or.inr q)
  show _ = 40 ∨ _ = 42 ∨ _ = 44 ∨ _ = 46
  unfold shI ix
  omega
def isIA (k : Nat) : Prop := k = 88 ∨ k = 89
theorem isIA_88 : isIA 88 := Or.inl rfl
theorem isIA_89 : isIA 89 := Or.inr rfl
theorem isRow_26 : isRow 26 := Or.inl rfl
theorem isRow_28 : isRow 28 := Or.inr rfl
theorem isSe_7 : isSe 7 := Or.inl rfl
theorem isSe_31 : isSe 31 := Or.inr rfl
theorem isIA_l {k : Nat} (h : isIA k) : lay[k]? = some (.inl (0, alen k)) := by
  rcases h with rfl | rfl <;> rfl
theorem k_aald4 {ρ : Type} {E : En} {G : Cx} {cc : ByteArray} {nL : Nat} {own : String} {Z : ρ → Mm → State → Prop} {o : Option (ρ × Mm)} {pc : Nat} {lv : List (Nat × Value)} {st : List Value} {σ : Mm} (F : Fx E G cc nL own) {i : Int32} (d : decode cc pc = .ok (.aaload, 1)) (kk : isSh (shI i) → KR E G nL Z o (pc + 1) lv (.ref (ad E (shI i)) :: st) σ) : KR E G nL Z (ck i 4 o) pc lv (.int i :: .ref (ad E 39) :: st) σ := fun H locs ls r σ2 ho hP hD hS hl => k_aald F (k := 39) rfl d (kk (isSh_of (ck_some ho).1)) H locs ls r σ2 ho hP hD hS hl
section FROWS
variable {ρ : Type} {E : En} {G : Cx} {cc : ByteArray} {nL index : Nat} {own : String} {Z : ρ → Mm → State → Prop} {o : Option (ρ × Mm)} {pc : Nat} {lv : List (Nat × Value)} {st : List Value} {σ : Mm}
theorem gf_0_0 (F : Fx E G cc nL own) (hlink : Cond.fieldLink own index "ManyHands" "findings" "LManyHands$Findings;" ∈ W0) (d : decode cc pc = .ok (.getfield index, 3)) (kk : KR E G nL Z o (pc + 3) lv (.ref (ad E (1)) :: st) σ) : KR E G nL Z o pc lv (.ref (ad E 0) :: st) σ := k_getR (k := 0) (j := 0) (ci := 10) (C := RX10) (T := TX10) (N := 9) F (hf := rfl) (hL := rfl) rfl in_X10 (by decide) hlink d kk
theorem gf_0_1 (F : Fx E G cc nL own) (hlink : Cond.fieldLink own index "ManyHands" "reader" "LManyHands$Reader;" ∈ W0) (d : decode cc pc = .ok (.getfield index, 3)) (kk : KR E G nL Z o (pc + 3) lv (.ref (ad E (3)) :: st) σ) : KR E G nL Z o pc lv (.ref (ad E 0) :: st) σ := k_getR (k := 0) (j := 1) (ci := 10) (C := RX10) (T := TX10) (N := 9) F (hf := rfl) (hL := rfl) rfl in_X10 (by decide) hlink d kk
theorem gf_0_2 (F : Fx E G cc nL own) (hlink : Cond.fieldLink own index "ManyHands" "tape" "LManyHands$Tape;" ∈ W0) (d : decode cc pc = .ok (.getfield index, 3)) (kk : KR E G nL Z o (pc + 3) lv (.ref (ad E (4)) :: st) σ) : KR E G nL Z o pc lv (.ref (ad E 0) :: st) σ := k_getR (k := 0) (j := 2) (ci := 10) (C := RX10) (T := TX10) (N := 9) F (hf := rfl) (hL := rfl) rfl in_X10 (by decide) hlink d kk
theorem gf_0_3 (F : Fx E G cc nL own) (hlink : Cond.fieldLink own index "ManyHands" "study" "LManyHands$Study;" ∈ W0) (d : decode cc pc = .ok (.getfield index, 3)) (kk : KR E G nL Z o (pc + 3) lv (.ref (ad E (6)) :: st) σ) : KR E G nL Z o pc lv (.ref (ad E 0) :: st) σ := k_getR (k := 0) (j := 3) (ci := 10) (C := RX10) (T := TX10) (N := 9) F (hf := rfl) (hL := rfl) rfl in_X10 (by decide) hlink d kk
theorem gf_0_4 (F : Fx E G cc nL own) (hlink : Cond.fieldLink own index "ManyHands" "now" "LManyHands$Setup;" ∈ W0) (d : decode cc pc = .ok (.getfield index, 3)) (kk : KR E G nL Z o (pc + 3) lv (.ref (ad E (7)) :: st) σ) : KR E G nL Z o pc lv (.ref (ad E 0) :: st) σ := k_getR (k := 0) (j := 4) (ci := 10) (C := RX10) (T := TX10) (N := 9) F (hf := rfl) (hL := rfl) rfl in_X10 (by decide) hlink d kk
theorem gf_0_5 (F : Fx E G cc nL own) (hlink : Cond.fieldLink own index "ManyHands" "kept" "LManyHands$Setup;" ∈ W0) (d : decode cc pc = .ok (.getfield index, 3)) (kk : KR E G nL Z o (pc + 3) lv (.ref (ad E (31)) :: st) σ) : KR E G nL Z o pc lv (.ref (ad E 0) :: st) σ := k_getR (k := 0) (j := 5) (ci := 10) (C := RX10) (T := TX10) (N := 9) F (hf := rfl) (hL := rfl) rfl in_X10 (by decide) hlink d kk
theorem gf_0_6 (F : Fx E G cc nL own) (hlink : Cond.fieldLink own index "ManyHands" "isKept" "Z" ∈ W0) (d : decode cc pc = .ok (.getfield index, 3)) (kk : KR E G nL Z o (pc + 3) lv (.int (σ.1 0 6) :: st) σ) : KR E G nL Z o pc lv (.ref (ad E 0) :: st) σ := k_getI (k := 0) (j := 6) (ci := 10) (C := RX10) (T := TX10) (N := 9) F (hf := rfl) (hL := rfl) rfl in_X10 (by decide) hlink d kk
theorem pf_0_6 (F : Fx E G cc nL own) {x : Int32} {f : Mm → Option (ρ × Mm)} (hlink : Cond.fieldLink own index "ManyHands" "isKept" "Z" ∈ W0) (d : decode cc pc = .ok (.putfield index, 3)) (kk : ∀ σ3 : Mm, KR E G nL Z (f σ3) (pc + 3) lv st σ3) : KR E G nL Z (cb x (nm (sI σ 0 6 x) f)) pc lv (.int x :: .ref (ad E 0) :: st) σ := k_putZ (k := 0) (j := 6) (ci := 10) (C := RX10) (T := TX10) (N := 9) F (hf := rfl) (hj2 := Nat.le_of_ble_eq_true rfl) (ty0 := tyX10) (hty := tyX10_ok) (hnm := nmX10) (hfin := rfl) (hd := by decide +kernel) (hL := rfl) rfl in_X10 (by decide) hlink d kk
theorem gf_0_7 (F : Fx E G cc nL own) (hlink : Cond.fieldLink own index "ManyHands" "play" "LManyHands$Play;" ∈ W0) (d : decode cc pc = .ok (.getfield index, 3)) (kk : KR E G nL Z o (pc + 3) lv (.ref (ad E (37)) :: st) σ) : KR E G nL Z o pc lv (.ref (ad E 0) :: st) σ := k_getR (k := 0) (j := 7) (ci := 10) (C := RX10) (T := TX10) (N := 9) F (hf := rfl) (hL := rfl) rfl in_X10 (by decide) hlink d kk
theorem gf_0_8 (F : Fx E G cc nL own) (hlink : Cond.fieldLink own index "ManyHands" "sheets" "[LManyHands$Sheet;" ∈ W0) (d : decode cc pc = .ok (.getfield index, 3)) (kk : KR E G nL Z o (pc + 3) lv (.ref (ad E (39)) :: st) σ) : KR E G nL Z o pc lv (.ref (ad E 0) :: st) σ := k_getR (k := 0) (j := 8) (ci := 10) (C := RX10) (T := TX10) (N := 9) F (hf := rfl) (hL := rfl) rfl in_X10 (by decide) hlink d kk
theorem gf_1_0 (F : Fx E G cc nL own) (hlink : Cond.fieldLink own index "ManyHands$Findings" "counts" "[I" ∈ W0) (d : decode cc pc = .ok (.getfield index, 3)) (kk : KR E G nL Z o (pc + 3) lv (.ref (ad E (2)) :: st) σ) : KR E G nL Z o pc lv (.ref (ad E 1) :: st) σ := k_getR (k := 1) (j := 0) (ci := 0) (C := RX0) (T := TX0) (N := 2) F (hf := rfl) (hL := rfl) rfl in_X0 (by decide) hlink d kk
theorem gf_1_1 (F : Fx E G cc nL own) (hlink : Cond.fieldLink own index "ManyHands$Findings" "total" "I" ∈ W0) (d : decode cc pc = .ok (.getfield index, 3)) (kk : KR E G nL Z o (pc + 3) lv (.int (σ.1 1 1) :: st) σ) : KR E G nL Z o pc lv (.ref (ad E 1) :: st) σ := k_getI (k := 1) (j := 1) (ci := 0) (C := RX0) (T := TX0) (N := 2) F (hf := rfl) (hL := rfl) rfl in_X0 (by decide) hlink d kk
theorem pf_1_1 (F : Fx E G cc nL own) {x : Int32} {f : Mm → Option (ρ × Mm)} (hlink : Cond.fieldLink own index "ManyHands$Findings" "total" "I" ∈ W0) (d : decode cc pc = .ok (.putfield index, 3)) (kk : ∀ σ3 : Mm, KR E G nL Z (f σ3) (pc + 3) lv st σ3) : KR E G nL Z (nm (sI σ 1 1 x) f) pc lv (.int x :: .ref (ad E 1) :: st) σ := k_putI (k := 1) (j := 1) (ci := 0) (C := RX0) (T := TX0) (N := 2) F (hf := rfl) (hj2 := Nat.le_of_ble_eq_true rfl) (ty0 := tyX0) (hty := tyX0_ok) (hnm := nmX0) (hfin := rfl) (hd := by decide +kernel) (hL := rfl) rfl in_X0 (by decide) hlink d kk
theorem gf_3_0 (F : Fx E G cc nL own) (hlink : Cond.fieldLink own index "ManyHands$Reader" "tape" "LManyHands$Tape;" ∈ W0) (d : decode cc pc = .ok (.getfield index, 3)) (kk : KR E G nL Z o (pc + 3) lv (.ref (ad E (4)) :: st) σ) : KR E G nL Z o pc lv (.ref (ad E 3) :: st) σ := k_getR (k := 3) (j := 0) (ci := 3) (C := RX3) (T := TX3) (N := 5) F (hf := rfl) (hL := rfl) rfl in_X3 (by decide) hlink d kk
theorem gf_3_1 (F : Fx E G cc nL own) (hlink : Cond.fieldLink own index "ManyHands$Reader" "at" "I" ∈ W0) (d : decode cc pc = .ok (.getfield index, 3)) (kk : KR E G nL Z o (pc + 3) lv (.int (σ.1 3 1) :: st) σ) : KR E G nL Z o pc lv (.ref (ad E 3) :: st) σ := k_getI (k := 3) (j := 1) (ci := 3) (C := RX3) (T := TX3) (N := 5) F (hf := rfl) (hL := rfl) rfl in_X3 (by decide) hlink d kk
theorem pf_3_1 (F : Fx E G cc nL own) {x : Int32} {f : Mm → Option (ρ × Mm)} (hlink : Cond.fieldLink own index "ManyHands$Reader" "at" "I" ∈ W0) (d : decode cc pc = .ok (.putfield index, 3)) (kk : ∀ σ3 : Mm, KR E G nL Z (f σ3) (pc + 3) lv st σ3) : KR E G nL Z (nm (sI σ 3 1 x) f) pc lv (.int x :: .ref (ad E 3) :: st) σ := k_putI (k := 3) (j := 1) (ci := 3) (C := RX3) (T := TX3) (N := 5) F (hf := rfl) (hj2 := Nat.le_of_ble_eq_true rfl) (ty0 := tyX3) (hty := tyX3_ok) (hnm := nmX3) (hfin := rfl) (hd := by decide +kernel) (hL := rfl) rfl in_X3 (by decide) hlink d kk
theorem gf_3_2 (F : Fx E G cc nL own) (hlink : Cond.fieldLink own index "ManyHands$Reader" "start" "I" ∈ W0) (d : decode cc pc = .ok (.getfield index, 3)) (kk : KR E G nL Z o (pc + 3) lv (.int (σ.1 3 2) :: st) σ) : KR E G nL Z o pc lv (.ref (ad E 3) :: st) σ := k_getI (k := 3) (j := 2) (ci := 3) (C := RX3) (T := TX3) (N := 5) F (hf := rfl) (hL := rfl) rfl in_X3 (by decide) hlink d kk
theorem pf_3_2 (F : Fx E G cc nL own) {x : Int32} {f : Mm → Option (ρ × Mm)} (hlink : Cond.fieldLink own index "ManyHands$Reader" "start" "I" ∈ W0) (d : decode cc pc = .ok (.putfield index, 3)) (kk : ∀ σ3 : Mm, KR E G nL Z (f σ3) (pc + 3) lv st σ3) : KR E G nL Z (nm (sI σ 3 2 x) f) pc lv (.int x :: .ref (ad E 3) :: st) σ := k_putI (k := 3) (j := 2) (ci := 3) (C := RX3) (T := TX3) (N := 5) F (hf := rfl) (hj2 := Nat.le_of_ble_eq_true rfl) (ty0 := tyX3) (hty := tyX3_ok) (hnm := nmX3) (hfin := rfl) (hd := by decide +kernel) (hL := rfl) rfl in_X3 (by decide) hlink d kk
theorem gf_3_3 (F : Fx E G cc nL own) (hlink : Cond.fieldLink own index "ManyHands$Reader" "token" "I" ∈ W0) (d : decode cc pc = .ok (.getfield index, 3)) (kk : KR E G nL Z o (pc + 3) lv (.int (σ.1 3 3) :: st) σ) : KR E G nL Z o pc lv (.ref (ad E 3) :: st) σ := k_getI (k := 3) (j := 3) (ci := 3) (C := RX3) (T := TX3) (N := 5) F (hf := rfl) (hL := rfl) rfl in_X3 (by decide) hlink d kk
theorem pf_3_3 (F : Fx E G cc nL own) {x : Int32} {f : Mm → Option (ρ × Mm)} (hlink : Cond.fieldLink own index "ManyHands$Reader" "token" "I" ∈ W0) (d : decode cc pc = .ok (.putfield index, 3)) (kk : ∀ σ3 : Mm, KR E G nL Z (f σ3) (pc + 3) lv st σ3) : KR E G nL Z (nm (sI σ 3 3 x) f) pc lv (.int x :: .ref (ad E 3) :: st) σ := k_putI (k := 3) (j := 3) (ci := 3) (C := RX3) (T := TX3) (N := 5) F (hf := rfl) (hj2 := Nat.le_of_ble_eq_true rfl) (ty0 := tyX3) (hty := tyX3_ok) (hnm := nmX3) (hfin := rfl) (hd := by decide +kernel) (hL := rfl) rfl in_X3 (by decide) hlink d kk
theorem gf_3_4 (F : Fx E G cc nL own) (hlink : Cond.fieldLink own index "ManyHands$Reader" "number" "I" ∈ W0) (d : decode cc pc = .ok (.getfield index, 3)) (kk : KR E G nL Z o (pc + 3) lv (.int (σ.1 3 4) :: st) σ) : KR E G nL Z o pc lv (.ref (ad E 3) :: st) σ := k_getI (k := 3) (j := 4) (ci := 3) (C := RX3) (T := TX3) (N := 5) F (hf := rfl) (hL := rfl) rfl in_X3 (by decide) hlink d kk
theorem pf_3_4 (F : Fx E G cc nL own) {x : Int32} {f : Mm → Option (ρ × Mm)} (hlink : Cond.fieldLink own index "ManyHands$Reader" "number" "I" ∈ W0) (d : decode cc pc = .ok (.putfield index, 3)) (kk : ∀ σ3 : Mm, KR E G nL Z (f σ3) (pc + 3) lv st σ3) : KR E G nL Z (nm (sI σ 3 4 x) f) pc lv (.int x :: .ref (ad E 3) :: st) σ := k_putI (k := 3) (j := 4) (ci := 3) (C := RX3) (T := TX3) (N := 5) F (hf := rfl) (hj2 := Nat.le_of_ble_eq_true rfl) (ty0 := tyX3) (hty := tyX3_ok) (hnm := nmX3) (hfin := rfl) (hd := by decide +kernel) (hL := rfl) rfl in_X3 (by decide) hlink d kk
theorem gf_4_0 (F : Fx E G cc nL own) (hlink : Cond.fieldLink own index "ManyHands$Tape" "bytes" "[I" ∈ W0) (d : decode cc pc = .ok (.getfield index, 3)) (kk : KR E G nL Z o (pc + 3) lv (.ref (ad E (5)) :: st) σ) : KR E G nL Z o pc lv (.ref (ad E 4) :: st) σ := k_getR (k := 4) (j := 0) (ci := 8) (C := RX8) (T := TX8) (N := 2) F (hf := rfl) (hL := rfl) rfl in_X8 (by decide) hlink d kk
theorem gf_4_1 (F : Fx E G cc nL own) (hlink : Cond.fieldLink own index "ManyHands$Tape" "size" "I" ∈ W0) (d : decode cc pc = .ok (.getfield index, 3)) (kk : KR E G nL Z o (pc + 3) lv (.int (σ.1 4 1) :: st) σ) : KR E G nL Z o pc lv (.ref (ad E 4) :: st) σ := k_getI (k := 4) (j := 1) (ci := 8) (C := RX8) (T := TX8) (N := 2) F (hf := rfl) (hL := rfl) rfl in_X8 (by decide) hlink d kk
theorem pf_4_1 (F : Fx E G cc nL own) {x : Int32} {f : Mm → Option (ρ × Mm)} (hlink : Cond.fieldLink own index "ManyHands$Tape" "size" "I" ∈ W0) (d : decode cc pc = .ok (.putfield index, 3)) (kk : ∀ σ3 : Mm, KR E G nL Z (f σ3) (pc + 3) lv st σ3) : KR E G nL Z (nm (sI σ 4 1 x) f) pc lv (.int x :: .ref (ad E 4) :: st) σ := k_putI (k := 4) (j := 1) (ci := 8) (C := RX8) (T := TX8) (N := 2) F (hf := rfl) (hj2 := Nat.le_of_ble_eq_true rfl) (ty0 := tyX8) (hty := tyX8_ok) (hnm := nmX8) (hfin := rfl) (hd := by decide +kernel) (hL := rfl) rfl in_X8 (by decide) hlink d kk
theorem gf_6_0 (F : Fx E G cc nL own) (hlink : Cond.fieldLink own index "ManyHands$Study" "setup" "LManyHands$Setup;" ∈ W0) (d : decode cc pc = .ok (.getfield index, 3)) (kk : KR E G nL Z o (pc + 3) lv (.ref (ad E (7)) :: st) σ) : KR E G nL Z o pc lv (.ref (ad E 6) :: st) σ := k_getR (k := 6) (j := 0) (ci := 7) (C := RX7) (T := TX7) (N := 8) F (hf := rfl) (hL := rfl) rfl in_X7 (by decide) hlink d kk
theorem gf_6_1 (F : Fx E G cc nL own) (hlink : Cond.fieldLink own index "ManyHands$Study" "machine" "LManyHands$Machine;" ∈ W0) (d : decode cc pc = .ok (.getfield index, 3)) (kk : KR E G nL Z o (pc + 3) lv (.ref (ad E (13)) :: st) σ) : KR E G nL Z o pc lv (.ref (ad E 6) :: st) σ := k_getR (k := 6) (j := 1) (ci := 7) (C := RX7) (T := TX7) (N := 8) F (hf := rfl) (hL := rfl) rfl in_X7 (by decide) hlink d kk
theorem gf_6_2 (F : Fx E G cc nL own) (hlink : Cond.fieldLink own index "ManyHands$Study" "turns" "LManyHands$Turns;" ∈ W0) (d : decode cc pc = .ok (.getfield index, 3)) (kk : KR E G nL Z o (pc + 3) lv (.ref (ad E (18)) :: st) σ) : KR E G nL Z o pc lv (.ref (ad E 6) :: st) σ := k_getR (k := 6) (j := 2) (ci := 7) (C := RX7) (T := TX7) (N := 8) F (hf := rfl) (hL := rfl) rfl in_X7 (by decide) hlink d kk
theorem gf_6_3 (F : Fx E G cc nL own) (hlink : Cond.fieldLink own index "ManyHands$Study" "endResults" "LManyHands$Row;" ∈ W0) (d : decode cc pc = .ok (.getfield index, 3)) (kk : KR E G nL Z o (pc + 3) lv (.ref (ad E (26)) :: st) σ) : KR E G nL Z o pc lv (.ref (ad E 6) :: st) σ := k_getR (k := 6) (j := 3) (ci := 7) (C := RX7) (T := TX7) (N := 8) F (hf := rfl) (hL := rfl) rfl in_X7 (by decide) hlink d kk
theorem gf_6_4 (F : Fx E G cc nL own) (hlink : Cond.fieldLink own index "ManyHands$Study" "orderResults" "LManyHands$Row;" ∈ W0) (d : decode cc pc = .ok (.getfield index, 3)) (kk : KR E G nL Z o (pc + 3) lv (.ref (ad E (28)) :: st) σ) : KR E G nL Z o pc lv (.ref (ad E 6) :: st) σ := k_getR (k := 6) (j := 4) (ci := 7) (C := RX7) (T := TX7) (N := 8) F (hf := rfl) (hL := rfl) rfl in_X7 (by decide) hlink d kk
theorem gf_6_5 (F : Fx E G cc nL own) (hlink : Cond.fieldLink own index "ManyHands$Study" "fencePlaces" "[I" ∈ W0) (d : decode cc pc = .ok (.getfield index, 3)) (kk : KR E G nL Z o (pc + 3) lv (.ref (ad E (30)) :: st) σ) : KR E G nL Z o pc lv (.ref (ad E 6) :: st) σ := k_getR (k := 6) (j := 5) (ci := 7) (C := RX7) (T := TX7) (N := 8) F (hf := rfl) (hL := rfl) rfl in_X7 (by decide) hlink d kk
theorem gf_6_6 (F : Fx E G cc nL own) (hlink : Cond.fieldLink own index "ManyHands$Study" "knowsTurns" "Z" ∈ W0) (d : decode cc pc = .ok (.getfield index, 3)) (kk : KR E G nL Z o (pc + 3) lv (.int (σ.1 6 6) :: st) σ) : KR E G nL Z o pc lv (.ref (ad E 6) :: st) σ := k_getI (k := 6) (j := 6) (ci := 7) (C := RX7) (T := TX7) (N := 8) F (hf := rfl) (hL := rfl) rfl in_X7 (by decide) hlink d kk
theorem pf_6_6 (F : Fx E G cc nL own) {x : Int32} {f : Mm → Option (ρ × Mm)} (hlink : Cond.fieldLink own index "ManyHands$Study" "knowsTurns" "Z" ∈ W0) (d : decode cc pc = .ok (.putfield index, 3)) (kk : ∀ σ3 : Mm, KR E G nL Z (f σ3) (pc + 3) lv st σ3) : KR E G nL Z (cb x (nm (sI σ 6 6 x) f)) pc lv (.int x :: .ref (ad E 6) :: st) σ := k_putZ (k := 6) (j := 6) (ci := 7) (C := RX7) (T := TX7) (N := 8) F (hf := rfl) (hj2 := Nat.le_of_ble_eq_true rfl) (ty0 := tyX7) (hty := tyX7_ok) (hnm := nmX7) (hfin := rfl) (hd := by decide +kernel) (hL := rfl) rfl in_X7 (by decide) hlink d kk
theorem gf_6_7 (F : Fx E G cc nL own) (hlink : Cond.fieldLink own index "ManyHands$Study" "knowsOrders" "Z" ∈ W0) (d : decode cc pc = .ok (.getfield index, 3)) (kk : KR E G nL Z o (pc + 3) lv (.int (σ.1 6 7) :: st) σ) : KR E G nL Z o pc lv (.ref (ad E 6) :: st) σ := k_getI (k := 6) (j := 7) (ci := 7) (C := RX7) (T := TX7) (N := 8) F (hf := rfl) (hL := rfl) rfl in_X7 (by decide) hlink d kk
theorem pf_6_7 (F : Fx E G cc nL own) {x : Int32} {f : Mm → Option (ρ × Mm)} (hlink : Cond.fieldLink own index "ManyHands$Study" "knowsOrders" "Z" ∈ W0) (d : decode cc pc = .ok (.putfield index, 3)) (kk : ∀ σ3 : Mm, KR E G nL Z (f σ3) (pc + 3) lv st σ3) : KR E G nL Z (cb x (nm (sI σ 6 7 x) f)) pc lv (.int x :: .ref (ad E 6) :: st) σ := k_putZ (k := 6) (j := 7) (ci := 7) (C := RX7) (T := TX7) (N := 8) F (hf := rfl) (hj2 := Nat.le_of_ble_eq_true rfl) (ty0 := tyX7) (hty := tyX7_ok) (hnm := nmX7) (hfin := rfl) (hd := by decide +kernel) (hL := rfl) rfl in_X7 (by decide) hlink d kk
theorem gf_7_0 (F : Fx E G cc nL own) (hlink : Cond.fieldLink own index "ManyHands$Setup" "calls" "I" ∈ W0) (d : decode cc pc = .ok (.getfield index, 3)) (kk : KR E G nL Z o (pc + 3) lv (.int (σ.1 7 0) :: st) σ) : KR E G nL Z o pc lv (.ref (ad E 7) :: st) σ := k_getI (k := 7) (j := 0) (ci := 5) (C := RX5) (T := TX5) (N := 8) F (hf := rfl) (hL := rfl) rfl in_X5 (by decide) hlink d kk
theorem pf_7_0 (F : Fx E G cc nL own) {x : Int32} {f : Mm → Option (ρ × Mm)} (hlink : Cond.fieldLink own index "ManyHands$Setup" "calls" "I" ∈ W0) (d : decode cc pc = .ok (.putfield index, 3)) (kk : ∀ σ3 : Mm, KR E G nL Z (f σ3) (pc + 3) lv st σ3) : KR E G nL Z (nm (sI σ 7 0 x) f) pc lv (.int x :: .ref (ad E 7) :: st) σ := k_putI (k := 7) (j := 0) (ci := 5) (C := RX5) (T := TX5) (N := 8) F (hf := rfl) (hj2 := Nat.le_of_ble_eq_true rfl) (ty0 := tyX5) (hty := tyX5_ok) (hnm := nmX5) (hfin := rfl) (hd := by decide +kernel) (hL := rfl) rfl in_X5 (by decide) hlink d kk
theorem gf_7_1 (F : Fx E G cc nL own) (hlink : Cond.fieldLink own index "ManyHands$Setup" "lengths" "[I" ∈ W0) (d : decode cc pc = .ok (.getfield index, 3)) (kk : KR E G nL Z o (pc + 3) lv (.ref (ad E (8)) :: st) σ) : KR E G nL Z o pc lv (.ref (ad E 7) :: st) σ := k_getR (k := 7) (j := 1) (ci := 5) (C := RX5) (T := TX5) (N := 8) F (hf := rfl) (hL := rfl) rfl in_X5 (by decide) hlink d kk
theorem gf_7_2 (F : Fx E G cc nL own) (hlink : Cond.fieldLink own index "ManyHands$Setup" "code" "[I" ∈ W0) (d : decode cc pc = .ok (.getfield index, 3)) (kk : KR E G nL Z o (pc + 3) lv (.ref (ad E (9)) :: st) σ) : KR E G nL Z o pc lv (.ref (ad E 7) :: st) σ := k_getR (k := 7) (j := 2) (ci := 5) (C := RX5) (T := TX5) (N := 8) F (hf := rfl) (hL := rfl) rfl in_X5 (by decide) hlink d kk
theorem gf_7_3 (F : Fx E G cc nL own) (hlink : Cond.fieldLink own index "ManyHands$Setup" "hands" "I" ∈ W0) (d : decode cc pc = .ok (.getfield index, 3)) (kk : KR E G nL Z o (pc + 3) lv (.int (σ.1 7 3) :: st) σ) : KR E G nL Z o pc lv (.ref (ad E 7) :: st) σ := k_getI (k := 7) (j := 3) (ci := 5) (C := RX5) (T := TX5) (N := 8) F (hf := rfl) (hL := rfl) rfl in_X5 (by decide) hlink d kk
theorem pf_7_3 (F : Fx E G cc nL own) {x : Int32} {f : Mm → Option (ρ × Mm)} (hlink : Cond.fieldLink own index "ManyHands$Setup" "hands" "I" ∈ W0) (d : decode cc pc = .ok (.putfield index, 3)) (kk : ∀ σ3 : Mm, KR E G nL Z (f σ3) (pc + 3) lv st σ3) : KR E G nL Z (nm (sI σ 7 3 x) f) pc lv (.int x :: .ref (ad E 7) :: st) σ := k_putI (k := 7) (j := 3) (ci := 5) (C := RX5) (T := TX5) (N := 8) F (hf := rfl) (hj2 := Nat.le_of_ble_eq_true rfl) (ty0 := tyX5) (hty := tyX5_ok) (hnm := nmX5) (hfin := rfl) (hd := by decide +kernel) (hL := rfl) rfl in_X5 (by decide) hlink d kk
theorem gf_7_4 (F : Fx E G cc nL own) (hlink : Cond.fieldLink own index "ManyHands$Setup" "firstCalls" "[I" ∈ W0) (d : decode cc pc = .ok (.getfield index, 3)) (kk : KR E G nL Z o (pc + 3) lv (.ref (ad E (10)) :: st) σ) : KR E G nL Z o pc lv (.ref (ad E 7) :: st) σ := k_getR (k := 7) (j := 4) (ci := 5) (C := RX5) (T := TX5) (N := 8) F (hf := rfl) (hL := rfl) rfl in_X5 (by decide) hlink d kk
theorem gf_7_5 (F : Fx E G cc nL own) (hlink : Cond.fieldLink own index "ManyHands$Setup" "thenCalls" "[I" ∈ W0) (d : decode cc pc = .ok (.getfield index, 3)) (kk : KR E G nL Z o (pc + 3) lv (.ref (ad E (11)) :: st) σ) : KR E G nL Z o pc lv (.ref (ad E 7) :: st) σ := k_getR (k := 7) (j := 5) (ci := 5) (C := RX5) (T := TX5) (N := 8) F (hf := rfl) (hL := rfl) rfl in_X5 (by decide) hlink d kk
theorem gf_7_6 (F : Fx E G cc nL own) (hlink : Cond.fieldLink own index "ManyHands$Setup" "firstValues" "[I" ∈ W0) (d : decode cc pc = .ok (.getfield index, 3)) (kk : KR E G nL Z o (pc + 3) lv (.ref (ad E (12)) :: st) σ) : KR E G nL Z o pc lv (.ref (ad E 7) :: st) σ := k_getR (k := 7) (j := 6) (ci := 5) (C := RX5) (T := TX5) (N := 8) F (hf := rfl) (hL := rfl) rfl in_X5 (by decide) hlink d kk
theorem gf_7_7 (F : Fx E G cc nL own) (hlink : Cond.fieldLink own index "ManyHands$Setup" "machineNumber" "I" ∈ W0) (d : decode cc pc = .ok (.getfield index, 3)) (kk : KR E G nL Z o (pc + 3) lv (.int (σ.1 7 7) :: st) σ) : KR E G nL Z o pc lv (.ref (ad E 7) :: st) σ := k_getI (k := 7) (j := 7) (ci := 5) (C := RX5) (T := TX5) (N := 8) F (hf := rfl) (hL := rfl) rfl in_X5 (by decide) hlink d kk
theorem pf_7_7 (F : Fx E G cc nL own) {x : Int32} {f : Mm → Option (ρ × Mm)} (hlink : Cond.fieldLink own index "ManyHands$Setup" "machineNumber" "I" ∈ W0) (d : decode cc pc = .ok (.putfield index, 3)) (kk : ∀ σ3 : Mm, KR E G nL Z (f σ3) (pc + 3) lv st σ3) : KR E G nL Z (nm (sI σ 7 7 x) f) pc lv (.int x :: .ref (ad E 7) :: st) σ := k_putI (k := 7) (j := 7) (ci := 5) (C := RX5) (T := TX5) (N := 8) F (hf := rfl) (hj2 := Nat.le_of_ble_eq_true rfl) (ty0 := tyX5) (hty := tyX5_ok) (hnm := nmX5) (hfin := rfl) (hd := by decide +kernel) (hL := rfl) rfl in_X5 (by decide) hlink d kk
theorem gf_13_0 (F : Fx E G cc nL own) (hlink : Cond.fieldLink own index "ManyHands$Machine" "hands" "I" ∈ W0) (d : decode cc pc = .ok (.getfield index, 3)) (kk : KR E G nL Z o (pc + 3) lv (.int (σ.1 13 0) :: st) σ) : KR E G nL Z o pc lv (.ref (ad E 13) :: st) σ := k_getI (k := 13) (j := 0) (ci := 1) (C := RX1) (T := TX1) (N := 7) F (hf := rfl) (hL := rfl) rfl in_X1 (by decide) hlink d kk
theorem pf_13_0 (F : Fx E G cc nL own) {x : Int32} {f : Mm → Option (ρ × Mm)} (hlink : Cond.fieldLink own index "ManyHands$Machine" "hands" "I" ∈ W0) (d : decode cc pc = .ok (.putfield index, 3)) (kk : ∀ σ3 : Mm, KR E G nL Z (f σ3) (pc + 3) lv st σ3) : KR E G nL Z (nm (sI σ 13 0 x) f) pc lv (.int x :: .ref (ad E 13) :: st) σ := k_putI (k := 13) (j := 0) (ci := 1) (C := RX1) (T := TX1) (N := 7) F (hf := rfl) (hj2 := Nat.le_of_ble_eq_true rfl) (ty0 := tyX1) (hty := tyX1_ok) (hnm := nmX1) (hfin := rfl) (hd := by decide +kernel) (hL := rfl) rfl in_X1 (by decide) hlink d kk
theorem gf_13_1 (F : Fx E G cc nL own) (hlink : Cond.fieldLink own index "ManyHands$Machine" "isLate" "Z" ∈ W0) (d : decode cc pc = .ok (.getfield index, 3)) (kk : KR E G nL Z o (pc + 3) lv (.int (σ.1 13 1) :: st) σ) : KR E G nL Z o pc lv (.ref (ad E 13) :: st) σ := k_getI (k := 13) (j := 1) (ci := 1) (C := RX1) (T := TX1) (N := 7) F (hf := rfl) (hL := rfl) rfl in_X1 (by decide) hlink d kk
theorem pf_13_1 (F : Fx E G cc nL own) {x : Int32} {f : Mm → Option (ρ × Mm)} (hlink : Cond.fieldLink own index "ManyHands$Machine" "isLate" "Z" ∈ W0) (d : decode cc pc = .ok (.putfield index, 3)) (kk : ∀ σ3 : Mm, KR E G nL Z (f σ3) (pc + 3) lv st σ3) : KR E G nL Z (cb x (nm (sI σ 13 1 x) f)) pc lv (.int x :: .ref (ad E 13) :: st) σ := k_putZ (k := 13) (j := 1) (ci := 1) (C := RX1) (T := TX1) (N := 7) F (hf := rfl) (hj2 := Nat.le_of_ble_eq_true rfl) (ty0 := tyX1) (hty := tyX1_ok) (hnm := nmX1) (hfin := rfl) (hd := by decide +kernel) (hL := rfl) rfl in_X1 (by decide) hlink d kk
theorem gf_13_2 (F : Fx E G cc nL own) (hlink : Cond.fieldLink own index "ManyHands$Machine" "first" "J" ∈ W0) (d : decode cc pc = .ok (.getfield index, 3)) (kk : KR E G nL Z o (pc + 3) lv (.long (σ.2 13 2) :: st) σ) : KR E G nL Z o pc lv (.ref (ad E 13) :: st) σ := k_getL (k := 13) (j := 2) (ci := 1) (C := RX1) (T := TX1) (N := 7) F (hf := rfl) (hL := rfl) rfl in_X1 (by decide) hlink d kk
theorem pf_13_2 (F : Fx E G cc nL own) {x : Int64} {f : Mm → Option (ρ × Mm)} (hlink : Cond.fieldLink own index "ManyHands$Machine" "first" "J" ∈ W0) (d : decode cc pc = .ok (.putfield index, 3)) (kk : ∀ σ3 : Mm, KR E G nL Z (f σ3) (pc + 3) lv st σ3) : KR E G nL Z (nm (sL σ 13 2 x) f) pc lv (.long x :: .ref (ad E 13) :: st) σ := k_putL (k := 13) (j := 2) (ci := 1) (C := RX1) (T := TX1) (N := 7) F (hf := rfl) (hj2 := Nat.le_of_ble_eq_true rfl) (ty0 := tyX1) (hty := tyX1_ok) (hnm := nmX1) (hfin := rfl) (hd := by decide +kernel) (hL := rfl) rfl in_X1 (by decide) hlink d kk
theorem gf_13_3 (F : Fx E G cc nL own) (hlink : Cond.fieldLink own index "ManyHands$Machine" "code" "[I" ∈ W0) (d : decode cc pc = .ok (.getfield index, 3)) (kk : KR E G nL Z o (pc + 3) lv (.ref (ad E (14)) :: st) σ) : KR E G nL Z o pc lv (.ref (ad E 13) :: st) σ := k_getR (k := 13) (j := 3) (ci := 1) (C := RX1) (T := TX1) (N := 7) F (hf := rfl) (hL := rfl) rfl in_X1 (by decide) hlink d kk
theorem gf_13_4 (F : Fx E G cc nL own) (hlink : Cond.fieldLink own index "ManyHands$Machine" "placesOfSteps" "[I" ∈ W0) (d : decode cc pc = .ok (.getfield index, 3)) (kk : KR E G nL Z o (pc + 3) lv (.ref (ad E (15)) :: st) σ) : KR E G nL Z o pc lv (.ref (ad E 13) :: st) σ := k_getR (k := 13) (j := 4) (ci := 1) (C := RX1) (T := TX1) (N := 7) F (hf := rfl) (hL := rfl) rfl in_X1 (by decide) hlink d kk
theorem gf_13_5 (F : Fx E G cc nL own) (hlink : Cond.fieldLink own index "ManyHands$Machine" "seconds" "[I" ∈ W0) (d : decode cc pc = .ok (.getfield index, 3)) (kk : KR E G nL Z o (pc + 3) lv (.ref (ad E (16)) :: st) σ) : KR E G nL Z o pc lv (.ref (ad E 13) :: st) σ := k_getR (k := 13) (j := 5) (ci := 1) (C := RX1) (T := TX1) (N := 7) F (hf := rfl) (hL := rfl) rfl in_X1 (by decide) hlink d kk
theorem gf_13_6 (F : Fx E G cc nL own) (hlink : Cond.fieldLink own index "ManyHands$Machine" "lengths" "[I" ∈ W0) (d : decode cc pc = .ok (.getfield index, 3)) (kk : KR E G nL Z o (pc + 3) lv (.ref (ad E (17)) :: st) σ) : KR E G nL Z o pc lv (.ref (ad E 13) :: st) σ := k_getR (k := 13) (j := 6) (ci := 1) (C := RX1) (T := TX1) (N := 7) F (hf := rfl) (hL := rfl) rfl in_X1 (by decide) hlink d kk
theorem gf_18_0 (F : Fx E G cc nL own) (hlink : Cond.fieldLink own index "ManyHands$Turns" "found" "[J" ∈ W0) (d : decode cc pc = .ok (.getfield index, 3)) (kk : KR E G nL Z o (pc + 3) lv (.ref (ad E (19)) :: st) σ) : KR E G nL Z o pc lv (.ref (ad E 18) :: st) σ := k_getR (k := 18) (j := 0) (ci := 9) (C := RX9) (T := TX9) (N := 9) F (hf := rfl) (hL := rfl) rfl in_X9 (by decide) hlink d kk
theorem gf_18_1 (F : Fx E G cc nL own) (hlink : Cond.fieldLink own index "ManyHands$Turns" "slots" "[I" ∈ W0) (d : decode cc pc = .ok (.getfield index, 3)) (kk : KR E G nL Z o (pc + 3) lv (.ref (ad E (20)) :: st) σ) : KR E G nL Z o pc lv (.ref (ad E 18) :: st) σ := k_getR (k := 18) (j := 1) (ci := 9) (C := RX9) (T := TX9) (N := 9) F (hf := rfl) (hL := rfl) rfl in_X9 (by decide) hlink d kk
theorem gf_18_2 (F : Fx E G cc nL own) (hlink : Cond.fieldLink own index "ManyHands$Turns" "slotsOfFound" "[I" ∈ W0) (d : decode cc pc = .ok (.getfield index, 3)) (kk : KR E G nL Z o (pc + 3) lv (.ref (ad E (21)) :: st) σ) : KR E G nL Z o pc lv (.ref (ad E 18) :: st) σ := k_getR (k := 18) (j := 2) (ci := 9) (C := RX9) (T := TX9) (N := 9) F (hf := rfl) (hL := rfl) rfl in_X9 (by decide) hlink d kk
theorem gf_18_3 (F : Fx E G cc nL own) (hlink : Cond.fieldLink own index "ManyHands$Turns" "cameBy" "[I" ∈ W0) (d : decode cc pc = .ok (.getfield index, 3)) (kk : KR E G nL Z o (pc + 3) lv (.ref (ad E (22)) :: st) σ) : KR E G nL Z o pc lv (.ref (ad E 18) :: st) σ := k_getR (k := 18) (j := 3) (ci := 9) (C := RX9) (T := TX9) (N := 9) F (hf := rfl) (hL := rfl) rfl in_X9 (by decide) hlink d kk
theorem gf_18_4 (F : Fx E G cc nL own) (hlink : Cond.fieldLink own index "ManyHands$Turns" "nexts" "[I" ∈ W0) (d : decode cc pc = .ok (.getfield index, 3)) (kk : KR E G nL Z o (pc + 3) lv (.ref (ad E (23)) :: st) σ) : KR E G nL Z o pc lv (.ref (ad E 18) :: st) σ := k_getR (k := 18) (j := 4) (ci := 9) (C := RX9) (T := TX9) (N := 9) F (hf := rfl) (hL := rfl) rfl in_X9 (by decide) hlink d kk
theorem gf_18_5 (F : Fx E G cc nL own) (hlink : Cond.fieldLink own index "ManyHands$Turns" "marks" "[I" ∈ W0) (d : decode cc pc = .ok (.getfield index, 3)) (kk : KR E G nL Z o (pc + 3) lv (.ref (ad E (24)) :: st) σ) : KR E G nL Z o pc lv (.ref (ad E 18) :: st) σ := k_getR (k := 18) (j := 5) (ci := 9) (C := RX9) (T := TX9) (N := 9) F (hf := rfl) (hL := rfl) rfl in_X9 (by decide) hlink d kk
theorem gf_18_6 (F : Fx E G cc nL own) (hlink : Cond.fieldLink own index "ManyHands$Turns" "line" "[I" ∈ W0) (d : decode cc pc = .ok (.getfield index, 3)) (kk : KR E G nL Z o (pc + 3) lv (.ref (ad E (25)) :: st) σ) : KR E G nL Z o pc lv (.ref (ad E 18) :: st) σ := k_getR (k := 18) (j := 6) (ci := 9) (C := RX9) (T := TX9) (N := 9) F (hf := rfl) (hL := rfl) rfl in_X9 (by decide) hlink d kk
theorem gf_18_7 (F : Fx E G cc nL own) (hlink : Cond.fieldLink own index "ManyHands$Turns" "count" "I" ∈ W0) (d : decode cc pc = .ok (.getfield index, 3)) (kk : KR E G nL Z o (pc + 3) lv (.int (σ.1 18 7) :: st) σ) : KR E G nL Z o pc lv (.ref (ad E 18) :: st) σ := k_getI (k := 18) (j := 7) (ci := 9) (C := RX9) (T := TX9) (N := 9) F (hf := rfl) (hL := rfl) rfl in_X9 (by decide) hlink d kk
theorem pf_18_7 (F : Fx E G cc nL own) {x : Int32} {f : Mm → Option (ρ × Mm)} (hlink : Cond.fieldLink own index "ManyHands$Turns" "count" "I" ∈ W0) (d : decode cc pc = .ok (.putfield index, 3)) (kk : ∀ σ3 : Mm, KR E G nL Z (f σ3) (pc + 3) lv st σ3) : KR E G nL Z (nm (sI σ 18 7 x) f) pc lv (.int x :: .ref (ad E 18) :: st) σ := k_putI (k := 18) (j := 7) (ci := 9) (C := RX9) (T := TX9) (N := 9) F (hf := rfl) (hj2 := Nat.le_of_ble_eq_true rfl) (ty0 := tyX9) (hty := tyX9_ok) (hnm := nmX9) (hfin := rfl) (hd := by decide +kernel) (hL := rfl) rfl in_X9 (by decide) hlink d kk
theorem gf_18_8 (F : Fx E G cc nL own) (hlink : Cond.fieldLink own index "ManyHands$Turns" "isTooLarge" "Z" ∈ W0) (d : decode cc pc = .ok (.getfield index, 3)) (kk : KR E G nL Z o (pc + 3) lv (.int (σ.1 18 8) :: st) σ) : KR E G nL Z o pc lv (.ref (ad E 18) :: st) σ := k_getI (k := 18) (j := 8) (ci := 9) (C := RX9) (T := TX9) (N := 9) F (hf := rfl) (hL := rfl) rfl in_X9 (by decide) hlink d kk
theorem pf_18_8 (F : Fx E G cc nL own) {x : Int32} {f : Mm → Option (ρ × Mm)} (hlink : Cond.fieldLink own index "ManyHands$Turns" "isTooLarge" "Z" ∈ W0) (d : decode cc pc = .ok (.putfield index, 3)) (kk : ∀ σ3 : Mm, KR E G nL Z (f σ3) (pc + 3) lv st σ3) : KR E G nL Z (cb x (nm (sI σ 18 8 x) f)) pc lv (.int x :: .ref (ad E 18) :: st) σ := k_putZ (k := 18) (j := 8) (ci := 9) (C := RX9) (T := TX9) (N := 9) F (hf := rfl) (hj2 := Nat.le_of_ble_eq_true rfl) (ty0 := tyX9) (hty := tyX9_ok) (hnm := nmX9) (hfin := rfl) (hd := by decide +kernel) (hL := rfl) rfl in_X9 (by decide) hlink d kk
theorem gf_37_0 (F : Fx E G cc nL own) (hlink : Cond.fieldLink own index "ManyHands$Play" "latestHands" "[I" ∈ W0) (d : decode cc pc = .ok (.getfield index, 3)) (kk : KR E G nL Z o (pc + 3) lv (.ref (ad E (38)) :: st) σ) : KR E G nL Z o pc lv (.ref (ad E 37) :: st) σ := k_getR (k := 37) (j := 0) (ci := 2) (C := RX2) (T := TX2) (N := 4) F (hf := rfl) (hL := rfl) rfl in_X2 (by decide) hlink d kk
theorem gf_37_1 (F : Fx E G cc nL own) (hlink : Cond.fieldLink own index "ManyHands$Play" "state" "J" ∈ W0) (d : decode cc pc = .ok (.getfield index, 3)) (kk : KR E G nL Z o (pc + 3) lv (.long (σ.2 37 1) :: st) σ) : KR E G nL Z o pc lv (.ref (ad E 37) :: st) σ := k_getL (k := 37) (j := 1) (ci := 2) (C := RX2) (T := TX2) (N := 4) F (hf := rfl) (hL := rfl) rfl in_X2 (by decide) hlink d kk
theorem pf_37_1 (F : Fx E G cc nL own) {x : Int64} {f : Mm → Option (ρ × Mm)} (hlink : Cond.fieldLink own index "ManyHands$Play" "state" "J" ∈ W0) (d : decode cc pc = .ok (.putfield index, 3)) (kk : ∀ σ3 : Mm, KR E G nL Z (f σ3) (pc + 3) lv st σ3) : KR E G nL Z (nm (sL σ 37 1 x) f) pc lv (.long x :: .ref (ad E 37) :: st) σ := k_putL (k := 37) (j := 1) (ci := 2) (C := RX2) (T := TX2) (N := 4) F (hf := rfl) (hj2 := Nat.le_of_ble_eq_true rfl) (ty0 := tyX2) (hty := tyX2_ok) (hnm := nmX2) (hfin := rfl) (hd := by decide +kernel) (hL := rfl) rfl in_X2 (by decide) hlink d kk
theorem gf_37_2 (F : Fx E G cc nL own) (hlink : Cond.fieldLink own index "ManyHands$Play" "done" "I" ∈ W0) (d : decode cc pc = .ok (.getfield index, 3)) (kk : KR E G nL Z o (pc + 3) lv (.int (σ.1 37 2) :: st) σ) : KR E G nL Z o pc lv (.ref (ad E 37) :: st) σ := k_getI (k := 37) (j := 2) (ci := 2) (C := RX2) (T := TX2) (N := 4) F (hf := rfl) (hL := rfl) rfl in_X2 (by decide) hlink d kk
theorem pf_37_2 (F : Fx E G cc nL own) {x : Int32} {f : Mm → Option (ρ × Mm)} (hlink : Cond.fieldLink own index "ManyHands$Play" "done" "I" ∈ W0) (d : decode cc pc = .ok (.putfield index, 3)) (kk : ∀ σ3 : Mm, KR E G nL Z (f σ3) (pc + 3) lv st σ3) : KR E G nL Z (nm (sI σ 37 2 x) f) pc lv (.int x :: .ref (ad E 37) :: st) σ := k_putI (k := 37) (j := 2) (ci := 2) (C := RX2) (T := TX2) (N := 4) F (hf := rfl) (hj2 := Nat.le_of_ble_eq_true rfl) (ty0 := tyX2) (hty := tyX2_ok) (hnm := nmX2) (hfin := rfl) (hd := by decide +kernel) (hL := rfl) rfl in_X2 (by decide) hlink d kk
theorem gf_37_3 (F : Fx E G cc nL own) (hlink : Cond.fieldLink own index "ManyHands$Play" "price" "I" ∈ W0) (d : decode cc pc = .ok (.getfield index, 3)) (kk : KR E G nL Z o (pc + 3) lv (.int (σ.1 37 3) :: st) σ) : KR E G nL Z o pc lv (.ref (ad E 37) :: st) σ := k_getI (k := 37) (j := 3) (ci := 2) (C := RX2) (T := TX2) (N := 4) F (hf := rfl) (hL := rfl) rfl in_X2 (by decide) hlink d kk
theorem pf_37_3 (F : Fx E G cc nL own) {x : Int32} {f : Mm → Option (ρ × Mm)} (hlink : Cond.fieldLink own index "ManyHands$Play" "price" "I" ∈ W0) (d : decode cc pc = .ok (.putfield index, 3)) (kk : ∀ σ3 : Mm, KR E G nL Z (f σ3) (pc + 3) lv st σ3) : KR E G nL Z (nm (sI σ 37 3 x) f) pc lv (.int x :: .ref (ad E 37) :: st) σ := k_putI (k := 37) (j := 3) (ci := 2) (C := RX2) (T := TX2) (N := 4) F (hf := rfl) (hj2 := Nat.le_of_ble_eq_true rfl) (ty0 := tyX2) (hty := tyX2_ok) (hnm := nmX2) (hfin := rfl) (hd := by decide +kernel) (hL := rfl) rfl in_X2 (by decide) hlink d kk
theorem gf_48_0 (F : Fx E G cc nL own) (hlink : Cond.fieldLink own index "ManyHandsModel" "calls" "I" ∈ W0) (d : decode cc pc = .ok (.getfield index, 3)) (kk : KR E G nL Z o (pc + 3) lv (.int (σ.1 48 0) :: st) σ) : KR E G nL Z o pc lv (.ref (ad E 48) :: st) σ := k_getI (k := 48) (j := 0) (ci := 11) (C := RX11) (T := TX11) (N := 68) F (hf := rfl) (hL := rfl) rfl in_X11 (by decide) hlink d kk
theorem pf_48_0 (F : Fx E G cc nL own) {x : Int32} {f : Mm → Option (ρ × Mm)} (hlink : Cond.fieldLink own index "ManyHandsModel" "calls" "I" ∈ W0) (d : decode cc pc = .ok (.putfield index, 3)) (kk : ∀ σ3 : Mm, KR E G nL Z (f σ3) (pc + 3) lv st σ3) : KR E G nL Z (nm (sI σ 48 0 x) f) pc lv (.int x :: .ref (ad E 48) :: st) σ := k_putI (k := 48) (j := 0) (ci := 11) (C := RX11) (T := TX11) (N := 68) F (hf := rfl) (hj2 := Nat.le_of_ble_eq_true rfl) (ty0 := tyX11) (hty := tyX11_ok) (hnm := nmX11) (hfin := rfl) (hd := by decide +kernel) (hL := rfl) rfl in_X11 (by decide) hlink d kk
theorem gf_48_1 (F : Fx E G cc nL own) (hlink : Cond.fieldLink own index "ManyHandsModel" "stepMany" "[I" ∈ W0) (d : decode cc pc = .ok (.getfield index, 3)) (kk : KR E G nL Z o (pc + 3) lv (.ref (ad E (49)) :: st) σ) : KR E G nL Z o pc lv (.ref (ad E 48) :: st) σ := k_getR (k := 48) (j := 1) (ci := 11) (C := RX11) (T := TX11) (N := 68) F (hf := rfl) (hL := rfl) rfl in_X11 (by decide) hlink d kk
theorem gf_48_2 (F : Fx E G cc nL own) (hlink : Cond.fieldLink own index "ManyHandsModel" "kind" "[I" ∈ W0) (d : decode cc pc = .ok (.getfield index, 3)) (kk : KR E G nL Z o (pc + 3) lv (.ref (ad E (50)) :: st) σ) : KR E G nL Z o pc lv (.ref (ad E 48) :: st) σ := k_getR (k := 48) (j := 2) (ci := 11) (C := RX11) (T := TX11) (N := 68) F (hf := rfl) (hL := rfl) rfl in_X11 (by decide) hlink d kk
theorem gf_48_3 (F : Fx E G cc nL own) (hlink : Cond.fieldLink own index "ManyHandsModel" "cellOf" "[I" ∈ W0) (d : decode cc pc = .ok (.getfield index, 3)) (kk : KR E G nL Z o (pc + 3) lv (.ref (ad E (51)) :: st) σ) : KR E G nL Z o pc lv (.ref (ad E 48) :: st) σ := k_getR (k := 48) (j := 3) (ci := 11) (C := RX11) (T := TX11) (N := 68) F (hf := rfl) (hL := rfl) rfl in_X11 (by decide) hlink d kk
theorem gf_48_4 (F : Fx E G cc nL own) (hlink : Cond.fieldLink own index "ManyHandsModel" "valueOf" "[I" ∈ W0) (d : decode cc pc = .ok (.getfield index, 3)) (kk : KR E G nL Z o (pc + 3) lv (.ref (ad E (52)) :: st) σ) : KR E G nL Z o pc lv (.ref (ad E 48) :: st) σ := k_getR (k := 48) (j := 4) (ci := 11) (C := RX11) (T := TX11) (N := 68) F (hf := rfl) (hL := rfl) rfl in_X11 (by decide) hlink d kk
theorem gf_48_5 (F : Fx E G cc nL own) (hlink : Cond.fieldLink own index "ManyHandsModel" "otherOf" "[I" ∈ W0) (d : decode cc pc = .ok (.getfield index, 3)) (kk : KR E G nL Z o (pc + 3) lv (.ref (ad E (53)) :: st) σ) : KR E G nL Z o pc lv (.ref (ad E 48) :: st) σ := k_getR (k := 48) (j := 5) (ci := 11) (C := RX11) (T := TX11) (N := 68) F (hf := rfl) (hL := rfl) rfl in_X11 (by decide) hlink d kk
theorem gf_48_6 (F : Fx E G cc nL own) (hlink : Cond.fieldLink own index "ManyHandsModel" "toOf" "[I" ∈ W0) (d : decode cc pc = .ok (.getfield index, 3)) (kk : KR E G nL Z o (pc + 3) lv (.ref (ad E (54)) :: st) σ) : KR E G nL Z o pc lv (.ref (ad E 48) :: st) σ := k_getR (k := 48) (j := 6) (ci := 11) (C := RX11) (T := TX11) (N := 68) F (hf := rfl) (hL := rfl) rfl in_X11 (by decide) hlink d kk
theorem gf_48_7 (F : Fx E G cc nL own) (hlink : Cond.fieldLink own index "ManyHandsModel" "hands" "I" ∈ W0) (d : decode cc pc = .ok (.getfield index, 3)) (kk : KR E G nL Z o (pc + 3) lv (.int (σ.1 48 7) :: st) σ) : KR E G nL Z o pc lv (.ref (ad E 48) :: st) σ := k_getI (k := 48) (j := 7) (ci := 11) (C := RX11) (T := TX11) (N := 68) F (hf := rfl) (hL := rfl) rfl in_X11 (by decide) hlink d kk
theorem pf_48_7 (F : Fx E G cc nL own) {x : Int32} {f : Mm → Option (ρ × Mm)} (hlink : Cond.fieldLink own index "ManyHandsModel" "hands" "I" ∈ W0) (d : decode cc pc = .ok (.putfield index, 3)) (kk : ∀ σ3 : Mm, KR E G nL Z (f σ3) (pc + 3) lv st σ3) : KR E G nL Z (nm (sI σ 48 7 x) f) pc lv (.int x :: .ref (ad E 48) :: st) σ := k_putI (k := 48) (j := 7) (ci := 11) (C := RX11) (T := TX11) (N := 68) F (hf := rfl) (hj2 := Nat.le_of_ble_eq_true rfl) (ty0 := tyX11) (hty := tyX11_ok) (hnm := nmX11) (hfin := rfl) (hd := by decide +kernel) (hL := rfl) rfl in_X11 (by decide) hlink d kk
theorem gf_48_8 (F : Fx E G cc nL own) (hlink : Cond.fieldLink own index "ManyHandsModel" "handCall" "[I" ∈ W0) (d : decode cc pc = .ok (.getfield index, 3)) (kk : KR E G nL Z o (pc + 3) lv (.ref (ad E (55)) :: st) σ) : KR E G nL Z o pc lv (.ref (ad E 48) :: st) σ := k_getR (k := 48) (j := 8) (ci := 11) (C := RX11) (T := TX11) (N := 68) F (hf := rfl) (hL := rfl) rfl in_X11 (by decide) hlink d kk
theorem gf_48_9 (F : Fx E G cc nL own) (hlink : Cond.fieldLink own index "ManyHandsModel" "handMany" "[I" ∈ W0) (d : decode cc pc = .ok (.getfield index, 3)) (kk : KR E G nL Z o (pc + 3) lv (.ref (ad E (56)) :: st) σ) : KR E G nL Z o pc lv (.ref (ad E 48) :: st) σ := k_getR (k := 48) (j := 9) (ci := 11) (C := RX11) (T := TX11) (N := 68) F (hf := rfl) (hL := rfl) rfl in_X11 (by decide) hlink d kk
theorem gf_48_10 (F : Fx E G cc nL own) (hlink : Cond.fieldLink own index "ManyHandsModel" "firstOf" "[I" ∈ W0) (d : decode cc pc = .ok (.getfield index, 3)) (kk : KR E G nL Z o (pc + 3) lv (.ref (ad E (57)) :: st) σ) : KR E G nL Z o pc lv (.ref (ad E 48) :: st) σ := k_getR (k := 48) (j := 10) (ci := 11) (C := RX11) (T := TX11) (N := 68) F (hf := rfl) (hL := rfl) rfl in_X11 (by decide) hlink d kk
theorem gf_48_11 (F : Fx E G cc nL own) (hlink : Cond.fieldLink own index "ManyHandsModel" "machine" "I" ∈ W0) (d : decode cc pc = .ok (.getfield index, 3)) (kk : KR E G nL Z o (pc + 3) lv (.int (σ.1 48 11) :: st) σ) : KR E G nL Z o pc lv (.ref (ad E 48) :: st) σ := k_getI (k := 48) (j := 11) (ci := 11) (C := RX11) (T := TX11) (N := 68) F (hf := rfl) (hL := rfl) rfl in_X11 (by decide) hlink d kk
theorem pf_48_11 (F : Fx E G cc nL own) {x : Int32} {f : Mm → Option (ρ × Mm)} (hlink : Cond.fieldLink own index "ManyHandsModel" "machine" "I" ∈ W0) (d : decode cc pc = .ok (.putfield index, 3)) (kk : ∀ σ3 : Mm, KR E G nL Z (f σ3) (pc + 3) lv st σ3) : KR E G nL Z (nm (sI σ 48 11 x) f) pc lv (.int x :: .ref (ad E 48) :: st) σ := k_putI (k := 48) (j := 11) (ci := 11) (C := RX11) (T := TX11) (N := 68) F (hf := rfl) (hj2 := Nat.le_of_ble_eq_true rfl) (ty0 := tyX11) (hty := tyX11_ok) (hnm := nmX11) (hfin := rfl) (hd := by decide +kernel) (hL := rfl) rfl in_X11 (by decide) hlink d kk
theorem gf_48_12 (F : Fx E G cc nL own) (hlink : Cond.fieldLink own index "ManyHandsModel" "tape" "[I" ∈ W0) (d : decode cc pc = .ok (.getfield index, 3)) (kk : KR E G nL Z o (pc + 3) lv (.ref (ad E (58)) :: st) σ) : KR E G nL Z o pc lv (.ref (ad E 48) :: st) σ := k_getR (k := 48) (j := 12) (ci := 11) (C := RX11) (T := TX11) (N := 68) F (hf := rfl) (hL := rfl) rfl in_X11 (by decide) hlink d kk
theorem gf_48_13 (F : Fx E G cc nL own) (hlink : Cond.fieldLink own index "ManyHandsModel" "taped" "I" ∈ W0) (d : decode cc pc = .ok (.getfield index, 3)) (kk : KR E G nL Z o (pc + 3) lv (.int (σ.1 48 13) :: st) σ) : KR E G nL Z o pc lv (.ref (ad E 48) :: st) σ := k_getI (k := 48) (j := 13) (ci := 11) (C := RX11) (T := TX11) (N := 68) F (hf := rfl) (hL := rfl) rfl in_X11 (by decide) hlink d kk
theorem pf_48_13 (F : Fx E G cc nL own) {x : Int32} {f : Mm → Option (ρ × Mm)} (hlink : Cond.fieldLink own index "ManyHandsModel" "taped" "I" ∈ W0) (d : decode cc pc = .ok (.putfield index, 3)) (kk : ∀ σ3 : Mm, KR E G nL Z (f σ3) (pc + 3) lv st σ3) : KR E G nL Z (nm (sI σ 48 13 x) f) pc lv (.int x :: .ref (ad E 48) :: st) σ := k_putI (k := 48) (j := 13) (ci := 11) (C := RX11) (T := TX11) (N := 68) F (hf := rfl) (hj2 := Nat.le_of_ble_eq_true rfl) (ty0 := tyX11) (hty := tyX11_ok) (hnm := nmX11) (hfin := rfl) (hd := by decide +kernel) (hL := rfl) rfl in_X11 (by decide) hlink d kk
theorem gf_48_14 (F : Fx E G cc nL own) (hlink : Cond.fieldLink own index "ManyHandsModel" "found" "[I" ∈ W0) (d : decode cc pc = .ok (.getfield index, 3)) (kk : KR E G nL Z o (pc + 3) lv (.ref (ad E (59)) :: st) σ) : KR E G nL Z o pc lv (.ref (ad E 48) :: st) σ := k_getR (k := 48) (j := 14) (ci := 11) (C := RX11) (T := TX11) (N := 68) F (hf := rfl) (hL := rfl) rfl in_X11 (by decide) hlink d kk
theorem gf_48_15 (F : Fx E G cc nL own) (hlink : Cond.fieldLink own index "ManyHandsModel" "hasImage" "Z" ∈ W0) (d : decode cc pc = .ok (.getfield index, 3)) (kk : KR E G nL Z o (pc + 3) lv (.int (σ.1 48 15) :: st) σ) : KR E G nL Z o pc lv (.ref (ad E 48) :: st) σ := k_getI (k := 48) (j := 15) (ci := 11) (C := RX11) (T := TX11) (N := 68) F (hf := rfl) (hL := rfl) rfl in_X11 (by decide) hlink d kk
theorem pf_48_15 (F : Fx E G cc nL own) {x : Int32} {f : Mm → Option (ρ × Mm)} (hlink : Cond.fieldLink own index "ManyHandsModel" "hasImage" "Z" ∈ W0) (d : decode cc pc = .ok (.putfield index, 3)) (kk : ∀ σ3 : Mm, KR E G nL Z (f σ3) (pc + 3) lv st σ3) : KR E G nL Z (cb x (nm (sI σ 48 15 x) f)) pc lv (.int x :: .ref (ad E 48) :: st) σ := k_putZ (k := 48) (j := 15) (ci := 11) (C := RX11) (T := TX11) (N := 68) F (hf := rfl) (hj2 := Nat.le_of_ble_eq_true rfl) (ty0 := tyX11) (hty := tyX11_ok) (hnm := nmX11) (hfin := rfl) (hd := by decide +kernel) (hL := rfl) rfl in_X11 (by decide) hlink d kk
theorem gf_48_16 (F : Fx E G cc nL own) (hlink : Cond.fieldLink own index "ManyHandsModel" "keptCalls" "I" ∈ W0) (d : decode cc pc = .ok (.getfield index, 3)) (kk : KR E G nL Z o (pc + 3) lv (.int (σ.1 48 16) :: st) σ) : KR E G nL Z o pc lv (.ref (ad E 48) :: st) σ := k_getI (k := 48) (j := 16) (ci := 11) (C := RX11) (T := TX11) (N := 68) F (hf := rfl) (hL := rfl) rfl in_X11 (by decide) hlink d kk
theorem pf_48_16 (F : Fx E G cc nL own) {x : Int32} {f : Mm → Option (ρ × Mm)} (hlink : Cond.fieldLink own index "ManyHandsModel" "keptCalls" "I" ∈ W0) (d : decode cc pc = .ok (.putfield index, 3)) (kk : ∀ σ3 : Mm, KR E G nL Z (f σ3) (pc + 3) lv st σ3) : KR E G nL Z (nm (sI σ 48 16 x) f) pc lv (.int x :: .ref (ad E 48) :: st) σ := k_putI (k := 48) (j := 16) (ci := 11) (C := RX11) (T := TX11) (N := 68) F (hf := rfl) (hj2 := Nat.le_of_ble_eq_true rfl) (ty0 := tyX11) (hty := tyX11_ok) (hnm := nmX11) (hfin := rfl) (hd := by decide +kernel) (hL := rfl) rfl in_X11 (by decide) hlink d kk
theorem gf_48_17 (F : Fx E G cc nL own) (hlink : Cond.fieldLink own index "ManyHandsModel" "keptHands" "I" ∈ W0) (d : decode cc pc = .ok (.getfield index, 3)) (kk : KR E G nL Z o (pc + 3) lv (.int (σ.1 48 17) :: st) σ) : KR E G nL Z o pc lv (.ref (ad E 48) :: st) σ := k_getI (k := 48) (j := 17) (ci := 11) (C := RX11) (T := TX11) (N := 68) F (hf := rfl) (hL := rfl) rfl in_X11 (by decide) hlink d kk
theorem pf_48_17 (F : Fx E G cc nL own) {x : Int32} {f : Mm → Option (ρ × Mm)} (hlink : Cond.fieldLink own index "ManyHandsModel" "keptHands" "I" ∈ W0) (d : decode cc pc = .ok (.putfield index, 3)) (kk : ∀ σ3 : Mm, KR E G nL Z (f σ3) (pc + 3) lv st σ3) : KR E G nL Z (nm (sI σ 48 17 x) f) pc lv (.int x :: .ref (ad E 48) :: st) σ := k_putI (k := 48) (j := 17) (ci := 11) (C := RX11) (T := TX11) (N := 68) F (hf := rfl) (hj2 := Nat.le_of_ble_eq_true rfl) (ty0 := tyX11) (hty := tyX11_ok) (hnm := nmX11) (hfin := rfl) (hd := by decide +kernel) (hL := rfl) rfl in_X11 (by decide) hlink d kk
theorem gf_48_18 (F : Fx E G cc nL own) (hlink : Cond.fieldLink own index "ManyHandsModel" "keptMachine" "I" ∈ W0) (d : decode cc pc = .ok (.getfield index, 3)) (kk : KR E G nL Z o (pc + 3) lv (.int (σ.1 48 18) :: st) σ) : KR E G nL Z o pc lv (.ref (ad E 48) :: st) σ := k_getI (k := 48) (j := 18) (ci := 11) (C := RX11) (T := TX11) (N := 68) F (hf := rfl) (hL := rfl) rfl in_X11 (by decide) hlink d kk
theorem pf_48_18 (F : Fx E G cc nL own) {x : Int32} {f : Mm → Option (ρ × Mm)} (hlink : Cond.fieldLink own index "ManyHandsModel" "keptMachine" "I" ∈ W0) (d : decode cc pc = .ok (.putfield index, 3)) (kk : ∀ σ3 : Mm, KR E G nL Z (f σ3) (pc + 3) lv st σ3) : KR E G nL Z (nm (sI σ 48 18 x) f) pc lv (.int x :: .ref (ad E 48) :: st) σ := k_putI (k := 48) (j := 18) (ci := 11) (C := RX11) (T := TX11) (N := 68) F (hf := rfl) (hj2 := Nat.le_of_ble_eq_true rfl) (ty0 := tyX11) (hty := tyX11_ok) (hnm := nmX11) (hfin := rfl) (hd := by decide +kernel) (hL := rfl) rfl in_X11 (by decide) hlink d kk
theorem gf_48_19 (F : Fx E G cc nL own) (hlink : Cond.fieldLink own index "ManyHandsModel" "kept" "[I" ∈ W0) (d : decode cc pc = .ok (.getfield index, 3)) (kk : KR E G nL Z o (pc + 3) lv (.ref (ad E (60)) :: st) σ) : KR E G nL Z o pc lv (.ref (ad E 48) :: st) σ := k_getR (k := 48) (j := 19) (ci := 11) (C := RX11) (T := TX11) (N := 68) F (hf := rfl) (hL := rfl) rfl in_X11 (by decide) hlink d kk
theorem gf_48_20 (F : Fx E G cc nL own) (hlink : Cond.fieldLink own index "ManyHandsModel" "bits" "[I" ∈ W0) (d : decode cc pc = .ok (.getfield index, 3)) (kk : KR E G nL Z o (pc + 3) lv (.ref (ad E (61)) :: st) σ) : KR E G nL Z o pc lv (.ref (ad E 48) :: st) σ := k_getR (k := 48) (j := 20) (ci := 11) (C := RX11) (T := TX11) (N := 68) F (hf := rfl) (hL := rfl) rfl in_X11 (by decide) hlink d kk
theorem gf_48_21 (F : Fx E G cc nL own) (hlink : Cond.fieldLink own index "ManyHandsModel" "sizes" "[I" ∈ W0) (d : decode cc pc = .ok (.getfield index, 3)) (kk : KR E G nL Z o (pc + 3) lv (.ref (ad E (62)) :: st) σ) : KR E G nL Z o pc lv (.ref (ad E 48) :: st) σ := k_getR (k := 48) (j := 21) (ci := 11) (C := RX11) (T := TX11) (N := 68) F (hf := rfl) (hL := rfl) rfl in_X11 (by decide) hlink d kk
theorem gf_48_22 (F : Fx E G cc nL own) (hlink : Cond.fieldLink own index "ManyHandsModel" "numbers" "[J" ∈ W0) (d : decode cc pc = .ok (.getfield index, 3)) (kk : KR E G nL Z o (pc + 3) lv (.ref (ad E (63)) :: st) σ) : KR E G nL Z o pc lv (.ref (ad E 48) :: st) σ := k_getR (k := 48) (j := 22) (ci := 11) (C := RX11) (T := TX11) (N := 68) F (hf := rfl) (hL := rfl) rfl in_X11 (by decide) hlink d kk
theorem gf_48_23 (F : Fx E G cc nL own) (hlink : Cond.fieldLink own index "ManyHandsModel" "carried" "[J" ∈ W0) (d : decode cc pc = .ok (.getfield index, 3)) (kk : KR E G nL Z o (pc + 3) lv (.ref (ad E (64)) :: st) σ) : KR E G nL Z o pc lv (.ref (ad E 48) :: st) σ := k_getR (k := 48) (j := 23) (ci := 11) (C := RX11) (T := TX11) (N := 68) F (hf := rfl) (hL := rfl) rfl in_X11 (by decide) hlink d kk
theorem gf_48_24 (F : Fx E G cc nL own) (hlink : Cond.fieldLink own index "ManyHandsModel" "at" "I" ∈ W0) (d : decode cc pc = .ok (.getfield index, 3)) (kk : KR E G nL Z o (pc + 3) lv (.int (σ.1 48 24) :: st) σ) : KR E G nL Z o pc lv (.ref (ad E 48) :: st) σ := k_getI (k := 48) (j := 24) (ci := 11) (C := RX11) (T := TX11) (N := 68) F (hf := rfl) (hL := rfl) rfl in_X11 (by decide) hlink d kk
theorem pf_48_24 (F : Fx E G cc nL own) {x : Int32} {f : Mm → Option (ρ × Mm)} (hlink : Cond.fieldLink own index "ManyHandsModel" "at" "I" ∈ W0) (d : decode cc pc = .ok (.putfield index, 3)) (kk : ∀ σ3 : Mm, KR E G nL Z (f σ3) (pc + 3) lv st σ3) : KR E G nL Z (nm (sI σ 48 24 x) f) pc lv (.int x :: .ref (ad E 48) :: st) σ := k_putI (k := 48) (j := 24) (ci := 11) (C := RX11) (T := TX11) (N := 68) F (hf := rfl) (hj2 := Nat.le_of_ble_eq_true rfl) (ty0 := tyX11) (hty := tyX11_ok) (hnm := nmX11) (hfin := rfl) (hd := by decide +kernel) (hL := rfl) rfl in_X11 (by decide) hlink d kk
theorem gf_48_25 (F : Fx E G cc nL own) (hlink : Cond.fieldLink own index "ManyHandsModel" "begin" "I" ∈ W0) (d : decode cc pc = .ok (.getfield index, 3)) (kk : KR E G nL Z o (pc + 3) lv (.int (σ.1 48 25) :: st) σ) : KR E G nL Z o pc lv (.ref (ad E 48) :: st) σ := k_getI (k := 48) (j := 25) (ci := 11) (C := RX11) (T := TX11) (N := 68) F (hf := rfl) (hL := rfl) rfl in_X11 (by decide) hlink d kk
theorem pf_48_25 (F : Fx E G cc nL own) {x : Int32} {f : Mm → Option (ρ × Mm)} (hlink : Cond.fieldLink own index "ManyHandsModel" "begin" "I" ∈ W0) (d : decode cc pc = .ok (.putfield index, 3)) (kk : ∀ σ3 : Mm, KR E G nL Z (f σ3) (pc + 3) lv st σ3) : KR E G nL Z (nm (sI σ 48 25 x) f) pc lv (.int x :: .ref (ad E 48) :: st) σ := k_putI (k := 48) (j := 25) (ci := 11) (C := RX11) (T := TX11) (N := 68) F (hf := rfl) (hj2 := Nat.le_of_ble_eq_true rfl) (ty0 := tyX11) (hty := tyX11_ok) (hnm := nmX11) (hfin := rfl) (hd := by decide +kernel) (hL := rfl) rfl in_X11 (by decide) hlink d kk
theorem gf_48_26 (F : Fx E G cc nL own) (hlink : Cond.fieldLink own index "ManyHandsModel" "token" "I" ∈ W0) (d : decode cc pc = .ok (.getfield index, 3)) (kk : KR E G nL Z o (pc + 3) lv (.int (σ.1 48 26) :: st) σ) : KR E G nL Z o pc lv (.ref (ad E 48) :: st) σ := k_getI (k := 48) (j := 26) (ci := 11) (C := RX11) (T := TX11) (N := 68) F (hf := rfl) (hL := rfl) rfl in_X11 (by decide) hlink d kk
theorem pf_48_26 (F : Fx E G cc nL own) {x : Int32} {f : Mm → Option (ρ × Mm)} (hlink : Cond.fieldLink own index "ManyHandsModel" "token" "I" ∈ W0) (d : decode cc pc = .ok (.putfield index, 3)) (kk : ∀ σ3 : Mm, KR E G nL Z (f σ3) (pc + 3) lv st σ3) : KR E G nL Z (nm (sI σ 48 26 x) f) pc lv (.int x :: .ref (ad E 48) :: st) σ := k_putI (k := 48) (j := 26) (ci := 11) (C := RX11) (T := TX11) (N := 68) F (hf := rfl) (hj2 := Nat.le_of_ble_eq_true rfl) (ty0 := tyX11) (hty := tyX11_ok) (hnm := nmX11) (hfin := rfl) (hd := by decide +kernel) (hL := rfl) rfl in_X11 (by decide) hlink d kk
theorem gf_48_27 (F : Fx E G cc nL own) (hlink : Cond.fieldLink own index "ManyHandsModel" "tells" "I" ∈ W0) (d : decode cc pc = .ok (.getfield index, 3)) (kk : KR E G nL Z o (pc + 3) lv (.int (σ.1 48 27) :: st) σ) : KR E G nL Z o pc lv (.ref (ad E 48) :: st) σ := k_getI (k := 48) (j := 27) (ci := 11) (C := RX11) (T := TX11) (N := 68) F (hf := rfl) (hL := rfl) rfl in_X11 (by decide) hlink d kk
theorem pf_48_27 (F : Fx E G cc nL own) {x : Int32} {f : Mm → Option (ρ × Mm)} (hlink : Cond.fieldLink own index "ManyHandsModel" "tells" "I" ∈ W0) (d : decode cc pc = .ok (.putfield index, 3)) (kk : ∀ σ3 : Mm, KR E G nL Z (f σ3) (pc + 3) lv st σ3) : KR E G nL Z (nm (sI σ 48 27 x) f) pc lv (.int x :: .ref (ad E 48) :: st) σ := k_putI (k := 48) (j := 27) (ci := 11) (C := RX11) (T := TX11) (N := 68) F (hf := rfl) (hj2 := Nat.le_of_ble_eq_true rfl) (ty0 := tyX11) (hty := tyX11_ok) (hnm := nmX11) (hfin := rfl) (hd := by decide +kernel) (hL := rfl) rfl in_X11 (by decide) hlink d kk
theorem gf_48_28 (F : Fx E G cc nL own) (hlink : Cond.fieldLink own index "ManyHandsModel" "fault" "I" ∈ W0) (d : decode cc pc = .ok (.getfield index, 3)) (kk : KR E G nL Z o (pc + 3) lv (.int (σ.1 48 28) :: st) σ) : KR E G nL Z o pc lv (.ref (ad E 48) :: st) σ := k_getI (k := 48) (j := 28) (ci := 11) (C := RX11) (T := TX11) (N := 68) F (hf := rfl) (hL := rfl) rfl in_X11 (by decide) hlink d kk
theorem pf_48_28 (F : Fx E G cc nL own) {x : Int32} {f : Mm → Option (ρ × Mm)} (hlink : Cond.fieldLink own index "ManyHandsModel" "fault" "I" ∈ W0) (d : decode cc pc = .ok (.putfield index, 3)) (kk : ∀ σ3 : Mm, KR E G nL Z (f σ3) (pc + 3) lv st σ3) : KR E G nL Z (nm (sI σ 48 28 x) f) pc lv (.int x :: .ref (ad E 48) :: st) σ := k_putI (k := 48) (j := 28) (ci := 11) (C := RX11) (T := TX11) (N := 68) F (hf := rfl) (hj2 := Nat.le_of_ble_eq_true rfl) (ty0 := tyX11) (hty := tyX11_ok) (hnm := nmX11) (hfin := rfl) (hd := by decide +kernel) (hL := rfl) rfl in_X11 (by decide) hlink d kk
theorem gf_48_29 (F : Fx E G cc nL own) (hlink : Cond.fieldLink own index "ManyHandsModel" "words" "[J" ∈ W0) (d : decode cc pc = .ok (.getfield index, 3)) (kk : KR E G nL Z o (pc + 3) lv (.ref (ad E (65)) :: st) σ) : KR E G nL Z o pc lv (.ref (ad E 48) :: st) σ := k_getR (k := 48) (j := 29) (ci := 11) (C := RX11) (T := TX11) (N := 68) F (hf := rfl) (hL := rfl) rfl in_X11 (by decide) hlink d kk
theorem gf_48_30 (F : Fx E G cc nL own) (hlink : Cond.fieldLink own index "ManyHandsModel" "doneMany" "[I" ∈ W0) (d : decode cc pc = .ok (.getfield index, 3)) (kk : KR E G nL Z o (pc + 3) lv (.ref (ad E (66)) :: st) σ) : KR E G nL Z o pc lv (.ref (ad E 48) :: st) σ := k_getR (k := 48) (j := 30) (ci := 11) (C := RX11) (T := TX11) (N := 68) F (hf := rfl) (hL := rfl) rfl in_X11 (by decide) hlink d kk
theorem gf_48_31 (F : Fx E G cc nL own) (hlink : Cond.fieldLink own index "ManyHandsModel" "doneKind" "[I" ∈ W0) (d : decode cc pc = .ok (.getfield index, 3)) (kk : KR E G nL Z o (pc + 3) lv (.ref (ad E (67)) :: st) σ) : KR E G nL Z o pc lv (.ref (ad E 48) :: st) σ := k_getR (k := 48) (j := 31) (ci := 11) (C := RX11) (T := TX11) (N := 68) F (hf := rfl) (hL := rfl) rfl in_X11 (by decide) hlink d kk
theorem gf_48_32 (F : Fx E G cc nL own) (hlink : Cond.fieldLink own index "ManyHandsModel" "doneCell" "[I" ∈ W0) (d : decode cc pc = .ok (.getfield index, 3)) (kk : KR E G nL Z o (pc + 3) lv (.ref (ad E (68)) :: st) σ) : KR E G nL Z o pc lv (.ref (ad E 48) :: st) σ := k_getR (k := 48) (j := 32) (ci := 11) (C := RX11) (T := TX11) (N := 68) F (hf := rfl) (hL := rfl) rfl in_X11 (by decide) hlink d kk
theorem gf_48_33 (F : Fx E G cc nL own) (hlink : Cond.fieldLink own index "ManyHandsModel" "doneValue" "[I" ∈ W0) (d : decode cc pc = .ok (.getfield index, 3)) (kk : KR E G nL Z o (pc + 3) lv (.ref (ad E (69)) :: st) σ) : KR E G nL Z o pc lv (.ref (ad E 48) :: st) σ := k_getR (k := 48) (j := 33) (ci := 11) (C := RX11) (T := TX11) (N := 68) F (hf := rfl) (hL := rfl) rfl in_X11 (by decide) hlink d kk
theorem gf_48_34 (F : Fx E G cc nL own) (hlink : Cond.fieldLink own index "ManyHandsModel" "doneOther" "[I" ∈ W0) (d : decode cc pc = .ok (.getfield index, 3)) (kk : KR E G nL Z o (pc + 3) lv (.ref (ad E (70)) :: st) σ) : KR E G nL Z o pc lv (.ref (ad E 48) :: st) σ := k_getR (k := 48) (j := 34) (ci := 11) (C := RX11) (T := TX11) (N := 68) F (hf := rfl) (hL := rfl) rfl in_X11 (by decide) hlink d kk
theorem gf_48_35 (F : Fx E G cc nL own) (hlink : Cond.fieldLink own index "ManyHandsModel" "doneTo" "[I" ∈ W0) (d : decode cc pc = .ok (.getfield index, 3)) (kk : KR E G nL Z o (pc + 3) lv (.ref (ad E (71)) :: st) σ) : KR E G nL Z o pc lv (.ref (ad E 48) :: st) σ := k_getR (k := 48) (j := 35) (ci := 11) (C := RX11) (T := TX11) (N := 68) F (hf := rfl) (hL := rfl) rfl in_X11 (by decide) hlink d kk
theorem gf_48_36 (F : Fx E G cc nL own) (hlink : Cond.fieldLink own index "ManyHandsModel" "writes" "[I" ∈ W0) (d : decode cc pc = .ok (.getfield index, 3)) (kk : KR E G nL Z o (pc + 3) lv (.ref (ad E (72)) :: st) σ) : KR E G nL Z o pc lv (.ref (ad E 48) :: st) σ := k_getR (k := 48) (j := 36) (ci := 11) (C := RX11) (T := TX11) (N := 68) F (hf := rfl) (hL := rfl) rfl in_X11 (by decide) hlink d kk
theorem gf_48_37 (F : Fx E G cc nL own) (hlink : Cond.fieldLink own index "ManyHandsModel" "writeMany" "I" ∈ W0) (d : decode cc pc = .ok (.getfield index, 3)) (kk : KR E G nL Z o (pc + 3) lv (.int (σ.1 48 37) :: st) σ) : KR E G nL Z o pc lv (.ref (ad E 48) :: st) σ := k_getI (k := 48) (j := 37) (ci := 11) (C := RX11) (T := TX11) (N := 68) F (hf := rfl) (hL := rfl) rfl in_X11 (by decide) hlink d kk
theorem pf_48_37 (F : Fx E G cc nL own) {x : Int32} {f : Mm → Option (ρ × Mm)} (hlink : Cond.fieldLink own index "ManyHandsModel" "writeMany" "I" ∈ W0) (d : decode cc pc = .ok (.putfield index, 3)) (kk : ∀ σ3 : Mm, KR E G nL Z (f σ3) (pc + 3) lv st σ3) : KR E G nL Z (nm (sI σ 48 37 x) f) pc lv (.int x :: .ref (ad E 48) :: st) σ := k_putI (k := 48) (j := 37) (ci := 11) (C := RX11) (T := TX11) (N := 68) F (hf := rfl) (hj2 := Nat.le_of_ble_eq_true rfl) (ty0 := tyX11) (hty := tyX11_ok) (hnm := nmX11) (hfin := rfl) (hd := by decide +kernel) (hL := rfl) rfl in_X11 (by decide) hlink d kk
theorem gf_48_38 (F : Fx E G cc nL own) (hlink : Cond.fieldLink own index "ManyHandsModel" "movedTo" "[I" ∈ W0) (d : decode cc pc = .ok (.getfield index, 3)) (kk : KR E G nL Z o (pc + 3) lv (.ref (ad E (73)) :: st) σ) : KR E G nL Z o pc lv (.ref (ad E 48) :: st) σ := k_getR (k := 48) (j := 38) (ci := 11) (C := RX11) (T := TX11) (N := 68) F (hf := rfl) (hL := rfl) rfl in_X11 (by decide) hlink d kk
theorem gf_48_39 (F : Fx E G cc nL own) (hlink : Cond.fieldLink own index "ManyHandsModel" "cells" "[I" ∈ W0) (d : decode cc pc = .ok (.getfield index, 3)) (kk : KR E G nL Z o (pc + 3) lv (.ref (ad E (74)) :: st) σ) : KR E G nL Z o pc lv (.ref (ad E 48) :: st) σ := k_getR (k := 48) (j := 39) (ci := 11) (C := RX11) (T := TX11) (N := 68) F (hf := rfl) (hL := rfl) rfl in_X11 (by decide) hlink d kk
theorem gf_48_40 (F : Fx E G cc nL own) (hlink : Cond.fieldLink own index "ManyHandsModel" "call" "[I" ∈ W0) (d : decode cc pc = .ok (.getfield index, 3)) (kk : KR E G nL Z o (pc + 3) lv (.ref (ad E (75)) :: st) σ) : KR E G nL Z o pc lv (.ref (ad E 48) :: st) σ := k_getR (k := 48) (j := 40) (ci := 11) (C := RX11) (T := TX11) (N := 68) F (hf := rfl) (hL := rfl) rfl in_X11 (by decide) hlink d kk
theorem gf_48_41 (F : Fx E G cc nL own) (hlink : Cond.fieldLink own index "ManyHandsModel" "place" "[I" ∈ W0) (d : decode cc pc = .ok (.getfield index, 3)) (kk : KR E G nL Z o (pc + 3) lv (.ref (ad E (76)) :: st) σ) : KR E G nL Z o pc lv (.ref (ad E 48) :: st) σ := k_getR (k := 48) (j := 41) (ci := 11) (C := RX11) (T := TX11) (N := 68) F (hf := rfl) (hL := rfl) rfl in_X11 (by decide) hlink d kk
theorem gf_48_42 (F : Fx E G cc nL own) (hlink : Cond.fieldLink own index "ManyHandsModel" "a" "[I" ∈ W0) (d : decode cc pc = .ok (.getfield index, 3)) (kk : KR E G nL Z o (pc + 3) lv (.ref (ad E (77)) :: st) σ) : KR E G nL Z o pc lv (.ref (ad E 48) :: st) σ := k_getR (k := 48) (j := 42) (ci := 11) (C := RX11) (T := TX11) (N := 68) F (hf := rfl) (hL := rfl) rfl in_X11 (by decide) hlink d kk
theorem gf_48_43 (F : Fx E G cc nL own) (hlink : Cond.fieldLink own index "ManyHandsModel" "b" "[I" ∈ W0) (d : decode cc pc = .ok (.getfield index, 3)) (kk : KR E G nL Z o (pc + 3) lv (.ref (ad E (78)) :: st) σ) : KR E G nL Z o pc lv (.ref (ad E 48) :: st) σ := k_getR (k := 48) (j := 43) (ci := 11) (C := RX11) (T := TX11) (N := 68) F (hf := rfl) (hL := rfl) rfl in_X11 (by decide) hlink d kk
theorem gf_48_44 (F : Fx E G cc nL own) (hlink : Cond.fieldLink own index "ManyHandsModel" "waits" "[I" ∈ W0) (d : decode cc pc = .ok (.getfield index, 3)) (kk : KR E G nL Z o (pc + 3) lv (.ref (ad E (79)) :: st) σ) : KR E G nL Z o pc lv (.ref (ad E 48) :: st) σ := k_getR (k := 48) (j := 44) (ci := 11) (C := RX11) (T := TX11) (N := 68) F (hf := rfl) (hL := rfl) rfl in_X11 (by decide) hlink d kk
theorem gf_48_45 (F : Fx E G cc nL own) (hlink : Cond.fieldLink own index "ManyHandsModel" "waitCell" "[I" ∈ W0) (d : decode cc pc = .ok (.getfield index, 3)) (kk : KR E G nL Z o (pc + 3) lv (.ref (ad E (80)) :: st) σ) : KR E G nL Z o pc lv (.ref (ad E 48) :: st) σ := k_getR (k := 48) (j := 45) (ci := 11) (C := RX11) (T := TX11) (N := 68) F (hf := rfl) (hL := rfl) rfl in_X11 (by decide) hlink d kk
theorem gf_48_46 (F : Fx E G cc nL own) (hlink : Cond.fieldLink own index "ManyHandsModel" "waitValue" "[I" ∈ W0) (d : decode cc pc = .ok (.getfield index, 3)) (kk : KR E G nL Z o (pc + 3) lv (.ref (ad E (81)) :: st) σ) : KR E G nL Z o pc lv (.ref (ad E 48) :: st) σ := k_getR (k := 48) (j := 46) (ci := 11) (C := RX11) (T := TX11) (N := 68) F (hf := rfl) (hL := rfl) rfl in_X11 (by decide) hlink d kk
theorem gf_48_47 (F : Fx E G cc nL own) (hlink : Cond.fieldLink own index "ManyHandsModel" "touched" "I" ∈ W0) (d : decode cc pc = .ok (.getfield index, 3)) (kk : KR E G nL Z o (pc + 3) lv (.int (σ.1 48 47) :: st) σ) : KR E G nL Z o pc lv (.ref (ad E 48) :: st) σ := k_getI (k := 48) (j := 47) (ci := 11) (C := RX11) (T := TX11) (N := 68) F (hf := rfl) (hL := rfl) rfl in_X11 (by decide) hlink d kk
theorem pf_48_47 (F : Fx E G cc nL own) {x : Int32} {f : Mm → Option (ρ × Mm)} (hlink : Cond.fieldLink own index "ManyHandsModel" "touched" "I" ∈ W0) (d : decode cc pc = .ok (.putfield index, 3)) (kk : ∀ σ3 : Mm, KR E G nL Z (f σ3) (pc + 3) lv st σ3) : KR E G nL Z (nm (sI σ 48 47 x) f) pc lv (.int x :: .ref (ad E 48) :: st) σ := k_putI (k := 48) (j := 47) (ci := 11) (C := RX11) (T := TX11) (N := 68) F (hf := rfl) (hj2 := Nat.le_of_ble_eq_true rfl) (ty0 := tyX11) (hty := tyX11_ok) (hnm := nmX11) (hfin := rfl) (hd := by decide +kernel) (hL := rfl) rfl in_X11 (by decide) hlink d kk
theorem gf_48_48 (F : Fx E G cc nL own) (hlink : Cond.fieldLink own index "ManyHandsModel" "isFresh" "Z" ∈ W0) (d : decode cc pc = .ok (.getfield index, 3)) (kk : KR E G nL Z o (pc + 3) lv (.int (σ.1 48 48) :: st) σ) : KR E G nL Z o pc lv (.ref (ad E 48) :: st) σ := k_getI (k := 48) (j := 48) (ci := 11) (C := RX11) (T := TX11) (N := 68) F (hf := rfl) (hL := rfl) rfl in_X11 (by decide) hlink d kk
theorem pf_48_48 (F : Fx E G cc nL own) {x : Int32} {f : Mm → Option (ρ × Mm)} (hlink : Cond.fieldLink own index "ManyHandsModel" "isFresh" "Z" ∈ W0) (d : decode cc pc = .ok (.putfield index, 3)) (kk : ∀ σ3 : Mm, KR E G nL Z (f σ3) (pc + 3) lv st σ3) : KR E G nL Z (cb x (nm (sI σ 48 48 x) f)) pc lv (.int x :: .ref (ad E 48) :: st) σ := k_putZ (k := 48) (j := 48) (ci := 11) (C := RX11) (T := TX11) (N := 68) F (hf := rfl) (hj2 := Nat.le_of_ble_eq_true rfl) (ty0 := tyX11) (hty := tyX11_ok) (hnm := nmX11) (hfin := rfl) (hd := by decide +kernel) (hL := rfl) rfl in_X11 (by decide) hlink d kk
theorem gf_48_49 (F : Fx E G cc nL own) (hlink : Cond.fieldLink own index "ManyHandsModel" "isGreat" "Z" ∈ W0) (d : decode cc pc = .ok (.getfield index, 3)) (kk : KR E G nL Z o (pc + 3) lv (.int (σ.1 48 49) :: st) σ) : KR E G nL Z o pc lv (.ref (ad E 48) :: st) σ := k_getI (k := 48) (j := 49) (ci := 11) (C := RX11) (T := TX11) (N := 68) F (hf := rfl) (hL := rfl) rfl in_X11 (by decide) hlink d kk
theorem pf_48_49 (F : Fx E G cc nL own) {x : Int32} {f : Mm → Option (ρ × Mm)} (hlink : Cond.fieldLink own index "ManyHandsModel" "isGreat" "Z" ∈ W0) (d : decode cc pc = .ok (.putfield index, 3)) (kk : ∀ σ3 : Mm, KR E G nL Z (f σ3) (pc + 3) lv st σ3) : KR E G nL Z (cb x (nm (sI σ 48 49 x) f)) pc lv (.int x :: .ref (ad E 48) :: st) σ := k_putZ (k := 48) (j := 49) (ci := 11) (C := RX11) (T := TX11) (N := 68) F (hf := rfl) (hj2 := Nat.le_of_ble_eq_true rfl) (ty0 := tyX11) (hty := tyX11_ok) (hnm := nmX11) (hfin := rfl) (hd := by decide +kernel) (hL := rfl) rfl in_X11 (by decide) hlink d kk
theorem gf_48_50 (F : Fx E G cc nL own) (hlink : Cond.fieldLink own index "ManyHandsModel" "stateMany" "I" ∈ W0) (d : decode cc pc = .ok (.getfield index, 3)) (kk : KR E G nL Z o (pc + 3) lv (.int (σ.1 48 50) :: st) σ) : KR E G nL Z o pc lv (.ref (ad E 48) :: st) σ := k_getI (k := 48) (j := 50) (ci := 11) (C := RX11) (T := TX11) (N := 68) F (hf := rfl) (hL := rfl) rfl in_X11 (by decide) hlink d kk
theorem pf_48_50 (F : Fx E G cc nL own) {x : Int32} {f : Mm → Option (ρ × Mm)} (hlink : Cond.fieldLink own index "ManyHandsModel" "stateMany" "I" ∈ W0) (d : decode cc pc = .ok (.putfield index, 3)) (kk : ∀ σ3 : Mm, KR E G nL Z (f σ3) (pc + 3) lv st σ3) : KR E G nL Z (nm (sI σ 48 50 x) f) pc lv (.int x :: .ref (ad E 48) :: st) σ := k_putI (k := 48) (j := 50) (ci := 11) (C := RX11) (T := TX11) (N := 68) F (hf := rfl) (hj2 := Nat.le_of_ble_eq_true rfl) (ty0 := tyX11) (hty := tyX11_ok) (hnm := nmX11) (hfin := rfl) (hd := by decide +kernel) (hL := rfl) rfl in_X11 (by decide) hlink d kk
theorem gf_48_51 (F : Fx E G cc nL own) (hlink : Cond.fieldLink own index "ManyHandsModel" "states" "[J" ∈ W0) (d : decode cc pc = .ok (.getfield index, 3)) (kk : KR E G nL Z o (pc + 3) lv (.ref (ad E (82)) :: st) σ) : KR E G nL Z o pc lv (.ref (ad E 48) :: st) σ := k_getR (k := 48) (j := 51) (ci := 11) (C := RX11) (T := TX11) (N := 68) F (hf := rfl) (hL := rfl) rfl in_X11 (by decide) hlink d kk
theorem gf_48_52 (F : Fx E G cc nL own) (hlink : Cond.fieldLink own index "ManyHandsModel" "behind" "[I" ∈ W0) (d : decode cc pc = .ok (.getfield index, 3)) (kk : KR E G nL Z o (pc + 3) lv (.ref (ad E (83)) :: st) σ) : KR E G nL Z o pc lv (.ref (ad E 48) :: st) σ := k_getR (k := 48) (j := 52) (ci := 11) (C := RX11) (T := TX11) (N := 68) F (hf := rfl) (hL := rfl) rfl in_X11 (by decide) hlink d kk
theorem gf_48_53 (F : Fx E G cc nL own) (hlink : Cond.fieldLink own index "ManyHandsModel" "far" "[I" ∈ W0) (d : decode cc pc = .ok (.getfield index, 3)) (kk : KR E G nL Z o (pc + 3) lv (.ref (ad E (84)) :: st) σ) : KR E G nL Z o pc lv (.ref (ad E 48) :: st) σ := k_getR (k := 48) (j := 53) (ci := 11) (C := RX11) (T := TX11) (N := 68) F (hf := rfl) (hL := rfl) rfl in_X11 (by decide) hlink d kk
theorem gf_48_54 (F : Fx E G cc nL own) (hlink : Cond.fieldLink own index "ManyHandsModel" "places" "[I" ∈ W0) (d : decode cc pc = .ok (.getfield index, 3)) (kk : KR E G nL Z o (pc + 3) lv (.ref (ad E (85)) :: st) σ) : KR E G nL Z o pc lv (.ref (ad E 48) :: st) σ := k_getR (k := 48) (j := 54) (ci := 11) (C := RX11) (T := TX11) (N := 68) F (hf := rfl) (hL := rfl) rfl in_X11 (by decide) hlink d kk
theorem gf_48_55 (F : Fx E G cc nL own) (hlink : Cond.fieldLink own index "ManyHandsModel" "mark" "[Z" ∈ W0) (d : decode cc pc = .ok (.getfield index, 3)) (kk : KR E G nL Z o (pc + 3) lv (.ref (ad E (86)) :: st) σ) : KR E G nL Z o pc lv (.ref (ad E 48) :: st) σ := k_getR (k := 48) (j := 55) (ci := 11) (C := RX11) (T := TX11) (N := 68) F (hf := rfl) (hL := rfl) rfl in_X11 (by decide) hlink d kk
theorem gf_48_56 (F : Fx E G cc nL own) (hlink : Cond.fieldLink own index "ManyHandsModel" "endOf" "[I" ∈ W0) (d : decode cc pc = .ok (.getfield index, 3)) (kk : KR E G nL Z o (pc + 3) lv (.ref (ad E (87)) :: st) σ) : KR E G nL Z o pc lv (.ref (ad E 48) :: st) σ := k_getR (k := 48) (j := 56) (ci := 11) (C := RX11) (T := TX11) (N := 68) F (hf := rfl) (hL := rfl) rfl in_X11 (by decide) hlink d kk
theorem gf_48_57 (F : Fx E G cc nL own) (hlink : Cond.fieldLink own index "ManyHandsModel" "results" "[I" ∈ W0) (d : decode cc pc = .ok (.getfield index, 3)) (kk : KR E G nL Z o (pc + 3) lv (.ref (ad E (88)) :: st) σ) : KR E G nL Z o pc lv (.ref (ad E 48) :: st) σ := k_getR (k := 48) (j := 57) (ci := 11) (C := RX11) (T := TX11) (N := 68) F (hf := rfl) (hL := rfl) rfl in_X11 (by decide) hlink d kk
theorem gf_48_58 (F : Fx E G cc nL own) (hlink : Cond.fieldLink own index "ManyHandsModel" "resultMany" "I" ∈ W0) (d : decode cc pc = .ok (.getfield index, 3)) (kk : KR E G nL Z o (pc + 3) lv (.int (σ.1 48 58) :: st) σ) : KR E G nL Z o pc lv (.ref (ad E 48) :: st) σ := k_getI (k := 48) (j := 58) (ci := 11) (C := RX11) (T := TX11) (N := 68) F (hf := rfl) (hL := rfl) rfl in_X11 (by decide) hlink d kk
theorem pf_48_58 (F : Fx E G cc nL own) {x : Int32} {f : Mm → Option (ρ × Mm)} (hlink : Cond.fieldLink own index "ManyHandsModel" "resultMany" "I" ∈ W0) (d : decode cc pc = .ok (.putfield index, 3)) (kk : ∀ σ3 : Mm, KR E G nL Z (f σ3) (pc + 3) lv st σ3) : KR E G nL Z (nm (sI σ 48 58 x) f) pc lv (.int x :: .ref (ad E 48) :: st) σ := k_putI (k := 48) (j := 58) (ci := 11) (C := RX11) (T := TX11) (N := 68) F (hf := rfl) (hj2 := Nat.le_of_ble_eq_true rfl) (ty0 := tyX11) (hty := tyX11_ok) (hnm := nmX11) (hfin := rfl) (hd := by decide +kernel) (hL := rfl) rfl in_X11 (by decide) hlink d kk
theorem gf_48_59 (F : Fx E G cc nL own) (hlink : Cond.fieldLink own index "ManyHandsModel" "goods" "[I" ∈ W0) (d : decode cc pc = .ok (.getfield index, 3)) (kk : KR E G nL Z o (pc + 3) lv (.ref (ad E (89)) :: st) σ) : KR E G nL Z o pc lv (.ref (ad E 48) :: st) σ := k_getR (k := 48) (j := 59) (ci := 11) (C := RX11) (T := TX11) (N := 68) F (hf := rfl) (hL := rfl) rfl in_X11 (by decide) hlink d kk
theorem gf_48_60 (F : Fx E G cc nL own) (hlink : Cond.fieldLink own index "ManyHandsModel" "goodMany" "I" ∈ W0) (d : decode cc pc = .ok (.getfield index, 3)) (kk : KR E G nL Z o (pc + 3) lv (.int (σ.1 48 60) :: st) σ) : KR E G nL Z o pc lv (.ref (ad E 48) :: st) σ := k_getI (k := 48) (j := 60) (ci := 11) (C := RX11) (T := TX11) (N := 68) F (hf := rfl) (hL := rfl) rfl in_X11 (by decide) hlink d kk
theorem pf_48_60 (F : Fx E G cc nL own) {x : Int32} {f : Mm → Option (ρ × Mm)} (hlink : Cond.fieldLink own index "ManyHandsModel" "goodMany" "I" ∈ W0) (d : decode cc pc = .ok (.putfield index, 3)) (kk : ∀ σ3 : Mm, KR E G nL Z (f σ3) (pc + 3) lv st σ3) : KR E G nL Z (nm (sI σ 48 60 x) f) pc lv (.int x :: .ref (ad E 48) :: st) σ := k_putI (k := 48) (j := 60) (ci := 11) (C := RX11) (T := TX11) (N := 68) F (hf := rfl) (hj2 := Nat.le_of_ble_eq_true rfl) (ty0 := tyX11) (hty := tyX11_ok) (hnm := nmX11) (hfin := rfl) (hd := by decide +kernel) (hL := rfl) rfl in_X11 (by decide) hlink d kk
theorem gf_48_61 (F : Fx E G cc nL own) (hlink : Cond.fieldLink own index "ManyHandsModel" "before" "[J" ∈ W0) (d : decode cc pc = .ok (.getfield index, 3)) (kk : KR E G nL Z o (pc + 3) lv (.ref (ad E (90)) :: st) σ) : KR E G nL Z o pc lv (.ref (ad E 48) :: st) σ := k_getR (k := 48) (j := 61) (ci := 11) (C := RX11) (T := TX11) (N := 68) F (hf := rfl) (hL := rfl) rfl in_X11 (by decide) hlink d kk
theorem gf_48_62 (F : Fx E G cc nL own) (hlink : Cond.fieldLink own index "ManyHandsModel" "way" "[I" ∈ W0) (d : decode cc pc = .ok (.getfield index, 3)) (kk : KR E G nL Z o (pc + 3) lv (.ref (ad E (91)) :: st) σ) : KR E G nL Z o pc lv (.ref (ad E 48) :: st) σ := k_getR (k := 48) (j := 62) (ci := 11) (C := RX11) (T := TX11) (N := 68) F (hf := rfl) (hL := rfl) rfl in_X11 (by decide) hlink d kk
theorem gf_48_63 (F : Fx E G cc nL own) (hlink : Cond.fieldLink own index "ManyHandsModel" "wayLong" "I" ∈ W0) (d : decode cc pc = .ok (.getfield index, 3)) (kk : KR E G nL Z o (pc + 3) lv (.int (σ.1 48 63) :: st) σ) : KR E G nL Z o pc lv (.ref (ad E 48) :: st) σ := k_getI (k := 48) (j := 63) (ci := 11) (C := RX11) (T := TX11) (N := 68) F (hf := rfl) (hL := rfl) rfl in_X11 (by decide) hlink d kk
theorem pf_48_63 (F : Fx E G cc nL own) {x : Int32} {f : Mm → Option (ρ × Mm)} (hlink : Cond.fieldLink own index "ManyHandsModel" "wayLong" "I" ∈ W0) (d : decode cc pc = .ok (.putfield index, 3)) (kk : ∀ σ3 : Mm, KR E G nL Z (f σ3) (pc + 3) lv st σ3) : KR E G nL Z (nm (sI σ 48 63 x) f) pc lv (.int x :: .ref (ad E 48) :: st) σ := k_putI (k := 48) (j := 63) (ci := 11) (C := RX11) (T := TX11) (N := 68) F (hf := rfl) (hj2 := Nat.le_of_ble_eq_true rfl) (ty0 := tyX11) (hty := tyX11_ok) (hnm := nmX11) (hfin := rfl) (hd := by decide +kernel) (hL := rfl) rfl in_X11 (by decide) hlink d kk
theorem gf_48_64 (F : Fx E G cc nL own) (hlink : Cond.fieldLink own index "ManyHandsModel" "coming" "[I" ∈ W0) (d : decode cc pc = .ok (.getfield index, 3)) (kk : KR E G nL Z o (pc + 3) lv (.ref (ad E (92)) :: st) σ) : KR E G nL Z o pc lv (.ref (ad E 48) :: st) σ := k_getR (k := 48) (j := 64) (ci := 11) (C := RX11) (T := TX11) (N := 68) F (hf := rfl) (hL := rfl) rfl in_X11 (by decide) hlink d kk
theorem gf_48_65 (F : Fx E G cc nL own) (hlink : Cond.fieldLink own index "ManyHandsModel" "free" "[I" ∈ W0) (d : decode cc pc = .ok (.getfield index, 3)) (kk : KR E G nL Z o (pc + 3) lv (.ref (ad E (93)) :: st) σ) : KR E G nL Z o pc lv (.ref (ad E 48) :: st) σ := k_getR (k := 48) (j := 65) (ci := 11) (C := RX11) (T := TX11) (N := 68) F (hf := rfl) (hL := rfl) rfl in_X11 (by decide) hlink d kk
theorem gf_48_66 (F : Fx E G cc nL own) (hlink : Cond.fieldLink own index "ManyHandsModel" "costs" "I" ∈ W0) (d : decode cc pc = .ok (.getfield index, 3)) (kk : KR E G nL Z o (pc + 3) lv (.int (σ.1 48 66) :: st) σ) : KR E G nL Z o pc lv (.ref (ad E 48) :: st) σ := k_getI (k := 48) (j := 66) (ci := 11) (C := RX11) (T := TX11) (N := 68) F (hf := rfl) (hL := rfl) rfl in_X11 (by decide) hlink d kk
theorem pf_48_66 (F : Fx E G cc nL own) {x : Int32} {f : Mm → Option (ρ × Mm)} (hlink : Cond.fieldLink own index "ManyHandsModel" "costs" "I" ∈ W0) (d : decode cc pc = .ok (.putfield index, 3)) (kk : ∀ σ3 : Mm, KR E G nL Z (f σ3) (pc + 3) lv st σ3) : KR E G nL Z (nm (sI σ 48 66 x) f) pc lv (.int x :: .ref (ad E 48) :: st) σ := k_putI (k := 48) (j := 66) (ci := 11) (C := RX11) (T := TX11) (N := 68) F (hf := rfl) (hj2 := Nat.le_of_ble_eq_true rfl) (ty0 := tyX11) (hty := tyX11_ok) (hnm := nmX11) (hfin := rfl) (hd := by decide +kernel) (hL := rfl) rfl in_X11 (by decide) hlink d kk
theorem gf_48_67 (F : Fx E G cc nL own) (hlink : Cond.fieldLink own index "ManyHandsModel" "latest" "[I" ∈ W0) (d : decode cc pc = .ok (.getfield index, 3)) (kk : KR E G nL Z o (pc + 3) lv (.ref (ad E (94)) :: st) σ) : KR E G nL Z o pc lv (.ref (ad E 48) :: st) σ := k_getR (k := 48) (j := 67) (ci := 11) (C := RX11) (T := TX11) (N := 68) F (hf := rfl) (hL := rfl) rfl in_X11 (by decide) hlink d kk
theorem gf_isRow_0 (F : Fx E G cc nL own) {k : Nat} (hk : isRow k) (hlink : Cond.fieldLink own index "ManyHands$Row" "items" "[I" ∈ W0) (d : decode cc pc = .ok (.getfield index, 3)) (kk : KR E G nL Z o (pc + 3) lv (.ref (ad E (k + 1)) :: st) σ) : KR E G nL Z o pc lv (.ref (ad E k) :: st) σ := k_getR (k := k) (j := 0) (ci := 4) (C := RX4) (T := TX4) (N := 2) F (hf := rfl) (hL := (isRow_l hk)) rfl in_X4 (by decide) hlink d kk
theorem gf_isRow_1 (F : Fx E G cc nL own) {k : Nat} (hk : isRow k) (hlink : Cond.fieldLink own index "ManyHands$Row" "size" "I" ∈ W0) (d : decode cc pc = .ok (.getfield index, 3)) (kk : KR E G nL Z o (pc + 3) lv (.int (σ.1 k 1) :: st) σ) : KR E G nL Z o pc lv (.ref (ad E k) :: st) σ := k_getI (k := k) (j := 1) (ci := 4) (C := RX4) (T := TX4) (N := 2) F (hf := rfl) (hL := (isRow_l hk)) rfl in_X4 (by decide) hlink d kk
theorem pf_isRow_1 (F : Fx E G cc nL own) {k : Nat} (hk : isRow k) {x : Int32} {f : Mm → Option (ρ × Mm)} (hlink : Cond.fieldLink own index "ManyHands$Row" "size" "I" ∈ W0) (d : decode cc pc = .ok (.putfield index, 3)) (kk : ∀ σ3 : Mm, KR E G nL Z (f σ3) (pc + 3) lv st σ3) : KR E G nL Z (nm (sI σ k 1 x) f) pc lv (.int x :: .ref (ad E k) :: st) σ := k_putI (k := k) (j := 1) (ci := 4) (C := RX4) (T := TX4) (N := 2) F (hf := rfl) (hj2 := Nat.le_of_ble_eq_true rfl) (ty0 := tyX4) (hty := tyX4_ok) (hnm := nmX4) (hfin := rfl) (hd := by decide +kernel) (hL := (isRow_l hk)) rfl in_X4 (by decide) hlink d kk
theorem gf_isSh_0 (F : Fx E G cc nL own) {k : Nat} (hk : isSh k) (hlink : Cond.fieldLink own index "ManyHands$Sheet" "bits" "I" ∈ W0) (d : decode cc pc = .ok (.getfield index, 3)) (kk : KR E G nL Z o (pc + 3) lv (.int (σ.1 k 0) :: st) σ) : KR E G nL Z o pc lv (.ref (ad E k) :: st) σ := k_getI (k := k) (j := 0) (ci := 6) (C := RX6) (T := TX6) (N := 3) F (hf := rfl) (hL := (isSh_l hk)) rfl in_X6 (by decide) hlink d kk
theorem pf_isSh_0 (F : Fx E G cc nL own) {k : Nat} (hk : isSh k) {x : Int32} {f : Mm → Option (ρ × Mm)} (hlink : Cond.fieldLink own index "ManyHands$Sheet" "bits" "I" ∈ W0) (d : decode cc pc = .ok (.putfield index, 3)) (kk : ∀ σ3 : Mm, KR E G nL Z (f σ3) (pc + 3) lv st σ3) : KR E G nL Z (nm (sI σ k 0 x) f) pc lv (.int x :: .ref (ad E k) :: st) σ := k_putI (k := k) (j := 0) (ci := 6) (C := RX6) (T := TX6) (N := 3) F (hf := rfl) (hj2 := Nat.le_of_ble_eq_true rfl) (ty0 := tyX6) (hty := tyX6_ok) (hnm := nmX6) (hfin := rfl) (hd := by decide +kernel) (hL := (isSh_l hk)) rfl in_X6 (by decide) hlink d kk
theorem gf_isSh_1 (F : Fx E G cc nL own) {k : Nat} (hk : isSh k) (hlink : Cond.fieldLink own index "ManyHands$Sheet" "size" "I" ∈ W0) (d : decode cc pc = .ok (.getfield index, 3)) (kk : KR E G nL Z o (pc + 3) lv (.int (σ.1 k 1) :: st) σ) : KR E G nL Z o pc lv (.ref (ad E k) :: st) σ := k_getI (k := k) (j := 1) (ci := 6) (C := RX6) (T := TX6) (N := 3) F (hf := rfl) (hL := (isSh_l hk)) rfl in_X6 (by decide) hlink d kk
theorem pf_isSh_1 (F : Fx E G cc nL own) {k : Nat} (hk : isSh k) {x : Int32} {f : Mm → Option (ρ × Mm)} (hlink : Cond.fieldLink own index "ManyHands$Sheet" "size" "I" ∈ W0) (d : decode cc pc = .ok (.putfield index, 3)) (kk : ∀ σ3 : Mm, KR E G nL Z (f σ3) (pc + 3) lv st σ3) : KR E G nL Z (nm (sI σ k 1 x) f) pc lv (.int x :: .ref (ad E k) :: st) σ := k_putI (k := k) (j := 1) (ci := 6) (C := RX6) (T := TX6) (N := 3) F (hf := rfl) (hj2 := Nat.le_of_ble_eq_true rfl) (ty0 := tyX6) (hty := tyX6_ok) (hnm := nmX6) (hfin := rfl) (hd := by decide +kernel) (hL := (isSh_l hk)) rfl in_X6 (by decide) hlink d kk
theorem gf_isSh_2 (F : Fx E G cc nL own) {k : Nat} (hk : isSh k) (hlink : Cond.fieldLink own index "ManyHands$Sheet" "numbers" "[J" ∈ W0) (d : decode cc pc = .ok (.getfield index, 3)) (kk : KR E G nL Z o (pc + 3) lv (.ref (ad E (k + 1)) :: st) σ) : KR E G nL Z o pc lv (.ref (ad E k) :: st) σ := k_getR (k := k) (j := 2) (ci := 6) (C := RX6) (T := TX6) (N := 3) F (hf := rfl) (hL := (isSh_l hk)) rfl in_X6 (by decide) hlink d kk
theorem gf_isSe_0 (F : Fx E G cc nL own) {k : Nat} (hk : isSe k) (hlink : Cond.fieldLink own index "ManyHands$Setup" "calls" "I" ∈ W0) (d : decode cc pc = .ok (.getfield index, 3)) (kk : KR E G nL Z o (pc + 3) lv (.int (σ.1 k 0) :: st) σ) : KR E G nL Z o pc lv (.ref (ad E k) :: st) σ := k_getI (k := k) (j := 0) (ci := 5) (C := RX5) (T := TX5) (N := 8) F (hf := rfl) (hL := (isSe_l hk)) rfl in_X5 (by decide) hlink d kk
theorem pf_isSe_0 (F : Fx E G cc nL own) {k : Nat} (hk : isSe k) {x : Int32} {f : Mm → Option (ρ × Mm)} (hlink : Cond.fieldLink own index "ManyHands$Setup" "calls" "I" ∈ W0) (d : decode cc pc = .ok (.putfield index, 3)) (kk : ∀ σ3 : Mm, KR E G nL Z (f σ3) (pc + 3) lv st σ3) : KR E G nL Z (nm (sI σ k 0 x) f) pc lv (.int x :: .ref (ad E k) :: st) σ := k_putI (k := k) (j := 0) (ci := 5) (C := RX5) (T := TX5) (N := 8) F (hf := rfl) (hj2 := Nat.le_of_ble_eq_true rfl) (ty0 := tyX5) (hty := tyX5_ok) (hnm := nmX5) (hfin := rfl) (hd := by decide +kernel) (hL := (isSe_l hk)) rfl in_X5 (by decide) hlink d kk
theorem gf_isSe_1 (F : Fx E G cc nL own) {k : Nat} (hk : isSe k) (hlink : Cond.fieldLink own index "ManyHands$Setup" "lengths" "[I" ∈ W0) (d : decode cc pc = .ok (.getfield index, 3)) (kk : KR E G nL Z o (pc + 3) lv (.ref (ad E (k + 1)) :: st) σ) : KR E G nL Z o pc lv (.ref (ad E k) :: st) σ := k_getR (k := k) (j := 1) (ci := 5) (C := RX5) (T := TX5) (N := 8) F (hf := rfl) (hL := (isSe_l hk)) rfl in_X5 (by decide) hlink d kk
theorem gf_isSe_2 (F : Fx E G cc nL own) {k : Nat} (hk : isSe k) (hlink : Cond.fieldLink own index "ManyHands$Setup" "code" "[I" ∈ W0) (d : decode cc pc = .ok (.getfield index, 3)) (kk : KR E G nL Z o (pc + 3) lv (.ref (ad E (k + 2)) :: st) σ) : KR E G nL Z o pc lv (.ref (ad E k) :: st) σ := k_getR (k := k) (j := 2) (ci := 5) (C := RX5) (T := TX5) (N := 8) F (hf := rfl) (hL := (isSe_l hk)) rfl in_X5 (by decide) hlink d kk
theorem gf_isSe_3 (F : Fx E G cc nL own) {k : Nat} (hk : isSe k) (hlink : Cond.fieldLink own index "ManyHands$Setup" "hands" "I" ∈ W0) (d : decode cc pc = .ok (.getfield index, 3)) (kk : KR E G nL Z o (pc + 3) lv (.int (σ.1 k 3) :: st) σ) : KR E G nL Z o pc lv (.ref (ad E k) :: st) σ := k_getI (k := k) (j := 3) (ci := 5) (C := RX5) (T := TX5) (N := 8) F (hf := rfl) (hL := (isSe_l hk)) rfl in_X5 (by decide) hlink d kk
theorem pf_isSe_3 (F : Fx E G cc nL own) {k : Nat} (hk : isSe k) {x : Int32} {f : Mm → Option (ρ × Mm)} (hlink : Cond.fieldLink own index "ManyHands$Setup" "hands" "I" ∈ W0) (d : decode cc pc = .ok (.putfield index, 3)) (kk : ∀ σ3 : Mm, KR E G nL Z (f σ3) (pc + 3) lv st σ3) : KR E G nL Z (nm (sI σ k 3 x) f) pc lv (.int x :: .ref (ad E k) :: st) σ := k_putI (k := k) (j := 3) (ci := 5) (C := RX5) (T := TX5) (N := 8) F (hf := rfl) (hj2 := Nat.le_of_ble_eq_true rfl) (ty0 := tyX5) (hty := tyX5_ok) (hnm := nmX5) (hfin := rfl) (hd := by decide +kernel) (hL := (isSe_l hk)) rfl in_X5 (by decide) hlink d kk
theorem gf_isSe_4 (F : Fx E G cc nL own) {k : Nat} (hk : isSe k) (hlink : Cond.fieldLink own index "ManyHands$Setup" "firstCalls" "[I" ∈ W0) (d : decode cc pc = .ok (.getfield index, 3)) (kk : KR E G nL Z o (pc + 3) lv (.ref (ad E (k + 3)) :: st) σ) : KR E G nL Z o pc lv (.ref (ad E k) :: st) σ := k_getR (k := k) (j := 4) (ci := 5) (C := RX5) (T := TX5) (N := 8) F (hf := rfl) (hL := (isSe_l hk)) rfl in_X5 (by decide) hlink d kk
theorem gf_isSe_5 (F : Fx E G cc nL own) {k : Nat} (hk : isSe k) (hlink : Cond.fieldLink own index "ManyHands$Setup" "thenCalls" "[I" ∈ W0) (d : decode cc pc = .ok (.getfield index, 3)) (kk : KR E G nL Z o (pc + 3) lv (.ref (ad E (k + 4)) :: st) σ) : KR E G nL Z o pc lv (.ref (ad E k) :: st) σ := k_getR (k := k) (j := 5) (ci := 5) (C := RX5) (T := TX5) (N := 8) F (hf := rfl) (hL := (isSe_l hk)) rfl in_X5 (by decide) hlink d kk
theorem gf_isSe_6 (F : Fx E G cc nL own) {k : Nat} (hk : isSe k) (hlink : Cond.fieldLink own index "ManyHands$Setup" "firstValues" "[I" ∈ W0) (d : decode cc pc = .ok (.getfield index, 3)) (kk : KR E G nL Z o (pc + 3) lv (.ref (ad E (k + 5)) :: st) σ) : KR E G nL Z o pc lv (.ref (ad E k) :: st) σ := k_getR (k := k) (j := 6) (ci := 5) (C := RX5) (T := TX5) (N := 8) F (hf := rfl) (hL := (isSe_l hk)) rfl in_X5 (by decide) hlink d kk
theorem gf_isSe_7 (F : Fx E G cc nL own) {k : Nat} (hk : isSe k) (hlink : Cond.fieldLink own index "ManyHands$Setup" "machineNumber" "I" ∈ W0) (d : decode cc pc = .ok (.getfield index, 3)) (kk : KR E G nL Z o (pc + 3) lv (.int (σ.1 k 7) :: st) σ) : KR E G nL Z o pc lv (.ref (ad E k) :: st) σ := k_getI (k := k) (j := 7) (ci := 5) (C := RX5) (T := TX5) (N := 8) F (hf := rfl) (hL := (isSe_l hk)) rfl in_X5 (by decide) hlink d kk
theorem pf_isSe_7 (F : Fx E G cc nL own) {k : Nat} (hk : isSe k) {x : Int32} {f : Mm → Option (ρ × Mm)} (hlink : Cond.fieldLink own index "ManyHands$Setup" "machineNumber" "I" ∈ W0) (d : decode cc pc = .ok (.putfield index, 3)) (kk : ∀ σ3 : Mm, KR E G nL Z (f σ3) (pc + 3) lv st σ3) : KR E G nL Z (nm (sI σ k 7 x) f) pc lv (.int x :: .ref (ad E k) :: st) σ := k_putI (k := k) (j := 7) (ci := 5) (C := RX5) (T := TX5) (N := 8) F (hf := rfl) (hj2 := Nat.le_of_ble_eq_true rfl) (ty0 := tyX5) (hty := tyX5_ok) (hnm := nmX5) (hfin := rfl) (hd := by decide +kernel) (hL := (isSe_l hk)) rfl in_X5 (by decide) hlink d kk
end FROWS
def cpy {β : Type} (n0 n1 : Nat) (sp dp n : Int32) (o : Option β) : Option β := if sp < 0 ∨ dp < 0 ∨ n < 0 ∨ n0 < sp.toNatClampNeg + n.toNatClampNeg ∨ n1 < dp.toNatClampNeg + n.toNatClampNeg then none else o
theorem cpy_some {β : Type} {n0 n1 : Nat} {sp dp n : Int32} {o : Option β} {r : β} (h : cpy n0 n1 sp dp n o = some r) : (¬ sp < 0 ∧ ¬ dp < 0 ∧ ¬ n < 0 ∧ sp.toNatClampNeg + n.toNatClampNeg ≤ n0 ∧ dp.toNatClampNeg + n.toNatClampNeg ≤ n1) ∧ o = some r := by
  unfold cpy at h
  split at h
  · cases h
  · rename_i hc
    simp only [not_or, Nat.not_lt] at hc
    exact ⟨hc, h⟩
theorem k_cpI {ρ : Type} {E : En} {G : Cx} {cc : ByteArray} {nL index d : Nat} {own : String} {ret : Option FieldType} {Z : ρ → Mm → State → Prop} {pc : Nat} {lv : List (Nat × Value)} {st : List Value} {σ : Mm} (B : Bx E G cc nL own d ret) {k0 k1 n0 n1 : Nat} {sp dp n : Int32} {f : Mm → Option (ρ × Mm)} (hL0 : lay[k0]? = some (.inl (0, n0))) (hL1 : lay[k1]? = some (.inl (0, n1))) (h1 : Cond.methodLink own index arraycopyName ∈ W0) (hd : 1 ≤ d) (hr : (st.map fun v => v.category).sum + (nativeFrameWords "java/lang/System" "arraycopy" 5 + 11) ≤ 40 * d) (dd : decode cc pc = .ok (.invokestatic index, 3)) (kk : ∀ σ3 : Mm, KR E G nL Z (f σ3) (pc + 3) lv st σ3) : KR E G nL Z (cpy n0 n1 sp dp n (nm (sR σ k1 (va_cpy (σ.1 k0) (σ.1 k1) (ix sp) (ix dp) (ix n))) f)) pc lv (.int n :: .int dp :: .ref (ad E k1) :: .int sp :: .ref (ad E k0) :: st) σ := by
  intro H locs ls r σ2 ho hP hD hS hl
  obtain ⟨⟨q1, q2, q3, q4, q5⟩, ho⟩ := cpy_some ho
  obtain ⟨hx, hb, hml, hown, hts, hK, hT, hlk, hcl, hsl⟩ := B.1
  refine va_copyi hx hb (hml.trans hl.1.symm) hown (hts _ h1) (hts _ w_3_140) (hts _ w_3_139) (hts _ w_1_18) hK hP hD hS k0 k1 k0 k1 (wd_at hL0) (wd_at hL1) (tyl_at hL0) (tyl_at hL1) rfl q1 q2 q3 q4 q5 (fun _ _ => rfl) (Nat.le_trans hd B.2.1.1) (Nat.le_trans hr B.2.1.2) dd (fun H1 locs1 hP1 hD1 hS1 => ?_)
  have e : (wd E σ).set k1 (ad E k1, .inl (cA E k1, n1, .inl (va_cpy (σ.1 k0) (σ.1 k1) (ix sp) (ix dp) (ix n)))) = wd E (sR σ k1 (va_cpy (σ.1 k0) (σ.1 k1) (ix sp) (ix dp) (ix n))) := by
    rw [← wd_set (σ' := sR σ k1 (va_cpy (σ.1 k0) (σ.1 k1) (ix sp) (ix dp) (ix n))) hL1 (sR_ne _ _ _)]
    congr 2
    show Sum.inl (cA E k1, n1, Sum.inl _) = Sum.inl (cA E k1, n1, Sum.inl ((sR σ k1 _).1 k1))
    rw [sR_eq]
  have hP2 := e ▸ hP1
  have hD2 := e ▸ hD1
  exact kk _ H1 locs1 ls r σ2 ho hP2 hD2 hS1 hl
theorem k_cpL {ρ : Type} {E : En} {G : Cx} {cc : ByteArray} {nL index d : Nat} {own : String} {ret : Option FieldType} {Z : ρ → Mm → State → Prop} {pc : Nat} {lv : List (Nat × Value)} {st : List Value} {σ : Mm} (B : Bx E G cc nL own d ret) {k0 k1 n0 n1 : Nat} {sp dp n : Int32} {f : Mm → Option (ρ × Mm)} (hL0 : lay[k0]? = some (.inl (2, n0))) (hL1 : lay[k1]? = some (.inl (2, n1))) (h1 : Cond.methodLink own index arraycopyName ∈ W0) (hd : 1 ≤ d) (hr : (st.map fun v => v.category).sum + (nativeFrameWords "java/lang/System" "arraycopy" 5 + 11) ≤ 40 * d) (dd : decode cc pc = .ok (.invokestatic index, 3)) (kk : ∀ σ3 : Mm, KR E G nL Z (f σ3) (pc + 3) lv st σ3) : KR E G nL Z (cpy n0 n1 sp dp n (nm (sQ σ k1 (va_cpy (σ.2 k0) (σ.2 k1) (ix sp) (ix dp) (ix n))) f)) pc lv (.int n :: .int dp :: .ref (ad E k1) :: .int sp :: .ref (ad E k0) :: st) σ := by
  intro H locs ls r σ2 ho hP hD hS hl
  obtain ⟨⟨q1, q2, q3, q4, q5⟩, ho⟩ := cpy_some ho
  obtain ⟨hx, hb, hml, hown, hts, hK, hT, hlk, hcl, hsl⟩ := B.1
  refine va_copyl hx hb (hml.trans hl.1.symm) hown (hts _ h1) (hts _ w_3_140) (hts _ w_3_139) (hts _ w_1_18) hK hP hD hS k0 k1 k0 k1 (wd_at hL0) (wd_at hL1) (tyl_at hL0) (tyl_at hL1) rfl q1 q2 q3 q4 q5 (fun _ _ => rfl) (Nat.le_trans hd B.2.1.1) (Nat.le_trans hr B.2.1.2) dd (fun H1 locs1 hP1 hD1 hS1 => ?_)
  have e : (wd E σ).set k1 (ad E k1, .inl (cA E k1, n1, .inr (.inl (va_cpy (σ.2 k0) (σ.2 k1) (ix sp) (ix dp) (ix n))))) = wd E (sQ σ k1 (va_cpy (σ.2 k0) (σ.2 k1) (ix sp) (ix dp) (ix n))) := by
    rw [← wd_set (σ' := sQ σ k1 (va_cpy (σ.2 k0) (σ.2 k1) (ix sp) (ix dp) (ix n))) hL1 (sQ_ne _ _ _)]
    congr 2
    show Sum.inl (cA E k1, n1, Sum.inr (Sum.inl _)) = Sum.inl (cA E k1, n1, Sum.inr (Sum.inl ((sQ σ k1 _).2 k1)))
    rw [sQ_eq]
  have hP2 := e ▸ hP1
  have hD2 := e ▸ hD1
  exact kk _ H1 locs1 ls r σ2 ho hP2 hD2 hS1 hl
def stV0 (j : Nat) : Int32 := ([-1, 0, 0, 0, 3, 0, 0, 0] : List Int32).getD j 0
def stQ0 : String × String × List Int32 := ("ManyHands", "UNDER", [-1, 0, 0, 0, 3, 0, 0, 0])
def stV1 (j : Nat) : Int32 := ([1, 3, 7, 15, 7, 1, 17, 5] : List Int32).getD j 0
def stQ1 : String × String × List Int32 := ("ManyHands", "PARTS_OF_KIND", [1, 3, 7, 15, 7, 1, 17, 5])
def stV2 (j : Nat) : Int32 := ([1, 2, 2, 3, 4, 5, 7, 0, 6] : List Int32).getD j 0
def stQ2 : String × String × List Int32 := ("ManyHands$Reader", "KIND_OF_WORD", [1, 2, 2, 3, 4, 5, 7, 0, 6])
def stV3 (j : Nat) : Int32 := ([2, 2, 6, 14, 6, 0, 4, 0, 16] : List Int32).getD j 0
def stQ3 : String × String × List Int32 := ("ManyHands$Reader", "PARTS_OF_WORD", [2, 2, 6, 14, 6, 0, 4, 0, 16])
theorem k_slen {ρ : Type} {E : En} {G : Cx} {cc : ByteArray} {nL : Nat} {own : String} {Z : ρ → Mm → State → Prop} {o : Option (ρ × Mm)} {pc : Nat} {lv : List (Nat × Value)} {st : List Value} {σ : Mm} (F : Fx E G cc nL own) {q : String × String × List Int32} {v : Int32} (t : Nat) (hq : stT[t]? = some q) (hv : Int32.ofNat q.2.2.length = v) (d : decode cc pc = .ok (.arraylength, 1)) (kk : KR E G nL Z o (pc + 1) lv (.int v :: st) σ) : KR E G nL Z o pc lv (.ref (zA E t) :: st) σ := fun H locs ls r σ2 ho hP hD hS hl => va_tlen F.1 F.2.1 (F.2.2.2.2.2.2.1.1 t q hq).2 hS hv d (kk H locs ls r σ2 ho hP hD hS hl)
theorem ne_i {x c : Int32} {z : Int} (hz : c.toInt = z) (h : ¬ x = c) : ¬ x.toInt = z := fun e => h (Int32.toInt_inj.mp (e.trans hz.symm))
theorem fx_ind {γ : Type} {P : γ → Prop} {bot : γ} {F : γ → γ} (h0 : P bot) (hs : ∀ f, P f → P (F f)) : ∀ n, P (fx bot n F)
  | 0 => h0
  | n + 1 => hs _ (fx_ind h0 hs n)
