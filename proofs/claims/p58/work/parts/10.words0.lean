theorem uX0 : ∀ w ∈ u_ws RX0 TX0 7, w ∈ hq_ws := by
  intro w hw
  have h : w ∈ ([u_lay RX0 TX0 0, u_lay RX0 TX0 1, u_lay RX0 TX0 2, u_lay RX0 TX0 3, u_lay RX0 TX0 4, u_lay RX0 TX0 5, u_lay RX0 TX0 6] : List Cond) := hw
  simp only [List.mem_cons, List.not_mem_nil, or_false] at h
  rcases h with rfl | rfl | rfl | rfl | rfl | rfl | rfl
  · exact hq_m1 88 rfl rfl
  · exact hq_m1 90 rfl rfl
  · exact hq_m1 92 rfl rfl
  · exact hq_m1 94 rfl rfl
  · exact hq_m1 96 rfl rfl
  · exact hq_m1 98 rfl rfl
  · exact hq_m1 100 rfl rfl
theorem uX4 : ∀ w ∈ u_ws RX4 TX4 7, w ∈ hq_ws := by
  intro w hw
  have h : w ∈ ([u_lay RX4 TX4 0, u_lay RX4 TX4 1, u_lay RX4 TX4 2, u_lay RX4 TX4 3, u_lay RX4 TX4 4, u_lay RX4 TX4 5, u_lay RX4 TX4 6] : List Cond) := hw
  simp only [List.mem_cons, List.not_mem_nil, or_false] at h
  rcases h with rfl | rfl | rfl | rfl | rfl | rfl | rfl
  · exact hq_m1 60 rfl rfl
  · exact hq_m1 62 rfl rfl
  · exact hq_m1 64 rfl rfl
  · exact hq_m1 66 rfl rfl
  · exact hq_m1 68 rfl rfl
  · exact hq_m1 70 rfl rfl
  · exact hq_m1 72 rfl rfl
theorem uX6 : ∀ w ∈ u_ws RX6 TX6 9, w ∈ hq_ws := by
  intro w hw
  have h : w ∈ ([u_lay RX6 TX6 0, u_lay RX6 TX6 1, u_lay RX6 TX6 2, u_lay RX6 TX6 3, u_lay RX6 TX6 4, u_lay RX6 TX6 5, u_lay RX6 TX6 6, u_lay RX6 TX6 7, u_lay RX6 TX6 8] : List Cond) := hw
  simp only [List.mem_cons, List.not_mem_nil, or_false] at h
  rcases h with rfl | rfl | rfl | rfl | rfl | rfl | rfl | rfl | rfl
  · exact hq_m1 185 rfl rfl
  · exact hq_m1 187 rfl rfl
  · exact hq_m1 189 rfl rfl
  · exact hq_m1 191 rfl rfl
  · exact hq_m1 193 rfl rfl
  · exact hq_m1 195 rfl rfl
  · exact hq_m1 197 rfl rfl
  · exact hq_m1 199 rfl rfl
  · exact hq_m1 201 rfl rfl
theorem uX3 : ∀ w ∈ u_ws RX3 TX3 4, w ∈ hq_ws := by
  intro w hw
  have h : w ∈ ([u_lay RX3 TX3 0, u_lay RX3 TX3 1, u_lay RX3 TX3 2, u_lay RX3 TX3 3] : List Cond) := hw
  simp only [List.mem_cons, List.not_mem_nil, or_false] at h
  rcases h with rfl | rfl | rfl | rfl
  · exact hq_m1 117 rfl rfl
  · exact hq_m1 119 rfl rfl
  · exact hq_m1 121 rfl rfl
  · exact hq_m1 123 rfl rfl
theorem uX2 : ∀ w ∈ u_ws RX2 TX2 7, w ∈ hq_ws := by
  intro w hw
  have h : w ∈ ([u_lay RX2 TX2 0, u_lay RX2 TX2 1, u_lay RX2 TX2 2, u_lay RX2 TX2 3, u_lay RX2 TX2 4, u_lay RX2 TX2 5, u_lay RX2 TX2 6] : List Cond) := hw
  simp only [List.mem_cons, List.not_mem_nil, or_false] at h
  rcases h with rfl | rfl | rfl | rfl | rfl | rfl | rfl
  · exact hq_m1 132 rfl rfl
  · exact hq_m1 134 rfl rfl
  · exact hq_m1 136 rfl rfl
  · exact hq_m1 138 rfl rfl
  · exact hq_m1 140 rfl rfl
  · exact hq_m1 142 rfl rfl
  · exact hq_m1 144 rfl rfl
theorem uX1 : ∀ w ∈ u_ws RX1 TX1 3, w ∈ hq_ws := by
  intro w hw
  have h : w ∈ ([u_lay RX1 TX1 0, u_lay RX1 TX1 1, u_lay RX1 TX1 2] : List Cond) := hw
  simp only [List.mem_cons, List.not_mem_nil, or_false] at h
  rcases h with rfl | rfl | rfl
  · exact hq_m1 158 rfl rfl
  · exact hq_m1 160 rfl rfl
  · exact hq_m1 162 rfl rfl
theorem uX5 : ∀ w ∈ u_ws RX5 TX5 1, w ∈ hq_ws := by
  intro w hw
  have h : w ∈ ([u_lay RX5 TX5 0] : List Cond) := hw
  simp only [List.mem_cons, List.not_mem_nil, or_false] at h
  rcases h with rfl
  exact hq_m1 173 rfl rfl
theorem wS_mmax : Cond.static Lib.Math.max.name ∈ hq_ws := hq_m3 57 rfl rfl
theorem wC_mmax : Cond.code Lib.Math.max.name Lib.Math.max.code 2 (some .int) ∈ hq_ws := hq_m3 58 rfl rfl
theorem wS_mmin : Cond.static Lib.Math.min.name ∈ hq_ws := hq_m4 72 rfl rfl
theorem wC_mmin : Cond.code Lib.Math.min.name Lib.Math.min.code 2 (some .int) ∈ hq_ws := hq_m4 73 rfl rfl
theorem wI_Math : Cond.initialized "java/lang/Math" ∈ hq_ws := hq_m1 13 rfl rfl
theorem wF_RX6_10 : Cond.fieldLink RX6 10 "HouseClauses" "now" "LHouseClauses$House;" ∈ hq_ws := hq_m1 176 rfl rfl
theorem wF_RX6_16 : Cond.fieldLink RX6 16 "HouseClauses" "snapshot" "LHouseClauses$House;" ∈ hq_ws := hq_m1 177 rfl rfl
theorem wF_RX6_19 : Cond.fieldLink RX6 19 "HouseClauses" "hasSnapshot" "Z" ∈ hq_ws := hq_m1 178 rfl rfl
theorem wF_RX6_26 : Cond.fieldLink RX6 26 "HouseClauses" "past" "LHouseClauses$Past;" ∈ hq_ws := hq_m1 179 rfl rfl
theorem wF_RX6_48 : Cond.fieldLink RX6 48 "HouseClauses" "joiner" "LHouseClauses$Joiner;" ∈ hq_ws := hq_m1 183 rfl rfl
theorem wF_RX6_55 : Cond.fieldLink RX6 55 "HouseClauses" "sets" "LHouseClauses$SetTable;" ∈ hq_ws := hq_m1 184 rfl rfl
theorem wF_RX6_70 : Cond.fieldLink RX6 70 "HouseClauses$House" "count" "I" ∈ hq_ws := hq_m1 79 rfl rfl
theorem wF_RX6_97 : Cond.fieldLink RX6 97 "HouseClauses$Rule" "strict" "Z" ∈ hq_ws := hq_m1 49 rfl rfl
theorem wF_RX6_149 : Cond.fieldLink RX6 149 "HouseClauses$House" "today" "I" ∈ hq_ws := hq_m1 84 rfl rfl
theorem wF_RX6_154 : Cond.fieldLink RX6 154 "HouseClauses$Past" "count" "I" ∈ hq_ws := hq_m1 116 rfl rfl
theorem wF_RX6_160 : Cond.fieldLink RX6 160 "HouseClauses$Rule" "letRooms" "I" ∈ hq_ws := hq_m1 41 rfl rfl
theorem wF_RX6_163 : Cond.fieldLink RX6 163 "HouseClauses$Rule" "emptyRooms" "I" ∈ hq_ws := hq_m1 44 rfl rfl
theorem wF_RX6_166 : Cond.fieldLink RX6 166 "HouseClauses$Rule" "price" "I" ∈ hq_ws := hq_m1 47 rfl rfl
theorem wF_RX6_178 : Cond.fieldLink RX6 178 "HouseClauses$House" "guests" "I" ∈ hq_ws := hq_m1 82 rfl rfl
theorem wF_RX6_190 : Cond.fieldLink RX6 190 "HouseClauses$Rule" "brought" "I" ∈ hq_ws := hq_m1 55 rfl rfl
theorem wF_RX6_193 : Cond.fieldLink RX6 193 "HouseClauses$House" "nightly" "I" ∈ hq_ws := hq_m1 86 rfl rfl
theorem wF_RX6_217 : Cond.fieldLink RX6 217 "HouseClauses$Joiner" "count" "I" ∈ hq_ws := hq_m1 157 rfl rfl
theorem wF_RX6_320 : Cond.fieldLink RX6 320 "HouseClauses$Rule" "heldWays" "J" ∈ hq_ws := hq_m1 59 rfl rfl
theorem wF_RX0_11 : Cond.fieldLink RX0 11 "HouseClauses$House" "list" "[LHouseClauses$Rule;" ∈ hq_ws := hq_m1 75 rfl rfl
theorem wF_RX0_18 : Cond.fieldLink RX0 18 "HouseClauses$House" "spare" "LHouseClauses$Rule;" ∈ hq_ws := hq_m1 76 rfl rfl
theorem wF_RX0_22 : Cond.fieldLink RX0 22 "HouseClauses$House" "count" "I" ∈ hq_ws := hq_m1 80 rfl rfl
theorem wF_RX0_26 : Cond.fieldLink RX0 26 "HouseClauses$House" "guests" "I" ∈ hq_ws := hq_m1 81 rfl rfl
theorem wF_RX0_29 : Cond.fieldLink RX0 29 "HouseClauses$House" "today" "I" ∈ hq_ws := hq_m1 83 rfl rfl
theorem wF_RX0_32 : Cond.fieldLink RX0 32 "HouseClauses$House" "nightly" "I" ∈ hq_ws := hq_m1 85 rfl rfl
theorem wF_RX0_35 : Cond.fieldLink RX0 35 "HouseClauses$House" "withdrawn" "I" ∈ hq_ws := hq_m1 87 rfl rfl
theorem wF_RX0_50 : Cond.fieldLink RX0 50 "HouseClauses$Rule" "brought" "I" ∈ hq_ws := hq_m1 54 rfl rfl
theorem wF_RX0_53 : Cond.fieldLink RX0 53 "HouseClauses$Rule" "firstDayInForce" "I" ∈ hq_ws := hq_m1 52 rfl rfl
theorem wF_RX0_70 : Cond.fieldLink RX0 70 "HouseClauses$Rule" "price" "I" ∈ hq_ws := hq_m1 46 rfl rfl
theorem wF_RX0_85 : Cond.fieldLink RX0 85 "HouseClauses$Rule" "heldWays" "J" ∈ hq_ws := hq_m1 58 rfl rfl
theorem wF_RX0_96 : Cond.fieldLink RX0 96 "HouseClauses$Rule" "strict" "Z" ∈ hq_ws := hq_m1 50 rfl rfl
theorem wF_RX1_9 : Cond.fieldLink RX1 9 "HouseClauses$Joiner" "made" "[I" ∈ hq_ws := hq_m1 154 rfl rfl
theorem wF_RX1_15 : Cond.fieldLink RX1 15 "HouseClauses$Joiner" "seen" "[J" ∈ hq_ws := hq_m1 155 rfl rfl
theorem wF_RX1_19 : Cond.fieldLink RX1 19 "HouseClauses$Joiner" "count" "I" ∈ hq_ws := hq_m1 156 rfl rfl
theorem wF_RX1_29 : Cond.fieldLink RX1 29 "HouseClauses$House" "count" "I" ∈ hq_ws := hq_m1 77 rfl rfl
theorem wF_RX1_36 : Cond.fieldLink RX1 36 "HouseClauses$Rule" "letRooms" "I" ∈ hq_ws := hq_m1 40 rfl rfl
theorem wF_RX1_41 : Cond.fieldLink RX1 41 "HouseClauses$Rule" "emptyRooms" "I" ∈ hq_ws := hq_m1 43 rfl rfl
theorem wF_RX3_11 : Cond.fieldLink RX3 11 "HouseClauses$Past" "ring" "[LHouseClauses$House;" ∈ hq_ws := hq_m1 112 rfl rfl
theorem wF_RX3_18 : Cond.fieldLink RX3 18 "HouseClauses$Past" "spare" "LHouseClauses$House;" ∈ hq_ws := hq_m1 113 rfl rfl
theorem wF_RX3_22 : Cond.fieldLink RX3 22 "HouseClauses$Past" "oldest" "I" ∈ hq_ws := hq_m1 114 rfl rfl
theorem wF_RX3_26 : Cond.fieldLink RX3 26 "HouseClauses$Past" "count" "I" ∈ hq_ws := hq_m1 115 rfl rfl
theorem wF_RX4_9 : Cond.fieldLink RX4 9 "HouseClauses$Rule" "letRooms" "I" ∈ hq_ws := hq_m1 39 rfl rfl
theorem wF_RX4_15 : Cond.fieldLink RX4 15 "HouseClauses$Rule" "emptyRooms" "I" ∈ hq_ws := hq_m1 42 rfl rfl
theorem wF_RX4_18 : Cond.fieldLink RX4 18 "HouseClauses$Rule" "price" "I" ∈ hq_ws := hq_m1 45 rfl rfl
theorem wF_RX4_21 : Cond.fieldLink RX4 21 "HouseClauses$Rule" "strict" "Z" ∈ hq_ws := hq_m1 48 rfl rfl
theorem wF_RX4_25 : Cond.fieldLink RX4 25 "HouseClauses$Rule" "firstDayInForce" "I" ∈ hq_ws := hq_m1 51 rfl rfl
theorem wF_RX4_28 : Cond.fieldLink RX4 28 "HouseClauses$Rule" "brought" "I" ∈ hq_ws := hq_m1 53 rfl rfl
theorem wF_RX4_31 : Cond.fieldLink RX4 31 "HouseClauses$Rule" "heldWays" "J" ∈ hq_ws := hq_m1 56 rfl rfl
theorem wF_RX5_9 : Cond.fieldLink RX5 9 "HouseClauses$SetTable" "open" "[J" ∈ hq_ws := hq_m1 172 rfl rfl
theorem wF_RX5_17 : Cond.fieldLink RX5 17 "HouseClauses$House" "count" "I" ∈ hq_ws := hq_m1 78 rfl rfl
theorem wF_RX5_31 : Cond.fieldLink RX5 31 "HouseClauses$Rule" "heldWays" "J" ∈ hq_ws := hq_m1 57 rfl rfl
theorem wKI_RJ6_265 : Cond.constant RJ6 265 1431655765 ∈ hq_ws := hq_m3 203 rfl rfl
theorem wKI_RJ6_266 : Cond.constant RJ6 266 858993459 ∈ hq_ws := hq_m3 204 rfl rfl
theorem wKI_RJ6_267 : Cond.constant RJ6 267 252645135 ∈ hq_ws := hq_m3 205 rfl rfl
theorem wKL_RX6_253 : Cond.constantLong RX6 253 (-1) ∈ hq_ws := hq_m3 115 rfl rfl
theorem wKL_RX0_83 : Cond.constantLong RX0 83 (-1) ∈ hq_ws := hq_m3 114 rfl rfl
theorem wKL_RX5_15 : Cond.constantLong RX5 15 (-1) ∈ hq_ws := hq_m3 190 rfl rfl
theorem wKL_RJ13_314 : Cond.constantLong RJ13 314 6148914691236517205 ∈ hq_ws := hq_m3 175 rfl rfl
theorem wKL_RJ13_316 : Cond.constantLong RJ13 316 3689348814741910323 ∈ hq_ws := hq_m3 176 rfl rfl
theorem wKL_RJ13_318 : Cond.constantLong RJ13 318 1085102592571150095 ∈ hq_ws := hq_m3 177 rfl rfl
theorem wM_RX6_78 : Cond.methodLink RX6 78 yX3_save ∈ hq_ws := hq_m2 65 rfl rfl
theorem wM_RX6_82 : Cond.methodLink RX6 82 yX0_addRule ∈ hq_ws := hq_m2 117 rfl rfl
theorem wM_RX6_86 : Cond.methodLink RX6 86 yX6_requireRule ∈ hq_ws := hq_m2 138 rfl rfl
theorem wM_RX6_90 : Cond.methodLink RX6 90 yX0_dropRule ∈ hq_ws := hq_m2 158 rfl rfl
theorem wM_RX6_93 : Cond.methodLink RX6 93 yX0_at ∈ hq_ws := hq_m2 169 rfl rfl
theorem wM_RX6_104 : Cond.methodLink RX6 104 yX0_waiveRule ∈ hq_ws := hq_m2 178 rfl rfl
theorem wM_RX6_108 : Cond.methodLink RX6 108 yX6_requireRoom ∈ hq_ws := hq_m2 189 rfl rfl
theorem wM_RX6_111 : Cond.methodLink RX6 111 yX0_canTurn ∈ hq_ws := hq_m2 193 rfl rfl
theorem wM_RX6_117 : Cond.methodLink RX6 117 yX0_turn ∈ hq_ws := hq_m2 203 rfl rfl
theorem wM_RX6_123 : Cond.methodLink RX6 123 yX6_requireNights ∈ hq_ws := hq_m2 222 rfl rfl
theorem wM_RX6_126 : Cond.methodLink RX6 126 yX0_passNights ∈ hq_ws := hq_m2 226 rfl rfl
theorem wM_RX6_146 : Cond.methodLink RX6 146 yX0_become ∈ hq_ws := hq_m1 208 rfl rfl
theorem wM_RX6_157 : Cond.methodLink RX6 157 yX3_restore ∈ hq_ws := hq_m2 83 rfl rfl
theorem wM_RX6_169 : Cond.methodLink RX6 169 yX0_daysWaived ∈ hq_ws := hq_m3 52 rfl rfl
theorem wM_RX6_174 : Cond.methodLink RX6 174 yX4_holdsOn ∈ hq_ws := hq_m3 98 rfl rfl
theorem wM_RX6_181 : Cond.methodLink RX6 181 yX0_rulesInForce ∈ hq_ws := hq_m3 73 rfl rfl
theorem wM_RX6_184 : Cond.methodLink RX6 184 yX0_rulesBroken ∈ hq_ws := hq_m3 81 rfl rfl
theorem wM_RX6_187 : Cond.methodLink RX6 187 yX0_refuser ∈ hq_ws := hq_m4 78 rfl rfl
theorem wM_RX6_196 : Cond.methodLink RX6 196 yX0_accounts ∈ hq_ws := hq_m3 86 rfl rfl
theorem wM_RX6_199 : Cond.methodLink RX6 199 yX6_requireSet ∈ hq_ws := hq_m4 5 rfl rfl
theorem wM_RX6_202 : Cond.methodLink RX6 202 yX0_waysOf ∈ hq_ws := hq_m3 110 rfl rfl
theorem wM_RX6_206 : Cond.methodLink RX6 206 yX6_splitWays ∈ hq_ws := hq_m3 127 rfl rfl
theorem wM_RX6_210 : Cond.methodLink RX6 210 yX1_joinAll ∈ hq_ws := hq_m4 24 rfl rfl
theorem wM_RX6_214 : Cond.methodLink RX6 214 yX1_hasNothing ∈ hq_ws := hq_m4 40 rfl rfl
theorem wM_RX6_218 : Cond.methodLink RX6 218 yX6_countWays ∈ hq_ws := hq_m3 162 rfl rfl
theorem wM_RX6_221 : Cond.methodLink RX6 221 yX0_peacefulWays ∈ hq_ws := hq_m3 166 rfl rfl
theorem wM_RX6_225 : Cond.methodLink RX6 225 yX6_hasWay ∈ hq_ws := hq_m3 228 rfl rfl
theorem wM_RX6_229 : Cond.methodLink RX6 229 yX6_commonIn ∈ hq_ws := hq_m4 93 rfl rfl
theorem wM_RX6_232 : Cond.methodLink RX6 232 yX6_followsFromOthers ∈ hq_ws := hq_m3 106 rfl rfl
theorem wM_RX6_235 : Cond.methodLink RX6 235 yX6_followsWhenSplit ∈ hq_ws := hq_m3 123 rfl rfl
theorem wM_RX6_238 : Cond.methodLink RX6 238 yX5_fill ∈ hq_ws := hq_m3 186 rfl rfl
theorem wM_RX6_241 : Cond.methodLink RX6 241 yX6_isPartOf ∈ hq_ws := hq_m3 196 rfl rfl
theorem wM_RX6_245 : Cond.methodLink RX6 245 yX5_of ∈ hq_ws := hq_m3 199 rfl rfl
theorem wM_RX6_248 : Cond.methodLink RX6 248 yJ6_bitCount_0f7a4 ∈ hq_ws := hq_m3 200 rfl rfl
theorem wM_RX6_255 : Cond.methodLink RX6 255 yX6_leastClash ∈ hq_ws := hq_m3 210 rfl rfl
theorem wM_RX6_259 : Cond.methodLink RX6 259 yX5_isNarrowClash ∈ hq_ws := hq_m4 59 rfl rfl
theorem wM_RX6_262 : Cond.methodLink RX6 262 yJ6_compare_7cf53 ∈ hq_ws := hq_m3 217 rfl rfl
theorem wM_RX6_265 : Cond.methodLink RX6 265 yX6_oneTurnFurther ∈ hq_ws := hq_m3 235 rfl rfl
theorem wM_RX6_269 : Cond.methodLink RX6 269 yX0_nightIn ∈ hq_ws := hq_m3 142 rfl rfl
theorem wM_RX6_272 : Cond.methodLink RX6 272 yX0_pricesOf ∈ hq_ws := hq_m4 67 rfl rfl
theorem wM_RX6_275 : Cond.methodLink RX6 275 yX6_splitCheapest ∈ hq_ws := hq_m4 68 rfl rfl
theorem wM_RX6_279 : Cond.methodLink RX6 279 yX0_nightsAhead ∈ hq_ws := hq_m3 153 rfl rfl
theorem wM_RX6_315 : Cond.methodLink RX6 315 yJ13_bitCount_95d88 ∈ hq_ws := hq_m3 172 rfl rfl
theorem wM_RX6_324 : Cond.methodLink RX6 324 yX0_rulesLost ∈ hq_ws := hq_m3 130 rfl rfl
theorem wM_RX6_327 : Cond.methodLink RX6 327 yJ9_min_7cf53 ∈ hq_ws := hq_m4 71 rfl rfl
theorem wM_RX0_38 : Cond.methodLink RX0 38 yX0_at ∈ hq_ws := hq_m1 212 rfl rfl
theorem wM_RX0_42 : Cond.methodLink RX0 42 yX4_become ∈ hq_ws := hq_m1 216 rfl rfl
theorem wM_RX0_46 : Cond.methodLink RX0 46 yX4_begin ∈ hq_ws := hq_m2 121 rfl rfl
theorem wM_RX0_56 : Cond.methodLink RX0 56 yJ9_max_7cf53 ∈ hq_ws := hq_m3 56 rfl rfl
theorem wM_RX0_62 : Cond.methodLink RX0 62 yX4_holdsOn ∈ hq_ws := hq_m2 201 rfl rfl
theorem wM_RX0_66 : Cond.methodLink RX0 66 yX4_hasLostAll ∈ hq_ws := hq_m3 134 rfl rfl
theorem wM_RX0_73 : Cond.methodLink RX0 73 yX0_rulesBroken ∈ hq_ws := hq_m2 234 rfl rfl
theorem wM_RX0_76 : Cond.methodLink RX0 76 yX0_pricesOf ∈ hq_ws := hq_m2 238 rfl rfl
theorem wM_RX0_80 : Cond.methodLink RX0 80 yX0_nightIn ∈ hq_ws := hq_m3 157 rfl rfl
theorem wM_RX0_89 : Cond.methodLink RX0 89 yX0_rulesInForce ∈ hq_ws := hq_m3 170 rfl rfl
theorem wM_RX0_92 : Cond.methodLink RX0 92 yX0_waysOf ∈ hq_ws := hq_m3 171 rfl rfl
theorem wM_RX0_100 : Cond.methodLink RX0 100 yX0_refuser ∈ hq_ws := hq_m2 197 rfl rfl
theorem wM_RX0_103 : Cond.methodLink RX0 103 yX0_passNight ∈ hq_ws := hq_m2 230 rfl rfl
theorem wM_RX1_23 : Cond.methodLink RX1 23 yJ7_fill_d0a16 ∈ hq_ws := hq_m4 28 rfl rfl
theorem wM_RX1_32 : Cond.methodLink RX1 32 yX0_at ∈ hq_ws := hq_m4 31 rfl rfl
theorem wM_RX1_44 : Cond.methodLink RX1 44 yX1_add ∈ hq_ws := hq_m4 32 rfl rfl
theorem wM_RX1_48 : Cond.methodLink RX1 48 yX1_joinWithEarlier ∈ hq_ws := hq_m4 36 rfl rfl
theorem wM_RX3_29 : Cond.methodLink RX3 29 yX3_place ∈ hq_ws := hq_m2 69 rfl rfl
theorem wM_RX3_33 : Cond.methodLink RX3 33 yX0_become ∈ hq_ws := hq_m2 73 rfl rfl
theorem wM_RX4_35 : Cond.methodLink RX4 35 yX4_holdsOn ∈ hq_ws := hq_m2 125 rfl rfl
theorem wM_RX5_23 : Cond.methodLink RX5 23 yX5_of ∈ hq_ws := hq_m3 191 rfl rfl
theorem wM_RX5_27 : Cond.methodLink RX5 27 yX0_at ∈ hq_ws := hq_m3 195 rfl rfl
theorem wCL_59 : Cond.classLink RX6 59 "java/lang/IllegalArgumentException" ∈ hq_ws := hq_m2 98 rfl rfl
theorem wIN_IllegalArgumentException : Cond.initialized "java/lang/IllegalArgumentException" ∈ hq_ws := hq_m1 14 rfl rfl
theorem wAT_63 : ∀ w ∈ vx_atS RX6 63 "java/lang/IllegalArgumentException" ["java/lang/RuntimeException", "java/lang/Exception"], w ∈ hq_ws ∨ w ∈ hq_wx := by
  intro w hw
  have e : vx_atS RX6 63 "java/lang/IllegalArgumentException" ["java/lang/RuntimeException", "java/lang/Exception"] = [.initialized "java/lang/Throwable", .superclass "java/lang/Throwable" "java/lang/Object", .instanceMethod ⟨"java/lang/Throwable", "fillInStackTrace", "()Ljava/lang/Throwable;"⟩, .codeSync ⟨"java/lang/Throwable", "fillInStackTrace", "()Ljava/lang/Throwable;"⟩ prog_19_method_18_code 1 (some (.object "java/lang/Throwable")), .instanceMethod ⟨"java/lang/Throwable", "fillInStackTrace", "(I)Ljava/lang/Throwable;"⟩, .native ⟨"java/lang/Throwable", "fillInStackTrace", "(I)Ljava/lang/Throwable;"⟩, .instanceMethod ⟨"java/lang/Throwable", "<init>", "()V"⟩, .code ⟨"java/lang/Throwable", "<init>", "()V"⟩ prog_19_method_1_code 1 none, .instanceMethod ⟨"java/lang/Object", "<init>", "()V"⟩, .code ⟨"java/lang/Object", "<init>", "()V"⟩ ⟨#[0xb1]⟩ 1 none, .methodLink "java/lang/Throwable" 1 ⟨"java/lang/Object", "<init>", "()V"⟩, .methodLink "java/lang/Throwable" 27 ⟨"java/lang/Throwable", "fillInStackTrace", "()Ljava/lang/Throwable;"⟩, .methodLink "java/lang/Throwable" 202 ⟨"java/lang/Throwable", "fillInStackTrace", "(I)Ljava/lang/Throwable;"⟩, .fieldLink "java/lang/Throwable" 7 "java/lang/Throwable" "cause" "Ljava/lang/Throwable;", .lays "java/lang/Throwable" "java/lang/Throwable" "cause" "Ljava/lang/Throwable;", .fieldLink "java/lang/Throwable" 17 "java/lang/Throwable" "stackTrace" "[Ljava/lang/StackTraceElement;", .lays "java/lang/Throwable" "java/lang/Throwable" "stackTrace" "[Ljava/lang/StackTraceElement;", .fieldLink "java/lang/Throwable" 24 "java/lang/Throwable" "suppressedExceptions" "Ljava/util/List;", .lays "java/lang/Throwable" "java/lang/Throwable" "suppressedExceptions" "Ljava/util/List;", .fieldLink "java/lang/Throwable" 13 "java/lang/Throwable" "UNASSIGNED_STACK" "[Ljava/lang/StackTraceElement;", .fieldLink "java/lang/Throwable" 20 "java/lang/Throwable" "SUPPRESSED_SENTINEL" "Ljava/util/List;", .lays "java/lang/Throwable" "java/lang/Throwable" "detailMessage" "Ljava/lang/String;", .instanceMethod ⟨"java/lang/Throwable", "<init>", "(Ljava/lang/String;)V"⟩, .code ⟨"java/lang/Throwable", "<init>", "(Ljava/lang/String;)V"⟩ prog_19_method_2_code 2 none, .fieldLink "java/lang/Throwable" 31 "java/lang/Throwable" "detailMessage" "Ljava/lang/String;", .lays "java/lang/Throwable" "java/lang/Throwable" "detailMessage" "Ljava/lang/String;", .instanceMethod ⟨"java/lang/IllegalArgumentException", "<init>", "(Ljava/lang/String;)V"⟩, .code ⟨"java/lang/IllegalArgumentException", "<init>", "(Ljava/lang/String;)V"⟩ Bundle.six 2 none, .methodLink "java/lang/IllegalArgumentException" 7 ⟨"java/lang/RuntimeException", "<init>", "(Ljava/lang/String;)V"⟩, .instanceMethod ⟨"java/lang/RuntimeException", "<init>", "(Ljava/lang/String;)V"⟩, .declares ⟨"java/lang/RuntimeException", "<init>", "(Ljava/lang/String;)V"⟩, .instanceMethod ⟨"java/lang/RuntimeException", "<init>", "(Ljava/lang/String;)V"⟩, .code ⟨"java/lang/RuntimeException", "<init>", "(Ljava/lang/String;)V"⟩ Bundle.six 2 none, .methodLink "java/lang/RuntimeException" 7 ⟨"java/lang/Exception", "<init>", "(Ljava/lang/String;)V"⟩, .instanceMethod ⟨"java/lang/Exception", "<init>", "(Ljava/lang/String;)V"⟩, .declares ⟨"java/lang/Exception", "<init>", "(Ljava/lang/String;)V"⟩, .instanceMethod ⟨"java/lang/Exception", "<init>", "(Ljava/lang/String;)V"⟩, .code ⟨"java/lang/Exception", "<init>", "(Ljava/lang/String;)V"⟩ Bundle.six 2 none, .methodLink "java/lang/Exception" 7 ⟨"java/lang/Throwable", "<init>", "(Ljava/lang/String;)V"⟩, .instanceMethod ⟨"java/lang/Throwable", "<init>", "(Ljava/lang/String;)V"⟩, .declares ⟨"java/lang/Throwable", "<init>", "(Ljava/lang/String;)V"⟩, .methodLink "HouseClauses" 63 ⟨"java/lang/IllegalArgumentException", "<init>", "(Ljava/lang/String;)V"⟩, .instantiable "java/lang/IllegalArgumentException" 6, .castable "java/lang/IllegalArgumentException" "java/lang/IllegalArgumentException", .selects "java/lang/IllegalArgumentException" ⟨"java/lang/Throwable", "fillInStackTrace", "(I)Ljava/lang/Throwable;"⟩ ⟨"java/lang/Throwable", "fillInStackTrace", "(I)Ljava/lang/Throwable;"⟩, .selects "java/lang/IllegalArgumentException" ⟨"java/lang/Throwable", "fillInStackTrace", "()Ljava/lang/Throwable;"⟩ ⟨"java/lang/Throwable", "fillInStackTrace", "()Ljava/lang/Throwable;"⟩, .lays "java/lang/IllegalArgumentException" "java/lang/Throwable" "cause" "Ljava/lang/Throwable;", .lays "java/lang/IllegalArgumentException" "java/lang/Throwable" "stackTrace" "[Ljava/lang/StackTraceElement;", .lays "java/lang/IllegalArgumentException" "java/lang/Throwable" "suppressedExceptions" "Ljava/util/List;", .lays "java/lang/IllegalArgumentException" "java/lang/Throwable" "detailMessage" "Ljava/lang/String;", .fieldLink "java/lang/Throwable" 198 "java/lang/Throwable" "backtrace" "Ljava/lang/Object;", .lays "java/lang/Throwable" "java/lang/Throwable" "backtrace" "Ljava/lang/Object;", .lays "java/lang/IllegalArgumentException" "java/lang/Throwable" "backtrace" "Ljava/lang/Object;"] := by decide +kernel
  rw [e] at hw
  simp only [List.mem_cons, List.not_mem_nil, or_false] at hw
  rcases hw with rfl | rfl | rfl | rfl | rfl | rfl | rfl | rfl | rfl | rfl | rfl | rfl | rfl | rfl | rfl | rfl | rfl | rfl | rfl | rfl | rfl | rfl | rfl | rfl | rfl | rfl | rfl | rfl | rfl | rfl | rfl | rfl | rfl | rfl | rfl | rfl | rfl | rfl | rfl | rfl | rfl | rfl | rfl | rfl | rfl | rfl | rfl | rfl | rfl | rfl | rfl | rfl | rfl
  · exact Or.inl (hq_m1 8 rfl rfl)
  · exact Or.inl (hq_m2 19 rfl rfl)
  · exact Or.inl (hq_m2 28 rfl rfl)
  · exact Or.inl (hq_m2 32 rfl rfl)
  · exact Or.inl (hq_m2 35 rfl rfl)
  · exact Or.inl (hq_m2 37 rfl rfl)
  · exact Or.inl (hq_m2 20 rfl rfl)
  · exact Or.inl (hq_m2 21 rfl rfl)
  · exact Or.inl (hq_m1 24 rfl rfl)
  · exact Or.inl (hq_m1 25 rfl rfl)
  · exact Or.inl (hq_m2 22 rfl rfl)
  · exact Or.inl (hq_m2 27 rfl rfl)
  · exact Or.inl (hq_m2 33 rfl rfl)
  · exact Or.inl (hq_m2 53 rfl rfl)
  · exact Or.inl (hq_m2 9 rfl rfl)
  · exact Or.inl (hq_m2 54 rfl rfl)
  · exact Or.inl (hq_m2 11 rfl rfl)
  · exact Or.inl (hq_m2 55 rfl rfl)
  · exact Or.inl (hq_m2 13 rfl rfl)
  · exact Or.inl (hq_m2 23 rfl rfl)
  · exact Or.inl (hq_m2 25 rfl rfl)
  · exact Or.inl (hq_m2 15 rfl rfl)
  · exact Or.inl (hq_m2 49 rfl rfl)
  · exact Or.inl (hq_m2 50 rfl rfl)
  · exact Or.inl (hq_m2 52 rfl rfl)
  · exact Or.inl (hq_m2 15 rfl rfl)
  · exact Or.inl (hq_m2 109 rfl rfl)
  · exact Or.inl (hq_m2 110 rfl rfl)
  · exact Or.inl (hq_m2 111 rfl rfl)
  · exact Or.inl (hq_m2 43 rfl rfl)
  · exact Or.inr (by decide +kernel)
  · exact Or.inl (hq_m2 43 rfl rfl)
  · exact Or.inl (hq_m2 44 rfl rfl)
  · exact Or.inl (hq_m2 45 rfl rfl)
  · exact Or.inl (hq_m2 46 rfl rfl)
  · exact Or.inr (by decide +kernel)
  · exact Or.inl (hq_m2 46 rfl rfl)
  · exact Or.inl (hq_m2 47 rfl rfl)
  · exact Or.inl (hq_m2 48 rfl rfl)
  · exact Or.inl (hq_m2 49 rfl rfl)
  · exact Or.inr (by decide +kernel)
  · exact Or.inl (hq_m2 108 rfl rfl)
  · exact Or.inl (hq_m2 99 rfl rfl)
  · exact Or.inr (by decide +kernel)
  · exact Or.inl (hq_m2 101 rfl rfl)
  · exact Or.inl (hq_m2 30 rfl rfl)
  · exact Or.inl (hq_m2 102 rfl rfl)
  · exact Or.inl (hq_m2 103 rfl rfl)
  · exact Or.inl (hq_m2 104 rfl rfl)
  · exact Or.inl (hq_m2 105 rfl rfl)
  · exact Or.inl (hq_m2 18 rfl rfl)
  · exact Or.inl (hq_m2 17 rfl rfl)
  · exact Or.inl (hq_m2 106 rfl rfl)
theorem wCL_73 : Cond.classLink RX6 73 "java/lang/IllegalStateException" ∈ hq_ws := hq_m1 237 rfl rfl
theorem wIN_IllegalStateException : Cond.initialized "java/lang/IllegalStateException" ∈ hq_ws := hq_m1 11 rfl rfl
theorem wAT_77 : ∀ w ∈ vx_atS RX6 77 "java/lang/IllegalStateException" ["java/lang/RuntimeException", "java/lang/Exception"], w ∈ hq_ws ∨ w ∈ hq_wx := by
  intro w hw
  have e : vx_atS RX6 77 "java/lang/IllegalStateException" ["java/lang/RuntimeException", "java/lang/Exception"] = [.initialized "java/lang/Throwable", .superclass "java/lang/Throwable" "java/lang/Object", .instanceMethod ⟨"java/lang/Throwable", "fillInStackTrace", "()Ljava/lang/Throwable;"⟩, .codeSync ⟨"java/lang/Throwable", "fillInStackTrace", "()Ljava/lang/Throwable;"⟩ prog_19_method_18_code 1 (some (.object "java/lang/Throwable")), .instanceMethod ⟨"java/lang/Throwable", "fillInStackTrace", "(I)Ljava/lang/Throwable;"⟩, .native ⟨"java/lang/Throwable", "fillInStackTrace", "(I)Ljava/lang/Throwable;"⟩, .instanceMethod ⟨"java/lang/Throwable", "<init>", "()V"⟩, .code ⟨"java/lang/Throwable", "<init>", "()V"⟩ prog_19_method_1_code 1 none, .instanceMethod ⟨"java/lang/Object", "<init>", "()V"⟩, .code ⟨"java/lang/Object", "<init>", "()V"⟩ ⟨#[0xb1]⟩ 1 none, .methodLink "java/lang/Throwable" 1 ⟨"java/lang/Object", "<init>", "()V"⟩, .methodLink "java/lang/Throwable" 27 ⟨"java/lang/Throwable", "fillInStackTrace", "()Ljava/lang/Throwable;"⟩, .methodLink "java/lang/Throwable" 202 ⟨"java/lang/Throwable", "fillInStackTrace", "(I)Ljava/lang/Throwable;"⟩, .fieldLink "java/lang/Throwable" 7 "java/lang/Throwable" "cause" "Ljava/lang/Throwable;", .lays "java/lang/Throwable" "java/lang/Throwable" "cause" "Ljava/lang/Throwable;", .fieldLink "java/lang/Throwable" 17 "java/lang/Throwable" "stackTrace" "[Ljava/lang/StackTraceElement;", .lays "java/lang/Throwable" "java/lang/Throwable" "stackTrace" "[Ljava/lang/StackTraceElement;", .fieldLink "java/lang/Throwable" 24 "java/lang/Throwable" "suppressedExceptions" "Ljava/util/List;", .lays "java/lang/Throwable" "java/lang/Throwable" "suppressedExceptions" "Ljava/util/List;", .fieldLink "java/lang/Throwable" 13 "java/lang/Throwable" "UNASSIGNED_STACK" "[Ljava/lang/StackTraceElement;", .fieldLink "java/lang/Throwable" 20 "java/lang/Throwable" "SUPPRESSED_SENTINEL" "Ljava/util/List;", .lays "java/lang/Throwable" "java/lang/Throwable" "detailMessage" "Ljava/lang/String;", .instanceMethod ⟨"java/lang/Throwable", "<init>", "(Ljava/lang/String;)V"⟩, .code ⟨"java/lang/Throwable", "<init>", "(Ljava/lang/String;)V"⟩ prog_19_method_2_code 2 none, .fieldLink "java/lang/Throwable" 31 "java/lang/Throwable" "detailMessage" "Ljava/lang/String;", .lays "java/lang/Throwable" "java/lang/Throwable" "detailMessage" "Ljava/lang/String;", .instanceMethod ⟨"java/lang/IllegalStateException", "<init>", "(Ljava/lang/String;)V"⟩, .code ⟨"java/lang/IllegalStateException", "<init>", "(Ljava/lang/String;)V"⟩ Bundle.six 2 none, .methodLink "java/lang/IllegalStateException" 7 ⟨"java/lang/RuntimeException", "<init>", "(Ljava/lang/String;)V"⟩, .instanceMethod ⟨"java/lang/RuntimeException", "<init>", "(Ljava/lang/String;)V"⟩, .declares ⟨"java/lang/RuntimeException", "<init>", "(Ljava/lang/String;)V"⟩, .instanceMethod ⟨"java/lang/RuntimeException", "<init>", "(Ljava/lang/String;)V"⟩, .code ⟨"java/lang/RuntimeException", "<init>", "(Ljava/lang/String;)V"⟩ Bundle.six 2 none, .methodLink "java/lang/RuntimeException" 7 ⟨"java/lang/Exception", "<init>", "(Ljava/lang/String;)V"⟩, .instanceMethod ⟨"java/lang/Exception", "<init>", "(Ljava/lang/String;)V"⟩, .declares ⟨"java/lang/Exception", "<init>", "(Ljava/lang/String;)V"⟩, .instanceMethod ⟨"java/lang/Exception", "<init>", "(Ljava/lang/String;)V"⟩, .code ⟨"java/lang/Exception", "<init>", "(Ljava/lang/String;)V"⟩ Bundle.six 2 none, .methodLink "java/lang/Exception" 7 ⟨"java/lang/Throwable", "<init>", "(Ljava/lang/String;)V"⟩, .instanceMethod ⟨"java/lang/Throwable", "<init>", "(Ljava/lang/String;)V"⟩, .declares ⟨"java/lang/Throwable", "<init>", "(Ljava/lang/String;)V"⟩, .methodLink "HouseClauses" 77 ⟨"java/lang/IllegalStateException", "<init>", "(Ljava/lang/String;)V"⟩, .instantiable "java/lang/IllegalStateException" 6, .castable "java/lang/IllegalStateException" "java/lang/IllegalStateException", .selects "java/lang/IllegalStateException" ⟨"java/lang/Throwable", "fillInStackTrace", "(I)Ljava/lang/Throwable;"⟩ ⟨"java/lang/Throwable", "fillInStackTrace", "(I)Ljava/lang/Throwable;"⟩, .selects "java/lang/IllegalStateException" ⟨"java/lang/Throwable", "fillInStackTrace", "()Ljava/lang/Throwable;"⟩ ⟨"java/lang/Throwable", "fillInStackTrace", "()Ljava/lang/Throwable;"⟩, .lays "java/lang/IllegalStateException" "java/lang/Throwable" "cause" "Ljava/lang/Throwable;", .lays "java/lang/IllegalStateException" "java/lang/Throwable" "stackTrace" "[Ljava/lang/StackTraceElement;", .lays "java/lang/IllegalStateException" "java/lang/Throwable" "suppressedExceptions" "Ljava/util/List;", .lays "java/lang/IllegalStateException" "java/lang/Throwable" "detailMessage" "Ljava/lang/String;", .fieldLink "java/lang/Throwable" 198 "java/lang/Throwable" "backtrace" "Ljava/lang/Object;", .lays "java/lang/Throwable" "java/lang/Throwable" "backtrace" "Ljava/lang/Object;", .lays "java/lang/IllegalStateException" "java/lang/Throwable" "backtrace" "Ljava/lang/Object;"] := by decide +kernel
  rw [e] at hw
  simp only [List.mem_cons, List.not_mem_nil, or_false] at hw
  rcases hw with rfl | rfl | rfl | rfl | rfl | rfl | rfl | rfl | rfl | rfl | rfl | rfl | rfl | rfl | rfl | rfl | rfl | rfl | rfl | rfl | rfl | rfl | rfl | rfl | rfl | rfl | rfl | rfl | rfl | rfl | rfl | rfl | rfl | rfl | rfl | rfl | rfl | rfl | rfl | rfl | rfl | rfl | rfl | rfl | rfl | rfl | rfl | rfl | rfl | rfl | rfl | rfl | rfl
  · exact Or.inl (hq_m1 8 rfl rfl)
  · exact Or.inl (hq_m2 19 rfl rfl)
  · exact Or.inl (hq_m2 28 rfl rfl)
  · exact Or.inl (hq_m2 32 rfl rfl)
  · exact Or.inl (hq_m2 35 rfl rfl)
  · exact Or.inl (hq_m2 37 rfl rfl)
  · exact Or.inl (hq_m2 20 rfl rfl)
  · exact Or.inl (hq_m2 21 rfl rfl)
  · exact Or.inl (hq_m1 24 rfl rfl)
  · exact Or.inl (hq_m1 25 rfl rfl)
  · exact Or.inl (hq_m2 22 rfl rfl)
  · exact Or.inl (hq_m2 27 rfl rfl)
  · exact Or.inl (hq_m2 33 rfl rfl)
  · exact Or.inl (hq_m2 53 rfl rfl)
  · exact Or.inl (hq_m2 9 rfl rfl)
  · exact Or.inl (hq_m2 54 rfl rfl)
  · exact Or.inl (hq_m2 11 rfl rfl)
  · exact Or.inl (hq_m2 55 rfl rfl)
  · exact Or.inl (hq_m2 13 rfl rfl)
  · exact Or.inl (hq_m2 23 rfl rfl)
  · exact Or.inl (hq_m2 25 rfl rfl)
  · exact Or.inl (hq_m2 15 rfl rfl)
  · exact Or.inl (hq_m2 49 rfl rfl)
  · exact Or.inl (hq_m2 50 rfl rfl)
  · exact Or.inl (hq_m2 52 rfl rfl)
  · exact Or.inl (hq_m2 15 rfl rfl)
  · exact Or.inl (hq_m2 40 rfl rfl)
  · exact Or.inl (hq_m2 41 rfl rfl)
  · exact Or.inl (hq_m2 42 rfl rfl)
  · exact Or.inl (hq_m2 43 rfl rfl)
  · exact Or.inr (by decide +kernel)
  · exact Or.inl (hq_m2 43 rfl rfl)
  · exact Or.inl (hq_m2 44 rfl rfl)
  · exact Or.inl (hq_m2 45 rfl rfl)
  · exact Or.inl (hq_m2 46 rfl rfl)
  · exact Or.inr (by decide +kernel)
  · exact Or.inl (hq_m2 46 rfl rfl)
  · exact Or.inl (hq_m2 47 rfl rfl)
  · exact Or.inl (hq_m2 48 rfl rfl)
  · exact Or.inl (hq_m2 49 rfl rfl)
  · exact Or.inr (by decide +kernel)
  · exact Or.inl (hq_m2 39 rfl rfl)
  · exact Or.inl (hq_m1 238 rfl rfl)
  · exact Or.inr (by decide +kernel)
  · exact Or.inl (hq_m2 6 rfl rfl)
  · exact Or.inl (hq_m2 7 rfl rfl)
  · exact Or.inl (hq_m2 8 rfl rfl)
  · exact Or.inl (hq_m2 10 rfl rfl)
  · exact Or.inl (hq_m2 12 rfl rfl)
  · exact Or.inl (hq_m2 14 rfl rfl)
  · exact Or.inl (hq_m2 18 rfl rfl)
  · exact Or.inl (hq_m2 17 rfl rfl)
  · exact Or.inl (hq_m2 16 rfl rfl)
theorem wCL_304 : Cond.classLink RX6 304 "java/lang/IndexOutOfBoundsException" ∈ hq_ws := hq_m2 142 rfl rfl
theorem wIN_IndexOutOfBoundsException : Cond.initialized "java/lang/IndexOutOfBoundsException" ∈ hq_ws := hq_m1 12 rfl rfl
theorem wAT_308 : ∀ w ∈ vx_atS RX6 308 "java/lang/IndexOutOfBoundsException" ["java/lang/RuntimeException", "java/lang/Exception"], w ∈ hq_ws ∨ w ∈ hq_wx := by
  intro w hw
  have e : vx_atS RX6 308 "java/lang/IndexOutOfBoundsException" ["java/lang/RuntimeException", "java/lang/Exception"] = [.initialized "java/lang/Throwable", .superclass "java/lang/Throwable" "java/lang/Object", .instanceMethod ⟨"java/lang/Throwable", "fillInStackTrace", "()Ljava/lang/Throwable;"⟩, .codeSync ⟨"java/lang/Throwable", "fillInStackTrace", "()Ljava/lang/Throwable;"⟩ prog_19_method_18_code 1 (some (.object "java/lang/Throwable")), .instanceMethod ⟨"java/lang/Throwable", "fillInStackTrace", "(I)Ljava/lang/Throwable;"⟩, .native ⟨"java/lang/Throwable", "fillInStackTrace", "(I)Ljava/lang/Throwable;"⟩, .instanceMethod ⟨"java/lang/Throwable", "<init>", "()V"⟩, .code ⟨"java/lang/Throwable", "<init>", "()V"⟩ prog_19_method_1_code 1 none, .instanceMethod ⟨"java/lang/Object", "<init>", "()V"⟩, .code ⟨"java/lang/Object", "<init>", "()V"⟩ ⟨#[0xb1]⟩ 1 none, .methodLink "java/lang/Throwable" 1 ⟨"java/lang/Object", "<init>", "()V"⟩, .methodLink "java/lang/Throwable" 27 ⟨"java/lang/Throwable", "fillInStackTrace", "()Ljava/lang/Throwable;"⟩, .methodLink "java/lang/Throwable" 202 ⟨"java/lang/Throwable", "fillInStackTrace", "(I)Ljava/lang/Throwable;"⟩, .fieldLink "java/lang/Throwable" 7 "java/lang/Throwable" "cause" "Ljava/lang/Throwable;", .lays "java/lang/Throwable" "java/lang/Throwable" "cause" "Ljava/lang/Throwable;", .fieldLink "java/lang/Throwable" 17 "java/lang/Throwable" "stackTrace" "[Ljava/lang/StackTraceElement;", .lays "java/lang/Throwable" "java/lang/Throwable" "stackTrace" "[Ljava/lang/StackTraceElement;", .fieldLink "java/lang/Throwable" 24 "java/lang/Throwable" "suppressedExceptions" "Ljava/util/List;", .lays "java/lang/Throwable" "java/lang/Throwable" "suppressedExceptions" "Ljava/util/List;", .fieldLink "java/lang/Throwable" 13 "java/lang/Throwable" "UNASSIGNED_STACK" "[Ljava/lang/StackTraceElement;", .fieldLink "java/lang/Throwable" 20 "java/lang/Throwable" "SUPPRESSED_SENTINEL" "Ljava/util/List;", .lays "java/lang/Throwable" "java/lang/Throwable" "detailMessage" "Ljava/lang/String;", .instanceMethod ⟨"java/lang/Throwable", "<init>", "(Ljava/lang/String;)V"⟩, .code ⟨"java/lang/Throwable", "<init>", "(Ljava/lang/String;)V"⟩ prog_19_method_2_code 2 none, .fieldLink "java/lang/Throwable" 31 "java/lang/Throwable" "detailMessage" "Ljava/lang/String;", .lays "java/lang/Throwable" "java/lang/Throwable" "detailMessage" "Ljava/lang/String;", .instanceMethod ⟨"java/lang/IndexOutOfBoundsException", "<init>", "(Ljava/lang/String;)V"⟩, .code ⟨"java/lang/IndexOutOfBoundsException", "<init>", "(Ljava/lang/String;)V"⟩ Bundle.six 2 none, .methodLink "java/lang/IndexOutOfBoundsException" 7 ⟨"java/lang/RuntimeException", "<init>", "(Ljava/lang/String;)V"⟩, .instanceMethod ⟨"java/lang/RuntimeException", "<init>", "(Ljava/lang/String;)V"⟩, .declares ⟨"java/lang/RuntimeException", "<init>", "(Ljava/lang/String;)V"⟩, .instanceMethod ⟨"java/lang/RuntimeException", "<init>", "(Ljava/lang/String;)V"⟩, .code ⟨"java/lang/RuntimeException", "<init>", "(Ljava/lang/String;)V"⟩ Bundle.six 2 none, .methodLink "java/lang/RuntimeException" 7 ⟨"java/lang/Exception", "<init>", "(Ljava/lang/String;)V"⟩, .instanceMethod ⟨"java/lang/Exception", "<init>", "(Ljava/lang/String;)V"⟩, .declares ⟨"java/lang/Exception", "<init>", "(Ljava/lang/String;)V"⟩, .instanceMethod ⟨"java/lang/Exception", "<init>", "(Ljava/lang/String;)V"⟩, .code ⟨"java/lang/Exception", "<init>", "(Ljava/lang/String;)V"⟩ Bundle.six 2 none, .methodLink "java/lang/Exception" 7 ⟨"java/lang/Throwable", "<init>", "(Ljava/lang/String;)V"⟩, .instanceMethod ⟨"java/lang/Throwable", "<init>", "(Ljava/lang/String;)V"⟩, .declares ⟨"java/lang/Throwable", "<init>", "(Ljava/lang/String;)V"⟩, .methodLink "HouseClauses" 308 ⟨"java/lang/IndexOutOfBoundsException", "<init>", "(Ljava/lang/String;)V"⟩, .instantiable "java/lang/IndexOutOfBoundsException" 6, .castable "java/lang/IndexOutOfBoundsException" "java/lang/IndexOutOfBoundsException", .selects "java/lang/IndexOutOfBoundsException" ⟨"java/lang/Throwable", "fillInStackTrace", "(I)Ljava/lang/Throwable;"⟩ ⟨"java/lang/Throwable", "fillInStackTrace", "(I)Ljava/lang/Throwable;"⟩, .selects "java/lang/IndexOutOfBoundsException" ⟨"java/lang/Throwable", "fillInStackTrace", "()Ljava/lang/Throwable;"⟩ ⟨"java/lang/Throwable", "fillInStackTrace", "()Ljava/lang/Throwable;"⟩, .lays "java/lang/IndexOutOfBoundsException" "java/lang/Throwable" "cause" "Ljava/lang/Throwable;", .lays "java/lang/IndexOutOfBoundsException" "java/lang/Throwable" "stackTrace" "[Ljava/lang/StackTraceElement;", .lays "java/lang/IndexOutOfBoundsException" "java/lang/Throwable" "suppressedExceptions" "Ljava/util/List;", .lays "java/lang/IndexOutOfBoundsException" "java/lang/Throwable" "detailMessage" "Ljava/lang/String;", .fieldLink "java/lang/Throwable" 198 "java/lang/Throwable" "backtrace" "Ljava/lang/Object;", .lays "java/lang/Throwable" "java/lang/Throwable" "backtrace" "Ljava/lang/Object;", .lays "java/lang/IndexOutOfBoundsException" "java/lang/Throwable" "backtrace" "Ljava/lang/Object;"] := by decide +kernel
  rw [e] at hw
  simp only [List.mem_cons, List.not_mem_nil, or_false] at hw
  rcases hw with rfl | rfl | rfl | rfl | rfl | rfl | rfl | rfl | rfl | rfl | rfl | rfl | rfl | rfl | rfl | rfl | rfl | rfl | rfl | rfl | rfl | rfl | rfl | rfl | rfl | rfl | rfl | rfl | rfl | rfl | rfl | rfl | rfl | rfl | rfl | rfl | rfl | rfl | rfl | rfl | rfl | rfl | rfl | rfl | rfl | rfl | rfl | rfl | rfl | rfl | rfl | rfl | rfl
  · exact Or.inl (hq_m1 8 rfl rfl)
  · exact Or.inl (hq_m2 19 rfl rfl)
  · exact Or.inl (hq_m2 28 rfl rfl)
  · exact Or.inl (hq_m2 32 rfl rfl)
  · exact Or.inl (hq_m2 35 rfl rfl)
  · exact Or.inl (hq_m2 37 rfl rfl)
  · exact Or.inl (hq_m2 20 rfl rfl)
  · exact Or.inl (hq_m2 21 rfl rfl)
  · exact Or.inl (hq_m1 24 rfl rfl)
  · exact Or.inl (hq_m1 25 rfl rfl)
  · exact Or.inl (hq_m2 22 rfl rfl)
  · exact Or.inl (hq_m2 27 rfl rfl)
  · exact Or.inl (hq_m2 33 rfl rfl)
  · exact Or.inl (hq_m2 53 rfl rfl)
  · exact Or.inl (hq_m2 9 rfl rfl)
  · exact Or.inl (hq_m2 54 rfl rfl)
  · exact Or.inl (hq_m2 11 rfl rfl)
  · exact Or.inl (hq_m2 55 rfl rfl)
  · exact Or.inl (hq_m2 13 rfl rfl)
  · exact Or.inl (hq_m2 23 rfl rfl)
  · exact Or.inl (hq_m2 25 rfl rfl)
  · exact Or.inl (hq_m2 15 rfl rfl)
  · exact Or.inl (hq_m2 49 rfl rfl)
  · exact Or.inl (hq_m2 50 rfl rfl)
  · exact Or.inl (hq_m2 52 rfl rfl)
  · exact Or.inl (hq_m2 15 rfl rfl)
  · exact Or.inl (hq_m2 153 rfl rfl)
  · exact Or.inl (hq_m2 154 rfl rfl)
  · exact Or.inl (hq_m2 155 rfl rfl)
  · exact Or.inl (hq_m2 43 rfl rfl)
  · exact Or.inr (by decide +kernel)
  · exact Or.inl (hq_m2 43 rfl rfl)
  · exact Or.inl (hq_m2 44 rfl rfl)
  · exact Or.inl (hq_m2 45 rfl rfl)
  · exact Or.inl (hq_m2 46 rfl rfl)
  · exact Or.inr (by decide +kernel)
  · exact Or.inl (hq_m2 46 rfl rfl)
  · exact Or.inl (hq_m2 47 rfl rfl)
  · exact Or.inl (hq_m2 48 rfl rfl)
  · exact Or.inl (hq_m2 49 rfl rfl)
  · exact Or.inr (by decide +kernel)
  · exact Or.inl (hq_m2 152 rfl rfl)
  · exact Or.inl (hq_m2 143 rfl rfl)
  · exact Or.inr (by decide +kernel)
  · exact Or.inl (hq_m2 145 rfl rfl)
  · exact Or.inl (hq_m2 31 rfl rfl)
  · exact Or.inl (hq_m2 146 rfl rfl)
  · exact Or.inl (hq_m2 147 rfl rfl)
  · exact Or.inl (hq_m2 148 rfl rfl)
  · exact Or.inl (hq_m2 149 rfl rfl)
  · exact Or.inl (hq_m2 18 rfl rfl)
  · exact Or.inl (hq_m2 17 rfl rfl)
  · exact Or.inl (hq_m2 150 rfl rfl)
