theorem uX0 : ∀ w ∈ u_ws RX0 TX0 7, w ∈ hq_ws := by
  intro w hw
  have h : w ∈ ([u_lay RX0 TX0 0, u_lay RX0 TX0 1, u_lay RX0 TX0 2, u_lay RX0 TX0 3, u_lay RX0 TX0 4, u_lay RX0 TX0 5, u_lay RX0 TX0 6] : List Cond) := hw
  simp only [List.mem_cons, List.not_mem_nil, or_false] at h
  rcases h with rfl | rfl | rfl | rfl | rfl | rfl | rfl
  · exact hq_m1 89 rfl rfl
  · exact hq_m1 91 rfl rfl
  · exact hq_m1 93 rfl rfl
  · exact hq_m1 95 rfl rfl
  · exact hq_m1 97 rfl rfl
  · exact hq_m1 99 rfl rfl
  · exact hq_m1 101 rfl rfl
theorem uX4 : ∀ w ∈ u_ws RX4 TX4 7, w ∈ hq_ws := by
  intro w hw
  have h : w ∈ ([u_lay RX4 TX4 0, u_lay RX4 TX4 1, u_lay RX4 TX4 2, u_lay RX4 TX4 3, u_lay RX4 TX4 4, u_lay RX4 TX4 5, u_lay RX4 TX4 6] : List Cond) := hw
  simp only [List.mem_cons, List.not_mem_nil, or_false] at h
  rcases h with rfl | rfl | rfl | rfl | rfl | rfl | rfl
  · exact hq_m1 61 rfl rfl
  · exact hq_m1 63 rfl rfl
  · exact hq_m1 65 rfl rfl
  · exact hq_m1 67 rfl rfl
  · exact hq_m1 69 rfl rfl
  · exact hq_m1 71 rfl rfl
  · exact hq_m1 73 rfl rfl
theorem uX6 : ∀ w ∈ u_ws RX6 TX6 9, w ∈ hq_ws := by
  intro w hw
  have h : w ∈ ([u_lay RX6 TX6 0, u_lay RX6 TX6 1, u_lay RX6 TX6 2, u_lay RX6 TX6 3, u_lay RX6 TX6 4, u_lay RX6 TX6 5, u_lay RX6 TX6 6, u_lay RX6 TX6 7, u_lay RX6 TX6 8] : List Cond) := hw
  simp only [List.mem_cons, List.not_mem_nil, or_false] at h
  rcases h with rfl | rfl | rfl | rfl | rfl | rfl | rfl | rfl | rfl
  · exact hq_m1 199 rfl rfl
  · exact hq_m1 201 rfl rfl
  · exact hq_m1 203 rfl rfl
  · exact hq_m1 205 rfl rfl
  · exact hq_m1 207 rfl rfl
  · exact hq_m1 209 rfl rfl
  · exact hq_m1 211 rfl rfl
  · exact hq_m1 213 rfl rfl
  · exact hq_m1 215 rfl rfl
theorem uX3 : ∀ w ∈ u_ws RX3 TX3 4, w ∈ hq_ws := by
  intro w hw
  have h : w ∈ ([u_lay RX3 TX3 0, u_lay RX3 TX3 1, u_lay RX3 TX3 2, u_lay RX3 TX3 3] : List Cond) := hw
  simp only [List.mem_cons, List.not_mem_nil, or_false] at h
  rcases h with rfl | rfl | rfl | rfl
  · exact hq_m1 118 rfl rfl
  · exact hq_m1 120 rfl rfl
  · exact hq_m1 122 rfl rfl
  · exact hq_m1 124 rfl rfl
theorem uX2 : ∀ w ∈ u_ws RX2 TX2 7, w ∈ hq_ws := by
  intro w hw
  have h : w ∈ ([u_lay RX2 TX2 0, u_lay RX2 TX2 1, u_lay RX2 TX2 2, u_lay RX2 TX2 3, u_lay RX2 TX2 4, u_lay RX2 TX2 5, u_lay RX2 TX2 6] : List Cond) := hw
  simp only [List.mem_cons, List.not_mem_nil, or_false] at h
  rcases h with rfl | rfl | rfl | rfl | rfl | rfl | rfl
  · exact hq_m1 146 rfl rfl
  · exact hq_m1 148 rfl rfl
  · exact hq_m1 150 rfl rfl
  · exact hq_m1 152 rfl rfl
  · exact hq_m1 154 rfl rfl
  · exact hq_m1 156 rfl rfl
  · exact hq_m1 158 rfl rfl
theorem uX1 : ∀ w ∈ u_ws RX1 TX1 3, w ∈ hq_ws := by
  intro w hw
  have h : w ∈ ([u_lay RX1 TX1 0, u_lay RX1 TX1 1, u_lay RX1 TX1 2] : List Cond) := hw
  simp only [List.mem_cons, List.not_mem_nil, or_false] at h
  rcases h with rfl | rfl | rfl
  · exact hq_m1 172 rfl rfl
  · exact hq_m1 174 rfl rfl
  · exact hq_m1 176 rfl rfl
theorem uX5 : ∀ w ∈ u_ws RX5 TX5 1, w ∈ hq_ws := by
  intro w hw
  have h : w ∈ ([u_lay RX5 TX5 0] : List Cond) := hw
  simp only [List.mem_cons, List.not_mem_nil, or_false] at h
  rcases h with rfl
  exact hq_m1 187 rfl rfl
theorem uX7 : ∀ w ∈ u_ws RX7 TX7 16, w ∈ hq_ws := by
  intro w hw
  have h : w ∈ ([u_lay RX7 TX7 0, u_lay RX7 TX7 1, u_lay RX7 TX7 2, u_lay RX7 TX7 3, u_lay RX7 TX7 4, u_lay RX7 TX7 5, u_lay RX7 TX7 6, u_lay RX7 TX7 7, u_lay RX7 TX7 8, u_lay RX7 TX7 9, u_lay RX7 TX7 10, u_lay RX7 TX7 11, u_lay RX7 TX7 12, u_lay RX7 TX7 13, u_lay RX7 TX7 14, u_lay RX7 TX7 15] : List Cond) := hw
  simp only [List.mem_cons, List.not_mem_nil, or_false] at h
  rcases h with rfl | rfl | rfl | rfl | rfl | rfl | rfl | rfl | rfl | rfl | rfl | rfl | rfl | rfl | rfl | rfl
  · exact hq_m5 43 rfl rfl
  · exact hq_m5 45 rfl rfl
  · exact hq_m5 47 rfl rfl
  · exact hq_m5 49 rfl rfl
  · exact hq_m5 51 rfl rfl
  · exact hq_m5 53 rfl rfl
  · exact hq_m5 55 rfl rfl
  · exact hq_m5 57 rfl rfl
  · exact hq_m5 59 rfl rfl
  · exact hq_m5 61 rfl rfl
  · exact hq_m5 63 rfl rfl
  · exact hq_m5 65 rfl rfl
  · exact hq_m5 67 rfl rfl
  · exact hq_m5 69 rfl rfl
  · exact hq_m5 71 rfl rfl
  · exact hq_m5 73 rfl rfl
theorem wS_mmax : Cond.static Lib.Math.max.name ∈ hq_ws := hq_m3 36 rfl rfl
theorem wC_mmax : Cond.code Lib.Math.max.name Lib.Math.max.code 2 (some .int) ∈ hq_ws := hq_m3 37 rfl rfl
theorem wS_mmin : Cond.static Lib.Math.min.name ∈ hq_ws := hq_m2 236 rfl rfl
theorem wC_mmin : Cond.code Lib.Math.min.name Lib.Math.min.code 2 (some .int) ∈ hq_ws := hq_m2 237 rfl rfl
theorem wI_Math : Cond.initialized "java/lang/Math" ∈ hq_ws := hq_m1 15 rfl rfl
theorem wF_RX6_10 : Cond.fieldLink RX6 10 "HouseClauses" "now" "LHouseClauses$House;" ∈ hq_ws := hq_m1 190 rfl rfl
theorem wF_RX6_16 : Cond.fieldLink RX6 16 "HouseClauses" "snapshot" "LHouseClauses$House;" ∈ hq_ws := hq_m1 191 rfl rfl
theorem wF_RX6_19 : Cond.fieldLink RX6 19 "HouseClauses" "hasSnapshot" "Z" ∈ hq_ws := hq_m1 192 rfl rfl
theorem wF_RX6_26 : Cond.fieldLink RX6 26 "HouseClauses" "past" "LHouseClauses$Past;" ∈ hq_ws := hq_m1 193 rfl rfl
theorem wF_RX6_30 : Cond.fieldLink RX6 30 "HouseClauses" "buffer" "[I" ∈ hq_ws := hq_m1 194 rfl rfl
theorem wF_RX6_34 : Cond.fieldLink RX6 34 "HouseClauses" "length" "I" ∈ hq_ws := hq_m1 195 rfl rfl
theorem wF_RX6_41 : Cond.fieldLink RX6 41 "HouseClauses" "reader" "LHouseClauses$LogReader;" ∈ hq_ws := hq_m1 196 rfl rfl
theorem wF_RX6_48 : Cond.fieldLink RX6 48 "HouseClauses" "joiner" "LHouseClauses$Joiner;" ∈ hq_ws := hq_m1 197 rfl rfl
theorem wF_RX6_55 : Cond.fieldLink RX6 55 "HouseClauses" "sets" "LHouseClauses$SetTable;" ∈ hq_ws := hq_m1 198 rfl rfl
theorem wF_RX6_70 : Cond.fieldLink RX6 70 "HouseClauses$House" "count" "I" ∈ hq_ws := hq_m1 80 rfl rfl
theorem wF_RX6_97 : Cond.fieldLink RX6 97 "HouseClauses$Rule" "strict" "Z" ∈ hq_ws := hq_m1 50 rfl rfl
theorem wF_RX6_149 : Cond.fieldLink RX6 149 "HouseClauses$House" "today" "I" ∈ hq_ws := hq_m1 85 rfl rfl
theorem wF_RX6_154 : Cond.fieldLink RX6 154 "HouseClauses$Past" "count" "I" ∈ hq_ws := hq_m1 117 rfl rfl
theorem wF_RX6_160 : Cond.fieldLink RX6 160 "HouseClauses$Rule" "letRooms" "I" ∈ hq_ws := hq_m1 42 rfl rfl
theorem wF_RX6_163 : Cond.fieldLink RX6 163 "HouseClauses$Rule" "emptyRooms" "I" ∈ hq_ws := hq_m1 45 rfl rfl
theorem wF_RX6_166 : Cond.fieldLink RX6 166 "HouseClauses$Rule" "price" "I" ∈ hq_ws := hq_m1 48 rfl rfl
theorem wF_RX6_178 : Cond.fieldLink RX6 178 "HouseClauses$House" "guests" "I" ∈ hq_ws := hq_m1 83 rfl rfl
theorem wF_RX6_190 : Cond.fieldLink RX6 190 "HouseClauses$Rule" "brought" "I" ∈ hq_ws := hq_m1 56 rfl rfl
theorem wF_RX6_193 : Cond.fieldLink RX6 193 "HouseClauses$House" "nightly" "I" ∈ hq_ws := hq_m1 87 rfl rfl
theorem wF_RX6_217 : Cond.fieldLink RX6 217 "HouseClauses$Joiner" "count" "I" ∈ hq_ws := hq_m1 171 rfl rfl
theorem wF_RX6_320 : Cond.fieldLink RX6 320 "HouseClauses$Rule" "heldWays" "J" ∈ hq_ws := hq_m1 60 rfl rfl
theorem wF_RX6_341 : Cond.fieldLink RX6 341 "HouseClauses$LogReader" "kind" "I" ∈ hq_ws := hq_m1 135 rfl rfl
theorem wF_RX6_344 : Cond.fieldLink RX6 344 "HouseClauses$LogReader" "number" "I" ∈ hq_ws := hq_m1 137 rfl rfl
theorem wF_RX6_347 : Cond.fieldLink RX6 347 "HouseClauses$LogReader" "letRooms" "I" ∈ hq_ws := hq_m1 143 rfl rfl
theorem wF_RX6_348 : Cond.fieldLink RX6 348 "HouseClauses$LogReader" "emptyRooms" "I" ∈ hq_ws := hq_m1 145 rfl rfl
theorem wF_RX6_349 : Cond.fieldLink RX6 349 "HouseClauses$LogReader" "room" "I" ∈ hq_ws := hq_m1 141 rfl rfl
theorem wF_RX6_352 : Cond.fieldLink RX6 352 "HouseClauses$LogReader" "days" "I" ∈ hq_ws := hq_m1 139 rfl rfl
theorem wF_RX0_11 : Cond.fieldLink RX0 11 "HouseClauses$House" "list" "[LHouseClauses$Rule;" ∈ hq_ws := hq_m1 76 rfl rfl
theorem wF_RX0_18 : Cond.fieldLink RX0 18 "HouseClauses$House" "spare" "LHouseClauses$Rule;" ∈ hq_ws := hq_m1 77 rfl rfl
theorem wF_RX0_22 : Cond.fieldLink RX0 22 "HouseClauses$House" "count" "I" ∈ hq_ws := hq_m1 81 rfl rfl
theorem wF_RX0_26 : Cond.fieldLink RX0 26 "HouseClauses$House" "guests" "I" ∈ hq_ws := hq_m1 82 rfl rfl
theorem wF_RX0_29 : Cond.fieldLink RX0 29 "HouseClauses$House" "today" "I" ∈ hq_ws := hq_m1 84 rfl rfl
theorem wF_RX0_32 : Cond.fieldLink RX0 32 "HouseClauses$House" "nightly" "I" ∈ hq_ws := hq_m1 86 rfl rfl
theorem wF_RX0_35 : Cond.fieldLink RX0 35 "HouseClauses$House" "withdrawn" "I" ∈ hq_ws := hq_m1 88 rfl rfl
theorem wF_RX0_50 : Cond.fieldLink RX0 50 "HouseClauses$Rule" "brought" "I" ∈ hq_ws := hq_m1 55 rfl rfl
theorem wF_RX0_53 : Cond.fieldLink RX0 53 "HouseClauses$Rule" "firstDayInForce" "I" ∈ hq_ws := hq_m1 53 rfl rfl
theorem wF_RX0_70 : Cond.fieldLink RX0 70 "HouseClauses$Rule" "price" "I" ∈ hq_ws := hq_m1 47 rfl rfl
theorem wF_RX0_85 : Cond.fieldLink RX0 85 "HouseClauses$Rule" "heldWays" "J" ∈ hq_ws := hq_m1 59 rfl rfl
theorem wF_RX0_96 : Cond.fieldLink RX0 96 "HouseClauses$Rule" "strict" "Z" ∈ hq_ws := hq_m1 51 rfl rfl
theorem wF_RX1_9 : Cond.fieldLink RX1 9 "HouseClauses$Joiner" "made" "[I" ∈ hq_ws := hq_m1 168 rfl rfl
theorem wF_RX1_15 : Cond.fieldLink RX1 15 "HouseClauses$Joiner" "seen" "[J" ∈ hq_ws := hq_m1 169 rfl rfl
theorem wF_RX1_19 : Cond.fieldLink RX1 19 "HouseClauses$Joiner" "count" "I" ∈ hq_ws := hq_m1 170 rfl rfl
theorem wF_RX1_29 : Cond.fieldLink RX1 29 "HouseClauses$House" "count" "I" ∈ hq_ws := hq_m1 78 rfl rfl
theorem wF_RX1_36 : Cond.fieldLink RX1 36 "HouseClauses$Rule" "letRooms" "I" ∈ hq_ws := hq_m1 41 rfl rfl
theorem wF_RX1_41 : Cond.fieldLink RX1 41 "HouseClauses$Rule" "emptyRooms" "I" ∈ hq_ws := hq_m1 44 rfl rfl
theorem wF_RX2_11 : Cond.fieldLink RX2 11 "HouseClauses$LogReader" "stage" "I" ∈ hq_ws := hq_m1 133 rfl rfl
theorem wF_RX2_15 : Cond.fieldLink RX2 15 "HouseClauses$LogReader" "kind" "I" ∈ hq_ws := hq_m1 134 rfl rfl
theorem wF_RX2_45 : Cond.fieldLink RX2 45 "HouseClauses$LogReader" "letRooms" "I" ∈ hq_ws := hq_m1 142 rfl rfl
theorem wF_RX2_48 : Cond.fieldLink RX2 48 "HouseClauses$LogReader" "emptyRooms" "I" ∈ hq_ws := hq_m1 144 rfl rfl
theorem wF_RX2_51 : Cond.fieldLink RX2 51 "HouseClauses$LogReader" "number" "I" ∈ hq_ws := hq_m1 136 rfl rfl
theorem wF_RX2_54 : Cond.fieldLink RX2 54 "HouseClauses$LogReader" "days" "I" ∈ hq_ws := hq_m1 138 rfl rfl
theorem wF_RX2_60 : Cond.fieldLink RX2 60 "HouseClauses$LogReader" "room" "I" ∈ hq_ws := hq_m1 140 rfl rfl
theorem wF_RX3_11 : Cond.fieldLink RX3 11 "HouseClauses$Past" "ring" "[LHouseClauses$House;" ∈ hq_ws := hq_m1 113 rfl rfl
theorem wF_RX3_18 : Cond.fieldLink RX3 18 "HouseClauses$Past" "spare" "LHouseClauses$House;" ∈ hq_ws := hq_m1 114 rfl rfl
theorem wF_RX3_22 : Cond.fieldLink RX3 22 "HouseClauses$Past" "oldest" "I" ∈ hq_ws := hq_m1 115 rfl rfl
theorem wF_RX3_26 : Cond.fieldLink RX3 26 "HouseClauses$Past" "count" "I" ∈ hq_ws := hq_m1 116 rfl rfl
theorem wF_RX4_9 : Cond.fieldLink RX4 9 "HouseClauses$Rule" "letRooms" "I" ∈ hq_ws := hq_m1 40 rfl rfl
theorem wF_RX4_15 : Cond.fieldLink RX4 15 "HouseClauses$Rule" "emptyRooms" "I" ∈ hq_ws := hq_m1 43 rfl rfl
theorem wF_RX4_18 : Cond.fieldLink RX4 18 "HouseClauses$Rule" "price" "I" ∈ hq_ws := hq_m1 46 rfl rfl
theorem wF_RX4_21 : Cond.fieldLink RX4 21 "HouseClauses$Rule" "strict" "Z" ∈ hq_ws := hq_m1 49 rfl rfl
theorem wF_RX4_25 : Cond.fieldLink RX4 25 "HouseClauses$Rule" "firstDayInForce" "I" ∈ hq_ws := hq_m1 52 rfl rfl
theorem wF_RX4_28 : Cond.fieldLink RX4 28 "HouseClauses$Rule" "brought" "I" ∈ hq_ws := hq_m1 54 rfl rfl
theorem wF_RX4_31 : Cond.fieldLink RX4 31 "HouseClauses$Rule" "heldWays" "J" ∈ hq_ws := hq_m1 57 rfl rfl
theorem wF_RX5_9 : Cond.fieldLink RX5 9 "HouseClauses$SetTable" "open" "[J" ∈ hq_ws := hq_m1 186 rfl rfl
theorem wF_RX5_17 : Cond.fieldLink RX5 17 "HouseClauses$House" "count" "I" ∈ hq_ws := hq_m1 79 rfl rfl
theorem wF_RX5_31 : Cond.fieldLink RX5 31 "HouseClauses$Rule" "heldWays" "J" ∈ hq_ws := hq_m1 58 rfl rfl
theorem wF_RX7_7 : Cond.fieldLink RX7 7 "HouseClausesModel" "s" "[I" ∈ hq_ws := hq_m5 27 rfl rfl
theorem wF_RX7_13 : Cond.fieldLink RX7 13 "HouseClausesModel" "text" "[C" ∈ hq_ws := hq_m5 31 rfl rfl
theorem wF_RX7_17 : Cond.fieldLink RX7 17 "HouseClausesModel" "lets" "[J" ∈ hq_ws := hq_m5 38 rfl rfl
theorem wF_RX7_21 : Cond.fieldLink RX7 21 "HouseClausesModel" "holds" "[J" ∈ hq_ws := hq_m5 39 rfl rfl
theorem wF_RX7_24 : Cond.fieldLink RX7 24 "HouseClausesModel" "isMade" "[Z" ∈ hq_ws := hq_m5 40 rfl rfl
theorem wF_RX7_28 : Cond.fieldLink RX7 28 "HouseClausesModel" "made" "[I" ∈ hq_ws := hq_m5 41 rfl rfl
theorem wF_RX7_31 : Cond.fieldLink RX7 31 "HouseClausesModel" "thrown" "I" ∈ hq_ws := hq_m5 30 rfl rfl
theorem wF_RX7_35 : Cond.fieldLink RX7 35 "HouseClausesModel" "states" "I" ∈ hq_ws := hq_m5 28 rfl rfl
theorem wF_RX7_113 : Cond.fieldLink RX7 113 "HouseClausesModel" "typed" "I" ∈ hq_ws := hq_m5 32 rfl rfl
theorem wF_RX7_116 : Cond.fieldLink RX7 116 "HouseClausesModel" "at" "I" ∈ hq_ws := hq_m5 33 rfl rfl
theorem wF_RX7_121 : Cond.fieldLink RX7 121 "HouseClausesModel" "second" "I" ∈ hq_ws := hq_m5 36 rfl rfl
theorem wF_RX7_124 : Cond.fieldLink RX7 124 "HouseClausesModel" "third" "I" ∈ hq_ws := hq_m5 37 rfl rfl
theorem wF_RX7_127 : Cond.fieldLink RX7 127 "HouseClausesModel" "what" "C" ∈ hq_ws := hq_m5 34 rfl rfl
theorem wF_RX7_134 : Cond.fieldLink RX7 134 "HouseClausesModel" "first" "I" ∈ hq_ws := hq_m5 35 rfl rfl
theorem wF_RX7_150 : Cond.fieldLink RX7 150 "HouseClausesModel" "isKept" "Z" ∈ hq_ws := hq_m5 29 rfl rfl
theorem wF_RX7_174 : Cond.fieldLink RX7 174 "HouseClausesModel" "many" "I" ∈ hq_ws := hq_m5 42 rfl rfl
theorem wKD_RX6_282 : Cond.constantDouble RX6 282 4634204016564240384 ∈ hq_ws := hq_m3 10 rfl rfl
theorem wKD_RX6_424 : Cond.constantDouble RX6 424 4611686018427387904 ∈ hq_ws := hq_m3 114 rfl rfl
theorem wKD_RX6_426 : Cond.constantDouble RX6 426 4841369599423283200 ∈ hq_ws := hq_m3 115 rfl rfl
theorem wKD_RX7_266 : Cond.constantDouble RX7 266 4634204016564240384 ∈ hq_ws := hq_m7 56 rfl rfl
theorem wKF_RX6_428 : Cond.constantFloat RX6 428 1258291200 ∈ hq_ws := hq_m3 120 rfl rfl
theorem wKI_RJ6_265 : Cond.constant RJ6 265 1431655765 ∈ hq_ws := hq_m2 163 rfl rfl
theorem wKI_RJ6_266 : Cond.constant RJ6 266 858993459 ∈ hq_ws := hq_m2 164 rfl rfl
theorem wKI_RJ6_267 : Cond.constant RJ6 267 252645135 ∈ hq_ws := hq_m2 165 rfl rfl
theorem wKL_RX6_253 : Cond.constantLong RX6 253 (-1) ∈ hq_ws := hq_m2 170 rfl rfl
theorem wKL_RX6_284 : Cond.constantLong RX6 284 4211 ∈ hq_ws := hq_m3 19 rfl rfl
theorem wKL_RX6_355 : Cond.constantLong RX6 355 31 ∈ hq_ws := hq_m3 27 rfl rfl
theorem wKL_RX6_422 : Cond.constantLong RX6 422 1023 ∈ hq_ws := hq_m3 113 rfl rfl
theorem wKL_RX0_83 : Cond.constantLong RX0 83 (-1) ∈ hq_ws := hq_m2 113 rfl rfl
theorem wKL_RX5_15 : Cond.constantLong RX5 15 (-1) ∈ hq_ws := hq_m2 150 rfl rfl
theorem wKL_RX7_50 : Cond.constantLong RX7 50 (-1) ∈ hq_ws := hq_m6 93 rfl rfl
theorem wKL_RX7_271 : Cond.constantLong RX7 271 4503599627370496 ∈ hq_ws := hq_m7 74 rfl rfl
theorem wKL_RX7_273 : Cond.constantLong RX7 273 2 ∈ hq_ws := hq_m7 75 rfl rfl
theorem wKL_RX7_275 : Cond.constantLong RX7 275 8388608 ∈ hq_ws := hq_m7 79 rfl rfl
theorem wKL_RX7_277 : Cond.constantLong RX7 277 16777216 ∈ hq_ws := hq_m7 80 rfl rfl
theorem wKL_RX7_279 : Cond.constantLong RX7 279 150 ∈ hq_ws := hq_m7 81 rfl rfl
theorem wKL_RX7_281 : Cond.constantLong RX7 281 4211 ∈ hq_ws := hq_m7 69 rfl rfl
theorem wKL_RX7_283 : Cond.constantLong RX7 283 31 ∈ hq_ws := hq_m7 70 rfl rfl
theorem wKL_RJ13_314 : Cond.constantLong RJ13 314 6148914691236517205 ∈ hq_ws := hq_m2 117 rfl rfl
theorem wKL_RJ13_316 : Cond.constantLong RJ13 316 3689348814741910323 ∈ hq_ws := hq_m2 118 rfl rfl
theorem wKL_RJ13_318 : Cond.constantLong RJ13 318 1085102592571150095 ∈ hq_ws := hq_m2 119 rfl rfl
theorem wM_RX6_78 : Cond.methodLink RX6 78 yX3_save ∈ hq_ws := hq_m3 216 rfl rfl
theorem wM_RX6_82 : Cond.methodLink RX6 82 yX0_addRule ∈ hq_ws := hq_m3 225 rfl rfl
theorem wM_RX6_86 : Cond.methodLink RX6 86 yX6_requireRule ∈ hq_ws := hq_m4 2 rfl rfl
theorem wM_RX6_90 : Cond.methodLink RX6 90 yX0_dropRule ∈ hq_ws := hq_m4 22 rfl rfl
theorem wM_RX6_93 : Cond.methodLink RX6 93 yX0_at ∈ hq_ws := hq_m2 174 rfl rfl
theorem wM_RX6_104 : Cond.methodLink RX6 104 yX0_waiveRule ∈ hq_ws := hq_m4 41 rfl rfl
theorem wM_RX6_108 : Cond.methodLink RX6 108 yX6_requireRoom ∈ hq_ws := hq_m4 52 rfl rfl
theorem wM_RX6_111 : Cond.methodLink RX6 111 yX0_canTurn ∈ hq_ws := hq_m4 56 rfl rfl
theorem wM_RX6_117 : Cond.methodLink RX6 117 yX0_turn ∈ hq_ws := hq_m4 62 rfl rfl
theorem wM_RX6_123 : Cond.methodLink RX6 123 yX6_requireNights ∈ hq_ws := hq_m4 81 rfl rfl
theorem wM_RX6_126 : Cond.methodLink RX6 126 yX0_passNights ∈ hq_ws := hq_m4 85 rfl rfl
theorem wM_RX6_133 : Cond.methodLink RX6 133 yX6_readLog ∈ hq_ws := hq_m1 226 rfl rfl
theorem wM_RX6_137 : Cond.methodLink RX6 137 yX2_isAtEnd ∈ hq_ws := hq_m4 109 rfl rfl
theorem wM_RX6_143 : Cond.methodLink RX6 143 yX6_doLog ∈ hq_ws := hq_m4 114 rfl rfl
theorem wM_RX6_146 : Cond.methodLink RX6 146 yX0_become ∈ hq_ws := hq_m2 40 rfl rfl
theorem wM_RX6_157 : Cond.methodLink RX6 157 yX3_restore ∈ hq_ws := hq_m4 138 rfl rfl
theorem wM_RX6_169 : Cond.methodLink RX6 169 yX0_daysWaived ∈ hq_ws := hq_m3 31 rfl rfl
theorem wM_RX6_174 : Cond.methodLink RX6 174 yX4_holdsOn ∈ hq_ws := hq_m4 185 rfl rfl
theorem wM_RX6_181 : Cond.methodLink RX6 181 yX0_rulesInForce ∈ hq_ws := hq_m2 68 rfl rfl
theorem wM_RX6_184 : Cond.methodLink RX6 184 yX0_rulesBroken ∈ hq_ws := hq_m2 76 rfl rfl
theorem wM_RX6_187 : Cond.methodLink RX6 187 yX0_refuser ∈ hq_ws := hq_m3 2 rfl rfl
theorem wM_RX6_196 : Cond.methodLink RX6 196 yX0_accounts ∈ hq_ws := hq_m2 92 rfl rfl
theorem wM_RX6_199 : Cond.methodLink RX6 199 yX6_requireSet ∈ hq_ws := hq_m4 207 rfl rfl
theorem wM_RX6_202 : Cond.methodLink RX6 202 yX0_waysOf ∈ hq_ws := hq_m2 179 rfl rfl
theorem wM_RX6_206 : Cond.methodLink RX6 206 yX6_splitWays ∈ hq_ws := hq_m2 124 rfl rfl
theorem wM_RX6_210 : Cond.methodLink RX6 210 yX1_joinAll ∈ hq_ws := hq_m3 58 rfl rfl
theorem wM_RX6_214 : Cond.methodLink RX6 214 yX1_hasNothing ∈ hq_ws := hq_m3 74 rfl rfl
theorem wM_RX6_218 : Cond.methodLink RX6 218 yX6_countWays ∈ hq_ws := hq_m2 100 rfl rfl
theorem wM_RX6_221 : Cond.methodLink RX6 221 yX0_peacefulWays ∈ hq_ws := hq_m2 104 rfl rfl
theorem wM_RX6_225 : Cond.methodLink RX6 225 yX6_hasWay ∈ hq_ws := hq_m2 139 rfl rfl
theorem wM_RX6_229 : Cond.methodLink RX6 229 yX6_commonIn ∈ hq_ws := hq_m3 50 rfl rfl
theorem wM_RX6_232 : Cond.methodLink RX6 232 yX6_followsFromOthers ∈ hq_ws := hq_m3 38 rfl rfl
theorem wM_RX6_235 : Cond.methodLink RX6 235 yX6_followsWhenSplit ∈ hq_ws := hq_m3 42 rfl rfl
theorem wM_RX6_238 : Cond.methodLink RX6 238 yX5_fill ∈ hq_ws := hq_m2 146 rfl rfl
theorem wM_RX6_241 : Cond.methodLink RX6 241 yX6_isPartOf ∈ hq_ws := hq_m2 156 rfl rfl
theorem wM_RX6_245 : Cond.methodLink RX6 245 yX5_of ∈ hq_ws := hq_m2 159 rfl rfl
theorem wM_RX6_248 : Cond.methodLink RX6 248 yJ6_bitCount_0f7a4 ∈ hq_ws := hq_m2 160 rfl rfl
theorem wM_RX6_255 : Cond.methodLink RX6 255 yX6_leastClash ∈ hq_ws := hq_m2 171 rfl rfl
theorem wM_RX6_259 : Cond.methodLink RX6 259 yX5_isNarrowClash ∈ hq_ws := hq_m2 184 rfl rfl
theorem wM_RX6_262 : Cond.methodLink RX6 262 yJ6_compare_7cf53 ∈ hq_ws := hq_m2 192 rfl rfl
theorem wM_RX6_265 : Cond.methodLink RX6 265 yX6_oneTurnFurther ∈ hq_ws := hq_m2 207 rfl rfl
theorem wM_RX6_269 : Cond.methodLink RX6 269 yX0_nightIn ∈ hq_ws := hq_m2 214 rfl rfl
theorem wM_RX6_272 : Cond.methodLink RX6 272 yX0_pricesOf ∈ hq_ws := hq_m2 231 rfl rfl
theorem wM_RX6_275 : Cond.methodLink RX6 275 yX6_splitCheapest ∈ hq_ws := hq_m2 232 rfl rfl
theorem wM_RX6_279 : Cond.methodLink RX6 279 yX0_nightsAhead ∈ hq_ws := hq_m3 100 rfl rfl
theorem wM_RX6_286 : Cond.methodLink RX6 286 yX6_digestRules ∈ hq_ws := hq_m3 20 rfl rfl
theorem wM_RX6_289 : Cond.methodLink RX6 289 yX6_digestHouse ∈ hq_ws := hq_m3 46 rfl rfl
theorem wM_RX6_292 : Cond.methodLink RX6 292 yX6_digestStanding ∈ hq_ws := hq_m3 54 rfl rfl
theorem wM_RX6_295 : Cond.methodLink RX6 295 yX6_digestClashes ∈ hq_ws := hq_m3 80 rfl rfl
theorem wM_RX6_298 : Cond.methodLink RX6 298 yX6_digestPeace ∈ hq_ws := hq_m3 90 rfl rfl
theorem wM_RX6_301 : Cond.methodLink RX6 301 yX6_digestRest ∈ hq_ws := hq_m3 105 rfl rfl
theorem wM_RX6_315 : Cond.methodLink RX6 315 yJ13_bitCount_95d88 ∈ hq_ws := hq_m2 114 rfl rfl
theorem wM_RX6_324 : Cond.methodLink RX6 324 yX0_rulesLost ∈ hq_ws := hq_m2 127 rfl rfl
theorem wM_RX6_327 : Cond.methodLink RX6 327 yJ9_min_7cf53 ∈ hq_ws := hq_m2 235 rfl rfl
theorem wM_RX6_332 : Cond.methodLink RX6 332 yX2_begin ∈ hq_ws := hq_m1 230 rfl rfl
theorem wM_RX6_335 : Cond.methodLink RX6 335 yX2_take ∈ hq_ws := hq_m1 234 rfl rfl
theorem wM_RX6_338 : Cond.methodLink RX6 338 yX6_doPart ∈ hq_ws := hq_m4 118 rfl rfl
theorem wM_RX6_357 : Cond.methodLink RX6 357 yX6_mix ∈ hq_ws := hq_m3 24 rfl rfl
theorem wM_RX6_361 : Cond.methodLink RX6 361 yX6_mix_ ∈ hq_ws := hq_m3 28 rfl rfl
theorem wM_RX6_364 : Cond.methodLink RX6 364 yX6_waysBySplitting ∈ hq_ws := hq_m3 78 rfl rfl
theorem wM_RX6_367 : Cond.methodLink RX6 367 yX6_firstWay ∈ hq_ws := hq_m3 79 rfl rfl
theorem wM_RX6_370 : Cond.methodLink RX6 370 yX6_smallestClash ∈ hq_ws := hq_m3 84 rfl rfl
theorem wM_RX6_373 : Cond.methodLink RX6 373 yX6_smallestClashByWays ∈ hq_ws := hq_m3 85 rfl rfl
theorem wM_RX6_376 : Cond.methodLink RX6 376 yX6_narrowedClash ∈ hq_ws := hq_m3 86 rfl rfl
theorem wM_RX6_379 : Cond.methodLink RX6 379 yX6_narrowClashes ∈ hq_ws := hq_m3 87 rfl rfl
theorem wM_RX6_382 : Cond.methodLink RX6 382 yX6_fewestWaivers ∈ hq_ws := hq_m3 88 rfl rfl
theorem wM_RX6_385 : Cond.methodLink RX6 385 yX6_fewestWaiversBySets ∈ hq_ws := hq_m3 89 rfl rfl
theorem wM_RX6_388 : Cond.methodLink RX6 388 yX6_turnsToPeace ∈ hq_ws := hq_m3 94 rfl rfl
theorem wM_RX6_391 : Cond.methodLink RX6 391 yX6_turnsToPeaceByGoing ∈ hq_ws := hq_m3 95 rfl rfl
theorem wM_RX6_394 : Cond.methodLink RX6 394 yX6_nightNow ∈ hq_ws := hq_m3 96 rfl rfl
theorem wM_RX6_397 : Cond.methodLink RX6 397 yX6_cheapestWay ∈ hq_ws := hq_m3 97 rfl rfl
theorem wM_RX6_400 : Cond.methodLink RX6 400 yX6_cheapestNight ∈ hq_ws := hq_m3 98 rfl rfl
theorem wM_RX6_403 : Cond.methodLink RX6 403 yX6_bestTurn ∈ hq_ws := hq_m3 99 rfl rfl
theorem wM_RX6_406 : Cond.methodLink RX6 406 yX6_peaceShare ∈ hq_ws := hq_m3 109 rfl rfl
theorem wM_RX6_410 : Cond.methodLink RX6 410 yX6_bitsOfShare ∈ hq_ws := hq_m3 110 rfl rfl
theorem wM_RX6_414 : Cond.methodLink RX6 414 yX6_meanFine ∈ hq_ws := hq_m3 116 rfl rfl
theorem wM_RX6_418 : Cond.methodLink RX6 418 yX6_bitsOfMean ∈ hq_ws := hq_m3 117 rfl rfl
theorem wM_RX0_38 : Cond.methodLink RX0 38 yX0_at ∈ hq_ws := hq_m2 44 rfl rfl
theorem wM_RX0_42 : Cond.methodLink RX0 42 yX4_become ∈ hq_ws := hq_m2 48 rfl rfl
theorem wM_RX0_46 : Cond.methodLink RX0 46 yX4_begin ∈ hq_ws := hq_m3 229 rfl rfl
theorem wM_RX0_56 : Cond.methodLink RX0 56 yJ9_max_7cf53 ∈ hq_ws := hq_m3 35 rfl rfl
theorem wM_RX0_62 : Cond.methodLink RX0 62 yX4_holdsOn ∈ hq_ws := hq_m2 80 rfl rfl
theorem wM_RX0_66 : Cond.methodLink RX0 66 yX4_hasLostAll ∈ hq_ws := hq_m2 131 rfl rfl
theorem wM_RX0_73 : Cond.methodLink RX0 73 yX0_rulesBroken ∈ hq_ws := hq_m2 218 rfl rfl
theorem wM_RX0_76 : Cond.methodLink RX0 76 yX0_pricesOf ∈ hq_ws := hq_m2 219 rfl rfl
theorem wM_RX0_80 : Cond.methodLink RX0 80 yX0_nightIn ∈ hq_ws := hq_m3 104 rfl rfl
theorem wM_RX0_89 : Cond.methodLink RX0 89 yX0_rulesInForce ∈ hq_ws := hq_m2 108 rfl rfl
theorem wM_RX0_92 : Cond.methodLink RX0 92 yX0_waysOf ∈ hq_ws := hq_m2 109 rfl rfl
theorem wM_RX0_100 : Cond.methodLink RX0 100 yX0_refuser ∈ hq_ws := hq_m4 60 rfl rfl
theorem wM_RX0_103 : Cond.methodLink RX0 103 yX0_passNight ∈ hq_ws := hq_m4 89 rfl rfl
theorem wM_RX1_23 : Cond.methodLink RX1 23 yJ7_fill_d0a16 ∈ hq_ws := hq_m3 62 rfl rfl
theorem wM_RX1_32 : Cond.methodLink RX1 32 yX0_at ∈ hq_ws := hq_m3 65 rfl rfl
theorem wM_RX1_44 : Cond.methodLink RX1 44 yX1_add ∈ hq_ws := hq_m3 66 rfl rfl
theorem wM_RX1_48 : Cond.methodLink RX1 48 yX1_joinWithEarlier ∈ hq_ws := hq_m3 70 rfl rfl
theorem wM_RX2_18 : Cond.methodLink RX2 18 yX2_takeKind ∈ hq_ws := hq_m1 238 rfl rfl
theorem wM_RX2_22 : Cond.methodLink RX2 22 yX2_takeNumber ∈ hq_ws := hq_m2 5 rfl rfl
theorem wM_RX2_26 : Cond.methodLink RX2 26 yX2_takeSign ∈ hq_ws := hq_m2 9 rfl rfl
theorem wM_RX2_29 : Cond.methodLink RX2 29 yX2_takeEnd ∈ hq_ws := hq_m2 20 rfl rfl
theorem wM_RX2_32 : Cond.methodLink RX2 32 yX2_takeRoomToBeEmpty ∈ hq_ws := hq_m2 24 rfl rfl
theorem wM_RX2_35 : Cond.methodLink RX2 35 yX2_takeRoom ∈ hq_ws := hq_m2 28 rfl rfl
theorem wM_RX2_38 : Cond.methodLink RX2 38 yX2_takeDays ∈ hq_ws := hq_m2 32 rfl rfl
theorem wM_RX2_41 : Cond.methodLink RX2 41 yX2_stageBehind ∈ hq_ws := hq_m2 2 rfl rfl
theorem wM_RX2_57 : Cond.methodLink RX2 57 yX2_isRoom ∈ hq_ws := hq_m2 17 rfl rfl
theorem wM_RX2_63 : Cond.methodLink RX2 63 yX2_isUnnamedRoom ∈ hq_ws := hq_m2 13 rfl rfl
theorem wM_RX3_29 : Cond.methodLink RX3 29 yX3_place ∈ hq_ws := hq_m3 220 rfl rfl
theorem wM_RX3_33 : Cond.methodLink RX3 33 yX0_become ∈ hq_ws := hq_m3 224 rfl rfl
theorem wM_RX4_35 : Cond.methodLink RX4 35 yX4_holdsOn ∈ hq_ws := hq_m3 233 rfl rfl
theorem wM_RX5_23 : Cond.methodLink RX5 23 yX5_of ∈ hq_ws := hq_m2 151 rfl rfl
theorem wM_RX5_27 : Cond.methodLink RX5 27 yX0_at ∈ hq_ws := hq_m2 155 rfl rfl
theorem wM_RX7_38 : Cond.methodLink RX7 38 yX7_copies ∈ hq_ws := hq_m5 100 rfl rfl
theorem wM_RX7_42 : Cond.methodLink RX7 42 yX7_in ∈ hq_ws := hq_m5 86 rfl rfl
theorem wM_RX7_46 : Cond.methodLink RX7 46 yX7_isIn ∈ hq_ws := hq_m5 146 rfl rfl
theorem wM_RX7_52 : Cond.methodLink RX7 52 yX7_at ∈ hq_ws := hq_m5 108 rfl rfl
theorem wM_RX7_56 : Cond.methodLink RX7 56 yX7_waysOf ∈ hq_ws := hq_m6 89 rfl rfl
theorem wM_RX7_60 : Cond.methodLink RX7 60 yX7_isForce ∈ hq_ws := hq_m5 153 rfl rfl
theorem wM_RX7_63 : Cond.methodLink RX7 63 yX7_holdsNow ∈ hq_ws := hq_m5 157 rfl rfl
theorem wM_RX7_66 : Cond.methodLink RX7 66 yX7_areMasks ∈ hq_ws := hq_m5 89 rfl rfl
theorem wM_RX7_69 : Cond.methodLink RX7 69 yX7_goes ∈ hq_ws := hq_m5 92 rfl rfl
theorem wM_RX7_73 : Cond.methodLink RX7 73 yX7_saves ∈ hq_ws := hq_m5 96 rfl rfl
theorem wM_RX7_76 : Cond.methodLink RX7 76 yX7_makes ∈ hq_ws := hq_m5 104 rfl rfl
theorem wM_RX7_80 : Cond.methodLink RX7 80 yX7_isRule ∈ hq_ws := hq_m5 115 rfl rfl
theorem wM_RX7_84 : Cond.methodLink RX7 84 yX7_waives ∈ hq_ws := hq_m5 127 rfl rfl
theorem wM_RX7_88 : Cond.methodLink RX7 88 yX7_isRoom ∈ hq_ws := hq_m5 139 rfl rfl
theorem wM_RX7_91 : Cond.methodLink RX7 91 yX7_isLet ∈ hq_ws := hq_m5 142 rfl rfl
theorem wM_RX7_94 : Cond.methodLink RX7 94 yX7_refuser ∈ hq_ws := hq_m5 149 rfl rfl
theorem wM_RX7_97 : Cond.methodLink RX7 97 yX7_turns ∈ hq_ws := hq_m5 161 rfl rfl
theorem wM_RX7_100 : Cond.methodLink RX7 100 yX7_turnsIf ∈ hq_ws := hq_m5 135 rfl rfl
theorem wM_RX7_104 : Cond.methodLink RX7 104 yX7_brokenIn ∈ hq_ws := hq_m5 177 rfl rfl
theorem wM_RX7_107 : Cond.methodLink RX7 107 yX7_finesOfSet ∈ hq_ws := hq_m5 181 rfl rfl
theorem wM_RX7_110 : Cond.methodLink RX7 110 yX7_nights ∈ hq_ws := hq_m5 173 rfl rfl
theorem wM_RX7_118 : Cond.methodLink RX7 118 yX7_isAt ∈ hq_ws := hq_m5 209 rfl rfl
theorem wM_RX7_131 : Cond.methodLink RX7 131 yX7_reads ∈ hq_ws := hq_m5 205 rfl rfl
theorem wM_RX7_137 : Cond.methodLink RX7 137 yX7_signs ∈ hq_ws := hq_m5 213 rfl rfl
theorem wM_RX7_141 : Cond.methodLink RX7 141 yX7_part ∈ hq_ws := hq_m5 201 rfl rfl
theorem wM_RX7_144 : Cond.methodLink RX7 144 yX7_isLog ∈ hq_ws := hq_m5 197 rfl rfl
theorem wM_RX7_147 : Cond.methodLink RX7 147 yX7_does ∈ hq_ws := hq_m5 221 rfl rfl
theorem wM_RX7_154 : Cond.methodLink RX7 154 yX7_of ∈ hq_ws := hq_m6 5 rfl rfl
theorem wM_RX7_157 : Cond.methodLink RX7 157 yX7_waived ∈ hq_ws := hq_m6 25 rfl rfl
theorem wM_RX7_160 : Cond.methodLink RX7 160 yX7_force ∈ hq_ws := hq_m6 45 rfl rfl
theorem wM_RX7_164 : Cond.methodLink RX7 164 yX7_sumOfRules ∈ hq_ws := hq_m6 69 rfl rfl
theorem wM_RX7_167 : Cond.methodLink RX7 167 yX7_looks ∈ hq_ws := hq_m6 85 rfl rfl
theorem wM_RX7_170 : Cond.methodLink RX7 170 yX7_waysOfAll ∈ hq_ws := hq_m6 94 rfl rfl
theorem wM_RX7_177 : Cond.methodLink RX7 177 yX7_puts ∈ hq_ws := hq_m6 118 rfl rfl
theorem wM_RX7_180 : Cond.methodLink RX7 180 yX7_joins ∈ hq_ws := hq_m6 122 rfl rfl
theorem wM_RX7_183 : Cond.methodLink RX7 183 yX7_closes ∈ hq_ws := hq_m6 114 rfl rfl
theorem wM_RX7_186 : Cond.methodLink RX7 186 yX7_areRules ∈ hq_ws := hq_m6 77 rfl rfl
theorem wM_RX7_189 : Cond.methodLink RX7 189 yX7_stands ∈ hq_ws := hq_m6 81 rfl rfl
theorem wM_RX7_192 : Cond.methodLink RX7 192 yX7_splits ∈ hq_ws := hq_m6 102 rfl rfl
theorem wM_RX7_195 : Cond.methodLink RX7 195 yX7_standsByJoining ∈ hq_ws := hq_m6 110 rfl rfl
theorem wM_RX7_198 : Cond.methodLink RX7 198 yX7_peace ∈ hq_ws := hq_m6 134 rfl rfl
theorem wM_RX7_202 : Cond.methodLink RX7 202 yX7_countWays ∈ hq_ws := hq_m6 138 rfl rfl
theorem wM_RX7_206 : Cond.methodLink RX7 206 yX7_waysSplit ∈ hq_ws := hq_m6 145 rfl rfl
theorem wM_RX7_209 : Cond.methodLink RX7 209 yX7_least ∈ hq_ws := hq_m6 153 rfl rfl
theorem wM_RX7_212 : Cond.methodLink RX7 212 yX7_alike ∈ hq_ws := hq_m6 161 rfl rfl
theorem wM_RX7_215 : Cond.methodLink RX7 215 yX7_comesOf ∈ hq_ws := hq_m6 169 rfl rfl
theorem wM_RX7_218 : Cond.methodLink RX7 218 yX7_comesBySplitting ∈ hq_ws := hq_m6 177 rfl rfl
theorem wM_RX7_221 : Cond.methodLink RX7 221 yX7_isWithin ∈ hq_ws := hq_m6 189 rfl rfl
theorem wM_RX7_224 : Cond.methodLink RX7 224 yX7_count ∈ hq_ws := hq_m6 193 rfl rfl
theorem wM_RX7_227 : Cond.methodLink RX7 227 yX7_smallest ∈ hq_ws := hq_m6 185 rfl rfl
theorem wM_RX7_230 : Cond.methodLink RX7 230 yX7_smallestMeeting ∈ hq_ws := hq_m6 200 rfl rfl
theorem wM_RX7_233 : Cond.methodLink RX7 233 yX7_narrowed ∈ hq_ws := hq_m6 208 rfl rfl
theorem wM_RX7_236 : Cond.methodLink RX7 236 yX7_isNarrow ∈ hq_ws := hq_m6 220 rfl rfl
theorem wM_RX7_239 : Cond.methodLink RX7 239 yX7_narrows ∈ hq_ws := hq_m6 216 rfl rfl
theorem wM_RX7_242 : Cond.methodLink RX7 242 yX7_waivers ∈ hq_ws := hq_m6 228 rfl rfl
theorem wM_RX7_245 : Cond.methodLink RX7 245 yX7_waiversBySets ∈ hq_ws := hq_m6 236 rfl rfl
theorem wM_RX7_248 : Cond.methodLink RX7 248 yX7_turnsBest ∈ hq_ws := hq_m7 4 rfl rfl
theorem wM_RX7_251 : Cond.methodLink RX7 251 yX7_turnsGoing ∈ hq_ws := hq_m7 12 rfl rfl
theorem wM_RX7_254 : Cond.methodLink RX7 254 yX7_nightIn ∈ hq_ws := hq_m7 20 rfl rfl
theorem wM_RX7_257 : Cond.methodLink RX7 257 yX7_cheapest ∈ hq_ws := hq_m7 28 rfl rfl
theorem wM_RX7_260 : Cond.methodLink RX7 260 yX7_turnBest ∈ hq_ws := hq_m7 40 rfl rfl
theorem wM_RX7_263 : Cond.methodLink RX7 263 yX7_ahead ∈ hq_ws := hq_m7 48 rfl rfl
theorem wM_RX7_268 : Cond.methodLink RX7 268 yX7_sumOfFines ∈ hq_ws := hq_m7 61 rfl rfl
theorem wM_RX7_285 : Cond.methodLink RX7 285 yX7_shareBits ∈ hq_ws := hq_m7 71 rfl rfl
theorem wM_RX7_288 : Cond.methodLink RX7 288 yX7_meanBits ∈ hq_ws := hq_m7 76 rfl rfl
theorem wCL_59 : Cond.classLink RX6 59 "java/lang/IllegalArgumentException" ∈ hq_ws := hq_m3 130 rfl rfl
theorem wIN_IllegalArgumentException : Cond.initialized "java/lang/IllegalArgumentException" ∈ hq_ws := hq_m1 12 rfl rfl
theorem wAT_63 : ∀ w ∈ vx_atS RX6 63 "java/lang/IllegalArgumentException" ["java/lang/RuntimeException", "java/lang/Exception"], w ∈ hq_ws ∨ w ∈ hq_wx := by
  intro w hw
  have e : vx_atS RX6 63 "java/lang/IllegalArgumentException" ["java/lang/RuntimeException", "java/lang/Exception"] = [.initialized "java/lang/Throwable", .superclass "java/lang/Throwable" "java/lang/Object", .instanceMethod ⟨"java/lang/Throwable", "fillInStackTrace", "()Ljava/lang/Throwable;"⟩, .codeSync ⟨"java/lang/Throwable", "fillInStackTrace", "()Ljava/lang/Throwable;"⟩ prog_19_method_18_code 1 (some (.object "java/lang/Throwable")), .instanceMethod ⟨"java/lang/Throwable", "fillInStackTrace", "(I)Ljava/lang/Throwable;"⟩, .native ⟨"java/lang/Throwable", "fillInStackTrace", "(I)Ljava/lang/Throwable;"⟩, .instanceMethod ⟨"java/lang/Throwable", "<init>", "()V"⟩, .code ⟨"java/lang/Throwable", "<init>", "()V"⟩ prog_19_method_1_code 1 none, .instanceMethod ⟨"java/lang/Object", "<init>", "()V"⟩, .code ⟨"java/lang/Object", "<init>", "()V"⟩ ⟨#[0xb1]⟩ 1 none, .methodLink "java/lang/Throwable" 1 ⟨"java/lang/Object", "<init>", "()V"⟩, .methodLink "java/lang/Throwable" 27 ⟨"java/lang/Throwable", "fillInStackTrace", "()Ljava/lang/Throwable;"⟩, .methodLink "java/lang/Throwable" 202 ⟨"java/lang/Throwable", "fillInStackTrace", "(I)Ljava/lang/Throwable;"⟩, .fieldLink "java/lang/Throwable" 7 "java/lang/Throwable" "cause" "Ljava/lang/Throwable;", .lays "java/lang/Throwable" "java/lang/Throwable" "cause" "Ljava/lang/Throwable;", .fieldLink "java/lang/Throwable" 17 "java/lang/Throwable" "stackTrace" "[Ljava/lang/StackTraceElement;", .lays "java/lang/Throwable" "java/lang/Throwable" "stackTrace" "[Ljava/lang/StackTraceElement;", .fieldLink "java/lang/Throwable" 24 "java/lang/Throwable" "suppressedExceptions" "Ljava/util/List;", .lays "java/lang/Throwable" "java/lang/Throwable" "suppressedExceptions" "Ljava/util/List;", .fieldLink "java/lang/Throwable" 13 "java/lang/Throwable" "UNASSIGNED_STACK" "[Ljava/lang/StackTraceElement;", .fieldLink "java/lang/Throwable" 20 "java/lang/Throwable" "SUPPRESSED_SENTINEL" "Ljava/util/List;", .lays "java/lang/Throwable" "java/lang/Throwable" "detailMessage" "Ljava/lang/String;", .instanceMethod ⟨"java/lang/Throwable", "<init>", "(Ljava/lang/String;)V"⟩, .code ⟨"java/lang/Throwable", "<init>", "(Ljava/lang/String;)V"⟩ prog_19_method_2_code 2 none, .fieldLink "java/lang/Throwable" 31 "java/lang/Throwable" "detailMessage" "Ljava/lang/String;", .lays "java/lang/Throwable" "java/lang/Throwable" "detailMessage" "Ljava/lang/String;", .instanceMethod ⟨"java/lang/IllegalArgumentException", "<init>", "(Ljava/lang/String;)V"⟩, .code ⟨"java/lang/IllegalArgumentException", "<init>", "(Ljava/lang/String;)V"⟩ Bundle.six 2 none, .methodLink "java/lang/IllegalArgumentException" 7 ⟨"java/lang/RuntimeException", "<init>", "(Ljava/lang/String;)V"⟩, .instanceMethod ⟨"java/lang/RuntimeException", "<init>", "(Ljava/lang/String;)V"⟩, .declares ⟨"java/lang/RuntimeException", "<init>", "(Ljava/lang/String;)V"⟩, .instanceMethod ⟨"java/lang/RuntimeException", "<init>", "(Ljava/lang/String;)V"⟩, .code ⟨"java/lang/RuntimeException", "<init>", "(Ljava/lang/String;)V"⟩ Bundle.six 2 none, .methodLink "java/lang/RuntimeException" 7 ⟨"java/lang/Exception", "<init>", "(Ljava/lang/String;)V"⟩, .instanceMethod ⟨"java/lang/Exception", "<init>", "(Ljava/lang/String;)V"⟩, .declares ⟨"java/lang/Exception", "<init>", "(Ljava/lang/String;)V"⟩, .instanceMethod ⟨"java/lang/Exception", "<init>", "(Ljava/lang/String;)V"⟩, .code ⟨"java/lang/Exception", "<init>", "(Ljava/lang/String;)V"⟩ Bundle.six 2 none, .methodLink "java/lang/Exception" 7 ⟨"java/lang/Throwable", "<init>", "(Ljava/lang/String;)V"⟩, .instanceMethod ⟨"java/lang/Throwable", "<init>", "(Ljava/lang/String;)V"⟩, .declares ⟨"java/lang/Throwable", "<init>", "(Ljava/lang/String;)V"⟩, .methodLink "HouseClauses" 63 ⟨"java/lang/IllegalArgumentException", "<init>", "(Ljava/lang/String;)V"⟩, .instantiable "java/lang/IllegalArgumentException" 6, .castable "java/lang/IllegalArgumentException" "java/lang/IllegalArgumentException", .selects "java/lang/IllegalArgumentException" ⟨"java/lang/Throwable", "fillInStackTrace", "(I)Ljava/lang/Throwable;"⟩ ⟨"java/lang/Throwable", "fillInStackTrace", "(I)Ljava/lang/Throwable;"⟩, .selects "java/lang/IllegalArgumentException" ⟨"java/lang/Throwable", "fillInStackTrace", "()Ljava/lang/Throwable;"⟩ ⟨"java/lang/Throwable", "fillInStackTrace", "()Ljava/lang/Throwable;"⟩, .lays "java/lang/IllegalArgumentException" "java/lang/Throwable" "cause" "Ljava/lang/Throwable;", .lays "java/lang/IllegalArgumentException" "java/lang/Throwable" "stackTrace" "[Ljava/lang/StackTraceElement;", .lays "java/lang/IllegalArgumentException" "java/lang/Throwable" "suppressedExceptions" "Ljava/util/List;", .lays "java/lang/IllegalArgumentException" "java/lang/Throwable" "detailMessage" "Ljava/lang/String;", .fieldLink "java/lang/Throwable" 198 "java/lang/Throwable" "backtrace" "Ljava/lang/Object;", .lays "java/lang/Throwable" "java/lang/Throwable" "backtrace" "Ljava/lang/Object;", .lays "java/lang/IllegalArgumentException" "java/lang/Throwable" "backtrace" "Ljava/lang/Object;"] := by decide +kernel
  rw [e] at hw
  simp only [List.mem_cons, List.not_mem_nil, or_false] at hw
  rcases hw with rfl | rfl | rfl | rfl | rfl | rfl | rfl | rfl | rfl | rfl | rfl | rfl | rfl | rfl | rfl | rfl | rfl | rfl | rfl | rfl | rfl | rfl | rfl | rfl | rfl | rfl | rfl | rfl | rfl | rfl | rfl | rfl | rfl | rfl | rfl | rfl | rfl | rfl | rfl | rfl | rfl | rfl | rfl | rfl | rfl | rfl | rfl | rfl | rfl | rfl | rfl | rfl | rfl
  · exact Or.inl (hq_m1 9 rfl rfl)
  · exact Or.inl (hq_m3 152 rfl rfl)
  · exact Or.inl (hq_m3 161 rfl rfl)
  · exact Or.inl (hq_m3 165 rfl rfl)
  · exact Or.inl (hq_m3 168 rfl rfl)
  · exact Or.inl (hq_m3 170 rfl rfl)
  · exact Or.inl (hq_m3 153 rfl rfl)
  · exact Or.inl (hq_m3 154 rfl rfl)
  · exact Or.inl (hq_m1 25 rfl rfl)
  · exact Or.inl (hq_m1 26 rfl rfl)
  · exact Or.inl (hq_m3 155 rfl rfl)
  · exact Or.inl (hq_m3 160 rfl rfl)
  · exact Or.inl (hq_m3 166 rfl rfl)
  · exact Or.inl (hq_m3 186 rfl rfl)
  · exact Or.inl (hq_m3 142 rfl rfl)
  · exact Or.inl (hq_m3 187 rfl rfl)
  · exact Or.inl (hq_m3 144 rfl rfl)
  · exact Or.inl (hq_m3 188 rfl rfl)
  · exact Or.inl (hq_m3 146 rfl rfl)
  · exact Or.inl (hq_m3 156 rfl rfl)
  · exact Or.inl (hq_m3 158 rfl rfl)
  · exact Or.inl (hq_m3 148 rfl rfl)
  · exact Or.inl (hq_m3 182 rfl rfl)
  · exact Or.inl (hq_m3 183 rfl rfl)
  · exact Or.inl (hq_m3 185 rfl rfl)
  · exact Or.inl (hq_m3 148 rfl rfl)
  · exact Or.inl (hq_m3 173 rfl rfl)
  · exact Or.inl (hq_m3 174 rfl rfl)
  · exact Or.inl (hq_m3 175 rfl rfl)
  · exact Or.inl (hq_m3 176 rfl rfl)
  · exact Or.inr (by decide +kernel)
  · exact Or.inl (hq_m3 176 rfl rfl)
  · exact Or.inl (hq_m3 177 rfl rfl)
  · exact Or.inl (hq_m3 178 rfl rfl)
  · exact Or.inl (hq_m3 179 rfl rfl)
  · exact Or.inr (by decide +kernel)
  · exact Or.inl (hq_m3 179 rfl rfl)
  · exact Or.inl (hq_m3 180 rfl rfl)
  · exact Or.inl (hq_m3 181 rfl rfl)
  · exact Or.inl (hq_m3 182 rfl rfl)
  · exact Or.inr (by decide +kernel)
  · exact Or.inl (hq_m3 172 rfl rfl)
  · exact Or.inl (hq_m3 131 rfl rfl)
  · exact Or.inr (by decide +kernel)
  · exact Or.inl (hq_m3 139 rfl rfl)
  · exact Or.inl (hq_m3 140 rfl rfl)
  · exact Or.inl (hq_m3 141 rfl rfl)
  · exact Or.inl (hq_m3 143 rfl rfl)
  · exact Or.inl (hq_m3 145 rfl rfl)
  · exact Or.inl (hq_m3 147 rfl rfl)
  · exact Or.inl (hq_m3 151 rfl rfl)
  · exact Or.inl (hq_m3 150 rfl rfl)
  · exact Or.inl (hq_m3 149 rfl rfl)
theorem wCL_73 : Cond.classLink RX6 73 "java/lang/IllegalStateException" ∈ hq_ws := hq_m3 200 rfl rfl
theorem wIN_IllegalStateException : Cond.initialized "java/lang/IllegalStateException" ∈ hq_ws := hq_m1 13 rfl rfl
theorem wAT_77 : ∀ w ∈ vx_atS RX6 77 "java/lang/IllegalStateException" ["java/lang/RuntimeException", "java/lang/Exception"], w ∈ hq_ws ∨ w ∈ hq_wx := by
  intro w hw
  have e : vx_atS RX6 77 "java/lang/IllegalStateException" ["java/lang/RuntimeException", "java/lang/Exception"] = [.initialized "java/lang/Throwable", .superclass "java/lang/Throwable" "java/lang/Object", .instanceMethod ⟨"java/lang/Throwable", "fillInStackTrace", "()Ljava/lang/Throwable;"⟩, .codeSync ⟨"java/lang/Throwable", "fillInStackTrace", "()Ljava/lang/Throwable;"⟩ prog_19_method_18_code 1 (some (.object "java/lang/Throwable")), .instanceMethod ⟨"java/lang/Throwable", "fillInStackTrace", "(I)Ljava/lang/Throwable;"⟩, .native ⟨"java/lang/Throwable", "fillInStackTrace", "(I)Ljava/lang/Throwable;"⟩, .instanceMethod ⟨"java/lang/Throwable", "<init>", "()V"⟩, .code ⟨"java/lang/Throwable", "<init>", "()V"⟩ prog_19_method_1_code 1 none, .instanceMethod ⟨"java/lang/Object", "<init>", "()V"⟩, .code ⟨"java/lang/Object", "<init>", "()V"⟩ ⟨#[0xb1]⟩ 1 none, .methodLink "java/lang/Throwable" 1 ⟨"java/lang/Object", "<init>", "()V"⟩, .methodLink "java/lang/Throwable" 27 ⟨"java/lang/Throwable", "fillInStackTrace", "()Ljava/lang/Throwable;"⟩, .methodLink "java/lang/Throwable" 202 ⟨"java/lang/Throwable", "fillInStackTrace", "(I)Ljava/lang/Throwable;"⟩, .fieldLink "java/lang/Throwable" 7 "java/lang/Throwable" "cause" "Ljava/lang/Throwable;", .lays "java/lang/Throwable" "java/lang/Throwable" "cause" "Ljava/lang/Throwable;", .fieldLink "java/lang/Throwable" 17 "java/lang/Throwable" "stackTrace" "[Ljava/lang/StackTraceElement;", .lays "java/lang/Throwable" "java/lang/Throwable" "stackTrace" "[Ljava/lang/StackTraceElement;", .fieldLink "java/lang/Throwable" 24 "java/lang/Throwable" "suppressedExceptions" "Ljava/util/List;", .lays "java/lang/Throwable" "java/lang/Throwable" "suppressedExceptions" "Ljava/util/List;", .fieldLink "java/lang/Throwable" 13 "java/lang/Throwable" "UNASSIGNED_STACK" "[Ljava/lang/StackTraceElement;", .fieldLink "java/lang/Throwable" 20 "java/lang/Throwable" "SUPPRESSED_SENTINEL" "Ljava/util/List;", .lays "java/lang/Throwable" "java/lang/Throwable" "detailMessage" "Ljava/lang/String;", .instanceMethod ⟨"java/lang/Throwable", "<init>", "(Ljava/lang/String;)V"⟩, .code ⟨"java/lang/Throwable", "<init>", "(Ljava/lang/String;)V"⟩ prog_19_method_2_code 2 none, .fieldLink "java/lang/Throwable" 31 "java/lang/Throwable" "detailMessage" "Ljava/lang/String;", .lays "java/lang/Throwable" "java/lang/Throwable" "detailMessage" "Ljava/lang/String;", .instanceMethod ⟨"java/lang/IllegalStateException", "<init>", "(Ljava/lang/String;)V"⟩, .code ⟨"java/lang/IllegalStateException", "<init>", "(Ljava/lang/String;)V"⟩ Bundle.six 2 none, .methodLink "java/lang/IllegalStateException" 7 ⟨"java/lang/RuntimeException", "<init>", "(Ljava/lang/String;)V"⟩, .instanceMethod ⟨"java/lang/RuntimeException", "<init>", "(Ljava/lang/String;)V"⟩, .declares ⟨"java/lang/RuntimeException", "<init>", "(Ljava/lang/String;)V"⟩, .instanceMethod ⟨"java/lang/RuntimeException", "<init>", "(Ljava/lang/String;)V"⟩, .code ⟨"java/lang/RuntimeException", "<init>", "(Ljava/lang/String;)V"⟩ Bundle.six 2 none, .methodLink "java/lang/RuntimeException" 7 ⟨"java/lang/Exception", "<init>", "(Ljava/lang/String;)V"⟩, .instanceMethod ⟨"java/lang/Exception", "<init>", "(Ljava/lang/String;)V"⟩, .declares ⟨"java/lang/Exception", "<init>", "(Ljava/lang/String;)V"⟩, .instanceMethod ⟨"java/lang/Exception", "<init>", "(Ljava/lang/String;)V"⟩, .code ⟨"java/lang/Exception", "<init>", "(Ljava/lang/String;)V"⟩ Bundle.six 2 none, .methodLink "java/lang/Exception" 7 ⟨"java/lang/Throwable", "<init>", "(Ljava/lang/String;)V"⟩, .instanceMethod ⟨"java/lang/Throwable", "<init>", "(Ljava/lang/String;)V"⟩, .declares ⟨"java/lang/Throwable", "<init>", "(Ljava/lang/String;)V"⟩, .methodLink "HouseClauses" 77 ⟨"java/lang/IllegalStateException", "<init>", "(Ljava/lang/String;)V"⟩, .instantiable "java/lang/IllegalStateException" 6, .castable "java/lang/IllegalStateException" "java/lang/IllegalStateException", .selects "java/lang/IllegalStateException" ⟨"java/lang/Throwable", "fillInStackTrace", "(I)Ljava/lang/Throwable;"⟩ ⟨"java/lang/Throwable", "fillInStackTrace", "(I)Ljava/lang/Throwable;"⟩, .selects "java/lang/IllegalStateException" ⟨"java/lang/Throwable", "fillInStackTrace", "()Ljava/lang/Throwable;"⟩ ⟨"java/lang/Throwable", "fillInStackTrace", "()Ljava/lang/Throwable;"⟩, .lays "java/lang/IllegalStateException" "java/lang/Throwable" "cause" "Ljava/lang/Throwable;", .lays "java/lang/IllegalStateException" "java/lang/Throwable" "stackTrace" "[Ljava/lang/StackTraceElement;", .lays "java/lang/IllegalStateException" "java/lang/Throwable" "suppressedExceptions" "Ljava/util/List;", .lays "java/lang/IllegalStateException" "java/lang/Throwable" "detailMessage" "Ljava/lang/String;", .fieldLink "java/lang/Throwable" 198 "java/lang/Throwable" "backtrace" "Ljava/lang/Object;", .lays "java/lang/Throwable" "java/lang/Throwable" "backtrace" "Ljava/lang/Object;", .lays "java/lang/IllegalStateException" "java/lang/Throwable" "backtrace" "Ljava/lang/Object;"] := by decide +kernel
  rw [e] at hw
  simp only [List.mem_cons, List.not_mem_nil, or_false] at hw
  rcases hw with rfl | rfl | rfl | rfl | rfl | rfl | rfl | rfl | rfl | rfl | rfl | rfl | rfl | rfl | rfl | rfl | rfl | rfl | rfl | rfl | rfl | rfl | rfl | rfl | rfl | rfl | rfl | rfl | rfl | rfl | rfl | rfl | rfl | rfl | rfl | rfl | rfl | rfl | rfl | rfl | rfl | rfl | rfl | rfl | rfl | rfl | rfl | rfl | rfl | rfl | rfl | rfl | rfl
  · exact Or.inl (hq_m1 9 rfl rfl)
  · exact Or.inl (hq_m3 152 rfl rfl)
  · exact Or.inl (hq_m3 161 rfl rfl)
  · exact Or.inl (hq_m3 165 rfl rfl)
  · exact Or.inl (hq_m3 168 rfl rfl)
  · exact Or.inl (hq_m3 170 rfl rfl)
  · exact Or.inl (hq_m3 153 rfl rfl)
  · exact Or.inl (hq_m3 154 rfl rfl)
  · exact Or.inl (hq_m1 25 rfl rfl)
  · exact Or.inl (hq_m1 26 rfl rfl)
  · exact Or.inl (hq_m3 155 rfl rfl)
  · exact Or.inl (hq_m3 160 rfl rfl)
  · exact Or.inl (hq_m3 166 rfl rfl)
  · exact Or.inl (hq_m3 186 rfl rfl)
  · exact Or.inl (hq_m3 142 rfl rfl)
  · exact Or.inl (hq_m3 187 rfl rfl)
  · exact Or.inl (hq_m3 144 rfl rfl)
  · exact Or.inl (hq_m3 188 rfl rfl)
  · exact Or.inl (hq_m3 146 rfl rfl)
  · exact Or.inl (hq_m3 156 rfl rfl)
  · exact Or.inl (hq_m3 158 rfl rfl)
  · exact Or.inl (hq_m3 148 rfl rfl)
  · exact Or.inl (hq_m3 182 rfl rfl)
  · exact Or.inl (hq_m3 183 rfl rfl)
  · exact Or.inl (hq_m3 185 rfl rfl)
  · exact Or.inl (hq_m3 148 rfl rfl)
  · exact Or.inl (hq_m3 211 rfl rfl)
  · exact Or.inl (hq_m3 212 rfl rfl)
  · exact Or.inl (hq_m3 213 rfl rfl)
  · exact Or.inl (hq_m3 176 rfl rfl)
  · exact Or.inr (by decide +kernel)
  · exact Or.inl (hq_m3 176 rfl rfl)
  · exact Or.inl (hq_m3 177 rfl rfl)
  · exact Or.inl (hq_m3 178 rfl rfl)
  · exact Or.inl (hq_m3 179 rfl rfl)
  · exact Or.inr (by decide +kernel)
  · exact Or.inl (hq_m3 179 rfl rfl)
  · exact Or.inl (hq_m3 180 rfl rfl)
  · exact Or.inl (hq_m3 181 rfl rfl)
  · exact Or.inl (hq_m3 182 rfl rfl)
  · exact Or.inr (by decide +kernel)
  · exact Or.inl (hq_m3 210 rfl rfl)
  · exact Or.inl (hq_m3 201 rfl rfl)
  · exact Or.inr (by decide +kernel)
  · exact Or.inl (hq_m3 203 rfl rfl)
  · exact Or.inl (hq_m3 163 rfl rfl)
  · exact Or.inl (hq_m3 204 rfl rfl)
  · exact Or.inl (hq_m3 205 rfl rfl)
  · exact Or.inl (hq_m3 206 rfl rfl)
  · exact Or.inl (hq_m3 207 rfl rfl)
  · exact Or.inl (hq_m3 151 rfl rfl)
  · exact Or.inl (hq_m3 150 rfl rfl)
  · exact Or.inl (hq_m3 208 rfl rfl)
theorem wCL_304 : Cond.classLink RX6 304 "java/lang/IndexOutOfBoundsException" ∈ hq_ws := hq_m4 6 rfl rfl
theorem wIN_IndexOutOfBoundsException : Cond.initialized "java/lang/IndexOutOfBoundsException" ∈ hq_ws := hq_m1 14 rfl rfl
theorem wAT_308 : ∀ w ∈ vx_atS RX6 308 "java/lang/IndexOutOfBoundsException" ["java/lang/RuntimeException", "java/lang/Exception"], w ∈ hq_ws ∨ w ∈ hq_wx := by
  intro w hw
  have e : vx_atS RX6 308 "java/lang/IndexOutOfBoundsException" ["java/lang/RuntimeException", "java/lang/Exception"] = [.initialized "java/lang/Throwable", .superclass "java/lang/Throwable" "java/lang/Object", .instanceMethod ⟨"java/lang/Throwable", "fillInStackTrace", "()Ljava/lang/Throwable;"⟩, .codeSync ⟨"java/lang/Throwable", "fillInStackTrace", "()Ljava/lang/Throwable;"⟩ prog_19_method_18_code 1 (some (.object "java/lang/Throwable")), .instanceMethod ⟨"java/lang/Throwable", "fillInStackTrace", "(I)Ljava/lang/Throwable;"⟩, .native ⟨"java/lang/Throwable", "fillInStackTrace", "(I)Ljava/lang/Throwable;"⟩, .instanceMethod ⟨"java/lang/Throwable", "<init>", "()V"⟩, .code ⟨"java/lang/Throwable", "<init>", "()V"⟩ prog_19_method_1_code 1 none, .instanceMethod ⟨"java/lang/Object", "<init>", "()V"⟩, .code ⟨"java/lang/Object", "<init>", "()V"⟩ ⟨#[0xb1]⟩ 1 none, .methodLink "java/lang/Throwable" 1 ⟨"java/lang/Object", "<init>", "()V"⟩, .methodLink "java/lang/Throwable" 27 ⟨"java/lang/Throwable", "fillInStackTrace", "()Ljava/lang/Throwable;"⟩, .methodLink "java/lang/Throwable" 202 ⟨"java/lang/Throwable", "fillInStackTrace", "(I)Ljava/lang/Throwable;"⟩, .fieldLink "java/lang/Throwable" 7 "java/lang/Throwable" "cause" "Ljava/lang/Throwable;", .lays "java/lang/Throwable" "java/lang/Throwable" "cause" "Ljava/lang/Throwable;", .fieldLink "java/lang/Throwable" 17 "java/lang/Throwable" "stackTrace" "[Ljava/lang/StackTraceElement;", .lays "java/lang/Throwable" "java/lang/Throwable" "stackTrace" "[Ljava/lang/StackTraceElement;", .fieldLink "java/lang/Throwable" 24 "java/lang/Throwable" "suppressedExceptions" "Ljava/util/List;", .lays "java/lang/Throwable" "java/lang/Throwable" "suppressedExceptions" "Ljava/util/List;", .fieldLink "java/lang/Throwable" 13 "java/lang/Throwable" "UNASSIGNED_STACK" "[Ljava/lang/StackTraceElement;", .fieldLink "java/lang/Throwable" 20 "java/lang/Throwable" "SUPPRESSED_SENTINEL" "Ljava/util/List;", .lays "java/lang/Throwable" "java/lang/Throwable" "detailMessage" "Ljava/lang/String;", .instanceMethod ⟨"java/lang/Throwable", "<init>", "(Ljava/lang/String;)V"⟩, .code ⟨"java/lang/Throwable", "<init>", "(Ljava/lang/String;)V"⟩ prog_19_method_2_code 2 none, .fieldLink "java/lang/Throwable" 31 "java/lang/Throwable" "detailMessage" "Ljava/lang/String;", .lays "java/lang/Throwable" "java/lang/Throwable" "detailMessage" "Ljava/lang/String;", .instanceMethod ⟨"java/lang/IndexOutOfBoundsException", "<init>", "(Ljava/lang/String;)V"⟩, .code ⟨"java/lang/IndexOutOfBoundsException", "<init>", "(Ljava/lang/String;)V"⟩ Bundle.six 2 none, .methodLink "java/lang/IndexOutOfBoundsException" 7 ⟨"java/lang/RuntimeException", "<init>", "(Ljava/lang/String;)V"⟩, .instanceMethod ⟨"java/lang/RuntimeException", "<init>", "(Ljava/lang/String;)V"⟩, .declares ⟨"java/lang/RuntimeException", "<init>", "(Ljava/lang/String;)V"⟩, .instanceMethod ⟨"java/lang/RuntimeException", "<init>", "(Ljava/lang/String;)V"⟩, .code ⟨"java/lang/RuntimeException", "<init>", "(Ljava/lang/String;)V"⟩ Bundle.six 2 none, .methodLink "java/lang/RuntimeException" 7 ⟨"java/lang/Exception", "<init>", "(Ljava/lang/String;)V"⟩, .instanceMethod ⟨"java/lang/Exception", "<init>", "(Ljava/lang/String;)V"⟩, .declares ⟨"java/lang/Exception", "<init>", "(Ljava/lang/String;)V"⟩, .instanceMethod ⟨"java/lang/Exception", "<init>", "(Ljava/lang/String;)V"⟩, .code ⟨"java/lang/Exception", "<init>", "(Ljava/lang/String;)V"⟩ Bundle.six 2 none, .methodLink "java/lang/Exception" 7 ⟨"java/lang/Throwable", "<init>", "(Ljava/lang/String;)V"⟩, .instanceMethod ⟨"java/lang/Throwable", "<init>", "(Ljava/lang/String;)V"⟩, .declares ⟨"java/lang/Throwable", "<init>", "(Ljava/lang/String;)V"⟩, .methodLink "HouseClauses" 308 ⟨"java/lang/IndexOutOfBoundsException", "<init>", "(Ljava/lang/String;)V"⟩, .instantiable "java/lang/IndexOutOfBoundsException" 6, .castable "java/lang/IndexOutOfBoundsException" "java/lang/IndexOutOfBoundsException", .selects "java/lang/IndexOutOfBoundsException" ⟨"java/lang/Throwable", "fillInStackTrace", "(I)Ljava/lang/Throwable;"⟩ ⟨"java/lang/Throwable", "fillInStackTrace", "(I)Ljava/lang/Throwable;"⟩, .selects "java/lang/IndexOutOfBoundsException" ⟨"java/lang/Throwable", "fillInStackTrace", "()Ljava/lang/Throwable;"⟩ ⟨"java/lang/Throwable", "fillInStackTrace", "()Ljava/lang/Throwable;"⟩, .lays "java/lang/IndexOutOfBoundsException" "java/lang/Throwable" "cause" "Ljava/lang/Throwable;", .lays "java/lang/IndexOutOfBoundsException" "java/lang/Throwable" "stackTrace" "[Ljava/lang/StackTraceElement;", .lays "java/lang/IndexOutOfBoundsException" "java/lang/Throwable" "suppressedExceptions" "Ljava/util/List;", .lays "java/lang/IndexOutOfBoundsException" "java/lang/Throwable" "detailMessage" "Ljava/lang/String;", .fieldLink "java/lang/Throwable" 198 "java/lang/Throwable" "backtrace" "Ljava/lang/Object;", .lays "java/lang/Throwable" "java/lang/Throwable" "backtrace" "Ljava/lang/Object;", .lays "java/lang/IndexOutOfBoundsException" "java/lang/Throwable" "backtrace" "Ljava/lang/Object;"] := by decide +kernel
  rw [e] at hw
  simp only [List.mem_cons, List.not_mem_nil, or_false] at hw
  rcases hw with rfl | rfl | rfl | rfl | rfl | rfl | rfl | rfl | rfl | rfl | rfl | rfl | rfl | rfl | rfl | rfl | rfl | rfl | rfl | rfl | rfl | rfl | rfl | rfl | rfl | rfl | rfl | rfl | rfl | rfl | rfl | rfl | rfl | rfl | rfl | rfl | rfl | rfl | rfl | rfl | rfl | rfl | rfl | rfl | rfl | rfl | rfl | rfl | rfl | rfl | rfl | rfl | rfl
  · exact Or.inl (hq_m1 9 rfl rfl)
  · exact Or.inl (hq_m3 152 rfl rfl)
  · exact Or.inl (hq_m3 161 rfl rfl)
  · exact Or.inl (hq_m3 165 rfl rfl)
  · exact Or.inl (hq_m3 168 rfl rfl)
  · exact Or.inl (hq_m3 170 rfl rfl)
  · exact Or.inl (hq_m3 153 rfl rfl)
  · exact Or.inl (hq_m3 154 rfl rfl)
  · exact Or.inl (hq_m1 25 rfl rfl)
  · exact Or.inl (hq_m1 26 rfl rfl)
  · exact Or.inl (hq_m3 155 rfl rfl)
  · exact Or.inl (hq_m3 160 rfl rfl)
  · exact Or.inl (hq_m3 166 rfl rfl)
  · exact Or.inl (hq_m3 186 rfl rfl)
  · exact Or.inl (hq_m3 142 rfl rfl)
  · exact Or.inl (hq_m3 187 rfl rfl)
  · exact Or.inl (hq_m3 144 rfl rfl)
  · exact Or.inl (hq_m3 188 rfl rfl)
  · exact Or.inl (hq_m3 146 rfl rfl)
  · exact Or.inl (hq_m3 156 rfl rfl)
  · exact Or.inl (hq_m3 158 rfl rfl)
  · exact Or.inl (hq_m3 148 rfl rfl)
  · exact Or.inl (hq_m3 182 rfl rfl)
  · exact Or.inl (hq_m3 183 rfl rfl)
  · exact Or.inl (hq_m3 185 rfl rfl)
  · exact Or.inl (hq_m3 148 rfl rfl)
  · exact Or.inl (hq_m4 17 rfl rfl)
  · exact Or.inl (hq_m4 18 rfl rfl)
  · exact Or.inl (hq_m4 19 rfl rfl)
  · exact Or.inl (hq_m3 176 rfl rfl)
  · exact Or.inr (by decide +kernel)
  · exact Or.inl (hq_m3 176 rfl rfl)
  · exact Or.inl (hq_m3 177 rfl rfl)
  · exact Or.inl (hq_m3 178 rfl rfl)
  · exact Or.inl (hq_m3 179 rfl rfl)
  · exact Or.inr (by decide +kernel)
  · exact Or.inl (hq_m3 179 rfl rfl)
  · exact Or.inl (hq_m3 180 rfl rfl)
  · exact Or.inl (hq_m3 181 rfl rfl)
  · exact Or.inl (hq_m3 182 rfl rfl)
  · exact Or.inr (by decide +kernel)
  · exact Or.inl (hq_m4 16 rfl rfl)
  · exact Or.inl (hq_m4 7 rfl rfl)
  · exact Or.inr (by decide +kernel)
  · exact Or.inl (hq_m4 9 rfl rfl)
  · exact Or.inl (hq_m3 164 rfl rfl)
  · exact Or.inl (hq_m4 10 rfl rfl)
  · exact Or.inl (hq_m4 11 rfl rfl)
  · exact Or.inl (hq_m4 12 rfl rfl)
  · exact Or.inl (hq_m4 13 rfl rfl)
  · exact Or.inl (hq_m3 151 rfl rfl)
  · exact Or.inl (hq_m3 150 rfl rfl)
  · exact Or.inl (hq_m4 14 rfl rfl)
