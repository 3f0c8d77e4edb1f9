theorem ti_X0 : ∀ w ∈ u_ws RX0 TX0 6, w ∈ fy_tb := by
  intro w hw
  obtain ⟨k, hk, rfl⟩ := List.mem_map.mp hw
  have hk := List.mem_range.mp hk
  match k, hk with
  | 0, _ => exact fy_inR (i := 88) (by decide +kernel) rfl
  | 1, _ => exact fy_inR (i := 90) (by decide +kernel) rfl
  | 2, _ => exact fy_inR (i := 92) (by decide +kernel) rfl
  | 3, _ => exact fy_inR (i := 94) (by decide +kernel) rfl
  | 4, _ => exact fy_inR (i := 96) (by decide +kernel) rfl
  | 5, _ => exact fy_inR (i := 98) (by decide +kernel) rfl
  | k + 6, h => exact absurd h (by omega)
theorem ti_X1 : ∀ w ∈ u_ws RX1 TX1 2, w ∈ fy_tb := by
  intro w hw
  obtain ⟨k, hk, rfl⟩ := List.mem_map.mp hw
  have hk := List.mem_range.mp hk
  match k, hk with
  | 0, _ => exact fy_inR (i := 242) (by decide +kernel) rfl
  | 1, _ => exact fy_inR (i := 244) (by decide +kernel) rfl
  | k + 2, h => exact absurd h (by omega)
theorem ti_X2 : ∀ w ∈ u_ws RX2 TX2 3, w ∈ fy_tb := by
  intro w hw
  obtain ⟨k, hk, rfl⟩ := List.mem_map.mp hw
  have hk := List.mem_range.mp hk
  match k, hk with
  | 0, _ => exact fy_inR (i := 51) (by decide +kernel) rfl
  | 1, _ => exact fy_inR (i := 53) (by decide +kernel) rfl
  | 2, _ => exact fy_inR (i := 55) (by decide +kernel) rfl
  | k + 3, h => exact absurd h (by omega)
theorem ti_X3 : ∀ w ∈ u_ws RX3 TX3 5, w ∈ fy_tb := by
  intro w hw
  obtain ⟨k, hk, rfl⟩ := List.mem_map.mp hw
  have hk := List.mem_range.mp hk
  match k, hk with
  | 0, _ => exact fy_inR (i := 151) (by decide +kernel) rfl
  | 1, _ => exact fy_inR (i := 153) (by decide +kernel) rfl
  | 2, _ => exact fy_inR (i := 155) (by decide +kernel) rfl
  | 3, _ => exact fy_inR (i := 157) (by decide +kernel) rfl
  | 4, _ => exact fy_inR (i := 159) (by decide +kernel) rfl
  | k + 5, h => exact absurd h (by omega)
theorem ti_X4 : ∀ w ∈ u_ws RX4 TX4 9, w ∈ fy_tb := by
  intro w hw
  obtain ⟨k, hk, rfl⟩ := List.mem_map.mp hw
  have hk := List.mem_range.mp hk
  match k, hk with
  | 0, _ => exact fy_inR (i := 117) (by decide +kernel) rfl
  | 1, _ => exact fy_inR (i := 119) (by decide +kernel) rfl
  | 2, _ => exact fy_inR (i := 121) (by decide +kernel) rfl
  | 3, _ => exact fy_inR (i := 123) (by decide +kernel) rfl
  | 4, _ => exact fy_inR (i := 125) (by decide +kernel) rfl
  | 5, _ => exact fy_inR (i := 127) (by decide +kernel) rfl
  | 6, _ => exact fy_inR (i := 129) (by decide +kernel) rfl
  | 7, _ => exact fy_inR (i := 131) (by decide +kernel) rfl
  | 8, _ => exact fy_inR (i := 133) (by decide +kernel) rfl
  | k + 9, h => exact absurd h (by omega)
theorem ti_X5 : ∀ w ∈ u_ws RX5 TX5 3, w ∈ fy_tb := by
  intro w hw
  obtain ⟨k, hk, rfl⟩ := List.mem_map.mp hw
  have hk := List.mem_range.mp hk
  match k, hk with
  | 0, _ => exact fy_inR (i := 191) (by decide +kernel) rfl
  | 1, _ => exact fy_inR (i := 193) (by decide +kernel) rfl
  | 2, _ => exact fy_inR (i := 195) (by decide +kernel) rfl
  | k + 3, h => exact absurd h (by omega)
theorem ti_X6 : ∀ w ∈ u_ws RX6 TX6 5, w ∈ fy_tb := by
  intro w hw
  obtain ⟨k, hk, rfl⟩ := List.mem_map.mp hw
  have hk := List.mem_range.mp hk
  match k, hk with
  | 0, _ => exact fy_inR (i := 261) (by decide +kernel) rfl
  | 1, _ => exact fy_inR (i := 263) (by decide +kernel) rfl
  | 2, _ => exact fy_inR (i := 265) (by decide +kernel) rfl
  | 3, _ => exact fy_inR (i := 267) (by decide +kernel) rfl
  | 4, _ => exact fy_inR (i := 269) (by decide +kernel) rfl
  | k + 5, h => exact absurd h (by omega)
theorem ti_X7 : ∀ w ∈ u_ws RX7 TX7 8, w ∈ fy_tb := by
  intro w hw
  obtain ⟨k, hk, rfl⟩ := List.mem_map.mp hw
  have hk := List.mem_range.mp hk
  match k, hk with
  | 0, _ => exact fy_inR (i := 216) (by decide +kernel) rfl
  | 1, _ => exact fy_inR (i := 218) (by decide +kernel) rfl
  | 2, _ => exact fy_inR (i := 220) (by decide +kernel) rfl
  | 3, _ => exact fy_inR (i := 222) (by decide +kernel) rfl
  | 4, _ => exact fy_inR (i := 224) (by decide +kernel) rfl
  | 5, _ => exact fy_inR (i := 226) (by decide +kernel) rfl
  | 6, _ => exact fy_inR (i := 228) (by decide +kernel) rfl
  | 7, _ => exact fy_inR (i := 230) (by decide +kernel) rfl
  | k + 8, h => exact absurd h (by omega)
theorem ti_X8 : ∀ w ∈ u_ws RX8 TX8 2, w ∈ fy_tb := by
  intro w hw
  obtain ⟨k, hk, rfl⟩ := List.mem_map.mp hw
  have hk := List.mem_range.mp hk
  match k, hk with
  | 0, _ => exact fy_inR (i := 177) (by decide +kernel) rfl
  | 1, _ => exact fy_inR (i := 179) (by decide +kernel) rfl
  | k + 2, h => exact absurd h (by omega)
theorem ti_X9 : ∀ w ∈ u_ws RX9 TX9 14, w ∈ fy_tb := by
  intro w hw
  obtain ⟨k, hk, rfl⟩ := List.mem_map.mp hw
  have hk := List.mem_range.mp hk
  match k, hk with
  | 0, _ => exact fy_inR (i := 288) (by decide +kernel) rfl
  | 1, _ => exact fy_inR (i := 290) (by decide +kernel) rfl
  | 2, _ => exact fy_inR (i := 292) (by decide +kernel) rfl
  | 3, _ => exact fy_inR (i := 294) (by decide +kernel) rfl
  | 4, _ => exact fy_inR (i := 296) (by decide +kernel) rfl
  | 5, _ => exact fy_inR (i := 298) (by decide +kernel) rfl
  | 6, _ => exact fy_inR (i := 300) (by decide +kernel) rfl
  | 7, _ => exact fy_inR (i := 302) (by decide +kernel) rfl
  | 8, _ => exact fy_inR (i := 304) (by decide +kernel) rfl
  | 9, _ => exact fy_inR (i := 306) (by decide +kernel) rfl
  | 10, _ => exact fy_inR (i := 308) (by decide +kernel) rfl
  | 11, _ => exact fy_inR (i := 310) (by decide +kernel) rfl
  | 12, _ => exact fy_inR (i := 312) (by decide +kernel) rfl
  | 13, _ => exact fy_inR (i := 314) (by decide +kernel) rfl
  | k + 14, h => exact absurd h (by omega)
theorem tw248 : Cond.fieldLink RX2 9 RX2 "nodes" "[B" ∈ fy_tb := fy_inR (i := 42) (by decide +kernel) rfl
theorem tw249 : Cond.fieldLink RX2 18 RX2 "size" "I" ∈ fy_tb := fy_inR (i := 43) (by decide +kernel) rfl
theorem tw250 : Cond.fieldLink RX2 22 RX2 "table" "J" ∈ fy_tb := fy_inR (i := 47) (by decide +kernel) rfl
theorem tw251 : Cond.fieldLink RX0 30 RX0 "states" "I" ∈ fy_tb := fy_inR (i := 76) (by decide +kernel) rfl
theorem tw252 : Cond.fieldLink RX0 34 RX0 "letters" "I" ∈ fy_tb := fy_inR (i := 81) (by decide +kernel) rfl
theorem tw253 : Cond.fieldLink RX0 37 RX0 "finals" "I" ∈ fy_tb := fy_inR (i := 84) (by decide +kernel) rfl
theorem tw254 : Cond.fieldLink RX0 18 RX0 "initial" "LAlternatingAutomata$Formula;" ∈ fy_tb := fy_inR (i := 72) (by decide +kernel) rfl
theorem tw255 : Cond.methodLink RX0 40 yX2_becomeFalse ∈ fy_tb := fy_inR (i := 65) (by decide +kernel) rfl
theorem tw256 : Cond.instanceMethod yX2_becomeFalse ∈ fy_tb := fy_inR (i := 39) (by decide +kernel) rfl
theorem tw257 : Cond.selects RX2 yX2_becomeFalse yX2_becomeFalse ∈ fy_tb := fy_inR (i := 40) (by decide +kernel) rfl
theorem tw258 : Cond.initialized RX2 ∈ fy_tb := fy_inR (i := 3) (by decide +kernel) rfl
theorem tw259 : Cond.code yX2_becomeFalse cX2_becomeFalse 1 none ∈ fy_tb := fy_inR (i := 41) (by decide +kernel) rfl
theorem tw260 : Cond.fieldLink RX0 22 RX0 "moves" "[LAlternatingAutomata$Formula;" ∈ fy_tb := fy_inR (i := 75) (by decide +kernel) rfl
theorem tw261 : Cond.fieldLink RX0 9 RX0 "weights" "[I" ∈ fy_tb := fy_inR (i := 69) (by decide +kernel) rfl
theorem tw262 : Cond.methodLink RX0 43 yJ7_fill_53178 ∈ fy_tb := fy_inR (i := 66) (by decide +kernel) rfl
theorem tw263 : Cond.static yJ7_fill_53178 ∈ fy_tb := fy_inR (i := 67) (by decide +kernel) rfl
theorem tw264 : Cond.initialized RJ7 ∈ fy_tb := fy_inR (i := 4) (by decide +kernel) rfl
theorem tw265 : Cond.code yJ7_fill_53178 cJ7_fill_53178 4 none ∈ fy_tb := fy_inR (i := 68) (by decide +kernel) rfl
theorem tw266 : Cond.fieldLink RX9 11 RX9 "slots" "[LAlternatingAutomata$Automaton;" ∈ fy_tb := fy_inR (i := 274) (by decide +kernel) rfl
theorem tw267 : Cond.methodLink RX9 88 yX9_automatonIn ∈ fy_tb := fy_inR (i := 321) (by decide +kernel) rfl
theorem tw268 : Cond.instanceMethod yX9_automatonIn ∈ fy_tb := fy_inR (i := 323) (by decide +kernel) rfl
theorem tw269 : Cond.selects RX9 yX9_automatonIn yX9_automatonIn ∈ fy_tb := fy_inL (i := 0) (by decide +kernel) rfl
theorem tw270 : Cond.initialized RX9 ∈ fy_tb := fy_inR (i := 1) (by decide +kernel) rfl
theorem tw271 : Cond.code yX9_automatonIn cX9_automatonIn 2 (some (.object "AlternatingAutomata$Automaton")) ∈ fy_tb := fy_inR (i := 324) (by decide +kernel) rfl
theorem tw272 : Cond.methodLink RX9 92 yX9_isWithin ∈ fy_tb := fy_inR (i := 325) (by decide +kernel) rfl
theorem tw273 : Cond.static yX9_isWithin ∈ fy_tb := fy_inR (i := 326) (by decide +kernel) rfl
theorem tw274 : Cond.code yX9_isWithin cX9_isWithin 3 (some .boolean) ∈ fy_tb := fy_inR (i := 327) (by decide +kernel) rfl
theorem tw275 : Cond.fieldLink RX9 96 RX0 "states" "I" ∈ fy_tb := fy_inR (i := 79) (by decide +kernel) rfl
theorem tw276 : Cond.methodLink RX9 99 yX0_clear ∈ fy_tb := fy_inR (i := 328) (by decide +kernel) rfl
theorem tw277 : Cond.instanceMethod yX0_clear ∈ fy_tb := fy_inR (i := 62) (by decide +kernel) rfl
theorem tw278 : Cond.selects RX0 yX0_clear yX0_clear ∈ fy_tb := fy_inR (i := 63) (by decide +kernel) rfl
theorem tw279 : Cond.initialized RX0 ∈ fy_tb := fy_inR (i := 2) (by decide +kernel) rfl
theorem tw280 : Cond.code yX0_clear cX0_clear 4 none ∈ fy_tb := fy_inR (i := 64) (by decide +kernel) rfl
theorem tw281 : Cond.methodLink RX9 103 yX0_hasState ∈ fy_tb := fy_inR (i := 333) (by decide +kernel) rfl
theorem tw282 : Cond.instanceMethod yX0_hasState ∈ fy_tb := fy_inR (i := 334) (by decide +kernel) rfl
theorem tw283 : Cond.selects RX0 yX0_hasState yX0_hasState ∈ fy_tb := fy_inR (i := 335) (by decide +kernel) rfl
theorem tw284 : Cond.code yX0_hasState cX0_hasState 2 (some .boolean) ∈ fy_tb := fy_inR (i := 336) (by decide +kernel) rfl
theorem tw285 : Cond.fieldLink RX9 107 RX0 "finals" "I" ∈ fy_tb := fy_inR (i := 86) (by decide +kernel) rfl
theorem tw286 : Cond.methodLink RX9 110 yX0_hasLetter ∈ fy_tb := fy_inR (i := 341) (by decide +kernel) rfl
theorem tw287 : Cond.instanceMethod yX0_hasLetter ∈ fy_tb := fy_inR (i := 342) (by decide +kernel) rfl
theorem tw288 : Cond.selects RX0 yX0_hasLetter yX0_hasLetter ∈ fy_tb := fy_inR (i := 343) (by decide +kernel) rfl
theorem tw289 : Cond.code yX0_hasLetter cX0_hasLetter 2 (some .boolean) ∈ fy_tb := fy_inR (i := 344) (by decide +kernel) rfl
theorem tw290 : Cond.fieldLink RX9 113 RX0 "weights" "[I" ∈ fy_tb := fy_inR (i := 70) (by decide +kernel) rfl
theorem tw291 : Cond.fieldLink RX4 26 RX4 "length" "I" ∈ fy_tb := fy_inR (i := 111) (by decide +kernel) rfl
theorem tw292 : Cond.fieldLink RX4 9 RX4 "signs" "[C" ∈ fy_tb := fy_inR (i := 107) (by decide +kernel) rfl
theorem tw293 : Cond.fieldLink RX9 26 RX9 "text" "LAlternatingAutomata$FormulaText;" ∈ fy_tb := fy_inR (i := 277) (by decide +kernel) rfl
theorem tw294 : Cond.fieldLink RX9 117 RX4 "length" "I" ∈ fy_tb := fy_inR (i := 112) (by decide +kernel) rfl
theorem tw295 : Cond.methodLink RX9 120 yX4_add ∈ fy_tb := fy_inR (i := 349) (by decide +kernel) rfl
theorem tw296 : Cond.instanceMethod yX4_add ∈ fy_tb := fy_inR (i := 350) (by decide +kernel) rfl
theorem tw297 : Cond.selects RX4 yX4_add yX4_add ∈ fy_tb := fy_inR (i := 351) (by decide +kernel) rfl
theorem tw298 : Cond.initialized RX4 ∈ fy_tb := fy_inR (i := 5) (by decide +kernel) rfl
theorem tw299 : Cond.code yX4_add cX4_add 4 none ∈ fy_tb := fy_inR (i := 352) (by decide +kernel) rfl
theorem tw300 : Cond.methodLink RX0 49 yX0_hasState ∈ fy_tb := fy_inR (i := 369) (by decide +kernel) rfl
theorem tw301 : Cond.methodLink RX0 53 yX0_hasLetter ∈ fy_tb := fy_inR (i := 370) (by decide +kernel) rfl
theorem tw302 : Cond.methodLink RX0 56 yX0_move ∈ fy_tb := fy_inR (i := 371) (by decide +kernel) rfl
theorem tw303 : Cond.instanceMethod yX0_move ∈ fy_tb := fy_inR (i := 372) (by decide +kernel) rfl
theorem tw304 : Cond.selects RX0 yX0_move yX0_move ∈ fy_tb := fy_inR (i := 373) (by decide +kernel) rfl
theorem tw305 : Cond.code yX0_move cX0_move 3 (some (.object "AlternatingAutomata$Formula")) ∈ fy_tb := fy_inR (i := 374) (by decide +kernel) rfl
theorem tw306 : Cond.methodLink RX9 275 yX0_formula ∈ fy_tb := fy_inR (i := 365) (by decide +kernel) rfl
theorem tw307 : Cond.instanceMethod yX0_formula ∈ fy_tb := fy_inR (i := 366) (by decide +kernel) rfl
theorem tw308 : Cond.selects RX0 yX0_formula yX0_formula ∈ fy_tb := fy_inR (i := 367) (by decide +kernel) rfl
theorem tw309 : Cond.code yX0_formula cX0_formula 3 (some (.object "AlternatingAutomata$Formula")) ∈ fy_tb := fy_inR (i := 368) (by decide +kernel) rfl
theorem tw310 : Cond.fieldLink RX4 36 RX4 "waitingCount" "I" ∈ fy_tb := fy_inR (i := 115) (by decide +kernel) rfl
theorem tw311 : Cond.fieldLink RX4 23 RX4 "waiting" "[B" ∈ fy_tb := fy_inR (i := 110) (by decide +kernel) rfl
theorem tw312 : Cond.methodLink RX4 84 yX4_addWaiting ∈ fy_tb := fy_inR (i := 387) (by decide +kernel) rfl
theorem tw313 : Cond.instanceMethod yX4_addWaiting ∈ fy_tb := fy_inR (i := 389) (by decide +kernel) rfl
theorem tw314 : Cond.selects RX4 yX4_addWaiting yX4_addWaiting ∈ fy_tb := fy_inL (i := 5) (by decide +kernel) rfl
theorem tw315 : Cond.code yX4_addWaiting cX4_addWaiting 2 none ∈ fy_tb := fy_inR (i := 390) (by decide +kernel) rfl
theorem tw316 : Cond.fieldLink RX4 39 RX4 "openCount" "I" ∈ fy_tb := fy_inR (i := 116) (by decide +kernel) rfl
theorem tw317 : Cond.fieldLink RX4 30 RX4 "nodeCount" "I" ∈ fy_tb := fy_inR (i := 113) (by decide +kernel) rfl
theorem tw318 : Cond.fieldLink RX4 15 RX4 "nodes" "[B" ∈ fy_tb := fy_inR (i := 108) (by decide +kernel) rfl
theorem tw319 : Cond.constantLong RX4 82 (-1) ∈ fy_tb := fy_inR (i := 407) (by decide +kernel) rfl
theorem tw320 : Cond.methodLink RX4 72 yX4_addNode ∈ fy_tb := fy_inR (i := 398) (by decide +kernel) rfl
theorem tw321 : Cond.instanceMethod yX4_addNode ∈ fy_tb := fy_inR (i := 400) (by decide +kernel) rfl
theorem tw322 : Cond.selects RX4 yX4_addNode yX4_addNode ∈ fy_tb := fy_inL (i := 7) (by decide +kernel) rfl
theorem tw323 : Cond.code yX4_addNode cX4_addNode 2 none ∈ fy_tb := fy_inR (i := 401) (by decide +kernel) rfl
theorem tw324 : Cond.fieldLink RX4 33 RX4 "tableCount" "I" ∈ fy_tb := fy_inR (i := 114) (by decide +kernel) rfl
theorem tw325 : Cond.fieldLink RX4 19 RX4 "tables" "[J" ∈ fy_tb := fy_inR (i := 109) (by decide +kernel) rfl
theorem tw326 : Cond.methodLink RX4 75 yX4_leafTable ∈ fy_tb := fy_inR (i := 402) (by decide +kernel) rfl
theorem tw327 : Cond.static yX4_leafTable ∈ fy_tb := fy_inR (i := 403) (by decide +kernel) rfl
theorem tw328 : Cond.code yX4_leafTable cX4_leafTable 1 (some .long) ∈ fy_tb := fy_inR (i := 404) (by decide +kernel) rfl
theorem tw329 : Cond.methodLinkNest RX4 90 yX9_joinTables RX9 ∈ lw_tbl := List.mem_append_right _ (List.mem_of_getElem? (i := 420) (by decide +kernel))
theorem tw330 : Cond.static yX9_joinTables ∈ fy_tb := fy_inR (i := 421) (by decide +kernel) rfl
theorem tw331 : Cond.code yX9_joinTables cX9_joinTables 5 (some .long) ∈ fy_tb := fy_inR (i := 422) (by decide +kernel) rfl
theorem tw332 : Cond.methodLink RX4 87 yX4_applyOperator ∈ fy_tb := fy_inR (i := 416) (by decide +kernel) rfl
theorem tw333 : Cond.instanceMethod yX4_applyOperator ∈ fy_tb := fy_inR (i := 418) (by decide +kernel) rfl
theorem tw334 : Cond.selects RX4 yX4_applyOperator yX4_applyOperator ∈ fy_tb := fy_inL (i := 10) (by decide +kernel) rfl
theorem tw335 : Cond.code yX4_applyOperator cX4_applyOperator 2 none ∈ fy_tb := fy_inR (i := 419) (by decide +kernel) rfl
theorem tw336 : Cond.methodLink RX4 69 yX4_applyWaiting ∈ fy_tb := fy_inR (i := 412) (by decide +kernel) rfl
theorem tw337 : Cond.instanceMethod yX4_applyWaiting ∈ fy_tb := fy_inR (i := 414) (by decide +kernel) rfl
theorem tw338 : Cond.selects RX4 yX4_applyWaiting yX4_applyWaiting ∈ fy_tb := fy_inL (i := 9) (by decide +kernel) rfl
theorem tw339 : Cond.code yX4_applyWaiting cX4_applyWaiting 3 none ∈ fy_tb := fy_inR (i := 415) (by decide +kernel) rfl
theorem tw340 : Cond.methodLink RX4 66 yX4_addOperator ∈ fy_tb := fy_inR (i := 423) (by decide +kernel) rfl
theorem tw341 : Cond.instanceMethod yX4_addOperator ∈ fy_tb := fy_inR (i := 425) (by decide +kernel) rfl
theorem tw342 : Cond.selects RX4 yX4_addOperator yX4_addOperator ∈ fy_tb := fy_inL (i := 11) (by decide +kernel) rfl
theorem tw343 : Cond.code yX4_addOperator cX4_addOperator 2 none ∈ fy_tb := fy_inR (i := 426) (by decide +kernel) rfl
theorem tw344 : Cond.methodLink RX4 63 yX4_closeGroup ∈ fy_tb := fy_inR (i := 408) (by decide +kernel) rfl
theorem tw345 : Cond.instanceMethod yX4_closeGroup ∈ fy_tb := fy_inR (i := 410) (by decide +kernel) rfl
theorem tw346 : Cond.selects RX4 yX4_closeGroup yX4_closeGroup ∈ fy_tb := fy_inL (i := 8) (by decide +kernel) rfl
theorem tw347 : Cond.code yX4_closeGroup cX4_closeGroup 1 none ∈ fy_tb := fy_inR (i := 411) (by decide +kernel) rfl
theorem tw348 : Cond.methodLink RX4 55 yX4_leafFor ∈ fy_tb := fy_inR (i := 391) (by decide +kernel) rfl
theorem tw349 : Cond.static yX4_leafFor ∈ fy_tb := fy_inR (i := 392) (by decide +kernel) rfl
theorem tw350 : Cond.code yX4_leafFor cX4_leafFor 3 (some .int) ∈ fy_tb := fy_inR (i := 393) (by decide +kernel) rfl
theorem tw351 : Cond.methodLink RX4 59 yX4_addLeaf ∈ fy_tb := fy_inR (i := 394) (by decide +kernel) rfl
theorem tw352 : Cond.instanceMethod yX4_addLeaf ∈ fy_tb := fy_inR (i := 396) (by decide +kernel) rfl
theorem tw353 : Cond.selects RX4 yX4_addLeaf yX4_addLeaf ∈ fy_tb := fy_inL (i := 6) (by decide +kernel) rfl
theorem tw354 : Cond.code yX4_addLeaf cX4_addLeaf 2 none ∈ fy_tb := fy_inR (i := 397) (by decide +kernel) rfl
theorem tw355 : Cond.methodLink RX4 52 yX4_openGroup ∈ fy_tb := fy_inR (i := 383) (by decide +kernel) rfl
theorem tw356 : Cond.instanceMethod yX4_openGroup ∈ fy_tb := fy_inR (i := 385) (by decide +kernel) rfl
theorem tw357 : Cond.selects RX4 yX4_openGroup yX4_openGroup ∈ fy_tb := fy_inL (i := 4) (by decide +kernel) rfl
theorem tw358 : Cond.code yX4_openGroup cX4_openGroup 1 none ∈ fy_tb := fy_inR (i := 386) (by decide +kernel) rfl
theorem tw359 : Cond.methodLink RX2 30 arraycopyName ∈ fy_tb := fy_inR (i := 431) (by decide +kernel) rfl
theorem tw360 : Cond.native arraycopyName ∈ fy_tb := fy_inR (i := 433) (by decide +kernel) rfl
theorem tw361 : Cond.static arraycopyName ∈ fy_tb := fy_inR (i := 432) (by decide +kernel) rfl
theorem tw362 : Cond.initialized RJ10 ∈ fy_tb := fy_inR (i := 14) (by decide +kernel) rfl
theorem tw363 : Cond.methodLink RX4 42 yX4_parse ∈ fy_tb := fy_inR (i := 379) (by decide +kernel) rfl
theorem tw364 : Cond.instanceMethod yX4_parse ∈ fy_tb := fy_inR (i := 381) (by decide +kernel) rfl
theorem tw365 : Cond.selects RX4 yX4_parse yX4_parse ∈ fy_tb := fy_inL (i := 3) (by decide +kernel) rfl
theorem tw366 : Cond.code yX4_parse cX4_parse 6 (some .int) ∈ fy_tb := fy_inR (i := 382) (by decide +kernel) rfl
theorem tw367 : Cond.methodLink RX4 46 yX2_become ∈ fy_tb := fy_inR (i := 427) (by decide +kernel) rfl
theorem tw368 : Cond.instanceMethod yX2_become ∈ fy_tb := fy_inR (i := 428) (by decide +kernel) rfl
theorem tw369 : Cond.selects RX2 yX2_become yX2_become ∈ fy_tb := fy_inR (i := 429) (by decide +kernel) rfl
theorem tw370 : Cond.code yX2_become cX2_become 5 none ∈ fy_tb := fy_inR (i := 430) (by decide +kernel) rfl
theorem tw371 : Cond.methodLink RX9 131 yX9_formulaIn ∈ fy_tb := fy_inR (i := 361) (by decide +kernel) rfl
theorem tw372 : Cond.instanceMethod yX9_formulaIn ∈ fy_tb := fy_inR (i := 363) (by decide +kernel) rfl
theorem tw373 : Cond.selects RX9 yX9_formulaIn yX9_formulaIn ∈ fy_tb := fy_inL (i := 2) (by decide +kernel) rfl
theorem tw374 : Cond.code yX9_formulaIn cX9_formulaIn 5 (some (.object "AlternatingAutomata$Formula")) ∈ fy_tb := fy_inR (i := 364) (by decide +kernel) rfl
theorem tw375 : Cond.methodLink RX9 278 yX4_readInto ∈ fy_tb := fy_inR (i := 375) (by decide +kernel) rfl
theorem tw376 : Cond.instanceMethod yX4_readInto ∈ fy_tb := fy_inR (i := 376) (by decide +kernel) rfl
theorem tw377 : Cond.selects RX4 yX4_readInto yX4_readInto ∈ fy_tb := fy_inR (i := 377) (by decide +kernel) rfl
theorem tw378 : Cond.code yX4_readInto cX4_readInto 4 (some .int) ∈ fy_tb := fy_inR (i := 378) (by decide +kernel) rfl
theorem tw379 : Cond.methodLink RX9 124 yX9_readFormula ∈ fy_tb := fy_inR (i := 357) (by decide +kernel) rfl
theorem tw380 : Cond.instanceMethod yX9_readFormula ∈ fy_tb := fy_inR (i := 359) (by decide +kernel) rfl
theorem tw381 : Cond.selects RX9 yX9_readFormula yX9_readFormula ∈ fy_tb := fy_inL (i := 1) (by decide +kernel) rfl
theorem tw382 : Cond.code yX9_readFormula cX9_readFormula 7 (some .int) ∈ fy_tb := fy_inR (i := 360) (by decide +kernel) rfl
theorem tw383 : Cond.fieldLink RX9 128 RX0 "letters" "I" ∈ fy_tb := fy_inR (i := 82) (by decide +kernel) rfl
theorem tw384 : Cond.fieldLink RX3 15 RX3 "length" "I" ∈ fy_tb := fy_inR (i := 146) (by decide +kernel) rfl
theorem tw385 : Cond.fieldLink RX3 9 RX3 "signs" "[C" ∈ fy_tb := fy_inR (i := 144) (by decide +kernel) rfl
theorem tw386 : Cond.fieldLink RX3 26 RX3 "partCount" "I" ∈ fy_tb := fy_inR (i := 150) (by decide +kernel) rfl
theorem tw387 : Cond.fieldLink RX3 23 RX3 "tops" "[I" ∈ fy_tb := fy_inR (i := 149) (by decide +kernel) rfl
theorem tw388 : Cond.methodLink RX3 49 yX3_insert ∈ fy_tb := fy_inR (i := 458) (by decide +kernel) rfl
theorem tw389 : Cond.instanceMethod yX3_insert ∈ fy_tb := fy_inR (i := 460) (by decide +kernel) rfl
theorem tw390 : Cond.selects RX3 yX3_insert yX3_insert ∈ fy_tb := fy_inL (i := 13) (by decide +kernel) rfl
theorem tw391 : Cond.initialized RX3 ∈ fy_tb := fy_inR (i := 6) (by decide +kernel) rfl
theorem tw392 : Cond.code yX3_insert cX3_insert 4 none ∈ fy_tb := fy_inR (i := 461) (by decide +kernel) rfl
theorem tw393 : Cond.fieldLink RX3 19 RX3 "begins" "[I" ∈ fy_tb := fy_inR (i := 148) (by decide +kernel) rfl
theorem tw394 : Cond.methodLink RX3 45 yX3_leafSign ∈ fy_tb := fy_inR (i := 466) (by decide +kernel) rfl
theorem tw395 : Cond.static yX3_leafSign ∈ fy_tb := fy_inR (i := 467) (by decide +kernel) rfl
theorem tw396 : Cond.code yX3_leafSign cX3_leafSign 1 (some .char) ∈ fy_tb := fy_inR (i := 468) (by decide +kernel) rfl
theorem tw397 : Cond.fieldLink RX3 29 RX2 "size" "I" ∈ fy_tb := fy_inR (i := 44) (by decide +kernel) rfl
theorem tw398 : Cond.methodLink RX3 34 yX2_nodeAt ∈ fy_tb := fy_inR (i := 450) (by decide +kernel) rfl
theorem tw399 : Cond.instanceMethod yX2_nodeAt ∈ fy_tb := fy_inR (i := 451) (by decide +kernel) rfl
theorem tw400 : Cond.selects RX2 yX2_nodeAt yX2_nodeAt ∈ fy_tb := fy_inR (i := 452) (by decide +kernel) rfl
theorem tw401 : Cond.code yX2_nodeAt cX2_nodeAt 2 (some .int) ∈ fy_tb := fy_inR (i := 453) (by decide +kernel) rfl
theorem tw402 : Cond.methodLink RX3 38 yX3_joinParts ∈ fy_tb := fy_inR (i := 454) (by decide +kernel) rfl
theorem tw403 : Cond.instanceMethod yX3_joinParts ∈ fy_tb := fy_inR (i := 456) (by decide +kernel) rfl
theorem tw404 : Cond.selects RX3 yX3_joinParts yX3_joinParts ∈ fy_tb := fy_inL (i := 12) (by decide +kernel) rfl
theorem tw405 : Cond.code yX3_joinParts cX3_joinParts 4 none ∈ fy_tb := fy_inR (i := 457) (by decide +kernel) rfl
theorem tw406 : Cond.methodLink RX3 42 yX3_addPart ∈ fy_tb := fy_inR (i := 462) (by decide +kernel) rfl
theorem tw407 : Cond.instanceMethod yX3_addPart ∈ fy_tb := fy_inR (i := 464) (by decide +kernel) rfl
theorem tw408 : Cond.selects RX3 yX3_addPart yX3_addPart ∈ fy_tb := fy_inL (i := 14) (by decide +kernel) rfl
theorem tw409 : Cond.code yX3_addPart cX3_addPart 2 none ∈ fy_tb := fy_inR (i := 465) (by decide +kernel) rfl
theorem tw410 : Cond.fieldLink RX9 33 RX9 "printer" "LAlternatingAutomata$FormulaPrinter;" ∈ fy_tb := fy_inR (i := 278) (by decide +kernel) rfl
theorem tw411 : Cond.methodLink RX9 135 yX3_write ∈ fy_tb := fy_inR (i := 446) (by decide +kernel) rfl
theorem tw412 : Cond.instanceMethod yX3_write ∈ fy_tb := fy_inR (i := 447) (by decide +kernel) rfl
theorem tw413 : Cond.selects RX3 yX3_write yX3_write ∈ fy_tb := fy_inR (i := 448) (by decide +kernel) rfl
theorem tw414 : Cond.code yX3_write cX3_write 4 none ∈ fy_tb := fy_inR (i := 449) (by decide +kernel) rfl
theorem tw415 : Cond.fieldLink RX9 139 RX3 "length" "I" ∈ fy_tb := fy_inR (i := 147) (by decide +kernel) rfl
theorem tw416 : Cond.fieldLink RX9 140 RX3 "signs" "[C" ∈ fy_tb := fy_inR (i := 145) (by decide +kernel) rfl
theorem tw417 : Cond.methodLinkNest RX2 26 yX9_isIn RX9 ∈ lw_tbl := List.mem_append_right _ (List.mem_of_getElem? (i := 485) (by decide +kernel))
theorem tw418 : Cond.static yX9_isIn ∈ fy_tb := fy_inR (i := 486) (by decide +kernel) rfl
theorem tw419 : Cond.code yX9_isIn cX9_isIn 3 (some .boolean) ∈ fy_tb := fy_inR (i := 487) (by decide +kernel) rfl
theorem tw420 : Cond.methodLink RX9 144 yX0_hasSet ∈ fy_tb := fy_inR (i := 477) (by decide +kernel) rfl
theorem tw421 : Cond.instanceMethod yX0_hasSet ∈ fy_tb := fy_inR (i := 478) (by decide +kernel) rfl
theorem tw422 : Cond.selects RX0 yX0_hasSet yX0_hasSet ∈ fy_tb := fy_inR (i := 479) (by decide +kernel) rfl
theorem tw423 : Cond.code yX0_hasSet cX0_hasSet 2 (some .boolean) ∈ fy_tb := fy_inR (i := 480) (by decide +kernel) rfl
theorem tw424 : Cond.methodLink RX9 147 yX2_holdsIn ∈ fy_tb := fy_inR (i := 481) (by decide +kernel) rfl
theorem tw425 : Cond.instanceMethod yX2_holdsIn ∈ fy_tb := fy_inR (i := 482) (by decide +kernel) rfl
theorem tw426 : Cond.selects RX2 yX2_holdsIn yX2_holdsIn ∈ fy_tb := fy_inR (i := 483) (by decide +kernel) rfl
theorem tw427 : Cond.code yX2_holdsIn cX2_holdsIn 2 (some .boolean) ∈ fy_tb := fy_inR (i := 484) (by decide +kernel) rfl
theorem tw428 : Cond.constantLong RX9 252 (-1) ∈ fy_tb := fy_inR (i := 496) (by decide +kernel) rfl
theorem tw429 : Cond.fieldLink RX9 284 RX9 "CONTAINING" "[J" ∈ fy_tb := fy_inR (i := 495) (by decide +kernel) rfl
theorem tw430 : Cond.constantLong RJ13 314 (6148914691236517205) ∈ fy_tb := fy_inR (i := 500) (by decide +kernel) rfl
theorem tw431 : Cond.constantLong RJ13 316 (3689348814741910323) ∈ fy_tb := fy_inR (i := 501) (by decide +kernel) rfl
theorem tw432 : Cond.constantLong RJ13 318 (1085102592571150095) ∈ fy_tb := fy_inR (i := 502) (by decide +kernel) rfl
theorem tw433 : Cond.constant RJ6 265 (1431655765) ∈ fy_tb := fy_inR (i := 510) (by decide +kernel) rfl
theorem tw434 : Cond.constant RJ6 266 (858993459) ∈ fy_tb := fy_inR (i := 511) (by decide +kernel) rfl
theorem tw435 : Cond.constant RJ6 267 (252645135) ∈ fy_tb := fy_inR (i := 512) (by decide +kernel) rfl
theorem tw436 : Cond.methodLink RX9 288 yX9_isIn ∈ fy_tb := fy_inR (i := 506) (by decide +kernel) rfl
theorem tw437 : Cond.methodLink RX9 292 yJ6_bitCount_0f7a4 ∈ fy_tb := fy_inR (i := 507) (by decide +kernel) rfl
theorem tw438 : Cond.static yJ6_bitCount_0f7a4 ∈ fy_tb := fy_inR (i := 508) (by decide +kernel) rfl
theorem tw439 : Cond.initialized RJ6 ∈ fy_tb := fy_inR (i := 16) (by decide +kernel) rfl
theorem tw440 : Cond.code yJ6_bitCount_0f7a4 cJ6_bitCount_0f7a4 1 (some .int) ∈ fy_tb := fy_inR (i := 509) (by decide +kernel) rfl
theorem tw441 : Cond.fieldLink RX9 152 RX2 "table" "J" ∈ fy_tb := fy_inR (i := 49) (by decide +kernel) rfl
theorem tw442 : Cond.methodLink RX9 156 yX9_minimalSets ∈ fy_tb := fy_inR (i := 492) (by decide +kernel) rfl
theorem tw443 : Cond.static yX9_minimalSets ∈ fy_tb := fy_inR (i := 493) (by decide +kernel) rfl
theorem tw444 : Cond.code yX9_minimalSets cX9_minimalSets 5 (some .long) ∈ fy_tb := fy_inR (i := 494) (by decide +kernel) rfl
theorem tw445 : Cond.methodLink RX9 166 yX9_setAtPosition ∈ fy_tb := fy_inR (i := 503) (by decide +kernel) rfl
theorem tw446 : Cond.static yX9_setAtPosition ∈ fy_tb := fy_inR (i := 504) (by decide +kernel) rfl
theorem tw447 : Cond.code yX9_setAtPosition cX9_setAtPosition 6 (some .int) ∈ fy_tb := fy_inR (i := 505) (by decide +kernel) rfl
theorem tw448 : Cond.methodLink RX9 160 yJ13_bitCount_95d88 ∈ fy_tb := fy_inR (i := 497) (by decide +kernel) rfl
theorem tw449 : Cond.static yJ13_bitCount_95d88 ∈ fy_tb := fy_inR (i := 498) (by decide +kernel) rfl
theorem tw450 : Cond.initialized RJ13 ∈ fy_tb := fy_inR (i := 15) (by decide +kernel) rfl
theorem tw451 : Cond.code yJ13_bitCount_95d88 cJ13_bitCount_95d88 2 (some .int) ∈ fy_tb := fy_inR (i := 499) (by decide +kernel) rfl
theorem tw452 : Cond.fieldLink RX8 7 RX8 "length" "I" ∈ fy_tb := fy_inR (i := 172) (by decide +kernel) rfl
theorem tw453 : Cond.fieldLink RX8 19 RX8 "letters" "[B" ∈ fy_tb := fy_inR (i := 171) (by decide +kernel) rfl
theorem tw454 : Cond.fieldLink RX9 42 RX9 "word" "LAlternatingAutomata$Word;" ∈ fy_tb := fy_inR (i := 279) (by decide +kernel) rfl
theorem tw455 : Cond.fieldLink RX9 170 RX8 "length" "I" ∈ fy_tb := fy_inR (i := 176) (by decide +kernel) rfl
theorem tw456 : Cond.methodLink RX9 171 yX8_add ∈ fy_tb := fy_inR (i := 517) (by decide +kernel) rfl
theorem tw457 : Cond.instanceMethod yX8_add ∈ fy_tb := fy_inR (i := 518) (by decide +kernel) rfl
theorem tw458 : Cond.selects RX8 yX8_add yX8_add ∈ fy_tb := fy_inR (i := 519) (by decide +kernel) rfl
theorem tw459 : Cond.initialized RX8 ∈ fy_tb := fy_inR (i := 7) (by decide +kernel) rfl
theorem tw460 : Cond.code yX8_add cX8_add 2 none ∈ fy_tb := fy_inR (i := 520) (by decide +kernel) rfl
theorem tw461 : Cond.methodLink RX8 23 yX0_hasLetter ∈ fy_tb := fy_inR (i := 533) (by decide +kernel) rfl
theorem tw462 : Cond.methodLink RX0 89 yX2_holdsIn ∈ fy_tb := fy_inR (i := 542) (by decide +kernel) rfl
theorem tw463 : Cond.fieldLink RX8 29 RX0 "finals" "I" ∈ fy_tb := fy_inR (i := 87) (by decide +kernel) rfl
theorem tw464 : Cond.methodLink RX8 32 yX0_statesBefore ∈ fy_tb := fy_inR (i := 538) (by decide +kernel) rfl
theorem tw465 : Cond.instanceMethod yX0_statesBefore ∈ fy_tb := fy_inR (i := 539) (by decide +kernel) rfl
theorem tw466 : Cond.selects RX0 yX0_statesBefore yX0_statesBefore ∈ fy_tb := fy_inR (i := 540) (by decide +kernel) rfl
theorem tw467 : Cond.code yX0_statesBefore cX0_statesBefore 5 (some .int) ∈ fy_tb := fy_inR (i := 541) (by decide +kernel) rfl
theorem tw468 : Cond.methodLink RX9 173 yX8_fits ∈ fy_tb := fy_inR (i := 529) (by decide +kernel) rfl
theorem tw469 : Cond.instanceMethod yX8_fits ∈ fy_tb := fy_inR (i := 530) (by decide +kernel) rfl
theorem tw470 : Cond.selects RX8 yX8_fits yX8_fits ∈ fy_tb := fy_inR (i := 531) (by decide +kernel) rfl
theorem tw471 : Cond.code yX8_fits cX8_fits 3 (some .boolean) ∈ fy_tb := fy_inR (i := 532) (by decide +kernel) rfl
theorem tw472 : Cond.methodLink RX9 177 yX8_acceptedFrom ∈ fy_tb := fy_inR (i := 534) (by decide +kernel) rfl
theorem tw473 : Cond.instanceMethod yX8_acceptedFrom ∈ fy_tb := fy_inR (i := 535) (by decide +kernel) rfl
theorem tw474 : Cond.selects RX8 yX8_acceptedFrom yX8_acceptedFrom ∈ fy_tb := fy_inR (i := 536) (by decide +kernel) rfl
theorem tw475 : Cond.code yX8_acceptedFrom cX8_acceptedFrom 5 (some .int) ∈ fy_tb := fy_inR (i := 537) (by decide +kernel) rfl
theorem tw476 : Cond.fieldLink RX9 181 RX0 "initial" "LAlternatingAutomata$Formula;" ∈ fy_tb := fy_inR (i := 74) (by decide +kernel) rfl
theorem tw477 : Cond.methodLink RX5 51 yX5_isPosition ∈ fy_tb := fy_inR (i := 559) (by decide +kernel) rfl
theorem tw478 : Cond.static yX5_isPosition ∈ fy_tb := fy_inR (i := 560) (by decide +kernel) rfl
theorem tw479 : Cond.initialized RX5 ∈ fy_tb := fy_inR (i := 9) (by decide +kernel) rfl
theorem tw480 : Cond.code yX5_isPosition cX5_isPosition 2 (some .boolean) ∈ fy_tb := fy_inR (i := 561) (by decide +kernel) rfl
theorem tw481 : Cond.fieldLink RX5 9 RX5 "values" "[I" ∈ fy_tb := fy_inR (i := 188) (by decide +kernel) rfl
theorem tw482 : Cond.methodLink RX5 70 yX5_valueAt ∈ fy_tb := fy_inR (i := 576) (by decide +kernel) rfl
theorem tw483 : Cond.instanceMethod yX5_valueAt ∈ fy_tb := fy_inR (i := 577) (by decide +kernel) rfl
theorem tw484 : Cond.selects RX5 yX5_valueAt yX5_valueAt ∈ fy_tb := fy_inR (i := 578) (by decide +kernel) rfl
theorem tw485 : Cond.code yX5_valueAt cX5_valueAt 3 (some .int) ∈ fy_tb := fy_inR (i := 579) (by decide +kernel) rfl
theorem tw486 : Cond.fieldLink RX5 15 RX5 "partValues" "[I" ∈ fy_tb := fy_inR (i := 189) (by decide +kernel) rfl
theorem tw487 : Cond.methodLink RX5 73 Lib.Math.min.name ∈ fy_tb := fy_inR (i := 584) (by decide +kernel) rfl
theorem tw488 : Cond.static Lib.Math.min.name ∈ fy_tb := fy_inR (i := 585) (by decide +kernel) rfl
theorem tw489 : Cond.initialized RJ9 ∈ fy_tb := fy_inR (i := 8) (by decide +kernel) rfl
theorem tw490 : Cond.code Lib.Math.min.name Lib.Math.min.code 2 (some .int) ∈ fy_tb := fy_inR (i := 586) (by decide +kernel) rfl
theorem tw491 : Cond.methodLink RX5 78 Lib.Math.max.name ∈ fy_tb := fy_inR (i := 587) (by decide +kernel) rfl
theorem tw492 : Cond.static Lib.Math.max.name ∈ fy_tb := fy_inR (i := 169) (by decide +kernel) rfl
theorem tw493 : Cond.code Lib.Math.max.name Lib.Math.max.code 2 (some .int) ∈ fy_tb := fy_inR (i := 170) (by decide +kernel) rfl
theorem tw494 : Cond.fieldLink RX5 18 RX5 "partStates" "[I" ∈ fy_tb := fy_inR (i := 190) (by decide +kernel) rfl
theorem tw495 : Cond.fieldLink RX5 55 RX2 "size" "I" ∈ fy_tb := fy_inR (i := 45) (by decide +kernel) rfl
theorem tw496 : Cond.methodLink RX5 60 yX2_nodeAt ∈ fy_tb := fy_inR (i := 571) (by decide +kernel) rfl
theorem tw497 : Cond.methodLink RX5 67 yX5_joinParts ∈ fy_tb := fy_inR (i := 580) (by decide +kernel) rfl
theorem tw498 : Cond.instanceMethod yX5_joinParts ∈ fy_tb := fy_inR (i := 582) (by decide +kernel) rfl
theorem tw499 : Cond.selects RX5 yX5_joinParts yX5_joinParts ∈ fy_tb := fy_inL (i := 18) (by decide +kernel) rfl
theorem tw500 : Cond.code yX5_joinParts cX5_joinParts 7 none ∈ fy_tb := fy_inR (i := 583) (by decide +kernel) rfl
theorem tw501 : Cond.methodLink RX5 63 yX5_leafValue ∈ fy_tb := fy_inR (i := 572) (by decide +kernel) rfl
theorem tw502 : Cond.instanceMethod yX5_leafValue ∈ fy_tb := fy_inR (i := 574) (by decide +kernel) rfl
theorem tw503 : Cond.selects RX5 yX5_leafValue yX5_leafValue ∈ fy_tb := fy_inL (i := 17) (by decide +kernel) rfl
theorem tw504 : Cond.code yX5_leafValue cX5_leafValue 3 (some .int) ∈ fy_tb := fy_inR (i := 575) (by decide +kernel) rfl
theorem tw505 : Cond.fieldLink RX5 21 RX0 "states" "I" ∈ fy_tb := fy_inR (i := 77) (by decide +kernel) rfl
theorem tw506 : Cond.fieldLink RX5 30 RX8 "length" "I" ∈ fy_tb := fy_inR (i := 173) (by decide +kernel) rfl
theorem tw507 : Cond.methodLink RX5 39 yX8_letterAt ∈ fy_tb := fy_inR (i := 562) (by decide +kernel) rfl
theorem tw508 : Cond.instanceMethod yX8_letterAt ∈ fy_tb := fy_inR (i := 563) (by decide +kernel) rfl
theorem tw509 : Cond.selects RX8 yX8_letterAt yX8_letterAt ∈ fy_tb := fy_inR (i := 564) (by decide +kernel) rfl
theorem tw510 : Cond.code yX8_letterAt cX8_letterAt 2 (some .int) ∈ fy_tb := fy_inR (i := 565) (by decide +kernel) rfl
theorem tw511 : Cond.methodLink RX5 43 yX0_move ∈ fy_tb := fy_inR (i := 566) (by decide +kernel) rfl
theorem tw512 : Cond.methodLink RX5 47 yX5_evaluate ∈ fy_tb := fy_inR (i := 567) (by decide +kernel) rfl
theorem tw513 : Cond.instanceMethod yX5_evaluate ∈ fy_tb := fy_inR (i := 569) (by decide +kernel) rfl
theorem tw514 : Cond.selects RX5 yX5_evaluate yX5_evaluate ∈ fy_tb := fy_inL (i := 16) (by decide +kernel) rfl
theorem tw515 : Cond.code yX5_evaluate cX5_evaluate 6 none ∈ fy_tb := fy_inR (i := 570) (by decide +kernel) rfl
theorem tw516 : Cond.methodLink RX5 35 yX5_setValue ∈ fy_tb := fy_inR (i := 555) (by decide +kernel) rfl
theorem tw517 : Cond.instanceMethod yX5_setValue ∈ fy_tb := fy_inR (i := 557) (by decide +kernel) rfl
theorem tw518 : Cond.selects RX5 yX5_setValue yX5_setValue ∈ fy_tb := fy_inL (i := 15) (by decide +kernel) rfl
theorem tw519 : Cond.code yX5_setValue cX5_setValue 4 none ∈ fy_tb := fy_inR (i := 558) (by decide +kernel) rfl
theorem tw520 : Cond.fieldLink RX5 27 RX0 "finals" "I" ∈ fy_tb := fy_inR (i := 85) (by decide +kernel) rfl
theorem tw521 : Cond.fieldLink RX9 52 RX9 "game" "LAlternatingAutomata$Game;" ∈ fy_tb := fy_inR (i := 281) (by decide +kernel) rfl
theorem tw522 : Cond.methodLink RX9 185 yX5_solve ∈ fy_tb := fy_inR (i := 551) (by decide +kernel) rfl
theorem tw523 : Cond.instanceMethod yX5_solve ∈ fy_tb := fy_inR (i := 552) (by decide +kernel) rfl
theorem tw524 : Cond.selects RX5 yX5_solve yX5_solve ∈ fy_tb := fy_inR (i := 553) (by decide +kernel) rfl
theorem tw525 : Cond.code yX5_solve cX5_solve 6 none ∈ fy_tb := fy_inR (i := 554) (by decide +kernel) rfl
theorem tw526 : Cond.methodLink RX9 189 yX5_valueAt ∈ fy_tb := fy_inR (i := 588) (by decide +kernel) rfl
theorem tw527 : Cond.methodLink RX9 193 yX8_letterAt ∈ fy_tb := fy_inR (i := 593) (by decide +kernel) rfl
theorem tw528 : Cond.methodLink RX9 197 yX0_move ∈ fy_tb := fy_inR (i := 594) (by decide +kernel) rfl
theorem tw529 : Cond.methodLink RX9 201 yX5_statesLedTo ∈ fy_tb := fy_inR (i := 595) (by decide +kernel) rfl
theorem tw530 : Cond.instanceMethod yX5_statesLedTo ∈ fy_tb := fy_inR (i := 596) (by decide +kernel) rfl
theorem tw531 : Cond.selects RX5 yX5_statesLedTo yX5_statesLedTo ∈ fy_tb := fy_inR (i := 597) (by decide +kernel) rfl
theorem tw532 : Cond.code yX5_statesLedTo cX5_statesLedTo 3 (some .int) ∈ fy_tb := fy_inR (i := 598) (by decide +kernel) rfl
theorem tw533 : Cond.methodLink RX9 205 yX0_statesBefore ∈ fy_tb := fy_inR (i := 603) (by decide +kernel) rfl
theorem tw534 : Cond.fieldLink RX7 39 RX0 "letters" "I" ∈ fy_tb := fy_inR (i := 80) (by decide +kernel) rfl
theorem tw535 : Cond.fieldLink RX7 28 RX7 "letters" "I" ∈ fy_tb := fy_inR (i := 209) (by decide +kernel) rfl
theorem tw536 : Cond.fieldLink RX7 42 RX0 "finals" "I" ∈ fy_tb := fy_inR (i := 83) (by decide +kernel) rfl
theorem tw537 : Cond.fieldLink RX7 32 RX7 "first" "I" ∈ fy_tb := fy_inR (i := 212) (by decide +kernel) rfl
theorem tw538 : Cond.fieldLink RX7 45 RX0 "initial" "LAlternatingAutomata$Formula;" ∈ fy_tb := fy_inR (i := 73) (by decide +kernel) rfl
theorem tw539 : Cond.fieldLink RX7 49 RX2 "table" "J" ∈ fy_tb := fy_inR (i := 48) (by decide +kernel) rfl
theorem tw540 : Cond.fieldLink RX7 35 RX7 "accepting" "J" ∈ fy_tb := fy_inR (i := 215) (by decide +kernel) rfl
theorem tw541 : Cond.fieldLink RX7 54 RX0 "states" "I" ∈ fy_tb := fy_inR (i := 78) (by decide +kernel) rfl
theorem tw542 : Cond.fieldLink RX7 9 RX7 "steps" "[I" ∈ fy_tb := fy_inR (i := 204) (by decide +kernel) rfl
theorem tw543 : Cond.methodLink RX7 57 yX0_statesBefore ∈ fy_tb := fy_inR (i := 612) (by decide +kernel) rfl
theorem tw544 : Cond.methodLinkNest RX7 61 yX9_isIn RX9 ∈ lw_tbl := List.mem_append_right _ (List.mem_of_getElem? (i := 621) (by decide +kernel))
theorem tw545 : Cond.methodLink RX7 71 yX7_step ∈ fy_tb := fy_inR (i := 622) (by decide +kernel) rfl
theorem tw546 : Cond.instanceMethod yX7_step ∈ fy_tb := fy_inR (i := 623) (by decide +kernel) rfl
theorem tw547 : Cond.selects RX7 yX7_step yX7_step ∈ fy_tb := fy_inR (i := 624) (by decide +kernel) rfl
theorem tw548 : Cond.initialized RX7 ∈ fy_tb := fy_inR (i := 10) (by decide +kernel) rfl
theorem tw549 : Cond.code yX7_step cX7_step 4 (some .int) ∈ fy_tb := fy_inR (i := 625) (by decide +kernel) rfl
theorem tw550 : Cond.methodLink RX7 65 yX7_stepAll ∈ fy_tb := fy_inR (i := 617) (by decide +kernel) rfl
theorem tw551 : Cond.instanceMethod yX7_stepAll ∈ fy_tb := fy_inR (i := 619) (by decide +kernel) rfl
theorem tw552 : Cond.selects RX7 yX7_stepAll yX7_stepAll ∈ fy_tb := fy_inL (i := 19) (by decide +kernel) rfl
theorem tw553 : Cond.code yX7_stepAll cX7_stepAll 7 (some .long) ∈ fy_tb := fy_inR (i := 620) (by decide +kernel) rfl
theorem tw554 : Cond.constantLong RX7 69 (-1) ∈ fy_tb := fy_inR (i := 626) (by decide +kernel) rfl
theorem tw555 : Cond.fieldLink RX9 59 RX9 "reverseOne" "LAlternatingAutomata$ReverseAutomaton;" ∈ fy_tb := fy_inR (i := 282) (by decide +kernel) rfl
theorem tw556 : Cond.methodLink RX9 208 yX7_load ∈ fy_tb := fy_inR (i := 608) (by decide +kernel) rfl
theorem tw557 : Cond.instanceMethod yX7_load ∈ fy_tb := fy_inR (i := 609) (by decide +kernel) rfl
theorem tw558 : Cond.selects RX7 yX7_load yX7_load ∈ fy_tb := fy_inR (i := 610) (by decide +kernel) rfl
theorem tw559 : Cond.code yX7_load cX7_load 5 none ∈ fy_tb := fy_inR (i := 611) (by decide +kernel) rfl
theorem tw560 : Cond.methodLink RX9 212 yX7_reachable ∈ fy_tb := fy_inR (i := 613) (by decide +kernel) rfl
theorem tw561 : Cond.instanceMethod yX7_reachable ∈ fy_tb := fy_inR (i := 614) (by decide +kernel) rfl
theorem tw562 : Cond.selects RX7 yX7_reachable yX7_reachable ∈ fy_tb := fy_inR (i := 615) (by decide +kernel) rfl
theorem tw563 : Cond.code yX7_reachable cX7_reachable 6 (some .long) ∈ fy_tb := fy_inR (i := 616) (by decide +kernel) rfl
theorem tw564 : Cond.fieldLink RX7 15 RX7 "classes" "[I" ∈ fy_tb := fy_inR (i := 205) (by decide +kernel) rfl
theorem tw565 : Cond.methodLink RX7 92 yX7_areTwins ∈ fy_tb := fy_inR (i := 644) (by decide +kernel) rfl
theorem tw566 : Cond.instanceMethod yX7_areTwins ∈ fy_tb := fy_inR (i := 646) (by decide +kernel) rfl
theorem tw567 : Cond.selects RX7 yX7_areTwins yX7_areTwins ∈ fy_tb := fy_inL (i := 22) (by decide +kernel) rfl
theorem tw568 : Cond.code yX7_areTwins cX7_areTwins 5 (some .boolean) ∈ fy_tb := fy_inR (i := 647) (by decide +kernel) rfl
theorem tw569 : Cond.fieldLink RX7 18 RX7 "finerClasses" "[I" ∈ fy_tb := fy_inR (i := 206) (by decide +kernel) rfl
theorem tw570 : Cond.methodLink RX7 86 arraycopyName ∈ fy_tb := fy_inR (i := 648) (by decide +kernel) rfl
theorem tw571 : Cond.methodLink RX7 82 yX7_earlierTwin ∈ fy_tb := fy_inR (i := 640) (by decide +kernel) rfl
theorem tw572 : Cond.instanceMethod yX7_earlierTwin ∈ fy_tb := fy_inR (i := 642) (by decide +kernel) rfl
theorem tw573 : Cond.selects RX7 yX7_earlierTwin yX7_earlierTwin ∈ fy_tb := fy_inL (i := 21) (by decide +kernel) rfl
theorem tw574 : Cond.code yX7_earlierTwin cX7_earlierTwin 5 (some .int) ∈ fy_tb := fy_inR (i := 643) (by decide +kernel) rfl
theorem tw575 : Cond.methodLink RX7 74 yX7_reachable ∈ fy_tb := fy_inR (i := 635) (by decide +kernel) rfl
theorem tw576 : Cond.methodLink RX7 78 yX7_refine ∈ fy_tb := fy_inR (i := 636) (by decide +kernel) rfl
theorem tw577 : Cond.instanceMethod yX7_refine ∈ fy_tb := fy_inR (i := 638) (by decide +kernel) rfl
theorem tw578 : Cond.selects RX7 yX7_refine yX7_refine ∈ fy_tb := fy_inL (i := 20) (by decide +kernel) rfl
theorem tw579 : Cond.code yX7_refine cX7_refine 6 (some .int) ∈ fy_tb := fy_inR (i := 639) (by decide +kernel) rfl
theorem tw580 : Cond.methodLink RX9 216 yX7_countClasses ∈ fy_tb := fy_inR (i := 631) (by decide +kernel) rfl
theorem tw581 : Cond.instanceMethod yX7_countClasses ∈ fy_tb := fy_inR (i := 632) (by decide +kernel) rfl
theorem tw582 : Cond.selects RX7 yX7_countClasses yX7_countClasses ∈ fy_tb := fy_inR (i := 633) (by decide +kernel) rfl
theorem tw583 : Cond.code yX7_countClasses cX7_countClasses 6 (some .int) ∈ fy_tb := fy_inR (i := 634) (by decide +kernel) rfl
theorem tw584 : Cond.constantLong RX0 112 (-1) ∈ fy_tb := fy_inR (i := 667) (by decide +kernel) rfl
theorem tw585 : Cond.fieldLink RX0 100 RX2 "table" "J" ∈ fy_tb := fy_inR (i := 50) (by decide +kernel) rfl
theorem tw586 : Cond.methodLinkNest RX0 114 yX9_isIn RX9 ∈ lw_tbl := List.mem_append_right _ (List.mem_of_getElem? (i := 662) (by decide +kernel))
theorem tw587 : Cond.methodLink RX0 118 yX0_tableOfAll ∈ fy_tb := fy_inR (i := 663) (by decide +kernel) rfl
theorem tw588 : Cond.instanceMethod yX0_tableOfAll ∈ fy_tb := fy_inR (i := 665) (by decide +kernel) rfl
theorem tw589 : Cond.selects RX0 yX0_tableOfAll yX0_tableOfAll ∈ fy_tb := fy_inL (i := 23) (by decide +kernel) rfl
theorem tw590 : Cond.code yX0_tableOfAll cX0_tableOfAll 6 (some .long) ∈ fy_tb := fy_inR (i := 666) (by decide +kernel) rfl
theorem tw591 : Cond.methodLinkNest RX0 104 yX9_minimalSets RX9 ∈ lw_tbl := List.mem_append_right _ (List.mem_of_getElem? (i := 657) (by decide +kernel))
theorem tw592 : Cond.methodLink RX0 108 yX0_existentialNext ∈ fy_tb := fy_inR (i := 658) (by decide +kernel) rfl
theorem tw593 : Cond.instanceMethod yX0_existentialNext ∈ fy_tb := fy_inR (i := 659) (by decide +kernel) rfl
theorem tw594 : Cond.selects RX0 yX0_existentialNext yX0_existentialNext ∈ fy_tb := fy_inR (i := 660) (by decide +kernel) rfl
theorem tw595 : Cond.code yX0_existentialNext cX0_existentialNext 7 (some .long) ∈ fy_tb := fy_inR (i := 661) (by decide +kernel) rfl
theorem tw596 : Cond.methodLink RX9 220 yX0_existentialReach ∈ fy_tb := fy_inR (i := 653) (by decide +kernel) rfl
theorem tw597 : Cond.instanceMethod yX0_existentialReach ∈ fy_tb := fy_inR (i := 654) (by decide +kernel) rfl
theorem tw598 : Cond.selects RX0 yX0_existentialReach yX0_existentialReach ∈ fy_tb := fy_inR (i := 655) (by decide +kernel) rfl
theorem tw599 : Cond.code yX0_existentialReach cX0_existentialReach 9 (some .long) ∈ fy_tb := fy_inR (i := 656) (by decide +kernel) rfl
theorem tw600 : Cond.methodLink RX9 227 yX0_acceptingSets ∈ fy_tb := fy_inR (i := 673) (by decide +kernel) rfl
theorem tw601 : Cond.instanceMethod yX0_acceptingSets ∈ fy_tb := fy_inR (i := 674) (by decide +kernel) rfl
theorem tw602 : Cond.selects RX0 yX0_acceptingSets yX0_acceptingSets ∈ fy_tb := fy_inR (i := 675) (by decide +kernel) rfl
theorem tw603 : Cond.code yX0_acceptingSets cX0_acceptingSets 4 (some .long) ∈ fy_tb := fy_inR (i := 676) (by decide +kernel) rfl
theorem tw604 : Cond.methodLink RX9 223 yX0_existentialNext ∈ fy_tb := fy_inR (i := 672) (by decide +kernel) rfl
theorem tw605 : Cond.methodLink RX0 92 yX2_statesInside ∈ fy_tb := fy_inR (i := 685) (by decide +kernel) rfl
theorem tw606 : Cond.instanceMethod yX2_statesInside ∈ fy_tb := fy_inR (i := 686) (by decide +kernel) rfl
theorem tw607 : Cond.selects RX2 yX2_statesInside yX2_statesInside ∈ fy_tb := fy_inR (i := 687) (by decide +kernel) rfl
theorem tw608 : Cond.code yX2_statesInside cX2_statesInside 3 (some .int) ∈ fy_tb := fy_inR (i := 688) (by decide +kernel) rfl
theorem tw609 : Cond.methodLink RX0 96 yX0_statesAfter ∈ fy_tb := fy_inR (i := 689) (by decide +kernel) rfl
theorem tw610 : Cond.instanceMethod yX0_statesAfter ∈ fy_tb := fy_inR (i := 691) (by decide +kernel) rfl
theorem tw611 : Cond.selects RX0 yX0_statesAfter yX0_statesAfter ∈ fy_tb := fy_inL (i := 24) (by decide +kernel) rfl
theorem tw612 : Cond.code yX0_statesAfter cX0_statesAfter 5 (some .int) ∈ fy_tb := fy_inR (i := 692) (by decide +kernel) rfl
theorem tw613 : Cond.methodLink RX9 230 yX0_statesThatMatter ∈ fy_tb := fy_inR (i := 681) (by decide +kernel) rfl
theorem tw614 : Cond.instanceMethod yX0_statesThatMatter ∈ fy_tb := fy_inR (i := 682) (by decide +kernel) rfl
theorem tw615 : Cond.selects RX0 yX0_statesThatMatter yX0_statesThatMatter ∈ fy_tb := fy_inR (i := 683) (by decide +kernel) rfl
theorem tw616 : Cond.code yX0_statesThatMatter cX0_statesThatMatter 4 (some .int) ∈ fy_tb := fy_inR (i := 684) (by decide +kernel) rfl
theorem tw617 : Cond.fieldLink RX1 45 RX7 "letters" "I" ∈ fy_tb := fy_inR (i := 211) (by decide +kernel) rfl
theorem tw618 : Cond.fieldLink RX1 9 RX1 "prices" "[I" ∈ fy_tb := fy_inR (i := 240) (by decide +kernel) rfl
theorem tw619 : Cond.constant RX1 15 (1000000000) ∈ fy_tb := fy_inR (i := 239) (by decide +kernel) rfl
theorem tw620 : Cond.methodLink RX1 48 yX1_priceOf ∈ fy_tb := fy_inR (i := 706) (by decide +kernel) rfl
theorem tw621 : Cond.static yX1_priceOf ∈ fy_tb := fy_inR (i := 707) (by decide +kernel) rfl
theorem tw622 : Cond.initialized RX1 ∈ fy_tb := fy_inR (i := 11) (by decide +kernel) rfl
theorem tw623 : Cond.code yX1_priceOf cX1_priceOf 3 (some .int) ∈ fy_tb := fy_inR (i := 708) (by decide +kernel) rfl
theorem tw624 : Cond.methodLink RX1 52 yX7_step ∈ fy_tb := fy_inR (i := 709) (by decide +kernel) rfl
theorem tw625 : Cond.methodLink RX1 20 yJ7_fill_53178 ∈ fy_tb := fy_inR (i := 701) (by decide +kernel) rfl
theorem tw626 : Cond.fieldLink RX1 26 RX7 "first" "I" ∈ fy_tb := fy_inR (i := 214) (by decide +kernel) rfl
theorem tw627 : Cond.fieldLink RX1 16 RX1 "best" "I" ∈ fy_tb := fy_inR (i := 241) (by decide +kernel) rfl
theorem tw628 : Cond.methodLink RX1 35 yX7_isAccepting ∈ fy_tb := fy_inR (i := 710) (by decide +kernel) rfl
theorem tw629 : Cond.instanceMethod yX7_isAccepting ∈ fy_tb := fy_inR (i := 711) (by decide +kernel) rfl
theorem tw630 : Cond.selects RX7 yX7_isAccepting yX7_isAccepting ∈ fy_tb := fy_inR (i := 712) (by decide +kernel) rfl
theorem tw631 : Cond.code yX7_isAccepting cX7_isAccepting 2 (some .boolean) ∈ fy_tb := fy_inR (i := 713) (by decide +kernel) rfl
theorem tw632 : Cond.methodLink RX1 39 Lib.Math.min.name ∈ fy_tb := fy_inR (i := 714) (by decide +kernel) rfl
theorem tw633 : Cond.methodLink RX1 31 yX1_lowerPrices ∈ fy_tb := fy_inR (i := 702) (by decide +kernel) rfl
theorem tw634 : Cond.instanceMethod yX1_lowerPrices ∈ fy_tb := fy_inR (i := 704) (by decide +kernel) rfl
theorem tw635 : Cond.selects RX1 yX1_lowerPrices yX1_lowerPrices ∈ fy_tb := fy_inL (i := 25) (by decide +kernel) rfl
theorem tw636 : Cond.code yX1_lowerPrices cX1_lowerPrices 8 (some .boolean) ∈ fy_tb := fy_inR (i := 705) (by decide +kernel) rfl
theorem tw637 : Cond.methodLinkNest RX1 68 yX9_isIn RX9 ∈ lw_tbl := List.mem_append_right _ (List.mem_of_getElem? (i := 723) (by decide +kernel))
theorem tw638 : Cond.fieldLink RX1 55 RX8 "length" "I" ∈ fy_tb := fy_inR (i := 174) (by decide +kernel) rfl
theorem tw639 : Cond.methodLink RX1 64 yX8_add ∈ fy_tb := fy_inR (i := 724) (by decide +kernel) rfl
theorem tw640 : Cond.methodLink RX1 60 yX1_waysInto ∈ fy_tb := fy_inR (i := 719) (by decide +kernel) rfl
theorem tw641 : Cond.instanceMethod yX1_waysInto ∈ fy_tb := fy_inR (i := 721) (by decide +kernel) rfl
theorem tw642 : Cond.selects RX1 yX1_waysInto yX1_waysInto ∈ fy_tb := fy_inL (i := 26) (by decide +kernel) rfl
theorem tw643 : Cond.code yX1_waysInto cX1_waysInto 9 (some .long) ∈ fy_tb := fy_inR (i := 722) (by decide +kernel) rfl
theorem tw644 : Cond.fieldLink RX8 35 RX0 "weights" "[I" ∈ fy_tb := fy_inR (i := 71) (by decide +kernel) rfl
theorem tw645 : Cond.fieldLink RX9 69 RX9 "cheapest" "LAlternatingAutomata$CheapestSearch;" ∈ fy_tb := fy_inR (i := 284) (by decide +kernel) rfl
theorem tw646 : Cond.methodLink RX9 233 yX1_search ∈ fy_tb := fy_inR (i := 697) (by decide +kernel) rfl
theorem tw647 : Cond.instanceMethod yX1_search ∈ fy_tb := fy_inR (i := 698) (by decide +kernel) rfl
theorem tw648 : Cond.selects RX1 yX1_search yX1_search ∈ fy_tb := fy_inR (i := 699) (by decide +kernel) rfl
theorem tw649 : Cond.code yX1_search cX1_search 5 (some .boolean) ∈ fy_tb := fy_inR (i := 700) (by decide +kernel) rfl
theorem tw650 : Cond.fieldLink RX9 46 RX9 "found" "LAlternatingAutomata$Word;" ∈ fy_tb := fy_inR (i := 280) (by decide +kernel) rfl
theorem tw651 : Cond.methodLink RX9 237 yX1_spell ∈ fy_tb := fy_inR (i := 715) (by decide +kernel) rfl
theorem tw652 : Cond.instanceMethod yX1_spell ∈ fy_tb := fy_inR (i := 716) (by decide +kernel) rfl
theorem tw653 : Cond.selects RX1 yX1_spell yX1_spell ∈ fy_tb := fy_inR (i := 717) (by decide +kernel) rfl
theorem tw654 : Cond.code yX1_spell cX1_spell 12 none ∈ fy_tb := fy_inR (i := 718) (by decide +kernel) rfl
theorem tw655 : Cond.methodLink RX9 241 yX8_costIn ∈ fy_tb := fy_inR (i := 725) (by decide +kernel) rfl
theorem tw656 : Cond.instanceMethod yX8_costIn ∈ fy_tb := fy_inR (i := 726) (by decide +kernel) rfl
theorem tw657 : Cond.selects RX8 yX8_costIn yX8_costIn ∈ fy_tb := fy_inR (i := 727) (by decide +kernel) rfl
theorem tw658 : Cond.code yX8_costIn cX8_costIn 4 (some .int) ∈ fy_tb := fy_inR (i := 728) (by decide +kernel) rfl
theorem tw659 : Cond.fieldLink RX9 84 RX9 "costOfFound" "I" ∈ fy_tb := fy_inR (i := 287) (by decide +kernel) rfl
theorem tw660 : Cond.fieldLink RX6 22 RX6 "count" "I" ∈ fy_tb := fy_inR (i := 259) (by decide +kernel) rfl
theorem tw661 : Cond.fieldLink RX6 15 RX6 "distances" "[S" ∈ fy_tb := fy_inR (i := 257) (by decide +kernel) rfl
theorem tw662 : Cond.fieldLink RX6 9 RX6 "order" "[S" ∈ fy_tb := fy_inR (i := 256) (by decide +kernel) rfl
theorem tw663 : Cond.fieldLink RX6 18 RX6 "leads" "[Z" ∈ fy_tb := fy_inR (i := 258) (by decide +kernel) rfl
theorem tw664 : Cond.methodLink RX6 51 yX7_isAccepting ∈ fy_tb := fy_inR (i := 752) (by decide +kernel) rfl
theorem tw665 : Cond.methodLink RX6 62 yX7_step ∈ fy_tb := fy_inR (i := 756) (by decide +kernel) rfl
theorem tw666 : Cond.methodLink RX6 35 yX6_forgetLast ∈ fy_tb := fy_inR (i := 741) (by decide +kernel) rfl
theorem tw667 : Cond.instanceMethod yX6_forgetLast ∈ fy_tb := fy_inR (i := 743) (by decide +kernel) rfl
theorem tw668 : Cond.selects RX6 yX6_forgetLast yX6_forgetLast ∈ fy_tb := fy_inL (i := 28) (by decide +kernel) rfl
theorem tw669 : Cond.initialized RX6 ∈ fy_tb := fy_inR (i := 12) (by decide +kernel) rfl
theorem tw670 : Cond.code yX6_forgetLast cX6_forgetLast 2 none ∈ fy_tb := fy_inR (i := 744) (by decide +kernel) rfl
theorem tw671 : Cond.fieldLink RX6 38 RX7 "first" "I" ∈ fy_tb := fy_inR (i := 213) (by decide +kernel) rfl
theorem tw672 : Cond.methodLink RX6 43 yX6_reach ∈ fy_tb := fy_inR (i := 745) (by decide +kernel) rfl
theorem tw673 : Cond.instanceMethod yX6_reach ∈ fy_tb := fy_inR (i := 747) (by decide +kernel) rfl
theorem tw674 : Cond.selects RX6 yX6_reach yX6_reach ∈ fy_tb := fy_inL (i := 29) (by decide +kernel) rfl
theorem tw675 : Cond.code yX6_reach cX6_reach 3 none ∈ fy_tb := fy_inR (i := 748) (by decide +kernel) rfl
theorem tw676 : Cond.methodLink RX6 47 yX6_differs ∈ fy_tb := fy_inR (i := 749) (by decide +kernel) rfl
theorem tw677 : Cond.static yX6_differs ∈ fy_tb := fy_inR (i := 750) (by decide +kernel) rfl
theorem tw678 : Cond.code yX6_differs cX6_differs 3 (some .boolean) ∈ fy_tb := fy_inR (i := 751) (by decide +kernel) rfl
theorem tw679 : Cond.fieldLink RX6 55 RX7 "letters" "I" ∈ fy_tb := fy_inR (i := 210) (by decide +kernel) rfl
theorem tw680 : Cond.methodLink RX6 58 yX6_stepPair ∈ fy_tb := fy_inR (i := 753) (by decide +kernel) rfl
theorem tw681 : Cond.static yX6_stepPair ∈ fy_tb := fy_inR (i := 754) (by decide +kernel) rfl
theorem tw682 : Cond.code yX6_stepPair cX6_stepPair 4 (some .int) ∈ fy_tb := fy_inR (i := 755) (by decide +kernel) rfl
theorem tw683 : Cond.fieldLink RX6 26 RX6 "firstDifference" "I" ∈ fy_tb := fy_inR (i := 260) (by decide +kernel) rfl
theorem tw684 : Cond.fieldLink RX9 63 RX9 "reverseOther" "LAlternatingAutomata$ReverseAutomaton;" ∈ fy_tb := fy_inR (i := 283) (by decide +kernel) rfl
theorem tw685 : Cond.fieldLink RX9 76 RX9 "pairs" "LAlternatingAutomata$PairSearch;" ∈ fy_tb := fy_inR (i := 285) (by decide +kernel) rfl
theorem tw686 : Cond.methodLink RX9 281 yX6_search ∈ fy_tb := fy_inR (i := 737) (by decide +kernel) rfl
theorem tw687 : Cond.instanceMethod yX6_search ∈ fy_tb := fy_inR (i := 738) (by decide +kernel) rfl
theorem tw688 : Cond.selects RX6 yX6_search yX6_search ∈ fy_tb := fy_inR (i := 739) (by decide +kernel) rfl
theorem tw689 : Cond.code yX6_search cX6_search 7 (some .boolean) ∈ fy_tb := fy_inR (i := 740) (by decide +kernel) rfl
theorem tw690 : Cond.fieldLink RX6 66 RX8 "length" "I" ∈ fy_tb := fy_inR (i := 175) (by decide +kernel) rfl
theorem tw691 : Cond.methodLink RX6 71 yX6_levelBegin ∈ fy_tb := fy_inR (i := 761) (by decide +kernel) rfl
theorem tw692 : Cond.instanceMethod yX6_levelBegin ∈ fy_tb := fy_inR (i := 763) (by decide +kernel) rfl
theorem tw693 : Cond.selects RX6 yX6_levelBegin yX6_levelBegin ∈ fy_tb := fy_inL (i := 30) (by decide +kernel) rfl
theorem tw694 : Cond.code yX6_levelBegin cX6_levelBegin 5 (some .int) ∈ fy_tb := fy_inR (i := 764) (by decide +kernel) rfl
theorem tw695 : Cond.methodLink RX6 74 yX6_markLeading ∈ fy_tb := fy_inR (i := 765) (by decide +kernel) rfl
theorem tw696 : Cond.instanceMethod yX6_markLeading ∈ fy_tb := fy_inR (i := 767) (by decide +kernel) rfl
theorem tw697 : Cond.selects RX6 yX6_markLeading yX6_markLeading ∈ fy_tb := fy_inL (i := 31) (by decide +kernel) rfl
theorem tw698 : Cond.code yX6_markLeading cX6_markLeading 10 (some .boolean) ∈ fy_tb := fy_inR (i := 768) (by decide +kernel) rfl
theorem tw699 : Cond.methodLink RX6 78 yX8_add ∈ fy_tb := fy_inR (i := 769) (by decide +kernel) rfl
theorem tw700 : Cond.methodLink RX9 245 yX9_searchPairs ∈ fy_tb := fy_inR (i := 733) (by decide +kernel) rfl
theorem tw701 : Cond.instanceMethod yX9_searchPairs ∈ fy_tb := fy_inR (i := 735) (by decide +kernel) rfl
theorem tw702 : Cond.selects RX9 yX9_searchPairs yX9_searchPairs ∈ fy_tb := fy_inL (i := 27) (by decide +kernel) rfl
theorem tw703 : Cond.code yX9_searchPairs cX9_searchPairs 4 (some .boolean) ∈ fy_tb := fy_inR (i := 736) (by decide +kernel) rfl
theorem tw704 : Cond.methodLink RX9 249 yX6_spell ∈ fy_tb := fy_inR (i := 757) (by decide +kernel) rfl
theorem tw705 : Cond.instanceMethod yX6_spell ∈ fy_tb := fy_inR (i := 758) (by decide +kernel) rfl
theorem tw706 : Cond.selects RX6 yX6_spell yX6_spell ∈ fy_tb := fy_inR (i := 759) (by decide +kernel) rfl
theorem tw707 : Cond.code yX6_spell cX6_spell 10 none ∈ fy_tb := fy_inR (i := 760) (by decide +kernel) rfl
theorem tw708 : Cond.fieldLink RX7 25 RX7 "nextCounts" "[J" ∈ fy_tb := fy_inR (i := 208) (by decide +kernel) rfl
theorem tw709 : Cond.methodLink RX7 96 yJ7_fill_d0a16 ∈ fy_tb := fy_inR (i := 790) (by decide +kernel) rfl
theorem tw710 : Cond.static yJ7_fill_d0a16 ∈ fy_tb := fy_inR (i := 791) (by decide +kernel) rfl
theorem tw711 : Cond.code yJ7_fill_d0a16 cJ7_fill_d0a16 5 none ∈ fy_tb := fy_inR (i := 792) (by decide +kernel) rfl
theorem tw712 : Cond.fieldLink RX7 21 RX7 "counts" "[J" ∈ fy_tb := fy_inR (i := 207) (by decide +kernel) rfl
theorem tw713 : Cond.methodLink RX7 102 yX7_countOneLetterMore ∈ fy_tb := fy_inR (i := 793) (by decide +kernel) rfl
theorem tw714 : Cond.instanceMethod yX7_countOneLetterMore ∈ fy_tb := fy_inR (i := 795) (by decide +kernel) rfl
theorem tw715 : Cond.selects RX7 yX7_countOneLetterMore yX7_countOneLetterMore ∈ fy_tb := fy_inL (i := 32) (by decide +kernel) rfl
theorem tw716 : Cond.code yX7_countOneLetterMore cX7_countOneLetterMore 3 none ∈ fy_tb := fy_inR (i := 796) (by decide +kernel) rfl
theorem tw717 : Cond.methodLink RX9 254 yX7_countAccepted ∈ fy_tb := fy_inR (i := 786) (by decide +kernel) rfl
theorem tw718 : Cond.instanceMethod yX7_countAccepted ∈ fy_tb := fy_inR (i := 787) (by decide +kernel) rfl
theorem tw719 : Cond.selects RX7 yX7_countAccepted yX7_countAccepted ∈ fy_tb := fy_inR (i := 788) (by decide +kernel) rfl
theorem tw720 : Cond.code yX7_countAccepted cX7_countAccepted 5 (some .long) ∈ fy_tb := fy_inR (i := 789) (by decide +kernel) rfl
theorem tw721 : Cond.methodLink RX0 72 arraycopyName ∈ fy_tb := fy_inR (i := 809) (by decide +kernel) rfl
theorem tw722 : Cond.methodLink RX2 44 yX2_dualTable ∈ fy_tb := fy_inR (i := 817) (by decide +kernel) rfl
theorem tw723 : Cond.static yX2_dualTable ∈ fy_tb := fy_inR (i := 818) (by decide +kernel) rfl
theorem tw724 : Cond.code yX2_dualTable cX2_dualTable 5 (some .long) ∈ fy_tb := fy_inR (i := 819) (by decide +kernel) rfl
theorem tw725 : Cond.methodLink RX2 40 yX2_dualNode ∈ fy_tb := fy_inR (i := 814) (by decide +kernel) rfl
theorem tw726 : Cond.static yX2_dualNode ∈ fy_tb := fy_inR (i := 815) (by decide +kernel) rfl
theorem tw727 : Cond.code yX2_dualNode cX2_dualNode 1 (some .byte) ∈ fy_tb := fy_inR (i := 816) (by decide +kernel) rfl
theorem tw728 : Cond.methodLink RX0 60 yX0_takeShape ∈ fy_tb := fy_inR (i := 805) (by decide +kernel) rfl
theorem tw729 : Cond.instanceMethod yX0_takeShape ∈ fy_tb := fy_inR (i := 807) (by decide +kernel) rfl
theorem tw730 : Cond.selects RX0 yX0_takeShape yX0_takeShape ∈ fy_tb := fy_inL (i := 33) (by decide +kernel) rfl
theorem tw731 : Cond.code yX0_takeShape cX0_takeShape 3 none ∈ fy_tb := fy_inR (i := 808) (by decide +kernel) rfl
theorem tw732 : Cond.methodLink RX0 78 yX2_becomeDual ∈ fy_tb := fy_inR (i := 810) (by decide +kernel) rfl
theorem tw733 : Cond.instanceMethod yX2_becomeDual ∈ fy_tb := fy_inR (i := 811) (by decide +kernel) rfl
theorem tw734 : Cond.selects RX2 yX2_becomeDual yX2_becomeDual ∈ fy_tb := fy_inR (i := 812) (by decide +kernel) rfl
theorem tw735 : Cond.code yX2_becomeDual cX2_becomeDual 3 none ∈ fy_tb := fy_inR (i := 813) (by decide +kernel) rfl
theorem tw736 : Cond.methodLink RX9 258 yX0_becomeDual ∈ fy_tb := fy_inR (i := 801) (by decide +kernel) rfl
theorem tw737 : Cond.instanceMethod yX0_becomeDual ∈ fy_tb := fy_inR (i := 802) (by decide +kernel) rfl
theorem tw738 : Cond.selects RX0 yX0_becomeDual yX0_becomeDual ∈ fy_tb := fy_inR (i := 803) (by decide +kernel) rfl
theorem tw739 : Cond.code yX0_becomeDual cX0_becomeDual 4 none ∈ fy_tb := fy_inR (i := 804) (by decide +kernel) rfl
theorem tw740 : Cond.methodLink RX2 48 yX2_addShifted ∈ fy_tb := fy_inR (i := 832) (by decide +kernel) rfl
theorem tw741 : Cond.instanceMethod yX2_addShifted ∈ fy_tb := fy_inR (i := 834) (by decide +kernel) rfl
theorem tw742 : Cond.selects RX2 yX2_addShifted yX2_addShifted ∈ fy_tb := fy_inL (i := 34) (by decide +kernel) rfl
theorem tw743 : Cond.code yX2_addShifted cX2_addShifted 5 none ∈ fy_tb := fy_inR (i := 835) (by decide +kernel) rfl
theorem tw744 : Cond.methodLink RX2 52 yX2_shiftedTable ∈ fy_tb := fy_inR (i := 836) (by decide +kernel) rfl
theorem tw745 : Cond.static yX2_shiftedTable ∈ fy_tb := fy_inR (i := 837) (by decide +kernel) rfl
theorem tw746 : Cond.code yX2_shiftedTable cX2_shiftedTable 6 (some .long) ∈ fy_tb := fy_inR (i := 838) (by decide +kernel) rfl
theorem tw747 : Cond.methodLinkNest RX2 56 yX9_joinTables RX9 ∈ lw_tbl := List.mem_append_right _ (List.mem_of_getElem? (i := 839) (by decide +kernel))
theorem tw748 : Cond.methodLink RX2 36 yX2_become ∈ fy_tb := fy_inR (i := 848) (by decide +kernel) rfl
theorem tw749 : Cond.methodLink RX0 64 yX2_copy ∈ fy_tb := fy_inR (i := 844) (by decide +kernel) rfl
theorem tw750 : Cond.instanceMethod yX2_copy ∈ fy_tb := fy_inR (i := 845) (by decide +kernel) rfl
theorem tw751 : Cond.selects RX2 yX2_copy yX2_copy ∈ fy_tb := fy_inR (i := 846) (by decide +kernel) rfl
theorem tw752 : Cond.code yX2_copy cX2_copy 2 none ∈ fy_tb := fy_inR (i := 847) (by decide +kernel) rfl
theorem tw753 : Cond.methodLink RX0 81 yX2_becomeJoin ∈ fy_tb := fy_inR (i := 828) (by decide +kernel) rfl
theorem tw754 : Cond.instanceMethod yX2_becomeJoin ∈ fy_tb := fy_inR (i := 829) (by decide +kernel) rfl
theorem tw755 : Cond.selects RX2 yX2_becomeJoin yX2_becomeJoin ∈ fy_tb := fy_inR (i := 830) (by decide +kernel) rfl
theorem tw756 : Cond.code yX2_becomeJoin cX2_becomeJoin 5 none ∈ fy_tb := fy_inR (i := 831) (by decide +kernel) rfl
theorem tw757 : Cond.methodLink RX0 68 yX0_copyMoves ∈ fy_tb := fy_inR (i := 840) (by decide +kernel) rfl
theorem tw758 : Cond.instanceMethod yX0_copyMoves ∈ fy_tb := fy_inR (i := 842) (by decide +kernel) rfl
theorem tw759 : Cond.selects RX0 yX0_copyMoves yX0_copyMoves ∈ fy_tb := fy_inL (i := 35) (by decide +kernel) rfl
theorem tw760 : Cond.code yX0_copyMoves cX0_copyMoves 4 none ∈ fy_tb := fy_inR (i := 843) (by decide +kernel) rfl
theorem tw761 : Cond.methodLink RX0 85 yX2_becomeShifted ∈ fy_tb := fy_inR (i := 849) (by decide +kernel) rfl
theorem tw762 : Cond.instanceMethod yX2_becomeShifted ∈ fy_tb := fy_inR (i := 850) (by decide +kernel) rfl
theorem tw763 : Cond.selects RX2 yX2_becomeShifted yX2_becomeShifted ∈ fy_tb := fy_inR (i := 851) (by decide +kernel) rfl
theorem tw764 : Cond.code yX2_becomeShifted cX2_becomeShifted 3 none ∈ fy_tb := fy_inR (i := 852) (by decide +kernel) rfl
theorem tw765 : Cond.fieldLink RX9 261 RX2 "size" "I" ∈ fy_tb := fy_inR (i := 46) (by decide +kernel) rfl
theorem tw766 : Cond.fieldLink RX9 19 RX9 "combined" "LAlternatingAutomata$Automaton;" ∈ fy_tb := fy_inR (i := 276) (by decide +kernel) rfl
theorem tw767 : Cond.methodLink RX9 264 yX0_becomeJoin ∈ fy_tb := fy_inR (i := 824) (by decide +kernel) rfl
theorem tw768 : Cond.instanceMethod yX0_becomeJoin ∈ fy_tb := fy_inR (i := 825) (by decide +kernel) rfl
theorem tw769 : Cond.selects RX0 yX0_becomeJoin yX0_becomeJoin ∈ fy_tb := fy_inR (i := 826) (by decide +kernel) rfl
theorem tw770 : Cond.code yX0_becomeJoin cX0_becomeJoin 7 none ∈ fy_tb := fy_inR (i := 827) (by decide +kernel) rfl
theorem tw771 : Cond.methodLink RX9 268 yX0_copy ∈ fy_tb := fy_inR (i := 853) (by decide +kernel) rfl
theorem tw772 : Cond.instanceMethod yX0_copy ∈ fy_tb := fy_inR (i := 854) (by decide +kernel) rfl
theorem tw773 : Cond.selects RX0 yX0_copy yX0_copy ∈ fy_tb := fy_inR (i := 855) (by decide +kernel) rfl
theorem tw774 : Cond.code yX0_copy cX0_copy 2 none ∈ fy_tb := fy_inR (i := 856) (by decide +kernel) rfl
theorem tw775 : Cond.fieldLink RX9 80 RX9 "hasSnapshot" "Z" ∈ fy_tb := fy_inR (i := 286) (by decide +kernel) rfl
theorem tw776 : Cond.fieldLink RX9 15 RX9 "snapshot" "[LAlternatingAutomata$Automaton;" ∈ fy_tb := fy_inR (i := 275) (by decide +kernel) rfl
theorem tw777 : Cond.methodLink RX9 271 yX9_copyAll ∈ fy_tb := fy_inR (i := 861) (by decide +kernel) rfl
theorem tw778 : Cond.static yX9_copyAll ∈ fy_tb := fy_inR (i := 862) (by decide +kernel) rfl
theorem tw779 : Cond.code yX9_copyAll cX9_copyAll 4 (some .int) ∈ fy_tb := fy_inR (i := 863) (by decide +kernel) rfl
theorem gfX2_9 {p : Program} {l : Launch} {e : Env} {R : Room} {s : State} {m : MethodId} {args : Array Value} {below : List Frame} {meth : Method} {c : Code} {H : Heap} {locs : List Loc} {cells slots : Nat} {Q : State → Prop} {g : fy_G} {S : fy_S} {cc : ByteArray} {nL : Nat} {rt : Option FieldType} {pc : Nat} {ls : Array Slot} {rest : List Value} {id : Nat} (C : fy_C g X_Y p s m args meth c RX2 cc nL rt) (w : fy_W g X_Y S s H locs) (hk : X_is 2 id) (hdg : decode cc pc = .ok (.getfield 9, 3)) (kk : W p l e R s m args below meth c H locs cells slots Q (F0 m (pc + 3) ls (.ref (g.2.2.1 (id + 1)) :: rest))) : W p l e R s m args below meth c H locs cells slots Q (F0 m pc ls (.ref (g.2.2.1 id) :: rest)) := fy_get (k := 0) C w (X_o2 hk) rfl rfl ti_X2 (by decide) tw248 hdg rfl kk
theorem pfX2_18 {p : Program} {l : Launch} {e : Env} {R : Room} {s : State} {m : MethodId} {args : Array Value} {below : List Frame} {meth : Method} {c : Code} {H : Heap} {locs : List Loc} {cells slots : Nat} {Q : State → Prop} {g : fy_G} {S : fy_S} {cc : ByteArray} {nL : Nat} {rt : Option FieldType} {pc : Nat} {ls : Array Slot} {rest : List Value} {id : Nat} {v : Int32} (C : fy_C g X_Y p s m args meth c RX2 cc nL rt) (w : fy_W g X_Y S s H locs) (hk : X_is 2 id) (hdg : decode cc pc = .ok (.putfield 18, 3)) (kk : ∀ (H1 : Heap) (locs1 : List Loc), fy_W g X_Y (fy_sI S id 1 v) s H1 locs1 → W p l e R s m args below meth c H1 locs1 cells slots Q (F0 m (pc + 3) ls rest)) : W p l e R s m args below meth c H locs cells slots Q (F0 m pc ls (.int v :: .ref (g.2.2.1 id) :: rest)) := fy_putI (k := 1) C w (X_o2 hk) rfl rfl ti_X2 tyX2 tyX2_ok nmX2 (by decide) tw249 rfl rfl rfl rfl hdg kk
theorem pfX2_22 {p : Program} {l : Launch} {e : Env} {R : Room} {s : State} {m : MethodId} {args : Array Value} {below : List Frame} {meth : Method} {c : Code} {H : Heap} {locs : List Loc} {cells slots : Nat} {Q : State → Prop} {g : fy_G} {S : fy_S} {cc : ByteArray} {nL : Nat} {rt : Option FieldType} {pc : Nat} {ls : Array Slot} {rest : List Value} {id : Nat} {v : Int64} (C : fy_C g X_Y p s m args meth c RX2 cc nL rt) (w : fy_W g X_Y S s H locs) (hk : X_is 2 id) (hdg : decode cc pc = .ok (.putfield 22, 3)) (kk : ∀ (H1 : Heap) (locs1 : List Loc), fy_W g X_Y (fy_sL S id 2 v) s H1 locs1 → W p l e R s m args below meth c H1 locs1 cells slots Q (F0 m (pc + 3) ls rest)) : W p l e R s m args below meth c H locs cells slots Q (F0 m pc ls (.long v :: .ref (g.2.2.1 id) :: rest)) := fy_putL (k := 2) C w (X_o2 hk) rfl rfl ti_X2 tyX2 tyX2_ok nmX2 (by decide) tw250 rfl rfl rfl rfl hdg kk
theorem pfX0_30 {p : Program} {l : Launch} {e : Env} {R : Room} {s : State} {m : MethodId} {args : Array Value} {below : List Frame} {meth : Method} {c : Code} {H : Heap} {locs : List Loc} {cells slots : Nat} {Q : State → Prop} {g : fy_G} {S : fy_S} {cc : ByteArray} {nL : Nat} {rt : Option FieldType} {pc : Nat} {ls : Array Slot} {rest : List Value} {id : Nat} {v : Int32} (C : fy_C g X_Y p s m args meth c RX0 cc nL rt) (w : fy_W g X_Y S s H locs) (hk : X_is 0 id) (hdg : decode cc pc = .ok (.putfield 30, 3)) (kk : ∀ (H1 : Heap) (locs1 : List Loc), fy_W g X_Y (fy_sI S id 3 v) s H1 locs1 → W p l e R s m args below meth c H1 locs1 cells slots Q (F0 m (pc + 3) ls rest)) : W p l e R s m args below meth c H locs cells slots Q (F0 m pc ls (.int v :: .ref (g.2.2.1 id) :: rest)) := fy_putI (k := 3) C w (X_o0 hk) rfl rfl ti_X0 tyX0 tyX0_ok nmX0 (by decide) tw251 rfl rfl rfl rfl hdg kk
theorem pfX0_34 {p : Program} {l : Launch} {e : Env} {R : Room} {s : State} {m : MethodId} {args : Array Value} {below : List Frame} {meth : Method} {c : Code} {H : Heap} {locs : List Loc} {cells slots : Nat} {Q : State → Prop} {g : fy_G} {S : fy_S} {cc : ByteArray} {nL : Nat} {rt : Option FieldType} {pc : Nat} {ls : Array Slot} {rest : List Value} {id : Nat} {v : Int32} (C : fy_C g X_Y p s m args meth c RX0 cc nL rt) (w : fy_W g X_Y S s H locs) (hk : X_is 0 id) (hdg : decode cc pc = .ok (.putfield 34, 3)) (kk : ∀ (H1 : Heap) (locs1 : List Loc), fy_W g X_Y (fy_sI S id 4 v) s H1 locs1 → W p l e R s m args below meth c H1 locs1 cells slots Q (F0 m (pc + 3) ls rest)) : W p l e R s m args below meth c H locs cells slots Q (F0 m pc ls (.int v :: .ref (g.2.2.1 id) :: rest)) := fy_putI (k := 4) C w (X_o0 hk) rfl rfl ti_X0 tyX0 tyX0_ok nmX0 (by decide) tw252 rfl rfl rfl rfl hdg kk
theorem pfX0_37 {p : Program} {l : Launch} {e : Env} {R : Room} {s : State} {m : MethodId} {args : Array Value} {below : List Frame} {meth : Method} {c : Code} {H : Heap} {locs : List Loc} {cells slots : Nat} {Q : State → Prop} {g : fy_G} {S : fy_S} {cc : ByteArray} {nL : Nat} {rt : Option FieldType} {pc : Nat} {ls : Array Slot} {rest : List Value} {id : Nat} {v : Int32} (C : fy_C g X_Y p s m args meth c RX0 cc nL rt) (w : fy_W g X_Y S s H locs) (hk : X_is 0 id) (hdg : decode cc pc = .ok (.putfield 37, 3)) (kk : ∀ (H1 : Heap) (locs1 : List Loc), fy_W g X_Y (fy_sI S id 5 v) s H1 locs1 → W p l e R s m args below meth c H1 locs1 cells slots Q (F0 m (pc + 3) ls rest)) : W p l e R s m args below meth c H locs cells slots Q (F0 m pc ls (.int v :: .ref (g.2.2.1 id) :: rest)) := fy_putI (k := 5) C w (X_o0 hk) rfl rfl ti_X0 tyX0 tyX0_ok nmX0 (by decide) tw253 rfl rfl rfl rfl hdg kk
theorem gfX0_18 {p : Program} {l : Launch} {e : Env} {R : Room} {s : State} {m : MethodId} {args : Array Value} {below : List Frame} {meth : Method} {c : Code} {H : Heap} {locs : List Loc} {cells slots : Nat} {Q : State → Prop} {g : fy_G} {S : fy_S} {cc : ByteArray} {nL : Nat} {rt : Option FieldType} {pc : Nat} {ls : Array Slot} {rest : List Value} {id : Nat} (C : fy_C g X_Y p s m args meth c RX0 cc nL rt) (w : fy_W g X_Y S s H locs) (hk : X_is 0 id) (hdg : decode cc pc = .ok (.getfield 18, 3)) (kk : W p l e R s m args below meth c H locs cells slots Q (F0 m (pc + 3) ls (.ref (g.2.2.1 (id + 3)) :: rest))) : W p l e R s m args below meth c H locs cells slots Q (F0 m pc ls (.ref (g.2.2.1 id) :: rest)) := fy_get (k := 1) C w (X_o0 hk) rfl rfl ti_X0 (by decide) tw254 hdg rfl kk
theorem gfX0_22 {p : Program} {l : Launch} {e : Env} {R : Room} {s : State} {m : MethodId} {args : Array Value} {below : List Frame} {meth : Method} {c : Code} {H : Heap} {locs : List Loc} {cells slots : Nat} {Q : State → Prop} {g : fy_G} {S : fy_S} {cc : ByteArray} {nL : Nat} {rt : Option FieldType} {pc : Nat} {ls : Array Slot} {rest : List Value} {id : Nat} (C : fy_C g X_Y p s m args meth c RX0 cc nL rt) (w : fy_W g X_Y S s H locs) (hk : X_is 0 id) (hdg : decode cc pc = .ok (.getfield 22, 3)) (kk : W p l e R s m args below meth c H locs cells slots Q (F0 m (pc + 3) ls (.ref (g.2.2.1 (id + 2)) :: rest))) : W p l e R s m args below meth c H locs cells slots Q (F0 m pc ls (.ref (g.2.2.1 id) :: rest)) := fy_get (k := 2) C w (X_o0 hk) rfl rfl ti_X0 (by decide) tw260 hdg rfl kk
theorem gfX0_9 {p : Program} {l : Launch} {e : Env} {R : Room} {s : State} {m : MethodId} {args : Array Value} {below : List Frame} {meth : Method} {c : Code} {H : Heap} {locs : List Loc} {cells slots : Nat} {Q : State → Prop} {g : fy_G} {S : fy_S} {cc : ByteArray} {nL : Nat} {rt : Option FieldType} {pc : Nat} {ls : Array Slot} {rest : List Value} {id : Nat} (C : fy_C g X_Y p s m args meth c RX0 cc nL rt) (w : fy_W g X_Y S s H locs) (hk : X_is 0 id) (hdg : decode cc pc = .ok (.getfield 9, 3)) (kk : W p l e R s m args below meth c H locs cells slots Q (F0 m (pc + 3) ls (.ref (g.2.2.1 (id + 1)) :: rest))) : W p l e R s m args below meth c H locs cells slots Q (F0 m pc ls (.ref (g.2.2.1 id) :: rest)) := fy_get (k := 0) C w (X_o0 hk) rfl rfl ti_X0 (by decide) tw261 hdg rfl kk
theorem gfX9_11 {p : Program} {l : Launch} {e : Env} {R : Room} {s : State} {m : MethodId} {args : Array Value} {below : List Frame} {meth : Method} {c : Code} {H : Heap} {locs : List Loc} {cells slots : Nat} {Q : State → Prop} {g : fy_G} {S : fy_S} {cc : ByteArray} {nL : Nat} {rt : Option FieldType} {pc : Nat} {ls : Array Slot} {rest : List Value} (C : fy_C g X_Y p s m args meth c RX9 cc nL rt) (w : fy_W g X_Y S s H locs) (hk : X_is 9 0) (hdg : decode cc pc = .ok (.getfield 11, 3)) (kk : W p l e R s m args below meth c H locs cells slots Q (F0 m (pc + 3) ls (.ref (g.2.2.1 1) :: rest))) : W p l e R s m args below meth c H locs cells slots Q (F0 m pc ls (.ref (g.2.2.1 0) :: rest)) := fy_get (k := 0) C w (X_o9 hk) rfl rfl ti_X9 (by decide) tw266 hdg rfl kk
theorem gfX9_96 {p : Program} {l : Launch} {e : Env} {R : Room} {s : State} {m : MethodId} {args : Array Value} {below : List Frame} {meth : Method} {c : Code} {H : Heap} {locs : List Loc} {cells slots : Nat} {Q : State → Prop} {g : fy_G} {S : fy_S} {cc : ByteArray} {nL : Nat} {rt : Option FieldType} {pc : Nat} {ls : Array Slot} {rest : List Value} {id : Nat} (C : fy_C g X_Y p s m args meth c RX9 cc nL rt) (w : fy_W g X_Y S s H locs) (hk : X_is 0 id) (hdg : decode cc pc = .ok (.getfield 96, 3)) (kk : W p l e R s m args below meth c H locs cells slots Q (F0 m (pc + 3) ls (.int (S.1 id 3) :: rest))) : W p l e R s m args below meth c H locs cells slots Q (F0 m pc ls (.ref (g.2.2.1 id) :: rest)) := fy_get (k := 3) C w (X_o0 hk) rfl rfl ti_X0 (by decide) tw275 hdg rfl kk
theorem gfX0_30 {p : Program} {l : Launch} {e : Env} {R : Room} {s : State} {m : MethodId} {args : Array Value} {below : List Frame} {meth : Method} {c : Code} {H : Heap} {locs : List Loc} {cells slots : Nat} {Q : State → Prop} {g : fy_G} {S : fy_S} {cc : ByteArray} {nL : Nat} {rt : Option FieldType} {pc : Nat} {ls : Array Slot} {rest : List Value} {id : Nat} (C : fy_C g X_Y p s m args meth c RX0 cc nL rt) (w : fy_W g X_Y S s H locs) (hk : X_is 0 id) (hdg : decode cc pc = .ok (.getfield 30, 3)) (kk : W p l e R s m args below meth c H locs cells slots Q (F0 m (pc + 3) ls (.int (S.1 id 3) :: rest))) : W p l e R s m args below meth c H locs cells slots Q (F0 m pc ls (.ref (g.2.2.1 id) :: rest)) := fy_get (k := 3) C w (X_o0 hk) rfl rfl ti_X0 (by decide) tw251 hdg rfl kk
theorem gfX9_107 {p : Program} {l : Launch} {e : Env} {R : Room} {s : State} {m : MethodId} {args : Array Value} {below : List Frame} {meth : Method} {c : Code} {H : Heap} {locs : List Loc} {cells slots : Nat} {Q : State → Prop} {g : fy_G} {S : fy_S} {cc : ByteArray} {nL : Nat} {rt : Option FieldType} {pc : Nat} {ls : Array Slot} {rest : List Value} {id : Nat} (C : fy_C g X_Y p s m args meth c RX9 cc nL rt) (w : fy_W g X_Y S s H locs) (hk : X_is 0 id) (hdg : decode cc pc = .ok (.getfield 107, 3)) (kk : W p l e R s m args below meth c H locs cells slots Q (F0 m (pc + 3) ls (.int (S.1 id 5) :: rest))) : W p l e R s m args below meth c H locs cells slots Q (F0 m pc ls (.ref (g.2.2.1 id) :: rest)) := fy_get (k := 5) C w (X_o0 hk) rfl rfl ti_X0 (by decide) tw285 hdg rfl kk
theorem pfX9_107 {p : Program} {l : Launch} {e : Env} {R : Room} {s : State} {m : MethodId} {args : Array Value} {below : List Frame} {meth : Method} {c : Code} {H : Heap} {locs : List Loc} {cells slots : Nat} {Q : State → Prop} {g : fy_G} {S : fy_S} {cc : ByteArray} {nL : Nat} {rt : Option FieldType} {pc : Nat} {ls : Array Slot} {rest : List Value} {id : Nat} {v : Int32} (C : fy_C g X_Y p s m args meth c RX9 cc nL rt) (w : fy_W g X_Y S s H locs) (hk : X_is 0 id) (hdg : decode cc pc = .ok (.putfield 107, 3)) (kk : ∀ (H1 : Heap) (locs1 : List Loc), fy_W g X_Y (fy_sI S id 5 v) s H1 locs1 → W p l e R s m args below meth c H1 locs1 cells slots Q (F0 m (pc + 3) ls rest)) : W p l e R s m args below meth c H locs cells slots Q (F0 m pc ls (.int v :: .ref (g.2.2.1 id) :: rest)) := fy_putI (k := 5) C w (X_o0 hk) rfl rfl ti_X0 tyX0 tyX0_ok nmX0 (by decide) tw285 rfl rfl rfl rfl hdg kk
theorem gfX0_34 {p : Program} {l : Launch} {e : Env} {R : Room} {s : State} {m : MethodId} {args : Array Value} {below : List Frame} {meth : Method} {c : Code} {H : Heap} {locs : List Loc} {cells slots : Nat} {Q : State → Prop} {g : fy_G} {S : fy_S} {cc : ByteArray} {nL : Nat} {rt : Option FieldType} {pc : Nat} {ls : Array Slot} {rest : List Value} {id : Nat} (C : fy_C g X_Y p s m args meth c RX0 cc nL rt) (w : fy_W g X_Y S s H locs) (hk : X_is 0 id) (hdg : decode cc pc = .ok (.getfield 34, 3)) (kk : W p l e R s m args below meth c H locs cells slots Q (F0 m (pc + 3) ls (.int (S.1 id 4) :: rest))) : W p l e R s m args below meth c H locs cells slots Q (F0 m pc ls (.ref (g.2.2.1 id) :: rest)) := fy_get (k := 4) C w (X_o0 hk) rfl rfl ti_X0 (by decide) tw252 hdg rfl kk
theorem gfX9_113 {p : Program} {l : Launch} {e : Env} {R : Room} {s : State} {m : MethodId} {args : Array Value} {below : List Frame} {meth : Method} {c : Code} {H : Heap} {locs : List Loc} {cells slots : Nat} {Q : State → Prop} {g : fy_G} {S : fy_S} {cc : ByteArray} {nL : Nat} {rt : Option FieldType} {pc : Nat} {ls : Array Slot} {rest : List Value} {id : Nat} (C : fy_C g X_Y p s m args meth c RX9 cc nL rt) (w : fy_W g X_Y S s H locs) (hk : X_is 0 id) (hdg : decode cc pc = .ok (.getfield 113, 3)) (kk : W p l e R s m args below meth c H locs cells slots Q (F0 m (pc + 3) ls (.ref (g.2.2.1 (id + 1)) :: rest))) : W p l e R s m args below meth c H locs cells slots Q (F0 m pc ls (.ref (g.2.2.1 id) :: rest)) := fy_get (k := 0) C w (X_o0 hk) rfl rfl ti_X0 (by decide) tw290 hdg rfl kk
theorem gfX4_26 {p : Program} {l : Launch} {e : Env} {R : Room} {s : State} {m : MethodId} {args : Array Value} {below : List Frame} {meth : Method} {c : Code} {H : Heap} {locs : List Loc} {cells slots : Nat} {Q : State → Prop} {g : fy_G} {S : fy_S} {cc : ByteArray} {nL : Nat} {rt : Option FieldType} {pc : Nat} {ls : Array Slot} {rest : List Value} (C : fy_C g X_Y p s m args meth c RX4 cc nL rt) (w : fy_W g X_Y S s H locs) (hk : X_is 4 3) (hdg : decode cc pc = .ok (.getfield 26, 3)) (kk : W p l e R s m args below meth c H locs cells slots Q (F0 m (pc + 3) ls (.int (S.1 3 4) :: rest))) : W p l e R s m args below meth c H locs cells slots Q (F0 m pc ls (.ref (g.2.2.1 3) :: rest)) := fy_get (k := 4) C w (X_o4 hk) rfl rfl ti_X4 (by decide) tw291 hdg rfl kk
theorem gfX4_9 {p : Program} {l : Launch} {e : Env} {R : Room} {s : State} {m : MethodId} {args : Array Value} {below : List Frame} {meth : Method} {c : Code} {H : Heap} {locs : List Loc} {cells slots : Nat} {Q : State → Prop} {g : fy_G} {S : fy_S} {cc : ByteArray} {nL : Nat} {rt : Option FieldType} {pc : Nat} {ls : Array Slot} {rest : List Value} (C : fy_C g X_Y p s m args meth c RX4 cc nL rt) (w : fy_W g X_Y S s H locs) (hk : X_is 4 3) (hdg : decode cc pc = .ok (.getfield 9, 3)) (kk : W p l e R s m args below meth c H locs cells slots Q (F0 m (pc + 3) ls (.ref (g.2.2.1 4) :: rest))) : W p l e R s m args below meth c H locs cells slots Q (F0 m pc ls (.ref (g.2.2.1 3) :: rest)) := fy_get (k := 0) C w (X_o4 hk) rfl rfl ti_X4 (by decide) tw292 hdg rfl kk
theorem pfX4_26 {p : Program} {l : Launch} {e : Env} {R : Room} {s : State} {m : MethodId} {args : Array Value} {below : List Frame} {meth : Method} {c : Code} {H : Heap} {locs : List Loc} {cells slots : Nat} {Q : State → Prop} {g : fy_G} {S : fy_S} {cc : ByteArray} {nL : Nat} {rt : Option FieldType} {pc : Nat} {ls : Array Slot} {rest : List Value} {v : Int32} (C : fy_C g X_Y p s m args meth c RX4 cc nL rt) (w : fy_W g X_Y S s H locs) (hk : X_is 4 3) (hdg : decode cc pc = .ok (.putfield 26, 3)) (kk : ∀ (H1 : Heap) (locs1 : List Loc), fy_W g X_Y (fy_sI S 3 4 v) s H1 locs1 → W p l e R s m args below meth c H1 locs1 cells slots Q (F0 m (pc + 3) ls rest)) : W p l e R s m args below meth c H locs cells slots Q (F0 m pc ls (.int v :: .ref (g.2.2.1 3) :: rest)) := fy_putI (k := 4) C w (X_o4 hk) rfl rfl ti_X4 tyX4 tyX4_ok nmX4 (by decide) tw291 rfl rfl rfl rfl hdg kk
theorem gfX9_26 {p : Program} {l : Launch} {e : Env} {R : Room} {s : State} {m : MethodId} {args : Array Value} {below : List Frame} {meth : Method} {c : Code} {H : Heap} {locs : List Loc} {cells slots : Nat} {Q : State → Prop} {g : fy_G} {S : fy_S} {cc : ByteArray} {nL : Nat} {rt : Option FieldType} {pc : Nat} {ls : Array Slot} {rest : List Value} (C : fy_C g X_Y p s m args meth c RX9 cc nL rt) (w : fy_W g X_Y S s H locs) (hk : X_is 9 0) (hdg : decode cc pc = .ok (.getfield 26, 3)) (kk : W p l e R s m args below meth c H locs cells slots Q (F0 m (pc + 3) ls (.ref (g.2.2.1 3) :: rest))) : W p l e R s m args below meth c H locs cells slots Q (F0 m pc ls (.ref (g.2.2.1 0) :: rest)) := fy_get (k := 3) C w (X_o9 hk) rfl rfl ti_X9 (by decide) tw293 hdg rfl kk
theorem gfX9_117 {p : Program} {l : Launch} {e : Env} {R : Room} {s : State} {m : MethodId} {args : Array Value} {below : List Frame} {meth : Method} {c : Code} {H : Heap} {locs : List Loc} {cells slots : Nat} {Q : State → Prop} {g : fy_G} {S : fy_S} {cc : ByteArray} {nL : Nat} {rt : Option FieldType} {pc : Nat} {ls : Array Slot} {rest : List Value} (C : fy_C g X_Y p s m args meth c RX9 cc nL rt) (w : fy_W g X_Y S s H locs) (hk : X_is 4 3) (hdg : decode cc pc = .ok (.getfield 117, 3)) (kk : W p l e R s m args below meth c H locs cells slots Q (F0 m (pc + 3) ls (.int (S.1 3 4) :: rest))) : W p l e R s m args below meth c H locs cells slots Q (F0 m pc ls (.ref (g.2.2.1 3) :: rest)) := fy_get (k := 4) C w (X_o4 hk) rfl rfl ti_X4 (by decide) tw294 hdg rfl kk
theorem gfX4_36 {p : Program} {l : Launch} {e : Env} {R : Room} {s : State} {m : MethodId} {args : Array Value} {below : List Frame} {meth : Method} {c : Code} {H : Heap} {locs : List Loc} {cells slots : Nat} {Q : State → Prop} {g : fy_G} {S : fy_S} {cc : ByteArray} {nL : Nat} {rt : Option FieldType} {pc : Nat} {ls : Array Slot} {rest : List Value} (C : fy_C g X_Y p s m args meth c RX4 cc nL rt) (w : fy_W g X_Y S s H locs) (hk : X_is 4 3) (hdg : decode cc pc = .ok (.getfield 36, 3)) (kk : W p l e R s m args below meth c H locs cells slots Q (F0 m (pc + 3) ls (.int (S.1 3 7) :: rest))) : W p l e R s m args below meth c H locs cells slots Q (F0 m pc ls (.ref (g.2.2.1 3) :: rest)) := fy_get (k := 7) C w (X_o4 hk) rfl rfl ti_X4 (by decide) tw310 hdg rfl kk
theorem gfX4_23 {p : Program} {l : Launch} {e : Env} {R : Room} {s : State} {m : MethodId} {args : Array Value} {below : List Frame} {meth : Method} {c : Code} {H : Heap} {locs : List Loc} {cells slots : Nat} {Q : State → Prop} {g : fy_G} {S : fy_S} {cc : ByteArray} {nL : Nat} {rt : Option FieldType} {pc : Nat} {ls : Array Slot} {rest : List Value} (C : fy_C g X_Y p s m args meth c RX4 cc nL rt) (w : fy_W g X_Y S s H locs) (hk : X_is 4 3) (hdg : decode cc pc = .ok (.getfield 23, 3)) (kk : W p l e R s m args below meth c H locs cells slots Q (F0 m (pc + 3) ls (.ref (g.2.2.1 7) :: rest))) : W p l e R s m args below meth c H locs cells slots Q (F0 m pc ls (.ref (g.2.2.1 3) :: rest)) := fy_get (k := 3) C w (X_o4 hk) rfl rfl ti_X4 (by decide) tw311 hdg rfl kk
theorem pfX4_36 {p : Program} {l : Launch} {e : Env} {R : Room} {s : State} {m : MethodId} {args : Array Value} {below : List Frame} {meth : Method} {c : Code} {H : Heap} {locs : List Loc} {cells slots : Nat} {Q : State → Prop} {g : fy_G} {S : fy_S} {cc : ByteArray} {nL : Nat} {rt : Option FieldType} {pc : Nat} {ls : Array Slot} {rest : List Value} {v : Int32} (C : fy_C g X_Y p s m args meth c RX4 cc nL rt) (w : fy_W g X_Y S s H locs) (hk : X_is 4 3) (hdg : decode cc pc = .ok (.putfield 36, 3)) (kk : ∀ (H1 : Heap) (locs1 : List Loc), fy_W g X_Y (fy_sI S 3 7 v) s H1 locs1 → W p l e R s m args below meth c H1 locs1 cells slots Q (F0 m (pc + 3) ls rest)) : W p l e R s m args below meth c H locs cells slots Q (F0 m pc ls (.int v :: .ref (g.2.2.1 3) :: rest)) := fy_putI (k := 7) C w (X_o4 hk) rfl rfl ti_X4 tyX4 tyX4_ok nmX4 (by decide) tw310 rfl rfl rfl rfl hdg kk
theorem gfX4_39 {p : Program} {l : Launch} {e : Env} {R : Room} {s : State} {m : MethodId} {args : Array Value} {below : List Frame} {meth : Method} {c : Code} {H : Heap} {locs : List Loc} {cells slots : Nat} {Q : State → Prop} {g : fy_G} {S : fy_S} {cc : ByteArray} {nL : Nat} {rt : Option FieldType} {pc : Nat} {ls : Array Slot} {rest : List Value} (C : fy_C g X_Y p s m args meth c RX4 cc nL rt) (w : fy_W g X_Y S s H locs) (hk : X_is 4 3) (hdg : decode cc pc = .ok (.getfield 39, 3)) (kk : W p l e R s m args below meth c H locs cells slots Q (F0 m (pc + 3) ls (.int (S.1 3 8) :: rest))) : W p l e R s m args below meth c H locs cells slots Q (F0 m pc ls (.ref (g.2.2.1 3) :: rest)) := fy_get (k := 8) C w (X_o4 hk) rfl rfl ti_X4 (by decide) tw316 hdg rfl kk
theorem pfX4_39 {p : Program} {l : Launch} {e : Env} {R : Room} {s : State} {m : MethodId} {args : Array Value} {below : List Frame} {meth : Method} {c : Code} {H : Heap} {locs : List Loc} {cells slots : Nat} {Q : State → Prop} {g : fy_G} {S : fy_S} {cc : ByteArray} {nL : Nat} {rt : Option FieldType} {pc : Nat} {ls : Array Slot} {rest : List Value} {v : Int32} (C : fy_C g X_Y p s m args meth c RX4 cc nL rt) (w : fy_W g X_Y S s H locs) (hk : X_is 4 3) (hdg : decode cc pc = .ok (.putfield 39, 3)) (kk : ∀ (H1 : Heap) (locs1 : List Loc), fy_W g X_Y (fy_sI S 3 8 v) s H1 locs1 → W p l e R s m args below meth c H1 locs1 cells slots Q (F0 m (pc + 3) ls rest)) : W p l e R s m args below meth c H locs cells slots Q (F0 m pc ls (.int v :: .ref (g.2.2.1 3) :: rest)) := fy_putI (k := 8) C w (X_o4 hk) rfl rfl ti_X4 tyX4 tyX4_ok nmX4 (by decide) tw316 rfl rfl rfl rfl hdg kk
theorem gfX4_30 {p : Program} {l : Launch} {e : Env} {R : Room} {s : State} {m : MethodId} {args : Array Value} {below : List Frame} {meth : Method} {c : Code} {H : Heap} {locs : List Loc} {cells slots : Nat} {Q : State → Prop} {g : fy_G} {S : fy_S} {cc : ByteArray} {nL : Nat} {rt : Option FieldType} {pc : Nat} {ls : Array Slot} {rest : List Value} (C : fy_C g X_Y p s m args meth c RX4 cc nL rt) (w : fy_W g X_Y S s H locs) (hk : X_is 4 3) (hdg : decode cc pc = .ok (.getfield 30, 3)) (kk : W p l e R s m args below meth c H locs cells slots Q (F0 m (pc + 3) ls (.int (S.1 3 5) :: rest))) : W p l e R s m args below meth c H locs cells slots Q (F0 m pc ls (.ref (g.2.2.1 3) :: rest)) := fy_get (k := 5) C w (X_o4 hk) rfl rfl ti_X4 (by decide) tw317 hdg rfl kk
theorem gfX4_15 {p : Program} {l : Launch} {e : Env} {R : Room} {s : State} {m : MethodId} {args : Array Value} {below : List Frame} {meth : Method} {c : Code} {H : Heap} {locs : List Loc} {cells slots : Nat} {Q : State → Prop} {g : fy_G} {S : fy_S} {cc : ByteArray} {nL : Nat} {rt : Option FieldType} {pc : Nat} {ls : Array Slot} {rest : List Value} (C : fy_C g X_Y p s m args meth c RX4 cc nL rt) (w : fy_W g X_Y S s H locs) (hk : X_is 4 3) (hdg : decode cc pc = .ok (.getfield 15, 3)) (kk : W p l e R s m args below meth c H locs cells slots Q (F0 m (pc + 3) ls (.ref (g.2.2.1 5) :: rest))) : W p l e R s m args below meth c H locs cells slots Q (F0 m pc ls (.ref (g.2.2.1 3) :: rest)) := fy_get (k := 1) C w (X_o4 hk) rfl rfl ti_X4 (by decide) tw318 hdg rfl kk
theorem pfX4_30 {p : Program} {l : Launch} {e : Env} {R : Room} {s : State} {m : MethodId} {args : Array Value} {below : List Frame} {meth : Method} {c : Code} {H : Heap} {locs : List Loc} {cells slots : Nat} {Q : State → Prop} {g : fy_G} {S : fy_S} {cc : ByteArray} {nL : Nat} {rt : Option FieldType} {pc : Nat} {ls : Array Slot} {rest : List Value} {v : Int32} (C : fy_C g X_Y p s m args meth c RX4 cc nL rt) (w : fy_W g X_Y S s H locs) (hk : X_is 4 3) (hdg : decode cc pc = .ok (.putfield 30, 3)) (kk : ∀ (H1 : Heap) (locs1 : List Loc), fy_W g X_Y (fy_sI S 3 5 v) s H1 locs1 → W p l e R s m args below meth c H1 locs1 cells slots Q (F0 m (pc + 3) ls rest)) : W p l e R s m args below meth c H locs cells slots Q (F0 m pc ls (.int v :: .ref (g.2.2.1 3) :: rest)) := fy_putI (k := 5) C w (X_o4 hk) rfl rfl ti_X4 tyX4 tyX4_ok nmX4 (by decide) tw317 rfl rfl rfl rfl hdg kk
theorem gfX4_33 {p : Program} {l : Launch} {e : Env} {R : Room} {s : State} {m : MethodId} {args : Array Value} {below : List Frame} {meth : Method} {c : Code} {H : Heap} {locs : List Loc} {cells slots : Nat} {Q : State → Prop} {g : fy_G} {S : fy_S} {cc : ByteArray} {nL : Nat} {rt : Option FieldType} {pc : Nat} {ls : Array Slot} {rest : List Value} (C : fy_C g X_Y p s m args meth c RX4 cc nL rt) (w : fy_W g X_Y S s H locs) (hk : X_is 4 3) (hdg : decode cc pc = .ok (.getfield 33, 3)) (kk : W p l e R s m args below meth c H locs cells slots Q (F0 m (pc + 3) ls (.int (S.1 3 6) :: rest))) : W p l e R s m args below meth c H locs cells slots Q (F0 m pc ls (.ref (g.2.2.1 3) :: rest)) := fy_get (k := 6) C w (X_o4 hk) rfl rfl ti_X4 (by decide) tw324 hdg rfl kk
theorem gfX4_19 {p : Program} {l : Launch} {e : Env} {R : Room} {s : State} {m : MethodId} {args : Array Value} {below : List Frame} {meth : Method} {c : Code} {H : Heap} {locs : List Loc} {cells slots : Nat} {Q : State → Prop} {g : fy_G} {S : fy_S} {cc : ByteArray} {nL : Nat} {rt : Option FieldType} {pc : Nat} {ls : Array Slot} {rest : List Value} (C : fy_C g X_Y p s m args meth c RX4 cc nL rt) (w : fy_W g X_Y S s H locs) (hk : X_is 4 3) (hdg : decode cc pc = .ok (.getfield 19, 3)) (kk : W p l e R s m args below meth c H locs cells slots Q (F0 m (pc + 3) ls (.ref (g.2.2.1 6) :: rest))) : W p l e R s m args below meth c H locs cells slots Q (F0 m pc ls (.ref (g.2.2.1 3) :: rest)) := fy_get (k := 2) C w (X_o4 hk) rfl rfl ti_X4 (by decide) tw325 hdg rfl kk
theorem pfX4_33 {p : Program} {l : Launch} {e : Env} {R : Room} {s : State} {m : MethodId} {args : Array Value} {below : List Frame} {meth : Method} {c : Code} {H : Heap} {locs : List Loc} {cells slots : Nat} {Q : State → Prop} {g : fy_G} {S : fy_S} {cc : ByteArray} {nL : Nat} {rt : Option FieldType} {pc : Nat} {ls : Array Slot} {rest : List Value} {v : Int32} (C : fy_C g X_Y p s m args meth c RX4 cc nL rt) (w : fy_W g X_Y S s H locs) (hk : X_is 4 3) (hdg : decode cc pc = .ok (.putfield 33, 3)) (kk : ∀ (H1 : Heap) (locs1 : List Loc), fy_W g X_Y (fy_sI S 3 6 v) s H1 locs1 → W p l e R s m args below meth c H1 locs1 cells slots Q (F0 m (pc + 3) ls rest)) : W p l e R s m args below meth c H locs cells slots Q (F0 m pc ls (.int v :: .ref (g.2.2.1 3) :: rest)) := fy_putI (k := 6) C w (X_o4 hk) rfl rfl ti_X4 tyX4 tyX4_ok nmX4 (by decide) tw324 rfl rfl rfl rfl hdg kk
theorem pfX9_117 {p : Program} {l : Launch} {e : Env} {R : Room} {s : State} {m : MethodId} {args : Array Value} {below : List Frame} {meth : Method} {c : Code} {H : Heap} {locs : List Loc} {cells slots : Nat} {Q : State → Prop} {g : fy_G} {S : fy_S} {cc : ByteArray} {nL : Nat} {rt : Option FieldType} {pc : Nat} {ls : Array Slot} {rest : List Value} {v : Int32} (C : fy_C g X_Y p s m args meth c RX9 cc nL rt) (w : fy_W g X_Y S s H locs) (hk : X_is 4 3) (hdg : decode cc pc = .ok (.putfield 117, 3)) (kk : ∀ (H1 : Heap) (locs1 : List Loc), fy_W g X_Y (fy_sI S 3 4 v) s H1 locs1 → W p l e R s m args below meth c H1 locs1 cells slots Q (F0 m (pc + 3) ls rest)) : W p l e R s m args below meth c H locs cells slots Q (F0 m pc ls (.int v :: .ref (g.2.2.1 3) :: rest)) := fy_putI (k := 4) C w (X_o4 hk) rfl rfl ti_X4 tyX4 tyX4_ok nmX4 (by decide) tw294 rfl rfl rfl rfl hdg kk
theorem gfX9_128 {p : Program} {l : Launch} {e : Env} {R : Room} {s : State} {m : MethodId} {args : Array Value} {below : List Frame} {meth : Method} {c : Code} {H : Heap} {locs : List Loc} {cells slots : Nat} {Q : State → Prop} {g : fy_G} {S : fy_S} {cc : ByteArray} {nL : Nat} {rt : Option FieldType} {pc : Nat} {ls : Array Slot} {rest : List Value} {id : Nat} (C : fy_C g X_Y p s m args meth c RX9 cc nL rt) (w : fy_W g X_Y S s H locs) (hk : X_is 0 id) (hdg : decode cc pc = .ok (.getfield 128, 3)) (kk : W p l e R s m args below meth c H locs cells slots Q (F0 m (pc + 3) ls (.int (S.1 id 4) :: rest))) : W p l e R s m args below meth c H locs cells slots Q (F0 m pc ls (.ref (g.2.2.1 id) :: rest)) := fy_get (k := 4) C w (X_o0 hk) rfl rfl ti_X0 (by decide) tw383 hdg rfl kk
theorem gfX2_18 {p : Program} {l : Launch} {e : Env} {R : Room} {s : State} {m : MethodId} {args : Array Value} {below : List Frame} {meth : Method} {c : Code} {H : Heap} {locs : List Loc} {cells slots : Nat} {Q : State → Prop} {g : fy_G} {S : fy_S} {cc : ByteArray} {nL : Nat} {rt : Option FieldType} {pc : Nat} {ls : Array Slot} {rest : List Value} {id : Nat} (C : fy_C g X_Y p s m args meth c RX2 cc nL rt) (w : fy_W g X_Y S s H locs) (hk : X_is 2 id) (hdg : decode cc pc = .ok (.getfield 18, 3)) (kk : W p l e R s m args below meth c H locs cells slots Q (F0 m (pc + 3) ls (.int (S.1 id 1) :: rest))) : W p l e R s m args below meth c H locs cells slots Q (F0 m pc ls (.ref (g.2.2.1 id) :: rest)) := fy_get (k := 1) C w (X_o2 hk) rfl rfl ti_X2 (by decide) tw249 hdg rfl kk
theorem gfX3_15 {p : Program} {l : Launch} {e : Env} {R : Room} {s : State} {m : MethodId} {args : Array Value} {below : List Frame} {meth : Method} {c : Code} {H : Heap} {locs : List Loc} {cells slots : Nat} {Q : State → Prop} {g : fy_G} {S : fy_S} {cc : ByteArray} {nL : Nat} {rt : Option FieldType} {pc : Nat} {ls : Array Slot} {rest : List Value} (C : fy_C g X_Y p s m args meth c RX3 cc nL rt) (w : fy_W g X_Y S s H locs) (hk : X_is 3 8) (hdg : decode cc pc = .ok (.getfield 15, 3)) (kk : W p l e R s m args below meth c H locs cells slots Q (F0 m (pc + 3) ls (.int (S.1 8 1) :: rest))) : W p l e R s m args below meth c H locs cells slots Q (F0 m pc ls (.ref (g.2.2.1 8) :: rest)) := fy_get (k := 1) C w (X_o3 hk) rfl rfl ti_X3 (by decide) tw384 hdg rfl kk
theorem gfX3_9 {p : Program} {l : Launch} {e : Env} {R : Room} {s : State} {m : MethodId} {args : Array Value} {below : List Frame} {meth : Method} {c : Code} {H : Heap} {locs : List Loc} {cells slots : Nat} {Q : State → Prop} {g : fy_G} {S : fy_S} {cc : ByteArray} {nL : Nat} {rt : Option FieldType} {pc : Nat} {ls : Array Slot} {rest : List Value} (C : fy_C g X_Y p s m args meth c RX3 cc nL rt) (w : fy_W g X_Y S s H locs) (hk : X_is 3 8) (hdg : decode cc pc = .ok (.getfield 9, 3)) (kk : W p l e R s m args below meth c H locs cells slots Q (F0 m (pc + 3) ls (.ref (g.2.2.1 9) :: rest))) : W p l e R s m args below meth c H locs cells slots Q (F0 m pc ls (.ref (g.2.2.1 8) :: rest)) := fy_get (k := 0) C w (X_o3 hk) rfl rfl ti_X3 (by decide) tw385 hdg rfl kk
theorem pfX3_15 {p : Program} {l : Launch} {e : Env} {R : Room} {s : State} {m : MethodId} {args : Array Value} {below : List Frame} {meth : Method} {c : Code} {H : Heap} {locs : List Loc} {cells slots : Nat} {Q : State → Prop} {g : fy_G} {S : fy_S} {cc : ByteArray} {nL : Nat} {rt : Option FieldType} {pc : Nat} {ls : Array Slot} {rest : List Value} {v : Int32} (C : fy_C g X_Y p s m args meth c RX3 cc nL rt) (w : fy_W g X_Y S s H locs) (hk : X_is 3 8) (hdg : decode cc pc = .ok (.putfield 15, 3)) (kk : ∀ (H1 : Heap) (locs1 : List Loc), fy_W g X_Y (fy_sI S 8 1 v) s H1 locs1 → W p l e R s m args below meth c H1 locs1 cells slots Q (F0 m (pc + 3) ls rest)) : W p l e R s m args below meth c H locs cells slots Q (F0 m pc ls (.int v :: .ref (g.2.2.1 8) :: rest)) := fy_putI (k := 1) C w (X_o3 hk) rfl rfl ti_X3 tyX3 tyX3_ok nmX3 (by decide) tw384 rfl rfl rfl rfl hdg kk
theorem gfX3_26 {p : Program} {l : Launch} {e : Env} {R : Room} {s : State} {m : MethodId} {args : Array Value} {below : List Frame} {meth : Method} {c : Code} {H : Heap} {locs : List Loc} {cells slots : Nat} {Q : State → Prop} {g : fy_G} {S : fy_S} {cc : ByteArray} {nL : Nat} {rt : Option FieldType} {pc : Nat} {ls : Array Slot} {rest : List Value} (C : fy_C g X_Y p s m args meth c RX3 cc nL rt) (w : fy_W g X_Y S s H locs) (hk : X_is 3 8) (hdg : decode cc pc = .ok (.getfield 26, 3)) (kk : W p l e R s m args below meth c H locs cells slots Q (F0 m (pc + 3) ls (.int (S.1 8 4) :: rest))) : W p l e R s m args below meth c H locs cells slots Q (F0 m pc ls (.ref (g.2.2.1 8) :: rest)) := fy_get (k := 4) C w (X_o3 hk) rfl rfl ti_X3 (by decide) tw386 hdg rfl kk
theorem pfX3_26 {p : Program} {l : Launch} {e : Env} {R : Room} {s : State} {m : MethodId} {args : Array Value} {below : List Frame} {meth : Method} {c : Code} {H : Heap} {locs : List Loc} {cells slots : Nat} {Q : State → Prop} {g : fy_G} {S : fy_S} {cc : ByteArray} {nL : Nat} {rt : Option FieldType} {pc : Nat} {ls : Array Slot} {rest : List Value} {v : Int32} (C : fy_C g X_Y p s m args meth c RX3 cc nL rt) (w : fy_W g X_Y S s H locs) (hk : X_is 3 8) (hdg : decode cc pc = .ok (.putfield 26, 3)) (kk : ∀ (H1 : Heap) (locs1 : List Loc), fy_W g X_Y (fy_sI S 8 4 v) s H1 locs1 → W p l e R s m args below meth c H1 locs1 cells slots Q (F0 m (pc + 3) ls rest)) : W p l e R s m args below meth c H locs cells slots Q (F0 m pc ls (.int v :: .ref (g.2.2.1 8) :: rest)) := fy_putI (k := 4) C w (X_o3 hk) rfl rfl ti_X3 tyX3 tyX3_ok nmX3 (by decide) tw386 rfl rfl rfl rfl hdg kk
theorem gfX3_23 {p : Program} {l : Launch} {e : Env} {R : Room} {s : State} {m : MethodId} {args : Array Value} {below : List Frame} {meth : Method} {c : Code} {H : Heap} {locs : List Loc} {cells slots : Nat} {Q : State → Prop} {g : fy_G} {S : fy_S} {cc : ByteArray} {nL : Nat} {rt : Option FieldType} {pc : Nat} {ls : Array Slot} {rest : List Value} (C : fy_C g X_Y p s m args meth c RX3 cc nL rt) (w : fy_W g X_Y S s H locs) (hk : X_is 3 8) (hdg : decode cc pc = .ok (.getfield 23, 3)) (kk : W p l e R s m args below meth c H locs cells slots Q (F0 m (pc + 3) ls (.ref (g.2.2.1 11) :: rest))) : W p l e R s m args below meth c H locs cells slots Q (F0 m pc ls (.ref (g.2.2.1 8) :: rest)) := fy_get (k := 3) C w (X_o3 hk) rfl rfl ti_X3 (by decide) tw387 hdg rfl kk
theorem gfX3_19 {p : Program} {l : Launch} {e : Env} {R : Room} {s : State} {m : MethodId} {args : Array Value} {below : List Frame} {meth : Method} {c : Code} {H : Heap} {locs : List Loc} {cells slots : Nat} {Q : State → Prop} {g : fy_G} {S : fy_S} {cc : ByteArray} {nL : Nat} {rt : Option FieldType} {pc : Nat} {ls : Array Slot} {rest : List Value} (C : fy_C g X_Y p s m args meth c RX3 cc nL rt) (w : fy_W g X_Y S s H locs) (hk : X_is 3 8) (hdg : decode cc pc = .ok (.getfield 19, 3)) (kk : W p l e R s m args below meth c H locs cells slots Q (F0 m (pc + 3) ls (.ref (g.2.2.1 10) :: rest))) : W p l e R s m args below meth c H locs cells slots Q (F0 m pc ls (.ref (g.2.2.1 8) :: rest)) := fy_get (k := 2) C w (X_o3 hk) rfl rfl ti_X3 (by decide) tw393 hdg rfl kk
theorem gfX3_29 {p : Program} {l : Launch} {e : Env} {R : Room} {s : State} {m : MethodId} {args : Array Value} {below : List Frame} {meth : Method} {c : Code} {H : Heap} {locs : List Loc} {cells slots : Nat} {Q : State → Prop} {g : fy_G} {S : fy_S} {cc : ByteArray} {nL : Nat} {rt : Option FieldType} {pc : Nat} {ls : Array Slot} {rest : List Value} {id : Nat} (C : fy_C g X_Y p s m args meth c RX3 cc nL rt) (w : fy_W g X_Y S s H locs) (hk : X_is 2 id) (hdg : decode cc pc = .ok (.getfield 29, 3)) (kk : W p l e R s m args below meth c H locs cells slots Q (F0 m (pc + 3) ls (.int (S.1 id 1) :: rest))) : W p l e R s m args below meth c H locs cells slots Q (F0 m pc ls (.ref (g.2.2.1 id) :: rest)) := fy_get (k := 1) C w (X_o2 hk) rfl rfl ti_X2 (by decide) tw397 hdg rfl kk
theorem gfX9_33 {p : Program} {l : Launch} {e : Env} {R : Room} {s : State} {m : MethodId} {args : Array Value} {below : List Frame} {meth : Method} {c : Code} {H : Heap} {locs : List Loc} {cells slots : Nat} {Q : State → Prop} {g : fy_G} {S : fy_S} {cc : ByteArray} {nL : Nat} {rt : Option FieldType} {pc : Nat} {ls : Array Slot} {rest : List Value} (C : fy_C g X_Y p s m args meth c RX9 cc nL rt) (w : fy_W g X_Y S s H locs) (hk : X_is 9 0) (hdg : decode cc pc = .ok (.getfield 33, 3)) (kk : W p l e R s m args below meth c H locs cells slots Q (F0 m (pc + 3) ls (.ref (g.2.2.1 8) :: rest))) : W p l e R s m args below meth c H locs cells slots Q (F0 m pc ls (.ref (g.2.2.1 0) :: rest)) := fy_get (k := 4) C w (X_o9 hk) rfl rfl ti_X9 (by decide) tw410 hdg rfl kk
theorem gfX9_139 {p : Program} {l : Launch} {e : Env} {R : Room} {s : State} {m : MethodId} {args : Array Value} {below : List Frame} {meth : Method} {c : Code} {H : Heap} {locs : List Loc} {cells slots : Nat} {Q : State → Prop} {g : fy_G} {S : fy_S} {cc : ByteArray} {nL : Nat} {rt : Option FieldType} {pc : Nat} {ls : Array Slot} {rest : List Value} (C : fy_C g X_Y p s m args meth c RX9 cc nL rt) (w : fy_W g X_Y S s H locs) (hk : X_is 3 8) (hdg : decode cc pc = .ok (.getfield 139, 3)) (kk : W p l e R s m args below meth c H locs cells slots Q (F0 m (pc + 3) ls (.int (S.1 8 1) :: rest))) : W p l e R s m args below meth c H locs cells slots Q (F0 m pc ls (.ref (g.2.2.1 8) :: rest)) := fy_get (k := 1) C w (X_o3 hk) rfl rfl ti_X3 (by decide) tw415 hdg rfl kk
theorem gfX9_140 {p : Program} {l : Launch} {e : Env} {R : Room} {s : State} {m : MethodId} {args : Array Value} {below : List Frame} {meth : Method} {c : Code} {H : Heap} {locs : List Loc} {cells slots : Nat} {Q : State → Prop} {g : fy_G} {S : fy_S} {cc : ByteArray} {nL : Nat} {rt : Option FieldType} {pc : Nat} {ls : Array Slot} {rest : List Value} (C : fy_C g X_Y p s m args meth c RX9 cc nL rt) (w : fy_W g X_Y S s H locs) (hk : X_is 3 8) (hdg : decode cc pc = .ok (.getfield 140, 3)) (kk : W p l e R s m args below meth c H locs cells slots Q (F0 m (pc + 3) ls (.ref (g.2.2.1 9) :: rest))) : W p l e R s m args below meth c H locs cells slots Q (F0 m pc ls (.ref (g.2.2.1 8) :: rest)) := fy_get (k := 0) C w (X_o3 hk) rfl rfl ti_X3 (by decide) tw416 hdg rfl kk
theorem gfX2_22 {p : Program} {l : Launch} {e : Env} {R : Room} {s : State} {m : MethodId} {args : Array Value} {below : List Frame} {meth : Method} {c : Code} {H : Heap} {locs : List Loc} {cells slots : Nat} {Q : State → Prop} {g : fy_G} {S : fy_S} {cc : ByteArray} {nL : Nat} {rt : Option FieldType} {pc : Nat} {ls : Array Slot} {rest : List Value} {id : Nat} (C : fy_C g X_Y p s m args meth c RX2 cc nL rt) (w : fy_W g X_Y S s H locs) (hk : X_is 2 id) (hdg : decode cc pc = .ok (.getfield 22, 3)) (kk : W p l e R s m args below meth c H locs cells slots Q (F0 m (pc + 3) ls (.long (S.2 id 2) :: rest))) : W p l e R s m args below meth c H locs cells slots Q (F0 m pc ls (.ref (g.2.2.1 id) :: rest)) := fy_get (k := 2) C w (X_o2 hk) rfl rfl ti_X2 (by decide) tw250 hdg rfl kk
theorem gfX9_152 {p : Program} {l : Launch} {e : Env} {R : Room} {s : State} {m : MethodId} {args : Array Value} {below : List Frame} {meth : Method} {c : Code} {H : Heap} {locs : List Loc} {cells slots : Nat} {Q : State → Prop} {g : fy_G} {S : fy_S} {cc : ByteArray} {nL : Nat} {rt : Option FieldType} {pc : Nat} {ls : Array Slot} {rest : List Value} {id : Nat} (C : fy_C g X_Y p s m args meth c RX9 cc nL rt) (w : fy_W g X_Y S s H locs) (hk : X_is 2 id) (hdg : decode cc pc = .ok (.getfield 152, 3)) (kk : W p l e R s m args below meth c H locs cells slots Q (F0 m (pc + 3) ls (.long (S.2 id 2) :: rest))) : W p l e R s m args below meth c H locs cells slots Q (F0 m pc ls (.ref (g.2.2.1 id) :: rest)) := fy_get (k := 2) C w (X_o2 hk) rfl rfl ti_X2 (by decide) tw441 hdg rfl kk
theorem gfX8_7 {p : Program} {l : Launch} {e : Env} {R : Room} {s : State} {m : MethodId} {args : Array Value} {below : List Frame} {meth : Method} {c : Code} {H : Heap} {locs : List Loc} {cells slots : Nat} {Q : State → Prop} {g : fy_G} {S : fy_S} {cc : ByteArray} {nL : Nat} {rt : Option FieldType} {pc : Nat} {ls : Array Slot} {rest : List Value} {id : Nat} (C : fy_C g X_Y p s m args meth c RX8 cc nL rt) (w : fy_W g X_Y S s H locs) (hk : X_is 8 id) (hdg : decode cc pc = .ok (.getfield 7, 3)) (kk : W p l e R s m args below meth c H locs cells slots Q (F0 m (pc + 3) ls (.int (S.1 id 1) :: rest))) : W p l e R s m args below meth c H locs cells slots Q (F0 m pc ls (.ref (g.2.2.1 id) :: rest)) := fy_get (k := 1) C w (X_o8 hk) rfl rfl ti_X8 (by decide) tw452 hdg rfl kk
theorem gfX8_19 {p : Program} {l : Launch} {e : Env} {R : Room} {s : State} {m : MethodId} {args : Array Value} {below : List Frame} {meth : Method} {c : Code} {H : Heap} {locs : List Loc} {cells slots : Nat} {Q : State → Prop} {g : fy_G} {S : fy_S} {cc : ByteArray} {nL : Nat} {rt : Option FieldType} {pc : Nat} {ls : Array Slot} {rest : List Value} {id : Nat} (C : fy_C g X_Y p s m args meth c RX8 cc nL rt) (w : fy_W g X_Y S s H locs) (hk : X_is 8 id) (hdg : decode cc pc = .ok (.getfield 19, 3)) (kk : W p l e R s m args below meth c H locs cells slots Q (F0 m (pc + 3) ls (.ref (g.2.2.1 (id + 1)) :: rest))) : W p l e R s m args below meth c H locs cells slots Q (F0 m pc ls (.ref (g.2.2.1 id) :: rest)) := fy_get (k := 0) C w (X_o8 hk) rfl rfl ti_X8 (by decide) tw453 hdg rfl kk
theorem pfX8_7 {p : Program} {l : Launch} {e : Env} {R : Room} {s : State} {m : MethodId} {args : Array Value} {below : List Frame} {meth : Method} {c : Code} {H : Heap} {locs : List Loc} {cells slots : Nat} {Q : State → Prop} {g : fy_G} {S : fy_S} {cc : ByteArray} {nL : Nat} {rt : Option FieldType} {pc : Nat} {ls : Array Slot} {rest : List Value} {id : Nat} {v : Int32} (C : fy_C g X_Y p s m args meth c RX8 cc nL rt) (w : fy_W g X_Y S s H locs) (hk : X_is 8 id) (hdg : decode cc pc = .ok (.putfield 7, 3)) (kk : ∀ (H1 : Heap) (locs1 : List Loc), fy_W g X_Y (fy_sI S id 1 v) s H1 locs1 → W p l e R s m args below meth c H1 locs1 cells slots Q (F0 m (pc + 3) ls rest)) : W p l e R s m args below meth c H locs cells slots Q (F0 m pc ls (.int v :: .ref (g.2.2.1 id) :: rest)) := fy_putI (k := 1) C w (X_o8 hk) rfl rfl ti_X8 tyX8 tyX8_ok nmX8 (by decide) tw452 rfl rfl rfl rfl hdg kk
theorem gfX9_42 {p : Program} {l : Launch} {e : Env} {R : Room} {s : State} {m : MethodId} {args : Array Value} {below : List Frame} {meth : Method} {c : Code} {H : Heap} {locs : List Loc} {cells slots : Nat} {Q : State → Prop} {g : fy_G} {S : fy_S} {cc : ByteArray} {nL : Nat} {rt : Option FieldType} {pc : Nat} {ls : Array Slot} {rest : List Value} (C : fy_C g X_Y p s m args meth c RX9 cc nL rt) (w : fy_W g X_Y S s H locs) (hk : X_is 9 0) (hdg : decode cc pc = .ok (.getfield 42, 3)) (kk : W p l e R s m args below meth c H locs cells slots Q (F0 m (pc + 3) ls (.ref (g.2.2.1 12) :: rest))) : W p l e R s m args below meth c H locs cells slots Q (F0 m pc ls (.ref (g.2.2.1 0) :: rest)) := fy_get (k := 5) C w (X_o9 hk) rfl rfl ti_X9 (by decide) tw454 hdg rfl kk
theorem gfX9_170 {p : Program} {l : Launch} {e : Env} {R : Room} {s : State} {m : MethodId} {args : Array Value} {below : List Frame} {meth : Method} {c : Code} {H : Heap} {locs : List Loc} {cells slots : Nat} {Q : State → Prop} {g : fy_G} {S : fy_S} {cc : ByteArray} {nL : Nat} {rt : Option FieldType} {pc : Nat} {ls : Array Slot} {rest : List Value} {id : Nat} (C : fy_C g X_Y p s m args meth c RX9 cc nL rt) (w : fy_W g X_Y S s H locs) (hk : X_is 8 id) (hdg : decode cc pc = .ok (.getfield 170, 3)) (kk : W p l e R s m args below meth c H locs cells slots Q (F0 m (pc + 3) ls (.int (S.1 id 1) :: rest))) : W p l e R s m args below meth c H locs cells slots Q (F0 m pc ls (.ref (g.2.2.1 id) :: rest)) := fy_get (k := 1) C w (X_o8 hk) rfl rfl ti_X8 (by decide) tw455 hdg rfl kk
theorem pfX9_170 {p : Program} {l : Launch} {e : Env} {R : Room} {s : State} {m : MethodId} {args : Array Value} {below : List Frame} {meth : Method} {c : Code} {H : Heap} {locs : List Loc} {cells slots : Nat} {Q : State → Prop} {g : fy_G} {S : fy_S} {cc : ByteArray} {nL : Nat} {rt : Option FieldType} {pc : Nat} {ls : Array Slot} {rest : List Value} {id : Nat} {v : Int32} (C : fy_C g X_Y p s m args meth c RX9 cc nL rt) (w : fy_W g X_Y S s H locs) (hk : X_is 8 id) (hdg : decode cc pc = .ok (.putfield 170, 3)) (kk : ∀ (H1 : Heap) (locs1 : List Loc), fy_W g X_Y (fy_sI S id 1 v) s H1 locs1 → W p l e R s m args below meth c H1 locs1 cells slots Q (F0 m (pc + 3) ls rest)) : W p l e R s m args below meth c H locs cells slots Q (F0 m pc ls (.int v :: .ref (g.2.2.1 id) :: rest)) := fy_putI (k := 1) C w (X_o8 hk) rfl rfl ti_X8 tyX8 tyX8_ok nmX8 (by decide) tw455 rfl rfl rfl rfl hdg kk
theorem gfX8_29 {p : Program} {l : Launch} {e : Env} {R : Room} {s : State} {m : MethodId} {args : Array Value} {below : List Frame} {meth : Method} {c : Code} {H : Heap} {locs : List Loc} {cells slots : Nat} {Q : State → Prop} {g : fy_G} {S : fy_S} {cc : ByteArray} {nL : Nat} {rt : Option FieldType} {pc : Nat} {ls : Array Slot} {rest : List Value} {id : Nat} (C : fy_C g X_Y p s m args meth c RX8 cc nL rt) (w : fy_W g X_Y S s H locs) (hk : X_is 0 id) (hdg : decode cc pc = .ok (.getfield 29, 3)) (kk : W p l e R s m args below meth c H locs cells slots Q (F0 m (pc + 3) ls (.int (S.1 id 5) :: rest))) : W p l e R s m args below meth c H locs cells slots Q (F0 m pc ls (.ref (g.2.2.1 id) :: rest)) := fy_get (k := 5) C w (X_o0 hk) rfl rfl ti_X0 (by decide) tw463 hdg rfl kk
theorem gfX9_181 {p : Program} {l : Launch} {e : Env} {R : Room} {s : State} {m : MethodId} {args : Array Value} {below : List Frame} {meth : Method} {c : Code} {H : Heap} {locs : List Loc} {cells slots : Nat} {Q : State → Prop} {g : fy_G} {S : fy_S} {cc : ByteArray} {nL : Nat} {rt : Option FieldType} {pc : Nat} {ls : Array Slot} {rest : List Value} {id : Nat} (C : fy_C g X_Y p s m args meth c RX9 cc nL rt) (w : fy_W g X_Y S s H locs) (hk : X_is 0 id) (hdg : decode cc pc = .ok (.getfield 181, 3)) (kk : W p l e R s m args below meth c H locs cells slots Q (F0 m (pc + 3) ls (.ref (g.2.2.1 (id + 3)) :: rest))) : W p l e R s m args below meth c H locs cells slots Q (F0 m pc ls (.ref (g.2.2.1 id) :: rest)) := fy_get (k := 1) C w (X_o0 hk) rfl rfl ti_X0 (by decide) tw476 hdg rfl kk
theorem gfX5_9 {p : Program} {l : Launch} {e : Env} {R : Room} {s : State} {m : MethodId} {args : Array Value} {below : List Frame} {meth : Method} {c : Code} {H : Heap} {locs : List Loc} {cells slots : Nat} {Q : State → Prop} {g : fy_G} {S : fy_S} {cc : ByteArray} {nL : Nat} {rt : Option FieldType} {pc : Nat} {ls : Array Slot} {rest : List Value} (C : fy_C g X_Y p s m args meth c RX5 cc nL rt) (w : fy_W g X_Y S s H locs) (hk : X_is 5 16) (hdg : decode cc pc = .ok (.getfield 9, 3)) (kk : W p l e R s m args below meth c H locs cells slots Q (F0 m (pc + 3) ls (.ref (g.2.2.1 17) :: rest))) : W p l e R s m args below meth c H locs cells slots Q (F0 m pc ls (.ref (g.2.2.1 16) :: rest)) := fy_get (k := 0) C w (X_o5 hk) rfl rfl ti_X5 (by decide) tw481 hdg rfl kk
theorem gfX5_15 {p : Program} {l : Launch} {e : Env} {R : Room} {s : State} {m : MethodId} {args : Array Value} {below : List Frame} {meth : Method} {c : Code} {H : Heap} {locs : List Loc} {cells slots : Nat} {Q : State → Prop} {g : fy_G} {S : fy_S} {cc : ByteArray} {nL : Nat} {rt : Option FieldType} {pc : Nat} {ls : Array Slot} {rest : List Value} (C : fy_C g X_Y p s m args meth c RX5 cc nL rt) (w : fy_W g X_Y S s H locs) (hk : X_is 5 16) (hdg : decode cc pc = .ok (.getfield 15, 3)) (kk : W p l e R s m args below meth c H locs cells slots Q (F0 m (pc + 3) ls (.ref (g.2.2.1 18) :: rest))) : W p l e R s m args below meth c H locs cells slots Q (F0 m pc ls (.ref (g.2.2.1 16) :: rest)) := fy_get (k := 1) C w (X_o5 hk) rfl rfl ti_X5 (by decide) tw486 hdg rfl kk
theorem gfX5_18 {p : Program} {l : Launch} {e : Env} {R : Room} {s : State} {m : MethodId} {args : Array Value} {below : List Frame} {meth : Method} {c : Code} {H : Heap} {locs : List Loc} {cells slots : Nat} {Q : State → Prop} {g : fy_G} {S : fy_S} {cc : ByteArray} {nL : Nat} {rt : Option FieldType} {pc : Nat} {ls : Array Slot} {rest : List Value} (C : fy_C g X_Y p s m args meth c RX5 cc nL rt) (w : fy_W g X_Y S s H locs) (hk : X_is 5 16) (hdg : decode cc pc = .ok (.getfield 18, 3)) (kk : W p l e R s m args below meth c H locs cells slots Q (F0 m (pc + 3) ls (.ref (g.2.2.1 19) :: rest))) : W p l e R s m args below meth c H locs cells slots Q (F0 m pc ls (.ref (g.2.2.1 16) :: rest)) := fy_get (k := 2) C w (X_o5 hk) rfl rfl ti_X5 (by decide) tw494 hdg rfl kk
theorem gfX5_55 {p : Program} {l : Launch} {e : Env} {R : Room} {s : State} {m : MethodId} {args : Array Value} {below : List Frame} {meth : Method} {c : Code} {H : Heap} {locs : List Loc} {cells slots : Nat} {Q : State → Prop} {g : fy_G} {S : fy_S} {cc : ByteArray} {nL : Nat} {rt : Option FieldType} {pc : Nat} {ls : Array Slot} {rest : List Value} {id : Nat} (C : fy_C g X_Y p s m args meth c RX5 cc nL rt) (w : fy_W g X_Y S s H locs) (hk : X_is 2 id) (hdg : decode cc pc = .ok (.getfield 55, 3)) (kk : W p l e R s m args below meth c H locs cells slots Q (F0 m (pc + 3) ls (.int (S.1 id 1) :: rest))) : W p l e R s m args below meth c H locs cells slots Q (F0 m pc ls (.ref (g.2.2.1 id) :: rest)) := fy_get (k := 1) C w (X_o2 hk) rfl rfl ti_X2 (by decide) tw495 hdg rfl kk
theorem gfX5_21 {p : Program} {l : Launch} {e : Env} {R : Room} {s : State} {m : MethodId} {args : Array Value} {below : List Frame} {meth : Method} {c : Code} {H : Heap} {locs : List Loc} {cells slots : Nat} {Q : State → Prop} {g : fy_G} {S : fy_S} {cc : ByteArray} {nL : Nat} {rt : Option FieldType} {pc : Nat} {ls : Array Slot} {rest : List Value} {id : Nat} (C : fy_C g X_Y p s m args meth c RX5 cc nL rt) (w : fy_W g X_Y S s H locs) (hk : X_is 0 id) (hdg : decode cc pc = .ok (.getfield 21, 3)) (kk : W p l e R s m args below meth c H locs cells slots Q (F0 m (pc + 3) ls (.int (S.1 id 3) :: rest))) : W p l e R s m args below meth c H locs cells slots Q (F0 m pc ls (.ref (g.2.2.1 id) :: rest)) := fy_get (k := 3) C w (X_o0 hk) rfl rfl ti_X0 (by decide) tw505 hdg rfl kk
theorem gfX5_30 {p : Program} {l : Launch} {e : Env} {R : Room} {s : State} {m : MethodId} {args : Array Value} {below : List Frame} {meth : Method} {c : Code} {H : Heap} {locs : List Loc} {cells slots : Nat} {Q : State → Prop} {g : fy_G} {S : fy_S} {cc : ByteArray} {nL : Nat} {rt : Option FieldType} {pc : Nat} {ls : Array Slot} {rest : List Value} {id : Nat} (C : fy_C g X_Y p s m args meth c RX5 cc nL rt) (w : fy_W g X_Y S s H locs) (hk : X_is 8 id) (hdg : decode cc pc = .ok (.getfield 30, 3)) (kk : W p l e R s m args below meth c H locs cells slots Q (F0 m (pc + 3) ls (.int (S.1 id 1) :: rest))) : W p l e R s m args below meth c H locs cells slots Q (F0 m pc ls (.ref (g.2.2.1 id) :: rest)) := fy_get (k := 1) C w (X_o8 hk) rfl rfl ti_X8 (by decide) tw506 hdg rfl kk
theorem gfX5_27 {p : Program} {l : Launch} {e : Env} {R : Room} {s : State} {m : MethodId} {args : Array Value} {below : List Frame} {meth : Method} {c : Code} {H : Heap} {locs : List Loc} {cells slots : Nat} {Q : State → Prop} {g : fy_G} {S : fy_S} {cc : ByteArray} {nL : Nat} {rt : Option FieldType} {pc : Nat} {ls : Array Slot} {rest : List Value} {id : Nat} (C : fy_C g X_Y p s m args meth c RX5 cc nL rt) (w : fy_W g X_Y S s H locs) (hk : X_is 0 id) (hdg : decode cc pc = .ok (.getfield 27, 3)) (kk : W p l e R s m args below meth c H locs cells slots Q (F0 m (pc + 3) ls (.int (S.1 id 5) :: rest))) : W p l e R s m args below meth c H locs cells slots Q (F0 m pc ls (.ref (g.2.2.1 id) :: rest)) := fy_get (k := 5) C w (X_o0 hk) rfl rfl ti_X0 (by decide) tw520 hdg rfl kk
theorem gfX9_52 {p : Program} {l : Launch} {e : Env} {R : Room} {s : State} {m : MethodId} {args : Array Value} {below : List Frame} {meth : Method} {c : Code} {H : Heap} {locs : List Loc} {cells slots : Nat} {Q : State → Prop} {g : fy_G} {S : fy_S} {cc : ByteArray} {nL : Nat} {rt : Option FieldType} {pc : Nat} {ls : Array Slot} {rest : List Value} (C : fy_C g X_Y p s m args meth c RX9 cc nL rt) (w : fy_W g X_Y S s H locs) (hk : X_is 9 0) (hdg : decode cc pc = .ok (.getfield 52, 3)) (kk : W p l e R s m args below meth c H locs cells slots Q (F0 m (pc + 3) ls (.ref (g.2.2.1 16) :: rest))) : W p l e R s m args below meth c H locs cells slots Q (F0 m pc ls (.ref (g.2.2.1 0) :: rest)) := fy_get (k := 7) C w (X_o9 hk) rfl rfl ti_X9 (by decide) tw521 hdg rfl kk
theorem gfX7_39 {p : Program} {l : Launch} {e : Env} {R : Room} {s : State} {m : MethodId} {args : Array Value} {below : List Frame} {meth : Method} {c : Code} {H : Heap} {locs : List Loc} {cells slots : Nat} {Q : State → Prop} {g : fy_G} {S : fy_S} {cc : ByteArray} {nL : Nat} {rt : Option FieldType} {pc : Nat} {ls : Array Slot} {rest : List Value} {id : Nat} (C : fy_C g X_Y p s m args meth c RX7 cc nL rt) (w : fy_W g X_Y S s H locs) (hk : X_is 0 id) (hdg : decode cc pc = .ok (.getfield 39, 3)) (kk : W p l e R s m args below meth c H locs cells slots Q (F0 m (pc + 3) ls (.int (S.1 id 4) :: rest))) : W p l e R s m args below meth c H locs cells slots Q (F0 m pc ls (.ref (g.2.2.1 id) :: rest)) := fy_get (k := 4) C w (X_o0 hk) rfl rfl ti_X0 (by decide) tw534 hdg rfl kk
theorem pfX7_28 {p : Program} {l : Launch} {e : Env} {R : Room} {s : State} {m : MethodId} {args : Array Value} {below : List Frame} {meth : Method} {c : Code} {H : Heap} {locs : List Loc} {cells slots : Nat} {Q : State → Prop} {g : fy_G} {S : fy_S} {cc : ByteArray} {nL : Nat} {rt : Option FieldType} {pc : Nat} {ls : Array Slot} {rest : List Value} {id : Nat} {v : Int32} (C : fy_C g X_Y p s m args meth c RX7 cc nL rt) (w : fy_W g X_Y S s H locs) (hk : X_is 7 id) (hdg : decode cc pc = .ok (.putfield 28, 3)) (kk : ∀ (H1 : Heap) (locs1 : List Loc), fy_W g X_Y (fy_sI S id 5 v) s H1 locs1 → W p l e R s m args below meth c H1 locs1 cells slots Q (F0 m (pc + 3) ls rest)) : W p l e R s m args below meth c H locs cells slots Q (F0 m pc ls (.int v :: .ref (g.2.2.1 id) :: rest)) := fy_putI (k := 5) C w (X_o7 hk) rfl rfl ti_X7 tyX7 tyX7_ok nmX7 (by decide) tw535 rfl rfl rfl rfl hdg kk
theorem gfX7_42 {p : Program} {l : Launch} {e : Env} {R : Room} {s : State} {m : MethodId} {args : Array Value} {below : List Frame} {meth : Method} {c : Code} {H : Heap} {locs : List Loc} {cells slots : Nat} {Q : State → Prop} {g : fy_G} {S : fy_S} {cc : ByteArray} {nL : Nat} {rt : Option FieldType} {pc : Nat} {ls : Array Slot} {rest : List Value} {id : Nat} (C : fy_C g X_Y p s m args meth c RX7 cc nL rt) (w : fy_W g X_Y S s H locs) (hk : X_is 0 id) (hdg : decode cc pc = .ok (.getfield 42, 3)) (kk : W p l e R s m args below meth c H locs cells slots Q (F0 m (pc + 3) ls (.int (S.1 id 5) :: rest))) : W p l e R s m args below meth c H locs cells slots Q (F0 m pc ls (.ref (g.2.2.1 id) :: rest)) := fy_get (k := 5) C w (X_o0 hk) rfl rfl ti_X0 (by decide) tw536 hdg rfl kk
theorem pfX7_32 {p : Program} {l : Launch} {e : Env} {R : Room} {s : State} {m : MethodId} {args : Array Value} {below : List Frame} {meth : Method} {c : Code} {H : Heap} {locs : List Loc} {cells slots : Nat} {Q : State → Prop} {g : fy_G} {S : fy_S} {cc : ByteArray} {nL : Nat} {rt : Option FieldType} {pc : Nat} {ls : Array Slot} {rest : List Value} {id : Nat} {v : Int32} (C : fy_C g X_Y p s m args meth c RX7 cc nL rt) (w : fy_W g X_Y S s H locs) (hk : X_is 7 id) (hdg : decode cc pc = .ok (.putfield 32, 3)) (kk : ∀ (H1 : Heap) (locs1 : List Loc), fy_W g X_Y (fy_sI S id 6 v) s H1 locs1 → W p l e R s m args below meth c H1 locs1 cells slots Q (F0 m (pc + 3) ls rest)) : W p l e R s m args below meth c H locs cells slots Q (F0 m pc ls (.int v :: .ref (g.2.2.1 id) :: rest)) := fy_putI (k := 6) C w (X_o7 hk) rfl rfl ti_X7 tyX7 tyX7_ok nmX7 (by decide) tw537 rfl rfl rfl rfl hdg kk
theorem gfX7_45 {p : Program} {l : Launch} {e : Env} {R : Room} {s : State} {m : MethodId} {args : Array Value} {below : List Frame} {meth : Method} {c : Code} {H : Heap} {locs : List Loc} {cells slots : Nat} {Q : State → Prop} {g : fy_G} {S : fy_S} {cc : ByteArray} {nL : Nat} {rt : Option FieldType} {pc : Nat} {ls : Array Slot} {rest : List Value} {id : Nat} (C : fy_C g X_Y p s m args meth c RX7 cc nL rt) (w : fy_W g X_Y S s H locs) (hk : X_is 0 id) (hdg : decode cc pc = .ok (.getfield 45, 3)) (kk : W p l e R s m args below meth c H locs cells slots Q (F0 m (pc + 3) ls (.ref (g.2.2.1 (id + 3)) :: rest))) : W p l e R s m args below meth c H locs cells slots Q (F0 m pc ls (.ref (g.2.2.1 id) :: rest)) := fy_get (k := 1) C w (X_o0 hk) rfl rfl ti_X0 (by decide) tw538 hdg rfl kk
theorem gfX7_49 {p : Program} {l : Launch} {e : Env} {R : Room} {s : State} {m : MethodId} {args : Array Value} {below : List Frame} {meth : Method} {c : Code} {H : Heap} {locs : List Loc} {cells slots : Nat} {Q : State → Prop} {g : fy_G} {S : fy_S} {cc : ByteArray} {nL : Nat} {rt : Option FieldType} {pc : Nat} {ls : Array Slot} {rest : List Value} {id : Nat} (C : fy_C g X_Y p s m args meth c RX7 cc nL rt) (w : fy_W g X_Y S s H locs) (hk : X_is 2 id) (hdg : decode cc pc = .ok (.getfield 49, 3)) (kk : W p l e R s m args below meth c H locs cells slots Q (F0 m (pc + 3) ls (.long (S.2 id 2) :: rest))) : W p l e R s m args below meth c H locs cells slots Q (F0 m pc ls (.ref (g.2.2.1 id) :: rest)) := fy_get (k := 2) C w (X_o2 hk) rfl rfl ti_X2 (by decide) tw539 hdg rfl kk
theorem pfX7_35 {p : Program} {l : Launch} {e : Env} {R : Room} {s : State} {m : MethodId} {args : Array Value} {below : List Frame} {meth : Method} {c : Code} {H : Heap} {locs : List Loc} {cells slots : Nat} {Q : State → Prop} {g : fy_G} {S : fy_S} {cc : ByteArray} {nL : Nat} {rt : Option FieldType} {pc : Nat} {ls : Array Slot} {rest : List Value} {id : Nat} {v : Int64} (C : fy_C g X_Y p s m args meth c RX7 cc nL rt) (w : fy_W g X_Y S s H locs) (hk : X_is 7 id) (hdg : decode cc pc = .ok (.putfield 35, 3)) (kk : ∀ (H1 : Heap) (locs1 : List Loc), fy_W g X_Y (fy_sL S id 7 v) s H1 locs1 → W p l e R s m args below meth c H1 locs1 cells slots Q (F0 m (pc + 3) ls rest)) : W p l e R s m args below meth c H locs cells slots Q (F0 m pc ls (.long v :: .ref (g.2.2.1 id) :: rest)) := fy_putL (k := 7) C w (X_o7 hk) rfl rfl ti_X7 tyX7 tyX7_ok nmX7 (by decide) tw540 rfl rfl rfl rfl hdg kk
theorem gfX7_54 {p : Program} {l : Launch} {e : Env} {R : Room} {s : State} {m : MethodId} {args : Array Value} {below : List Frame} {meth : Method} {c : Code} {H : Heap} {locs : List Loc} {cells slots : Nat} {Q : State → Prop} {g : fy_G} {S : fy_S} {cc : ByteArray} {nL : Nat} {rt : Option FieldType} {pc : Nat} {ls : Array Slot} {rest : List Value} {id : Nat} (C : fy_C g X_Y p s m args meth c RX7 cc nL rt) (w : fy_W g X_Y S s H locs) (hk : X_is 0 id) (hdg : decode cc pc = .ok (.getfield 54, 3)) (kk : W p l e R s m args below meth c H locs cells slots Q (F0 m (pc + 3) ls (.int (S.1 id 3) :: rest))) : W p l e R s m args below meth c H locs cells slots Q (F0 m pc ls (.ref (g.2.2.1 id) :: rest)) := fy_get (k := 3) C w (X_o0 hk) rfl rfl ti_X0 (by decide) tw541 hdg rfl kk
theorem gfX7_28 {p : Program} {l : Launch} {e : Env} {R : Room} {s : State} {m : MethodId} {args : Array Value} {below : List Frame} {meth : Method} {c : Code} {H : Heap} {locs : List Loc} {cells slots : Nat} {Q : State → Prop} {g : fy_G} {S : fy_S} {cc : ByteArray} {nL : Nat} {rt : Option FieldType} {pc : Nat} {ls : Array Slot} {rest : List Value} {id : Nat} (C : fy_C g X_Y p s m args meth c RX7 cc nL rt) (w : fy_W g X_Y S s H locs) (hk : X_is 7 id) (hdg : decode cc pc = .ok (.getfield 28, 3)) (kk : W p l e R s m args below meth c H locs cells slots Q (F0 m (pc + 3) ls (.int (S.1 id 5) :: rest))) : W p l e R s m args below meth c H locs cells slots Q (F0 m pc ls (.ref (g.2.2.1 id) :: rest)) := fy_get (k := 5) C w (X_o7 hk) rfl rfl ti_X7 (by decide) tw535 hdg rfl kk
theorem gfX7_9 {p : Program} {l : Launch} {e : Env} {R : Room} {s : State} {m : MethodId} {args : Array Value} {below : List Frame} {meth : Method} {c : Code} {H : Heap} {locs : List Loc} {cells slots : Nat} {Q : State → Prop} {g : fy_G} {S : fy_S} {cc : ByteArray} {nL : Nat} {rt : Option FieldType} {pc : Nat} {ls : Array Slot} {rest : List Value} {id : Nat} (C : fy_C g X_Y p s m args meth c RX7 cc nL rt) (w : fy_W g X_Y S s H locs) (hk : X_is 7 id) (hdg : decode cc pc = .ok (.getfield 9, 3)) (kk : W p l e R s m args below meth c H locs cells slots Q (F0 m (pc + 3) ls (.ref (g.2.2.1 (id + 1)) :: rest))) : W p l e R s m args below meth c H locs cells slots Q (F0 m pc ls (.ref (g.2.2.1 id) :: rest)) := fy_get (k := 0) C w (X_o7 hk) rfl rfl ti_X7 (by decide) tw542 hdg rfl kk
theorem gfX7_32 {p : Program} {l : Launch} {e : Env} {R : Room} {s : State} {m : MethodId} {args : Array Value} {below : List Frame} {meth : Method} {c : Code} {H : Heap} {locs : List Loc} {cells slots : Nat} {Q : State → Prop} {g : fy_G} {S : fy_S} {cc : ByteArray} {nL : Nat} {rt : Option FieldType} {pc : Nat} {ls : Array Slot} {rest : List Value} {id : Nat} (C : fy_C g X_Y p s m args meth c RX7 cc nL rt) (w : fy_W g X_Y S s H locs) (hk : X_is 7 id) (hdg : decode cc pc = .ok (.getfield 32, 3)) (kk : W p l e R s m args below meth c H locs cells slots Q (F0 m (pc + 3) ls (.int (S.1 id 6) :: rest))) : W p l e R s m args below meth c H locs cells slots Q (F0 m pc ls (.ref (g.2.2.1 id) :: rest)) := fy_get (k := 6) C w (X_o7 hk) rfl rfl ti_X7 (by decide) tw537 hdg rfl kk
theorem gfX9_59 {p : Program} {l : Launch} {e : Env} {R : Room} {s : State} {m : MethodId} {args : Array Value} {below : List Frame} {meth : Method} {c : Code} {H : Heap} {locs : List Loc} {cells slots : Nat} {Q : State → Prop} {g : fy_G} {S : fy_S} {cc : ByteArray} {nL : Nat} {rt : Option FieldType} {pc : Nat} {ls : Array Slot} {rest : List Value} (C : fy_C g X_Y p s m args meth c RX9 cc nL rt) (w : fy_W g X_Y S s H locs) (hk : X_is 9 0) (hdg : decode cc pc = .ok (.getfield 59, 3)) (kk : W p l e R s m args below meth c H locs cells slots Q (F0 m (pc + 3) ls (.ref (g.2.2.1 20) :: rest))) : W p l e R s m args below meth c H locs cells slots Q (F0 m pc ls (.ref (g.2.2.1 0) :: rest)) := fy_get (k := 8) C w (X_o9 hk) rfl rfl ti_X9 (by decide) tw555 hdg rfl kk
theorem gfX7_15 {p : Program} {l : Launch} {e : Env} {R : Room} {s : State} {m : MethodId} {args : Array Value} {below : List Frame} {meth : Method} {c : Code} {H : Heap} {locs : List Loc} {cells slots : Nat} {Q : State → Prop} {g : fy_G} {S : fy_S} {cc : ByteArray} {nL : Nat} {rt : Option FieldType} {pc : Nat} {ls : Array Slot} {rest : List Value} {id : Nat} (C : fy_C g X_Y p s m args meth c RX7 cc nL rt) (w : fy_W g X_Y S s H locs) (hk : X_is 7 id) (hdg : decode cc pc = .ok (.getfield 15, 3)) (kk : W p l e R s m args below meth c H locs cells slots Q (F0 m (pc + 3) ls (.ref (g.2.2.1 (id + 2)) :: rest))) : W p l e R s m args below meth c H locs cells slots Q (F0 m pc ls (.ref (g.2.2.1 id) :: rest)) := fy_get (k := 1) C w (X_o7 hk) rfl rfl ti_X7 (by decide) tw564 hdg rfl kk
theorem gfX7_18 {p : Program} {l : Launch} {e : Env} {R : Room} {s : State} {m : MethodId} {args : Array Value} {below : List Frame} {meth : Method} {c : Code} {H : Heap} {locs : List Loc} {cells slots : Nat} {Q : State → Prop} {g : fy_G} {S : fy_S} {cc : ByteArray} {nL : Nat} {rt : Option FieldType} {pc : Nat} {ls : Array Slot} {rest : List Value} {id : Nat} (C : fy_C g X_Y p s m args meth c RX7 cc nL rt) (w : fy_W g X_Y S s H locs) (hk : X_is 7 id) (hdg : decode cc pc = .ok (.getfield 18, 3)) (kk : W p l e R s m args below meth c H locs cells slots Q (F0 m (pc + 3) ls (.ref (g.2.2.1 (id + 3)) :: rest))) : W p l e R s m args below meth c H locs cells slots Q (F0 m pc ls (.ref (g.2.2.1 id) :: rest)) := fy_get (k := 2) C w (X_o7 hk) rfl rfl ti_X7 (by decide) tw569 hdg rfl kk
theorem gfX7_35 {p : Program} {l : Launch} {e : Env} {R : Room} {s : State} {m : MethodId} {args : Array Value} {below : List Frame} {meth : Method} {c : Code} {H : Heap} {locs : List Loc} {cells slots : Nat} {Q : State → Prop} {g : fy_G} {S : fy_S} {cc : ByteArray} {nL : Nat} {rt : Option FieldType} {pc : Nat} {ls : Array Slot} {rest : List Value} {id : Nat} (C : fy_C g X_Y p s m args meth c RX7 cc nL rt) (w : fy_W g X_Y S s H locs) (hk : X_is 7 id) (hdg : decode cc pc = .ok (.getfield 35, 3)) (kk : W p l e R s m args below meth c H locs cells slots Q (F0 m (pc + 3) ls (.long (S.2 id 7) :: rest))) : W p l e R s m args below meth c H locs cells slots Q (F0 m pc ls (.ref (g.2.2.1 id) :: rest)) := fy_get (k := 7) C w (X_o7 hk) rfl rfl ti_X7 (by decide) tw540 hdg rfl kk
theorem gfX0_100 {p : Program} {l : Launch} {e : Env} {R : Room} {s : State} {m : MethodId} {args : Array Value} {below : List Frame} {meth : Method} {c : Code} {H : Heap} {locs : List Loc} {cells slots : Nat} {Q : State → Prop} {g : fy_G} {S : fy_S} {cc : ByteArray} {nL : Nat} {rt : Option FieldType} {pc : Nat} {ls : Array Slot} {rest : List Value} {id : Nat} (C : fy_C g X_Y p s m args meth c RX0 cc nL rt) (w : fy_W g X_Y S s H locs) (hk : X_is 2 id) (hdg : decode cc pc = .ok (.getfield 100, 3)) (kk : W p l e R s m args below meth c H locs cells slots Q (F0 m (pc + 3) ls (.long (S.2 id 2) :: rest))) : W p l e R s m args below meth c H locs cells slots Q (F0 m pc ls (.ref (g.2.2.1 id) :: rest)) := fy_get (k := 2) C w (X_o2 hk) rfl rfl ti_X2 (by decide) tw585 hdg rfl kk
theorem gfX0_37 {p : Program} {l : Launch} {e : Env} {R : Room} {s : State} {m : MethodId} {args : Array Value} {below : List Frame} {meth : Method} {c : Code} {H : Heap} {locs : List Loc} {cells slots : Nat} {Q : State → Prop} {g : fy_G} {S : fy_S} {cc : ByteArray} {nL : Nat} {rt : Option FieldType} {pc : Nat} {ls : Array Slot} {rest : List Value} {id : Nat} (C : fy_C g X_Y p s m args meth c RX0 cc nL rt) (w : fy_W g X_Y S s H locs) (hk : X_is 0 id) (hdg : decode cc pc = .ok (.getfield 37, 3)) (kk : W p l e R s m args below meth c H locs cells slots Q (F0 m (pc + 3) ls (.int (S.1 id 5) :: rest))) : W p l e R s m args below meth c H locs cells slots Q (F0 m pc ls (.ref (g.2.2.1 id) :: rest)) := fy_get (k := 5) C w (X_o0 hk) rfl rfl ti_X0 (by decide) tw253 hdg rfl kk
theorem gfX1_45 {p : Program} {l : Launch} {e : Env} {R : Room} {s : State} {m : MethodId} {args : Array Value} {below : List Frame} {meth : Method} {c : Code} {H : Heap} {locs : List Loc} {cells slots : Nat} {Q : State → Prop} {g : fy_G} {S : fy_S} {cc : ByteArray} {nL : Nat} {rt : Option FieldType} {pc : Nat} {ls : Array Slot} {rest : List Value} {id : Nat} (C : fy_C g X_Y p s m args meth c RX1 cc nL rt) (w : fy_W g X_Y S s H locs) (hk : X_is 7 id) (hdg : decode cc pc = .ok (.getfield 45, 3)) (kk : W p l e R s m args below meth c H locs cells slots Q (F0 m (pc + 3) ls (.int (S.1 id 5) :: rest))) : W p l e R s m args below meth c H locs cells slots Q (F0 m pc ls (.ref (g.2.2.1 id) :: rest)) := fy_get (k := 5) C w (X_o7 hk) rfl rfl ti_X7 (by decide) tw617 hdg rfl kk
theorem gfX1_9 {p : Program} {l : Launch} {e : Env} {R : Room} {s : State} {m : MethodId} {args : Array Value} {below : List Frame} {meth : Method} {c : Code} {H : Heap} {locs : List Loc} {cells slots : Nat} {Q : State → Prop} {g : fy_G} {S : fy_S} {cc : ByteArray} {nL : Nat} {rt : Option FieldType} {pc : Nat} {ls : Array Slot} {rest : List Value} (C : fy_C g X_Y p s m args meth c RX1 cc nL rt) (w : fy_W g X_Y S s H locs) (hk : X_is 1 32) (hdg : decode cc pc = .ok (.getfield 9, 3)) (kk : W p l e R s m args below meth c H locs cells slots Q (F0 m (pc + 3) ls (.ref (g.2.2.1 33) :: rest))) : W p l e R s m args below meth c H locs cells slots Q (F0 m pc ls (.ref (g.2.2.1 32) :: rest)) := fy_get (k := 0) C w (X_o1 hk) rfl rfl ti_X1 (by decide) tw618 hdg rfl kk
theorem gfX1_26 {p : Program} {l : Launch} {e : Env} {R : Room} {s : State} {m : MethodId} {args : Array Value} {below : List Frame} {meth : Method} {c : Code} {H : Heap} {locs : List Loc} {cells slots : Nat} {Q : State → Prop} {g : fy_G} {S : fy_S} {cc : ByteArray} {nL : Nat} {rt : Option FieldType} {pc : Nat} {ls : Array Slot} {rest : List Value} {id : Nat} (C : fy_C g X_Y p s m args meth c RX1 cc nL rt) (w : fy_W g X_Y S s H locs) (hk : X_is 7 id) (hdg : decode cc pc = .ok (.getfield 26, 3)) (kk : W p l e R s m args below meth c H locs cells slots Q (F0 m (pc + 3) ls (.int (S.1 id 6) :: rest))) : W p l e R s m args below meth c H locs cells slots Q (F0 m pc ls (.ref (g.2.2.1 id) :: rest)) := fy_get (k := 6) C w (X_o7 hk) rfl rfl ti_X7 (by decide) tw626 hdg rfl kk
theorem pfX1_16 {p : Program} {l : Launch} {e : Env} {R : Room} {s : State} {m : MethodId} {args : Array Value} {below : List Frame} {meth : Method} {c : Code} {H : Heap} {locs : List Loc} {cells slots : Nat} {Q : State → Prop} {g : fy_G} {S : fy_S} {cc : ByteArray} {nL : Nat} {rt : Option FieldType} {pc : Nat} {ls : Array Slot} {rest : List Value} {v : Int32} (C : fy_C g X_Y p s m args meth c RX1 cc nL rt) (w : fy_W g X_Y S s H locs) (hk : X_is 1 32) (hdg : decode cc pc = .ok (.putfield 16, 3)) (kk : ∀ (H1 : Heap) (locs1 : List Loc), fy_W g X_Y (fy_sI S 32 1 v) s H1 locs1 → W p l e R s m args below meth c H1 locs1 cells slots Q (F0 m (pc + 3) ls rest)) : W p l e R s m args below meth c H locs cells slots Q (F0 m pc ls (.int v :: .ref (g.2.2.1 32) :: rest)) := fy_putI (k := 1) C w (X_o1 hk) rfl rfl ti_X1 tyX1 tyX1_ok nmX1 (by decide) tw627 rfl rfl rfl rfl hdg kk
theorem gfX1_16 {p : Program} {l : Launch} {e : Env} {R : Room} {s : State} {m : MethodId} {args : Array Value} {below : List Frame} {meth : Method} {c : Code} {H : Heap} {locs : List Loc} {cells slots : Nat} {Q : State → Prop} {g : fy_G} {S : fy_S} {cc : ByteArray} {nL : Nat} {rt : Option FieldType} {pc : Nat} {ls : Array Slot} {rest : List Value} (C : fy_C g X_Y p s m args meth c RX1 cc nL rt) (w : fy_W g X_Y S s H locs) (hk : X_is 1 32) (hdg : decode cc pc = .ok (.getfield 16, 3)) (kk : W p l e R s m args below meth c H locs cells slots Q (F0 m (pc + 3) ls (.int (S.1 32 1) :: rest))) : W p l e R s m args below meth c H locs cells slots Q (F0 m pc ls (.ref (g.2.2.1 32) :: rest)) := fy_get (k := 1) C w (X_o1 hk) rfl rfl ti_X1 (by decide) tw627 hdg rfl kk
theorem pfX1_55 {p : Program} {l : Launch} {e : Env} {R : Room} {s : State} {m : MethodId} {args : Array Value} {below : List Frame} {meth : Method} {c : Code} {H : Heap} {locs : List Loc} {cells slots : Nat} {Q : State → Prop} {g : fy_G} {S : fy_S} {cc : ByteArray} {nL : Nat} {rt : Option FieldType} {pc : Nat} {ls : Array Slot} {rest : List Value} {id : Nat} {v : Int32} (C : fy_C g X_Y p s m args meth c RX1 cc nL rt) (w : fy_W g X_Y S s H locs) (hk : X_is 8 id) (hdg : decode cc pc = .ok (.putfield 55, 3)) (kk : ∀ (H1 : Heap) (locs1 : List Loc), fy_W g X_Y (fy_sI S id 1 v) s H1 locs1 → W p l e R s m args below meth c H1 locs1 cells slots Q (F0 m (pc + 3) ls rest)) : W p l e R s m args below meth c H locs cells slots Q (F0 m pc ls (.int v :: .ref (g.2.2.1 id) :: rest)) := fy_putI (k := 1) C w (X_o8 hk) rfl rfl ti_X8 tyX8 tyX8_ok nmX8 (by decide) tw638 rfl rfl rfl rfl hdg kk
theorem gfX8_35 {p : Program} {l : Launch} {e : Env} {R : Room} {s : State} {m : MethodId} {args : Array Value} {below : List Frame} {meth : Method} {c : Code} {H : Heap} {locs : List Loc} {cells slots : Nat} {Q : State → Prop} {g : fy_G} {S : fy_S} {cc : ByteArray} {nL : Nat} {rt : Option FieldType} {pc : Nat} {ls : Array Slot} {rest : List Value} {id : Nat} (C : fy_C g X_Y p s m args meth c RX8 cc nL rt) (w : fy_W g X_Y S s H locs) (hk : X_is 0 id) (hdg : decode cc pc = .ok (.getfield 35, 3)) (kk : W p l e R s m args below meth c H locs cells slots Q (F0 m (pc + 3) ls (.ref (g.2.2.1 (id + 1)) :: rest))) : W p l e R s m args below meth c H locs cells slots Q (F0 m pc ls (.ref (g.2.2.1 id) :: rest)) := fy_get (k := 0) C w (X_o0 hk) rfl rfl ti_X0 (by decide) tw644 hdg rfl kk
theorem gfX9_69 {p : Program} {l : Launch} {e : Env} {R : Room} {s : State} {m : MethodId} {args : Array Value} {below : List Frame} {meth : Method} {c : Code} {H : Heap} {locs : List Loc} {cells slots : Nat} {Q : State → Prop} {g : fy_G} {S : fy_S} {cc : ByteArray} {nL : Nat} {rt : Option FieldType} {pc : Nat} {ls : Array Slot} {rest : List Value} (C : fy_C g X_Y p s m args meth c RX9 cc nL rt) (w : fy_W g X_Y S s H locs) (hk : X_is 9 0) (hdg : decode cc pc = .ok (.getfield 69, 3)) (kk : W p l e R s m args below meth c H locs cells slots Q (F0 m (pc + 3) ls (.ref (g.2.2.1 32) :: rest))) : W p l e R s m args below meth c H locs cells slots Q (F0 m pc ls (.ref (g.2.2.1 0) :: rest)) := fy_get (k := 10) C w (X_o9 hk) rfl rfl ti_X9 (by decide) tw645 hdg rfl kk
theorem gfX9_46 {p : Program} {l : Launch} {e : Env} {R : Room} {s : State} {m : MethodId} {args : Array Value} {below : List Frame} {meth : Method} {c : Code} {H : Heap} {locs : List Loc} {cells slots : Nat} {Q : State → Prop} {g : fy_G} {S : fy_S} {cc : ByteArray} {nL : Nat} {rt : Option FieldType} {pc : Nat} {ls : Array Slot} {rest : List Value} (C : fy_C g X_Y p s m args meth c RX9 cc nL rt) (w : fy_W g X_Y S s H locs) (hk : X_is 9 0) (hdg : decode cc pc = .ok (.getfield 46, 3)) (kk : W p l e R s m args below meth c H locs cells slots Q (F0 m (pc + 3) ls (.ref (g.2.2.1 14) :: rest))) : W p l e R s m args below meth c H locs cells slots Q (F0 m pc ls (.ref (g.2.2.1 0) :: rest)) := fy_get (k := 6) C w (X_o9 hk) rfl rfl ti_X9 (by decide) tw650 hdg rfl kk
theorem pfX9_84 {p : Program} {l : Launch} {e : Env} {R : Room} {s : State} {m : MethodId} {args : Array Value} {below : List Frame} {meth : Method} {c : Code} {H : Heap} {locs : List Loc} {cells slots : Nat} {Q : State → Prop} {g : fy_G} {S : fy_S} {cc : ByteArray} {nL : Nat} {rt : Option FieldType} {pc : Nat} {ls : Array Slot} {rest : List Value} {v : Int32} (C : fy_C g X_Y p s m args meth c RX9 cc nL rt) (w : fy_W g X_Y S s H locs) (hk : X_is 9 0) (hdg : decode cc pc = .ok (.putfield 84, 3)) (kk : ∀ (H1 : Heap) (locs1 : List Loc), fy_W g X_Y (fy_sI S 0 13 v) s H1 locs1 → W p l e R s m args below meth c H1 locs1 cells slots Q (F0 m (pc + 3) ls rest)) : W p l e R s m args below meth c H locs cells slots Q (F0 m pc ls (.int v :: .ref (g.2.2.1 0) :: rest)) := fy_putI (k := 13) C w (X_o9 hk) rfl rfl ti_X9 tyX9 tyX9_ok nmX9 (by decide) tw659 rfl rfl rfl rfl hdg kk
theorem gfX6_22 {p : Program} {l : Launch} {e : Env} {R : Room} {s : State} {m : MethodId} {args : Array Value} {below : List Frame} {meth : Method} {c : Code} {H : Heap} {locs : List Loc} {cells slots : Nat} {Q : State → Prop} {g : fy_G} {S : fy_S} {cc : ByteArray} {nL : Nat} {rt : Option FieldType} {pc : Nat} {ls : Array Slot} {rest : List Value} (C : fy_C g X_Y p s m args meth c RX6 cc nL rt) (w : fy_W g X_Y S s H locs) (hk : X_is 6 34) (hdg : decode cc pc = .ok (.getfield 22, 3)) (kk : W p l e R s m args below meth c H locs cells slots Q (F0 m (pc + 3) ls (.int (S.1 34 3) :: rest))) : W p l e R s m args below meth c H locs cells slots Q (F0 m pc ls (.ref (g.2.2.1 34) :: rest)) := fy_get (k := 3) C w (X_o6 hk) rfl rfl ti_X6 (by decide) tw660 hdg rfl kk
theorem pfX6_22 {p : Program} {l : Launch} {e : Env} {R : Room} {s : State} {m : MethodId} {args : Array Value} {below : List Frame} {meth : Method} {c : Code} {H : Heap} {locs : List Loc} {cells slots : Nat} {Q : State → Prop} {g : fy_G} {S : fy_S} {cc : ByteArray} {nL : Nat} {rt : Option FieldType} {pc : Nat} {ls : Array Slot} {rest : List Value} {v : Int32} (C : fy_C g X_Y p s m args meth c RX6 cc nL rt) (w : fy_W g X_Y S s H locs) (hk : X_is 6 34) (hdg : decode cc pc = .ok (.putfield 22, 3)) (kk : ∀ (H1 : Heap) (locs1 : List Loc), fy_W g X_Y (fy_sI S 34 3 v) s H1 locs1 → W p l e R s m args below meth c H1 locs1 cells slots Q (F0 m (pc + 3) ls rest)) : W p l e R s m args below meth c H locs cells slots Q (F0 m pc ls (.int v :: .ref (g.2.2.1 34) :: rest)) := fy_putI (k := 3) C w (X_o6 hk) rfl rfl ti_X6 tyX6 tyX6_ok nmX6 (by decide) tw660 rfl rfl rfl rfl hdg kk
theorem gfX6_15 {p : Program} {l : Launch} {e : Env} {R : Room} {s : State} {m : MethodId} {args : Array Value} {below : List Frame} {meth : Method} {c : Code} {H : Heap} {locs : List Loc} {cells slots : Nat} {Q : State → Prop} {g : fy_G} {S : fy_S} {cc : ByteArray} {nL : Nat} {rt : Option FieldType} {pc : Nat} {ls : Array Slot} {rest : List Value} (C : fy_C g X_Y p s m args meth c RX6 cc nL rt) (w : fy_W g X_Y S s H locs) (hk : X_is 6 34) (hdg : decode cc pc = .ok (.getfield 15, 3)) (kk : W p l e R s m args below meth c H locs cells slots Q (F0 m (pc + 3) ls (.ref (g.2.2.1 36) :: rest))) : W p l e R s m args below meth c H locs cells slots Q (F0 m pc ls (.ref (g.2.2.1 34) :: rest)) := fy_get (k := 1) C w (X_o6 hk) rfl rfl ti_X6 (by decide) tw661 hdg rfl kk
theorem gfX6_9 {p : Program} {l : Launch} {e : Env} {R : Room} {s : State} {m : MethodId} {args : Array Value} {below : List Frame} {meth : Method} {c : Code} {H : Heap} {locs : List Loc} {cells slots : Nat} {Q : State → Prop} {g : fy_G} {S : fy_S} {cc : ByteArray} {nL : Nat} {rt : Option FieldType} {pc : Nat} {ls : Array Slot} {rest : List Value} (C : fy_C g X_Y p s m args meth c RX6 cc nL rt) (w : fy_W g X_Y S s H locs) (hk : X_is 6 34) (hdg : decode cc pc = .ok (.getfield 9, 3)) (kk : W p l e R s m args below meth c H locs cells slots Q (F0 m (pc + 3) ls (.ref (g.2.2.1 35) :: rest))) : W p l e R s m args below meth c H locs cells slots Q (F0 m pc ls (.ref (g.2.2.1 34) :: rest)) := fy_get (k := 0) C w (X_o6 hk) rfl rfl ti_X6 (by decide) tw662 hdg rfl kk
theorem gfX6_18 {p : Program} {l : Launch} {e : Env} {R : Room} {s : State} {m : MethodId} {args : Array Value} {below : List Frame} {meth : Method} {c : Code} {H : Heap} {locs : List Loc} {cells slots : Nat} {Q : State → Prop} {g : fy_G} {S : fy_S} {cc : ByteArray} {nL : Nat} {rt : Option FieldType} {pc : Nat} {ls : Array Slot} {rest : List Value} (C : fy_C g X_Y p s m args meth c RX6 cc nL rt) (w : fy_W g X_Y S s H locs) (hk : X_is 6 34) (hdg : decode cc pc = .ok (.getfield 18, 3)) (kk : W p l e R s m args below meth c H locs cells slots Q (F0 m (pc + 3) ls (.ref (g.2.2.1 37) :: rest))) : W p l e R s m args below meth c H locs cells slots Q (F0 m pc ls (.ref (g.2.2.1 34) :: rest)) := fy_get (k := 2) C w (X_o6 hk) rfl rfl ti_X6 (by decide) tw663 hdg rfl kk
theorem gfX6_38 {p : Program} {l : Launch} {e : Env} {R : Room} {s : State} {m : MethodId} {args : Array Value} {below : List Frame} {meth : Method} {c : Code} {H : Heap} {locs : List Loc} {cells slots : Nat} {Q : State → Prop} {g : fy_G} {S : fy_S} {cc : ByteArray} {nL : Nat} {rt : Option FieldType} {pc : Nat} {ls : Array Slot} {rest : List Value} {id : Nat} (C : fy_C g X_Y p s m args meth c RX6 cc nL rt) (w : fy_W g X_Y S s H locs) (hk : X_is 7 id) (hdg : decode cc pc = .ok (.getfield 38, 3)) (kk : W p l e R s m args below meth c H locs cells slots Q (F0 m (pc + 3) ls (.int (S.1 id 6) :: rest))) : W p l e R s m args below meth c H locs cells slots Q (F0 m pc ls (.ref (g.2.2.1 id) :: rest)) := fy_get (k := 6) C w (X_o7 hk) rfl rfl ti_X7 (by decide) tw671 hdg rfl kk
theorem gfX6_55 {p : Program} {l : Launch} {e : Env} {R : Room} {s : State} {m : MethodId} {args : Array Value} {below : List Frame} {meth : Method} {c : Code} {H : Heap} {locs : List Loc} {cells slots : Nat} {Q : State → Prop} {g : fy_G} {S : fy_S} {cc : ByteArray} {nL : Nat} {rt : Option FieldType} {pc : Nat} {ls : Array Slot} {rest : List Value} {id : Nat} (C : fy_C g X_Y p s m args meth c RX6 cc nL rt) (w : fy_W g X_Y S s H locs) (hk : X_is 7 id) (hdg : decode cc pc = .ok (.getfield 55, 3)) (kk : W p l e R s m args below meth c H locs cells slots Q (F0 m (pc + 3) ls (.int (S.1 id 5) :: rest))) : W p l e R s m args below meth c H locs cells slots Q (F0 m pc ls (.ref (g.2.2.1 id) :: rest)) := fy_get (k := 5) C w (X_o7 hk) rfl rfl ti_X7 (by decide) tw679 hdg rfl kk
theorem pfX6_26 {p : Program} {l : Launch} {e : Env} {R : Room} {s : State} {m : MethodId} {args : Array Value} {below : List Frame} {meth : Method} {c : Code} {H : Heap} {locs : List Loc} {cells slots : Nat} {Q : State → Prop} {g : fy_G} {S : fy_S} {cc : ByteArray} {nL : Nat} {rt : Option FieldType} {pc : Nat} {ls : Array Slot} {rest : List Value} {v : Int32} (C : fy_C g X_Y p s m args meth c RX6 cc nL rt) (w : fy_W g X_Y S s H locs) (hk : X_is 6 34) (hdg : decode cc pc = .ok (.putfield 26, 3)) (kk : ∀ (H1 : Heap) (locs1 : List Loc), fy_W g X_Y (fy_sI S 34 4 v) s H1 locs1 → W p l e R s m args below meth c H1 locs1 cells slots Q (F0 m (pc + 3) ls rest)) : W p l e R s m args below meth c H locs cells slots Q (F0 m pc ls (.int v :: .ref (g.2.2.1 34) :: rest)) := fy_putI (k := 4) C w (X_o6 hk) rfl rfl ti_X6 tyX6 tyX6_ok nmX6 (by decide) tw683 rfl rfl rfl rfl hdg kk
theorem gfX9_63 {p : Program} {l : Launch} {e : Env} {R : Room} {s : State} {m : MethodId} {args : Array Value} {below : List Frame} {meth : Method} {c : Code} {H : Heap} {locs : List Loc} {cells slots : Nat} {Q : State → Prop} {g : fy_G} {S : fy_S} {cc : ByteArray} {nL : Nat} {rt : Option FieldType} {pc : Nat} {ls : Array Slot} {rest : List Value} (C : fy_C g X_Y p s m args meth c RX9 cc nL rt) (w : fy_W g X_Y S s H locs) (hk : X_is 9 0) (hdg : decode cc pc = .ok (.getfield 63, 3)) (kk : W p l e R s m args below meth c H locs cells slots Q (F0 m (pc + 3) ls (.ref (g.2.2.1 26) :: rest))) : W p l e R s m args below meth c H locs cells slots Q (F0 m pc ls (.ref (g.2.2.1 0) :: rest)) := fy_get (k := 9) C w (X_o9 hk) rfl rfl ti_X9 (by decide) tw684 hdg rfl kk
theorem gfX9_76 {p : Program} {l : Launch} {e : Env} {R : Room} {s : State} {m : MethodId} {args : Array Value} {below : List Frame} {meth : Method} {c : Code} {H : Heap} {locs : List Loc} {cells slots : Nat} {Q : State → Prop} {g : fy_G} {S : fy_S} {cc : ByteArray} {nL : Nat} {rt : Option FieldType} {pc : Nat} {ls : Array Slot} {rest : List Value} (C : fy_C g X_Y p s m args meth c RX9 cc nL rt) (w : fy_W g X_Y S s H locs) (hk : X_is 9 0) (hdg : decode cc pc = .ok (.getfield 76, 3)) (kk : W p l e R s m args below meth c H locs cells slots Q (F0 m (pc + 3) ls (.ref (g.2.2.1 34) :: rest))) : W p l e R s m args below meth c H locs cells slots Q (F0 m pc ls (.ref (g.2.2.1 0) :: rest)) := fy_get (k := 11) C w (X_o9 hk) rfl rfl ti_X9 (by decide) tw685 hdg rfl kk
theorem pfX6_66 {p : Program} {l : Launch} {e : Env} {R : Room} {s : State} {m : MethodId} {args : Array Value} {below : List Frame} {meth : Method} {c : Code} {H : Heap} {locs : List Loc} {cells slots : Nat} {Q : State → Prop} {g : fy_G} {S : fy_S} {cc : ByteArray} {nL : Nat} {rt : Option FieldType} {pc : Nat} {ls : Array Slot} {rest : List Value} {id : Nat} {v : Int32} (C : fy_C g X_Y p s m args meth c RX6 cc nL rt) (w : fy_W g X_Y S s H locs) (hk : X_is 8 id) (hdg : decode cc pc = .ok (.putfield 66, 3)) (kk : ∀ (H1 : Heap) (locs1 : List Loc), fy_W g X_Y (fy_sI S id 1 v) s H1 locs1 → W p l e R s m args below meth c H1 locs1 cells slots Q (F0 m (pc + 3) ls rest)) : W p l e R s m args below meth c H locs cells slots Q (F0 m pc ls (.int v :: .ref (g.2.2.1 id) :: rest)) := fy_putI (k := 1) C w (X_o8 hk) rfl rfl ti_X8 tyX8 tyX8_ok nmX8 (by decide) tw690 rfl rfl rfl rfl hdg kk
theorem gfX6_26 {p : Program} {l : Launch} {e : Env} {R : Room} {s : State} {m : MethodId} {args : Array Value} {below : List Frame} {meth : Method} {c : Code} {H : Heap} {locs : List Loc} {cells slots : Nat} {Q : State → Prop} {g : fy_G} {S : fy_S} {cc : ByteArray} {nL : Nat} {rt : Option FieldType} {pc : Nat} {ls : Array Slot} {rest : List Value} (C : fy_C g X_Y p s m args meth c RX6 cc nL rt) (w : fy_W g X_Y S s H locs) (hk : X_is 6 34) (hdg : decode cc pc = .ok (.getfield 26, 3)) (kk : W p l e R s m args below meth c H locs cells slots Q (F0 m (pc + 3) ls (.int (S.1 34 4) :: rest))) : W p l e R s m args below meth c H locs cells slots Q (F0 m pc ls (.ref (g.2.2.1 34) :: rest)) := fy_get (k := 4) C w (X_o6 hk) rfl rfl ti_X6 (by decide) tw683 hdg rfl kk
theorem gfX9_84 {p : Program} {l : Launch} {e : Env} {R : Room} {s : State} {m : MethodId} {args : Array Value} {below : List Frame} {meth : Method} {c : Code} {H : Heap} {locs : List Loc} {cells slots : Nat} {Q : State → Prop} {g : fy_G} {S : fy_S} {cc : ByteArray} {nL : Nat} {rt : Option FieldType} {pc : Nat} {ls : Array Slot} {rest : List Value} (C : fy_C g X_Y p s m args meth c RX9 cc nL rt) (w : fy_W g X_Y S s H locs) (hk : X_is 9 0) (hdg : decode cc pc = .ok (.getfield 84, 3)) (kk : W p l e R s m args below meth c H locs cells slots Q (F0 m (pc + 3) ls (.int (S.1 0 13) :: rest))) : W p l e R s m args below meth c H locs cells slots Q (F0 m pc ls (.ref (g.2.2.1 0) :: rest)) := fy_get (k := 13) C w (X_o9 hk) rfl rfl ti_X9 (by decide) tw659 hdg rfl kk
theorem gfX7_25 {p : Program} {l : Launch} {e : Env} {R : Room} {s : State} {m : MethodId} {args : Array Value} {below : List Frame} {meth : Method} {c : Code} {H : Heap} {locs : List Loc} {cells slots : Nat} {Q : State → Prop} {g : fy_G} {S : fy_S} {cc : ByteArray} {nL : Nat} {rt : Option FieldType} {pc : Nat} {ls : Array Slot} {rest : List Value} {id : Nat} (C : fy_C g X_Y p s m args meth c RX7 cc nL rt) (w : fy_W g X_Y S s H locs) (hk : X_is 7 id) (hdg : decode cc pc = .ok (.getfield 25, 3)) (kk : W p l e R s m args below meth c H locs cells slots Q (F0 m (pc + 3) ls (.ref (g.2.2.1 (id + 5)) :: rest))) : W p l e R s m args below meth c H locs cells slots Q (F0 m pc ls (.ref (g.2.2.1 id) :: rest)) := fy_get (k := 4) C w (X_o7 hk) rfl rfl ti_X7 (by decide) tw708 hdg rfl kk
theorem gfX7_21 {p : Program} {l : Launch} {e : Env} {R : Room} {s : State} {m : MethodId} {args : Array Value} {below : List Frame} {meth : Method} {c : Code} {H : Heap} {locs : List Loc} {cells slots : Nat} {Q : State → Prop} {g : fy_G} {S : fy_S} {cc : ByteArray} {nL : Nat} {rt : Option FieldType} {pc : Nat} {ls : Array Slot} {rest : List Value} {id : Nat} (C : fy_C g X_Y p s m args meth c RX7 cc nL rt) (w : fy_W g X_Y S s H locs) (hk : X_is 7 id) (hdg : decode cc pc = .ok (.getfield 21, 3)) (kk : W p l e R s m args below meth c H locs cells slots Q (F0 m (pc + 3) ls (.ref (g.2.2.1 (id + 4)) :: rest))) : W p l e R s m args below meth c H locs cells slots Q (F0 m pc ls (.ref (g.2.2.1 id) :: rest)) := fy_get (k := 3) C w (X_o7 hk) rfl rfl ti_X7 (by decide) tw712 hdg rfl kk
theorem gfX9_261 {p : Program} {l : Launch} {e : Env} {R : Room} {s : State} {m : MethodId} {args : Array Value} {below : List Frame} {meth : Method} {c : Code} {H : Heap} {locs : List Loc} {cells slots : Nat} {Q : State → Prop} {g : fy_G} {S : fy_S} {cc : ByteArray} {nL : Nat} {rt : Option FieldType} {pc : Nat} {ls : Array Slot} {rest : List Value} {id : Nat} (C : fy_C g X_Y p s m args meth c RX9 cc nL rt) (w : fy_W g X_Y S s H locs) (hk : X_is 2 id) (hdg : decode cc pc = .ok (.getfield 261, 3)) (kk : W p l e R s m args below meth c H locs cells slots Q (F0 m (pc + 3) ls (.int (S.1 id 1) :: rest))) : W p l e R s m args below meth c H locs cells slots Q (F0 m pc ls (.ref (g.2.2.1 id) :: rest)) := fy_get (k := 1) C w (X_o2 hk) rfl rfl ti_X2 (by decide) tw765 hdg rfl kk
theorem gfX9_19 {p : Program} {l : Launch} {e : Env} {R : Room} {s : State} {m : MethodId} {args : Array Value} {below : List Frame} {meth : Method} {c : Code} {H : Heap} {locs : List Loc} {cells slots : Nat} {Q : State → Prop} {g : fy_G} {S : fy_S} {cc : ByteArray} {nL : Nat} {rt : Option FieldType} {pc : Nat} {ls : Array Slot} {rest : List Value} (C : fy_C g X_Y p s m args meth c RX9 cc nL rt) (w : fy_W g X_Y S s H locs) (hk : X_is 9 0) (hdg : decode cc pc = .ok (.getfield 19, 3)) (kk : W p l e R s m args below meth c H locs cells slots Q (F0 m (pc + 3) ls (.ref (g.2.2.1 284) :: rest))) : W p l e R s m args below meth c H locs cells slots Q (F0 m pc ls (.ref (g.2.2.1 0) :: rest)) := fy_get (k := 2) C w (X_o9 hk) rfl rfl ti_X9 (by decide) tw766 hdg rfl kk
theorem pfX9_80 {p : Program} {l : Launch} {e : Env} {R : Room} {s : State} {m : MethodId} {args : Array Value} {below : List Frame} {meth : Method} {c : Code} {H : Heap} {locs : List Loc} {cells slots : Nat} {Q : State → Prop} {g : fy_G} {S : fy_S} {cc : ByteArray} {nL : Nat} {rt : Option FieldType} {pc : Nat} {ls : Array Slot} {rest : List Value} {v : Int32} (C : fy_C g X_Y p s m args meth c RX9 cc nL rt) (w : fy_W g X_Y S s H locs) (hk : X_is 9 0) (hdg : decode cc pc = .ok (.putfield 80, 3)) (hn : narrow .boolean (.int v) = .int v) (hf : fits .boolean (.int v) = true) (kk : ∀ (H1 : Heap) (locs1 : List Loc), fy_W g X_Y (fy_sI S 0 12 v) s H1 locs1 → W p l e R s m args below meth c H1 locs1 cells slots Q (F0 m (pc + 3) ls rest)) : W p l e R s m args below meth c H locs cells slots Q (F0 m pc ls (.int v :: .ref (g.2.2.1 0) :: rest)) := fy_putI (k := 12) C w (X_o9 hk) rfl rfl ti_X9 tyX9 tyX9_ok nmX9 (by decide) tw775 rfl rfl hn hf hdg kk
theorem gfX9_15 {p : Program} {l : Launch} {e : Env} {R : Room} {s : State} {m : MethodId} {args : Array Value} {below : List Frame} {meth : Method} {c : Code} {H : Heap} {locs : List Loc} {cells slots : Nat} {Q : State → Prop} {g : fy_G} {S : fy_S} {cc : ByteArray} {nL : Nat} {rt : Option FieldType} {pc : Nat} {ls : Array Slot} {rest : List Value} (C : fy_C g X_Y p s m args meth c RX9 cc nL rt) (w : fy_W g X_Y S s H locs) (hk : X_is 9 0) (hdg : decode cc pc = .ok (.getfield 15, 3)) (kk : W p l e R s m args below meth c H locs cells slots Q (F0 m (pc + 3) ls (.ref (g.2.2.1 2) :: rest))) : W p l e R s m args below meth c H locs cells slots Q (F0 m pc ls (.ref (g.2.2.1 0) :: rest)) := fy_get (k := 1) C w (X_o9 hk) rfl rfl ti_X9 (by decide) tw776 hdg rfl kk
theorem gfX9_80 {p : Program} {l : Launch} {e : Env} {R : Room} {s : State} {m : MethodId} {args : Array Value} {below : List Frame} {meth : Method} {c : Code} {H : Heap} {locs : List Loc} {cells slots : Nat} {Q : State → Prop} {g : fy_G} {S : fy_S} {cc : ByteArray} {nL : Nat} {rt : Option FieldType} {pc : Nat} {ls : Array Slot} {rest : List Value} (C : fy_C g X_Y p s m args meth c RX9 cc nL rt) (w : fy_W g X_Y S s H locs) (hk : X_is 9 0) (hdg : decode cc pc = .ok (.getfield 80, 3)) (kk : W p l e R s m args below meth c H locs cells slots Q (F0 m (pc + 3) ls (.int (S.1 0 12) :: rest))) : W p l e R s m args below meth c H locs cells slots Q (F0 m pc ls (.ref (g.2.2.1 0) :: rest)) := fy_get (k := 12) C w (X_o9 hk) rfl rfl ti_X9 (by decide) tw775 hdg rfl kk
theorem ksX0_40 : fy_kV RX0 40 yX2_becomeFalse cX2_becomeFalse 1 none 0 := ⟨tw255, tw256, tw257, tw258, tw259, (by decide +kernel), (by decide +kernel), (by decide +kernel)⟩
theorem ksX0_43 : fy_kS RX0 43 yJ7_fill_53178 cJ7_fill_53178 4 none 2 := ⟨tw262, tw263, tw264, tw265, (by decide +kernel), (by decide +kernel), (by decide +kernel)⟩
theorem ksX9_88 : fy_kV RX9 88 yX9_automatonIn cX9_automatonIn 2 (some (.object "AlternatingAutomata$Automaton")) 1 := ⟨tw267, tw268, tw269, tw270, tw271, (by decide +kernel), (by decide +kernel), (by decide +kernel)⟩
theorem ksX9_92 : fy_kS RX9 92 yX9_isWithin cX9_isWithin 3 (some .boolean) 3 := ⟨tw272, tw273, tw270, tw274, (by decide +kernel), (by decide +kernel), (by decide +kernel)⟩
theorem ksX9_99 : fy_kV RX9 99 yX0_clear cX0_clear 4 none 2 := ⟨tw276, tw277, tw278, tw279, tw280, (by decide +kernel), (by decide +kernel), (by decide +kernel)⟩
theorem ksX9_103 : fy_kV RX9 103 yX0_hasState cX0_hasState 2 (some .boolean) 1 := ⟨tw281, tw282, tw283, tw279, tw284, (by decide +kernel), (by decide +kernel), (by decide +kernel)⟩
theorem ksX9_110 : fy_kV RX9 110 yX0_hasLetter cX0_hasLetter 2 (some .boolean) 1 := ⟨tw286, tw287, tw288, tw279, tw289, (by decide +kernel), (by decide +kernel), (by decide +kernel)⟩
theorem ksX9_120 : fy_kV RX9 120 yX4_add cX4_add 4 none 2 := ⟨tw295, tw296, tw297, tw298, tw299, (by decide +kernel), (by decide +kernel), (by decide +kernel)⟩
theorem ksX0_49 : fy_kV RX0 49 yX0_hasState cX0_hasState 2 (some .boolean) 1 := ⟨tw300, tw282, tw283, tw279, tw284, (by decide +kernel), (by decide +kernel), (by decide +kernel)⟩
theorem ksX0_53 : fy_kV RX0 53 yX0_hasLetter cX0_hasLetter 2 (some .boolean) 1 := ⟨tw301, tw287, tw288, tw279, tw289, (by decide +kernel), (by decide +kernel), (by decide +kernel)⟩
theorem ksX0_56 : fy_kV RX0 56 yX0_move cX0_move 3 (some (.object "AlternatingAutomata$Formula")) 2 := ⟨tw302, tw303, tw304, tw279, tw305, (by decide +kernel), (by decide +kernel), (by decide +kernel)⟩
theorem ksX9_275 : fy_kV RX9 275 yX0_formula cX0_formula 3 (some (.object "AlternatingAutomata$Formula")) 2 := ⟨tw306, tw307, tw308, tw279, tw309, (by decide +kernel), (by decide +kernel), (by decide +kernel)⟩
theorem ksX4_84 : fy_kV RX4 84 yX4_addWaiting cX4_addWaiting 2 none 1 := ⟨tw312, tw313, tw314, tw298, tw315, (by decide +kernel), (by decide +kernel), (by decide +kernel)⟩
theorem ksX4_72 : fy_kV RX4 72 yX4_addNode cX4_addNode 2 none 1 := ⟨tw320, tw321, tw322, tw298, tw323, (by decide +kernel), (by decide +kernel), (by decide +kernel)⟩
theorem ksX4_75 : fy_kS RX4 75 yX4_leafTable cX4_leafTable 1 (some .long) 1 := ⟨tw326, tw327, tw298, tw328, (by decide +kernel), (by decide +kernel), (by decide +kernel)⟩
theorem ksX4_90 : fy_kN RX4 90 yX9_joinTables RX9 cX9_joinTables 5 (some .long) 3 := ⟨tw329, tw330, tw270, tw331, (by decide +kernel), (by decide +kernel), (by decide +kernel)⟩
theorem ksX4_87 : fy_kV RX4 87 yX4_applyOperator cX4_applyOperator 2 none 1 := ⟨tw332, tw333, tw334, tw298, tw335, (by decide +kernel), (by decide +kernel), (by decide +kernel)⟩
theorem ksX4_69 : fy_kV RX4 69 yX4_applyWaiting cX4_applyWaiting 3 none 1 := ⟨tw336, tw337, tw338, tw298, tw339, (by decide +kernel), (by decide +kernel), (by decide +kernel)⟩
theorem ksX4_66 : fy_kV RX4 66 yX4_addOperator cX4_addOperator 2 none 1 := ⟨tw340, tw341, tw342, tw298, tw343, (by decide +kernel), (by decide +kernel), (by decide +kernel)⟩
theorem ksX4_63 : fy_kV RX4 63 yX4_closeGroup cX4_closeGroup 1 none 0 := ⟨tw344, tw345, tw346, tw298, tw347, (by decide +kernel), (by decide +kernel), (by decide +kernel)⟩
theorem ksX4_55 : fy_kS RX4 55 yX4_leafFor cX4_leafFor 3 (some .int) 2 := ⟨tw348, tw349, tw298, tw350, (by decide +kernel), (by decide +kernel), (by decide +kernel)⟩
theorem ksX4_59 : fy_kV RX4 59 yX4_addLeaf cX4_addLeaf 2 none 1 := ⟨tw351, tw352, tw353, tw298, tw354, (by decide +kernel), (by decide +kernel), (by decide +kernel)⟩
theorem ksX4_52 : fy_kV RX4 52 yX4_openGroup cX4_openGroup 1 none 0 := ⟨tw355, tw356, tw357, tw298, tw358, (by decide +kernel), (by decide +kernel), (by decide +kernel)⟩
theorem ksX4_42 : fy_kV RX4 42 yX4_parse cX4_parse 6 (some .int) 1 := ⟨tw363, tw364, tw365, tw298, tw366, (by decide +kernel), (by decide +kernel), (by decide +kernel)⟩
theorem ksX4_46 : fy_kV RX4 46 yX2_become cX2_become 5 none 3 := ⟨tw367, tw368, tw369, tw258, tw370, (by decide +kernel), (by decide +kernel), (by decide +kernel)⟩
theorem ksX9_131 : fy_kV RX9 131 yX9_formulaIn cX9_formulaIn 5 (some (.object "AlternatingAutomata$Formula")) 3 := ⟨tw371, tw372, tw373, tw270, tw374, (by decide +kernel), (by decide +kernel), (by decide +kernel)⟩
theorem ksX9_278 : fy_kV RX9 278 yX4_readInto cX4_readInto 4 (some .int) 2 := ⟨tw375, tw376, tw377, tw298, tw378, (by decide +kernel), (by decide +kernel), (by decide +kernel)⟩
theorem ksX9_124 : fy_kV RX9 124 yX9_readFormula cX9_readFormula 7 (some .int) 3 := ⟨tw379, tw380, tw381, tw270, tw382, (by decide +kernel), (by decide +kernel), (by decide +kernel)⟩
theorem ksX3_49 : fy_kV RX3 49 yX3_insert cX3_insert 4 none 2 := ⟨tw388, tw389, tw390, tw391, tw392, (by decide +kernel), (by decide +kernel), (by decide +kernel)⟩
theorem ksX3_45 : fy_kS RX3 45 yX3_leafSign cX3_leafSign 1 (some .char) 1 := ⟨tw394, tw395, tw391, tw396, (by decide +kernel), (by decide +kernel), (by decide +kernel)⟩
theorem ksX3_34 : fy_kV RX3 34 yX2_nodeAt cX2_nodeAt 2 (some .int) 1 := ⟨tw398, tw399, tw400, tw258, tw401, (by decide +kernel), (by decide +kernel), (by decide +kernel)⟩
theorem ksX3_38 : fy_kV RX3 38 yX3_joinParts cX3_joinParts 4 none 1 := ⟨tw402, tw403, tw404, tw391, tw405, (by decide +kernel), (by decide +kernel), (by decide +kernel)⟩
theorem ksX3_42 : fy_kV RX3 42 yX3_addPart cX3_addPart 2 none 1 := ⟨tw406, tw407, tw408, tw391, tw409, (by decide +kernel), (by decide +kernel), (by decide +kernel)⟩
theorem ksX9_135 : fy_kV RX9 135 yX3_write cX3_write 4 none 1 := ⟨tw411, tw412, tw413, tw391, tw414, (by decide +kernel), (by decide +kernel), (by decide +kernel)⟩
theorem ksX2_26 : fy_kN RX2 26 yX9_isIn RX9 cX9_isIn 3 (some .boolean) 2 := ⟨tw417, tw418, tw270, tw419, (by decide +kernel), (by decide +kernel), (by decide +kernel)⟩
theorem ksX9_144 : fy_kV RX9 144 yX0_hasSet cX0_hasSet 2 (some .boolean) 1 := ⟨tw420, tw421, tw422, tw279, tw423, (by decide +kernel), (by decide +kernel), (by decide +kernel)⟩
theorem ksX9_147 : fy_kV RX9 147 yX2_holdsIn cX2_holdsIn 2 (some .boolean) 1 := ⟨tw424, tw425, tw426, tw258, tw427, (by decide +kernel), (by decide +kernel), (by decide +kernel)⟩
theorem ksX9_288 : fy_kS RX9 288 yX9_isIn cX9_isIn 3 (some .boolean) 2 := ⟨tw436, tw418, tw270, tw419, (by decide +kernel), (by decide +kernel), (by decide +kernel)⟩
theorem ksX9_292 : fy_kS RX9 292 yJ6_bitCount_0f7a4 cJ6_bitCount_0f7a4 1 (some .int) 1 := ⟨tw437, tw438, tw439, tw440, (by decide +kernel), (by decide +kernel), (by decide +kernel)⟩
theorem ksX9_156 : fy_kS RX9 156 yX9_minimalSets cX9_minimalSets 5 (some .long) 1 := ⟨tw442, tw443, tw270, tw444, (by decide +kernel), (by decide +kernel), (by decide +kernel)⟩
theorem ksX9_166 : fy_kS RX9 166 yX9_setAtPosition cX9_setAtPosition 6 (some .int) 2 := ⟨tw445, tw446, tw270, tw447, (by decide +kernel), (by decide +kernel), (by decide +kernel)⟩
theorem ksX9_160 : fy_kS RX9 160 yJ13_bitCount_95d88 cJ13_bitCount_95d88 2 (some .int) 1 := ⟨tw448, tw449, tw450, tw451, (by decide +kernel), (by decide +kernel), (by decide +kernel)⟩
theorem ksX9_171 : fy_kV RX9 171 yX8_add cX8_add 2 none 1 := ⟨tw456, tw457, tw458, tw459, tw460, (by decide +kernel), (by decide +kernel), (by decide +kernel)⟩
theorem ksX8_23 : fy_kV RX8 23 yX0_hasLetter cX0_hasLetter 2 (some .boolean) 1 := ⟨tw461, tw287, tw288, tw279, tw289, (by decide +kernel), (by decide +kernel), (by decide +kernel)⟩
theorem ksX0_89 : fy_kV RX0 89 yX2_holdsIn cX2_holdsIn 2 (some .boolean) 1 := ⟨tw462, tw425, tw426, tw258, tw427, (by decide +kernel), (by decide +kernel), (by decide +kernel)⟩
theorem ksX8_32 : fy_kV RX8 32 yX0_statesBefore cX0_statesBefore 5 (some .int) 2 := ⟨tw464, tw465, tw466, tw279, tw467, (by decide +kernel), (by decide +kernel), (by decide +kernel)⟩
theorem ksX9_173 : fy_kV RX9 173 yX8_fits cX8_fits 3 (some .boolean) 1 := ⟨tw468, tw469, tw470, tw459, tw471, (by decide +kernel), (by decide +kernel), (by decide +kernel)⟩
theorem ksX9_177 : fy_kV RX9 177 yX8_acceptedFrom cX8_acceptedFrom 5 (some .int) 2 := ⟨tw472, tw473, tw474, tw459, tw475, (by decide +kernel), (by decide +kernel), (by decide +kernel)⟩
theorem ksX5_51 : fy_kS RX5 51 yX5_isPosition cX5_isPosition 2 (some .boolean) 2 := ⟨tw477, tw478, tw479, tw480, (by decide +kernel), (by decide +kernel), (by decide +kernel)⟩
theorem ksX5_70 : fy_kV RX5 70 yX5_valueAt cX5_valueAt 3 (some .int) 2 := ⟨tw482, tw483, tw484, tw479, tw485, (by decide +kernel), (by decide +kernel), (by decide +kernel)⟩
theorem ksX5_60 : fy_kV RX5 60 yX2_nodeAt cX2_nodeAt 2 (some .int) 1 := ⟨tw496, tw399, tw400, tw258, tw401, (by decide +kernel), (by decide +kernel), (by decide +kernel)⟩
theorem ksX5_67 : fy_kV RX5 67 yX5_joinParts cX5_joinParts 7 none 3 := ⟨tw497, tw498, tw499, tw479, tw500, (by decide +kernel), (by decide +kernel), (by decide +kernel)⟩
theorem ksX5_63 : fy_kV RX5 63 yX5_leafValue cX5_leafValue 3 (some .int) 2 := ⟨tw501, tw502, tw503, tw479, tw504, (by decide +kernel), (by decide +kernel), (by decide +kernel)⟩
theorem ksX5_39 : fy_kV RX5 39 yX8_letterAt cX8_letterAt 2 (some .int) 1 := ⟨tw507, tw508, tw509, tw459, tw510, (by decide +kernel), (by decide +kernel), (by decide +kernel)⟩
theorem ksX5_43 : fy_kV RX5 43 yX0_move cX0_move 3 (some (.object "AlternatingAutomata$Formula")) 2 := ⟨tw511, tw303, tw304, tw279, tw305, (by decide +kernel), (by decide +kernel), (by decide +kernel)⟩
theorem ksX5_47 : fy_kV RX5 47 yX5_evaluate cX5_evaluate 6 none 2 := ⟨tw512, tw513, tw514, tw479, tw515, (by decide +kernel), (by decide +kernel), (by decide +kernel)⟩
theorem ksX5_35 : fy_kV RX5 35 yX5_setValue cX5_setValue 4 none 3 := ⟨tw516, tw517, tw518, tw479, tw519, (by decide +kernel), (by decide +kernel), (by decide +kernel)⟩
theorem ksX9_185 : fy_kV RX9 185 yX5_solve cX5_solve 6 none 3 := ⟨tw522, tw523, tw524, tw479, tw525, (by decide +kernel), (by decide +kernel), (by decide +kernel)⟩
theorem ksX9_189 : fy_kV RX9 189 yX5_valueAt cX5_valueAt 3 (some .int) 2 := ⟨tw526, tw483, tw484, tw479, tw485, (by decide +kernel), (by decide +kernel), (by decide +kernel)⟩
theorem ksX9_193 : fy_kV RX9 193 yX8_letterAt cX8_letterAt 2 (some .int) 1 := ⟨tw527, tw508, tw509, tw459, tw510, (by decide +kernel), (by decide +kernel), (by decide +kernel)⟩
theorem ksX9_197 : fy_kV RX9 197 yX0_move cX0_move 3 (some (.object "AlternatingAutomata$Formula")) 2 := ⟨tw528, tw303, tw304, tw279, tw305, (by decide +kernel), (by decide +kernel), (by decide +kernel)⟩
theorem ksX9_201 : fy_kV RX9 201 yX5_statesLedTo cX5_statesLedTo 3 (some .int) 2 := ⟨tw529, tw530, tw531, tw479, tw532, (by decide +kernel), (by decide +kernel), (by decide +kernel)⟩
theorem ksX9_205 : fy_kV RX9 205 yX0_statesBefore cX0_statesBefore 5 (some .int) 2 := ⟨tw533, tw465, tw466, tw279, tw467, (by decide +kernel), (by decide +kernel), (by decide +kernel)⟩
theorem ksX7_57 : fy_kV RX7 57 yX0_statesBefore cX0_statesBefore 5 (some .int) 2 := ⟨tw543, tw465, tw466, tw279, tw467, (by decide +kernel), (by decide +kernel), (by decide +kernel)⟩
theorem ksX7_61 : fy_kN RX7 61 yX9_isIn RX9 cX9_isIn 3 (some .boolean) 2 := ⟨tw544, tw418, tw270, tw419, (by decide +kernel), (by decide +kernel), (by decide +kernel)⟩
theorem ksX7_71 : fy_kV RX7 71 yX7_step cX7_step 4 (some .int) 2 := ⟨tw545, tw546, tw547, tw548, tw549, (by decide +kernel), (by decide +kernel), (by decide +kernel)⟩
theorem ksX7_65 : fy_kV RX7 65 yX7_stepAll cX7_stepAll 7 (some .long) 1 := ⟨tw550, tw551, tw552, tw548, tw553, (by decide +kernel), (by decide +kernel), (by decide +kernel)⟩
theorem ksX9_208 : fy_kV RX9 208 yX7_load cX7_load 5 none 1 := ⟨tw556, tw557, tw558, tw548, tw559, (by decide +kernel), (by decide +kernel), (by decide +kernel)⟩
theorem ksX9_212 : fy_kV RX9 212 yX7_reachable cX7_reachable 6 (some .long) 0 := ⟨tw560, tw561, tw562, tw548, tw563, (by decide +kernel), (by decide +kernel), (by decide +kernel)⟩
theorem ksX7_92 : fy_kV RX7 92 yX7_areTwins cX7_areTwins 5 (some .boolean) 2 := ⟨tw565, tw566, tw567, tw548, tw568, (by decide +kernel), (by decide +kernel), (by decide +kernel)⟩
theorem ksX7_82 : fy_kV RX7 82 yX7_earlierTwin cX7_earlierTwin 5 (some .int) 2 := ⟨tw571, tw572, tw573, tw548, tw574, (by decide +kernel), (by decide +kernel), (by decide +kernel)⟩
theorem ksX7_74 : fy_kV RX7 74 yX7_reachable cX7_reachable 6 (some .long) 0 := ⟨tw575, tw561, tw562, tw548, tw563, (by decide +kernel), (by decide +kernel), (by decide +kernel)⟩
theorem ksX7_78 : fy_kV RX7 78 yX7_refine cX7_refine 6 (some .int) 1 := ⟨tw576, tw577, tw578, tw548, tw579, (by decide +kernel), (by decide +kernel), (by decide +kernel)⟩
theorem ksX9_216 : fy_kV RX9 216 yX7_countClasses cX7_countClasses 6 (some .int) 0 := ⟨tw580, tw581, tw582, tw548, tw583, (by decide +kernel), (by decide +kernel), (by decide +kernel)⟩
theorem ksX0_114 : fy_kN RX0 114 yX9_isIn RX9 cX9_isIn 3 (some .boolean) 2 := ⟨tw586, tw418, tw270, tw419, (by decide +kernel), (by decide +kernel), (by decide +kernel)⟩
theorem ksX0_118 : fy_kV RX0 118 yX0_tableOfAll cX0_tableOfAll 6 (some .long) 2 := ⟨tw587, tw588, tw589, tw279, tw590, (by decide +kernel), (by decide +kernel), (by decide +kernel)⟩
theorem ksX0_104 : fy_kN RX0 104 yX9_minimalSets RX9 cX9_minimalSets 5 (some .long) 1 := ⟨tw591, tw443, tw270, tw444, (by decide +kernel), (by decide +kernel), (by decide +kernel)⟩
theorem ksX0_108 : fy_kV RX0 108 yX0_existentialNext cX0_existentialNext 7 (some .long) 2 := ⟨tw592, tw593, tw594, tw279, tw595, (by decide +kernel), (by decide +kernel), (by decide +kernel)⟩
theorem ksX9_220 : fy_kV RX9 220 yX0_existentialReach cX0_existentialReach 9 (some .long) 0 := ⟨tw596, tw597, tw598, tw279, tw599, (by decide +kernel), (by decide +kernel), (by decide +kernel)⟩
theorem ksX9_227 : fy_kV RX9 227 yX0_acceptingSets cX0_acceptingSets 4 (some .long) 0 := ⟨tw600, tw601, tw602, tw279, tw603, (by decide +kernel), (by decide +kernel), (by decide +kernel)⟩
theorem ksX9_223 : fy_kV RX9 223 yX0_existentialNext cX0_existentialNext 7 (some .long) 2 := ⟨tw604, tw593, tw594, tw279, tw595, (by decide +kernel), (by decide +kernel), (by decide +kernel)⟩
theorem ksX0_92 : fy_kV RX0 92 yX2_statesInside cX2_statesInside 3 (some .int) 0 := ⟨tw605, tw606, tw607, tw258, tw608, (by decide +kernel), (by decide +kernel), (by decide +kernel)⟩
theorem ksX0_96 : fy_kV RX0 96 yX0_statesAfter cX0_statesAfter 5 (some .int) 1 := ⟨tw609, tw610, tw611, tw279, tw612, (by decide +kernel), (by decide +kernel), (by decide +kernel)⟩
theorem ksX9_230 : fy_kV RX9 230 yX0_statesThatMatter cX0_statesThatMatter 4 (some .int) 0 := ⟨tw613, tw614, tw615, tw279, tw616, (by decide +kernel), (by decide +kernel), (by decide +kernel)⟩
theorem ksX1_48 : fy_kS RX1 48 yX1_priceOf cX1_priceOf 3 (some .int) 2 := ⟨tw620, tw621, tw622, tw623, (by decide +kernel), (by decide +kernel), (by decide +kernel)⟩
theorem ksX1_52 : fy_kV RX1 52 yX7_step cX7_step 4 (some .int) 2 := ⟨tw624, tw546, tw547, tw548, tw549, (by decide +kernel), (by decide +kernel), (by decide +kernel)⟩
theorem ksX1_20 : fy_kS RX1 20 yJ7_fill_53178 cJ7_fill_53178 4 none 2 := ⟨tw625, tw263, tw264, tw265, (by decide +kernel), (by decide +kernel), (by decide +kernel)⟩
theorem ksX1_35 : fy_kV RX1 35 yX7_isAccepting cX7_isAccepting 2 (some .boolean) 1 := ⟨tw628, tw629, tw630, tw548, tw631, (by decide +kernel), (by decide +kernel), (by decide +kernel)⟩
theorem ksX1_31 : fy_kV RX1 31 yX1_lowerPrices cX1_lowerPrices 8 (some .boolean) 2 := ⟨tw633, tw634, tw635, tw622, tw636, (by decide +kernel), (by decide +kernel), (by decide +kernel)⟩
theorem ksX1_68 : fy_kN RX1 68 yX9_isIn RX9 cX9_isIn 3 (some .boolean) 2 := ⟨tw637, tw418, tw270, tw419, (by decide +kernel), (by decide +kernel), (by decide +kernel)⟩
theorem ksX1_64 : fy_kV RX1 64 yX8_add cX8_add 2 none 1 := ⟨tw639, tw457, tw458, tw459, tw460, (by decide +kernel), (by decide +kernel), (by decide +kernel)⟩
theorem ksX1_60 : fy_kV RX1 60 yX1_waysInto cX1_waysInto 9 (some .long) 4 := ⟨tw640, tw641, tw642, tw622, tw643, (by decide +kernel), (by decide +kernel), (by decide +kernel)⟩
theorem ksX9_233 : fy_kV RX9 233 yX1_search cX1_search 5 (some .boolean) 2 := ⟨tw646, tw647, tw648, tw622, tw649, (by decide +kernel), (by decide +kernel), (by decide +kernel)⟩
theorem ksX9_237 : fy_kV RX9 237 yX1_spell cX1_spell 12 none 3 := ⟨tw651, tw652, tw653, tw622, tw654, (by decide +kernel), (by decide +kernel), (by decide +kernel)⟩
theorem ksX9_241 : fy_kV RX9 241 yX8_costIn cX8_costIn 4 (some .int) 1 := ⟨tw655, tw656, tw657, tw459, tw658, (by decide +kernel), (by decide +kernel), (by decide +kernel)⟩
theorem ksX6_51 : fy_kV RX6 51 yX7_isAccepting cX7_isAccepting 2 (some .boolean) 1 := ⟨tw664, tw629, tw630, tw548, tw631, (by decide +kernel), (by decide +kernel), (by decide +kernel)⟩
theorem ksX6_62 : fy_kV RX6 62 yX7_step cX7_step 4 (some .int) 2 := ⟨tw665, tw546, tw547, tw548, tw549, (by decide +kernel), (by decide +kernel), (by decide +kernel)⟩
theorem ksX6_35 : fy_kV RX6 35 yX6_forgetLast cX6_forgetLast 2 none 0 := ⟨tw666, tw667, tw668, tw669, tw670, (by decide +kernel), (by decide +kernel), (by decide +kernel)⟩
theorem ksX6_43 : fy_kV RX6 43 yX6_reach cX6_reach 3 none 2 := ⟨tw672, tw673, tw674, tw669, tw675, (by decide +kernel), (by decide +kernel), (by decide +kernel)⟩
theorem ksX6_47 : fy_kS RX6 47 yX6_differs cX6_differs 3 (some .boolean) 3 := ⟨tw676, tw677, tw669, tw678, (by decide +kernel), (by decide +kernel), (by decide +kernel)⟩
theorem ksX6_58 : fy_kS RX6 58 yX6_stepPair cX6_stepPair 4 (some .int) 4 := ⟨tw680, tw681, tw669, tw682, (by decide +kernel), (by decide +kernel), (by decide +kernel)⟩
theorem ksX9_281 : fy_kV RX9 281 yX6_search cX6_search 7 (some .boolean) 3 := ⟨tw686, tw687, tw688, tw669, tw689, (by decide +kernel), (by decide +kernel), (by decide +kernel)⟩
theorem ksX6_71 : fy_kV RX6 71 yX6_levelBegin cX6_levelBegin 5 (some .int) 2 := ⟨tw691, tw692, tw693, tw669, tw694, (by decide +kernel), (by decide +kernel), (by decide +kernel)⟩
theorem ksX6_74 : fy_kV RX6 74 yX6_markLeading cX6_markLeading 10 (some .boolean) 5 := ⟨tw695, tw696, tw697, tw669, tw698, (by decide +kernel), (by decide +kernel), (by decide +kernel)⟩
theorem ksX6_78 : fy_kV RX6 78 yX8_add cX8_add 2 none 1 := ⟨tw699, tw457, tw458, tw459, tw460, (by decide +kernel), (by decide +kernel), (by decide +kernel)⟩
theorem ksX9_245 : fy_kV RX9 245 yX9_searchPairs cX9_searchPairs 4 (some .boolean) 3 := ⟨tw700, tw701, tw702, tw270, tw703, (by decide +kernel), (by decide +kernel), (by decide +kernel)⟩
theorem ksX9_249 : fy_kV RX9 249 yX6_spell cX6_spell 10 none 3 := ⟨tw704, tw705, tw706, tw669, tw707, (by decide +kernel), (by decide +kernel), (by decide +kernel)⟩
theorem ksX7_96 : fy_kS RX7 96 yJ7_fill_d0a16 cJ7_fill_d0a16 5 none 2 := ⟨tw709, tw710, tw264, tw711, (by decide +kernel), (by decide +kernel), (by decide +kernel)⟩
theorem ksX7_102 : fy_kV RX7 102 yX7_countOneLetterMore cX7_countOneLetterMore 3 none 0 := ⟨tw713, tw714, tw715, tw548, tw716, (by decide +kernel), (by decide +kernel), (by decide +kernel)⟩
theorem ksX9_254 : fy_kV RX9 254 yX7_countAccepted cX7_countAccepted 5 (some .long) 1 := ⟨tw717, tw718, tw719, tw548, tw720, (by decide +kernel), (by decide +kernel), (by decide +kernel)⟩
theorem ksX2_44 : fy_kS RX2 44 yX2_dualTable cX2_dualTable 5 (some .long) 1 := ⟨tw722, tw723, tw258, tw724, (by decide +kernel), (by decide +kernel), (by decide +kernel)⟩
theorem ksX2_40 : fy_kS RX2 40 yX2_dualNode cX2_dualNode 1 (some .byte) 1 := ⟨tw725, tw726, tw258, tw727, (by decide +kernel), (by decide +kernel), (by decide +kernel)⟩
theorem ksX0_60 : fy_kV RX0 60 yX0_takeShape cX0_takeShape 3 none 2 := ⟨tw728, tw729, tw730, tw279, tw731, (by decide +kernel), (by decide +kernel), (by decide +kernel)⟩
theorem ksX0_78 : fy_kV RX0 78 yX2_becomeDual cX2_becomeDual 3 none 1 := ⟨tw732, tw733, tw734, tw258, tw735, (by decide +kernel), (by decide +kernel), (by decide +kernel)⟩
theorem ksX9_258 : fy_kV RX9 258 yX0_becomeDual cX0_becomeDual 4 none 1 := ⟨tw736, tw737, tw738, tw279, tw739, (by decide +kernel), (by decide +kernel), (by decide +kernel)⟩
theorem ksX2_48 : fy_kV RX2 48 yX2_addShifted cX2_addShifted 5 none 2 := ⟨tw740, tw741, tw742, tw258, tw743, (by decide +kernel), (by decide +kernel), (by decide +kernel)⟩
theorem ksX2_52 : fy_kS RX2 52 yX2_shiftedTable cX2_shiftedTable 6 (some .long) 2 := ⟨tw744, tw745, tw258, tw746, (by decide +kernel), (by decide +kernel), (by decide +kernel)⟩
theorem ksX2_56 : fy_kN RX2 56 yX9_joinTables RX9 cX9_joinTables 5 (some .long) 3 := ⟨tw747, tw330, tw270, tw331, (by decide +kernel), (by decide +kernel), (by decide +kernel)⟩
theorem ksX2_36 : fy_kV RX2 36 yX2_become cX2_become 5 none 3 := ⟨tw748, tw368, tw369, tw258, tw370, (by decide +kernel), (by decide +kernel), (by decide +kernel)⟩
theorem ksX0_64 : fy_kV RX0 64 yX2_copy cX2_copy 2 none 1 := ⟨tw749, tw750, tw751, tw258, tw752, (by decide +kernel), (by decide +kernel), (by decide +kernel)⟩
theorem ksX0_81 : fy_kV RX0 81 yX2_becomeJoin cX2_becomeJoin 5 none 4 := ⟨tw753, tw754, tw755, tw258, tw756, (by decide +kernel), (by decide +kernel), (by decide +kernel)⟩
theorem ksX0_68 : fy_kV RX0 68 yX0_copyMoves cX0_copyMoves 4 none 1 := ⟨tw757, tw758, tw759, tw279, tw760, (by decide +kernel), (by decide +kernel), (by decide +kernel)⟩
theorem ksX0_85 : fy_kV RX0 85 yX2_becomeShifted cX2_becomeShifted 3 none 2 := ⟨tw761, tw762, tw763, tw258, tw764, (by decide +kernel), (by decide +kernel), (by decide +kernel)⟩
theorem ksX9_264 : fy_kV RX9 264 yX0_becomeJoin cX0_becomeJoin 7 none 3 := ⟨tw767, tw768, tw769, tw279, tw770, (by decide +kernel), (by decide +kernel), (by decide +kernel)⟩
theorem ksX9_268 : fy_kV RX9 268 yX0_copy cX0_copy 2 none 1 := ⟨tw771, tw772, tw773, tw279, tw774, (by decide +kernel), (by decide +kernel), (by decide +kernel)⟩
theorem ksX9_271 : fy_kS RX9 271 yX9_copyAll cX9_copyAll 4 (some .int) 2 := ⟨tw777, tw778, tw270, tw779, (by decide +kernel), (by decide +kernel), (by decide +kernel)⟩
