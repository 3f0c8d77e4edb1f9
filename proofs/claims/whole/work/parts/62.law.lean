theorem tl0 : Cond.methodLink RL 13 yX9_create ∈ fy_tb := fy_inR (i := 317) (by decide +kernel) rfl
theorem tl1 : Cond.instanceMethod yX9_create ∈ fy_tb := fy_inR (i := 318) (by decide +kernel) rfl
theorem tl2 : Cond.selects RX9 yX9_create yX9_create ∈ fy_tb := fy_inR (i := 319) (by decide +kernel) rfl
theorem tl3 : Cond.initialized RX9 ∈ fy_tb := fy_inR (i := 1) (by decide +kernel) rfl
theorem tl4 : Cond.code yX9_create cX9_create 6 (some .int) ∈ fy_tb := fy_inR (i := 320) (by decide +kernel) rfl
theorem tl5 : Cond.methodLink RL 17 yX10_create ∈ fy_tb := fy_inR (i := 1030) (by decide +kernel) rfl
theorem tl6 : Cond.instanceMethod yX10_create ∈ fy_tb := fy_inR (i := 1031) (by decide +kernel) rfl
theorem tl7 : Cond.selects RX10 yX10_create yX10_create ∈ fy_tb := fy_inR (i := 1032) (by decide +kernel) rfl
theorem tl8 : Cond.initialized RX10 ∈ fy_tb := fy_inR (i := 13) (by decide +kernel) rfl
theorem tl9 : Cond.code yX10_create cX10_create 5 (some .int) ∈ fy_tb := fy_inR (i := 1033) (by decide +kernel) rfl
theorem tl10 : Cond.methodLink RL 18 yX9_setFinal ∈ fy_tb := fy_inR (i := 329) (by decide +kernel) rfl
theorem tl11 : Cond.instanceMethod yX9_setFinal ∈ fy_tb := fy_inR (i := 330) (by decide +kernel) rfl
theorem tl12 : Cond.selects RX9 yX9_setFinal yX9_setFinal ∈ fy_tb := fy_inR (i := 331) (by decide +kernel) rfl
theorem tl13 : Cond.code yX9_setFinal cX9_setFinal 6 (some .int) ∈ fy_tb := fy_inR (i := 332) (by decide +kernel) rfl
theorem tl14 : Cond.methodLink RL 21 yX10_setFinal ∈ fy_tb := fy_inR (i := 1040) (by decide +kernel) rfl
theorem tl15 : Cond.instanceMethod yX10_setFinal ∈ fy_tb := fy_inR (i := 1041) (by decide +kernel) rfl
theorem tl16 : Cond.selects RX10 yX10_setFinal yX10_setFinal ∈ fy_tb := fy_inR (i := 1042) (by decide +kernel) rfl
theorem tl17 : Cond.code yX10_setFinal cX10_setFinal 4 (some .int) ∈ fy_tb := fy_inR (i := 1043) (by decide +kernel) rfl
theorem tl18 : Cond.methodLink RL 22 yX9_setWeight ∈ fy_tb := fy_inR (i := 337) (by decide +kernel) rfl
theorem tl19 : Cond.instanceMethod yX9_setWeight ∈ fy_tb := fy_inR (i := 338) (by decide +kernel) rfl
theorem tl20 : Cond.selects RX9 yX9_setWeight yX9_setWeight ∈ fy_tb := fy_inR (i := 339) (by decide +kernel) rfl
theorem tl21 : Cond.code yX9_setWeight cX9_setWeight 6 (some .int) ∈ fy_tb := fy_inR (i := 340) (by decide +kernel) rfl
theorem tl22 : Cond.methodLink RL 25 yX10_setWeight ∈ fy_tb := fy_inR (i := 1048) (by decide +kernel) rfl
theorem tl23 : Cond.instanceMethod yX10_setWeight ∈ fy_tb := fy_inR (i := 1049) (by decide +kernel) rfl
theorem tl24 : Cond.selects RX10 yX10_setWeight yX10_setWeight ∈ fy_tb := fy_inR (i := 1050) (by decide +kernel) rfl
theorem tl25 : Cond.code yX10_setWeight cX10_setWeight 5 (some .int) ∈ fy_tb := fy_inR (i := 1051) (by decide +kernel) rfl
theorem tl26 : Cond.methodLink RL 26 yX9_append ∈ fy_tb := fy_inR (i := 345) (by decide +kernel) rfl
theorem tl27 : Cond.instanceMethod yX9_append ∈ fy_tb := fy_inR (i := 346) (by decide +kernel) rfl
theorem tl28 : Cond.selects RX9 yX9_append yX9_append ∈ fy_tb := fy_inR (i := 347) (by decide +kernel) rfl
theorem tl29 : Cond.code yX9_append cX9_append 3 (some .int) ∈ fy_tb := fy_inR (i := 348) (by decide +kernel) rfl
theorem tl30 : Cond.methodLink RL 30 yX10_append ∈ fy_tb := fy_inR (i := 1060) (by decide +kernel) rfl
theorem tl31 : Cond.instanceMethod yX10_append ∈ fy_tb := fy_inR (i := 1061) (by decide +kernel) rfl
theorem tl32 : Cond.selects RX10 yX10_append yX10_append ∈ fy_tb := fy_inR (i := 1062) (by decide +kernel) rfl
theorem tl33 : Cond.code yX10_append cX10_append 4 (some .int) ∈ fy_tb := fy_inR (i := 1063) (by decide +kernel) rfl
theorem tl34 : Cond.methodLink RL 31 yX9_setInitial ∈ fy_tb := fy_inR (i := 353) (by decide +kernel) rfl
theorem tl35 : Cond.instanceMethod yX9_setInitial ∈ fy_tb := fy_inR (i := 354) (by decide +kernel) rfl
theorem tl36 : Cond.selects RX9 yX9_setInitial yX9_setInitial ∈ fy_tb := fy_inR (i := 355) (by decide +kernel) rfl
theorem tl37 : Cond.code yX9_setInitial cX9_setInitial 2 (some .int) ∈ fy_tb := fy_inR (i := 356) (by decide +kernel) rfl
theorem tl38 : Cond.methodLink RL 35 yX10_setInitial ∈ fy_tb := fy_inR (i := 1064) (by decide +kernel) rfl
theorem tl39 : Cond.instanceMethod yX10_setInitial ∈ fy_tb := fy_inR (i := 1065) (by decide +kernel) rfl
theorem tl40 : Cond.selects RX10 yX10_setInitial yX10_setInitial ∈ fy_tb := fy_inR (i := 1066) (by decide +kernel) rfl
theorem tl41 : Cond.code yX10_setInitial cX10_setInitial 2 (some .int) ∈ fy_tb := fy_inR (i := 1067) (by decide +kernel) rfl
theorem tl42 : Cond.methodLink RL 36 yX9_setTransition ∈ fy_tb := fy_inR (i := 434) (by decide +kernel) rfl
theorem tl43 : Cond.instanceMethod yX9_setTransition ∈ fy_tb := fy_inR (i := 435) (by decide +kernel) rfl
theorem tl44 : Cond.selects RX9 yX9_setTransition yX9_setTransition ∈ fy_tb := fy_inR (i := 436) (by decide +kernel) rfl
theorem tl45 : Cond.code yX9_setTransition cX9_setTransition 4 (some .int) ∈ fy_tb := fy_inR (i := 437) (by decide +kernel) rfl
theorem tl46 : Cond.methodLink RL 39 yX10_setTransition ∈ fy_tb := fy_inR (i := 1096) (by decide +kernel) rfl
theorem tl47 : Cond.instanceMethod yX10_setTransition ∈ fy_tb := fy_inR (i := 1097) (by decide +kernel) rfl
theorem tl48 : Cond.selects RX10 yX10_setTransition yX10_setTransition ∈ fy_tb := fy_inR (i := 1098) (by decide +kernel) rfl
theorem tl49 : Cond.code yX10_setTransition cX10_setTransition 4 (some .int) ∈ fy_tb := fy_inR (i := 1099) (by decide +kernel) rfl
theorem tl50 : Cond.methodLink RL 40 yX9_property ∈ fy_tb := fy_inR (i := 438) (by decide +kernel) rfl
theorem tl51 : Cond.instanceMethod yX9_property ∈ fy_tb := fy_inR (i := 439) (by decide +kernel) rfl
theorem tl52 : Cond.selects RX9 yX9_property yX9_property ∈ fy_tb := fy_inR (i := 440) (by decide +kernel) rfl
theorem tl53 : Cond.code yX9_property cX9_property 4 (some .int) ∈ fy_tb := fy_inR (i := 441) (by decide +kernel) rfl
theorem tl54 : Cond.methodLink RL 43 yX10_property ∈ fy_tb := fy_inR (i := 1056) (by decide +kernel) rfl
theorem tl55 : Cond.instanceMethod yX10_property ∈ fy_tb := fy_inR (i := 1057) (by decide +kernel) rfl
theorem tl56 : Cond.selects RX10 yX10_property yX10_property ∈ fy_tb := fy_inR (i := 1058) (by decide +kernel) rfl
theorem tl57 : Cond.code yX10_property cX10_property 3 (some .int) ∈ fy_tb := fy_inR (i := 1059) (by decide +kernel) rfl
theorem tl58 : Cond.methodLink RL 44 yX9_print ∈ fy_tb := fy_inR (i := 442) (by decide +kernel) rfl
theorem tl59 : Cond.instanceMethod yX9_print ∈ fy_tb := fy_inR (i := 443) (by decide +kernel) rfl
theorem tl60 : Cond.selects RX9 yX9_print yX9_print ∈ fy_tb := fy_inR (i := 444) (by decide +kernel) rfl
theorem tl61 : Cond.code yX9_print cX9_print 5 (some .int) ∈ fy_tb := fy_inR (i := 445) (by decide +kernel) rfl
theorem tl62 : Cond.methodLink RL 47 yX10_print ∈ fy_tb := fy_inR (i := 1103) (by decide +kernel) rfl
theorem tl63 : Cond.instanceMethod yX10_print ∈ fy_tb := fy_inR (i := 1104) (by decide +kernel) rfl
theorem tl64 : Cond.selects RX10 yX10_print yX10_print ∈ fy_tb := fy_inR (i := 1105) (by decide +kernel) rfl
theorem tl65 : Cond.code yX10_print cX10_print 6 (some .int) ∈ fy_tb := fy_inR (i := 1106) (by decide +kernel) rfl
theorem tl66 : Cond.methodLink RL 48 yX9_printed ∈ fy_tb := fy_inR (i := 469) (by decide +kernel) rfl
theorem tl67 : Cond.instanceMethod yX9_printed ∈ fy_tb := fy_inR (i := 470) (by decide +kernel) rfl
theorem tl68 : Cond.selects RX9 yX9_printed yX9_printed ∈ fy_tb := fy_inR (i := 471) (by decide +kernel) rfl
theorem tl69 : Cond.code yX9_printed cX9_printed 2 (some .int) ∈ fy_tb := fy_inR (i := 472) (by decide +kernel) rfl
theorem tl70 : Cond.methodLink RL 51 yX10_printed ∈ fy_tb := fy_inR (i := 1131) (by decide +kernel) rfl
theorem tl71 : Cond.instanceMethod yX10_printed ∈ fy_tb := fy_inR (i := 1132) (by decide +kernel) rfl
theorem tl72 : Cond.selects RX10 yX10_printed yX10_printed ∈ fy_tb := fy_inR (i := 1133) (by decide +kernel) rfl
theorem tl73 : Cond.code yX10_printed cX10_printed 2 (some .int) ∈ fy_tb := fy_inR (i := 1134) (by decide +kernel) rfl
theorem tl74 : Cond.methodLink RL 52 yX9_isSatisfied ∈ fy_tb := fy_inR (i := 473) (by decide +kernel) rfl
theorem tl75 : Cond.instanceMethod yX9_isSatisfied ∈ fy_tb := fy_inR (i := 474) (by decide +kernel) rfl
theorem tl76 : Cond.selects RX9 yX9_isSatisfied yX9_isSatisfied ∈ fy_tb := fy_inR (i := 475) (by decide +kernel) rfl
theorem tl77 : Cond.code yX9_isSatisfied cX9_isSatisfied 7 (some .int) ∈ fy_tb := fy_inR (i := 476) (by decide +kernel) rfl
theorem tl78 : Cond.methodLink RL 56 yX10_isSatisfied ∈ fy_tb := fy_inR (i := 1135) (by decide +kernel) rfl
theorem tl79 : Cond.instanceMethod yX10_isSatisfied ∈ fy_tb := fy_inR (i := 1136) (by decide +kernel) rfl
theorem tl80 : Cond.selects RX10 yX10_isSatisfied yX10_isSatisfied ∈ fy_tb := fy_inR (i := 1137) (by decide +kernel) rfl
theorem tl81 : Cond.code yX10_isSatisfied cX10_isSatisfied 6 (some .int) ∈ fy_tb := fy_inR (i := 1138) (by decide +kernel) rfl
theorem tl82 : Cond.methodLink RL 57 yX9_model ∈ fy_tb := fy_inR (i := 488) (by decide +kernel) rfl
theorem tl83 : Cond.instanceMethod yX9_model ∈ fy_tb := fy_inR (i := 489) (by decide +kernel) rfl
theorem tl84 : Cond.selects RX9 yX9_model yX9_model ∈ fy_tb := fy_inR (i := 490) (by decide +kernel) rfl
theorem tl85 : Cond.code yX9_model cX9_model 8 (some .int) ∈ fy_tb := fy_inR (i := 491) (by decide +kernel) rfl
theorem tl86 : Cond.methodLink RL 60 yX10_model ∈ fy_tb := fy_inR (i := 1151) (by decide +kernel) rfl
theorem tl87 : Cond.instanceMethod yX10_model ∈ fy_tb := fy_inR (i := 1152) (by decide +kernel) rfl
theorem tl88 : Cond.selects RX10 yX10_model yX10_model ∈ fy_tb := fy_inR (i := 1153) (by decide +kernel) rfl
theorem tl89 : Cond.code yX10_model cX10_model 9 (some .int) ∈ fy_tb := fy_inR (i := 1154) (by decide +kernel) rfl
theorem tl90 : Cond.methodLink RL 61 yX9_push ∈ fy_tb := fy_inR (i := 513) (by decide +kernel) rfl
theorem tl91 : Cond.instanceMethod yX9_push ∈ fy_tb := fy_inR (i := 514) (by decide +kernel) rfl
theorem tl92 : Cond.selects RX9 yX9_push yX9_push ∈ fy_tb := fy_inR (i := 515) (by decide +kernel) rfl
theorem tl93 : Cond.code yX9_push cX9_push 2 (some .int) ∈ fy_tb := fy_inR (i := 516) (by decide +kernel) rfl
theorem tl94 : Cond.methodLink RL 64 yX10_push ∈ fy_tb := fy_inR (i := 1170) (by decide +kernel) rfl
theorem tl95 : Cond.instanceMethod yX10_push ∈ fy_tb := fy_inR (i := 1171) (by decide +kernel) rfl
theorem tl96 : Cond.selects RX10 yX10_push yX10_push ∈ fy_tb := fy_inR (i := 1172) (by decide +kernel) rfl
theorem tl97 : Cond.code yX10_push cX10_push 2 (some .int) ∈ fy_tb := fy_inR (i := 1173) (by decide +kernel) rfl
theorem tl98 : Cond.methodLink RL 65 yX9_clearWord ∈ fy_tb := fy_inR (i := 521) (by decide +kernel) rfl
theorem tl99 : Cond.instanceMethod yX9_clearWord ∈ fy_tb := fy_inR (i := 522) (by decide +kernel) rfl
theorem tl100 : Cond.selects RX9 yX9_clearWord yX9_clearWord ∈ fy_tb := fy_inR (i := 523) (by decide +kernel) rfl
theorem tl101 : Cond.code yX9_clearWord cX9_clearWord 2 (some .int) ∈ fy_tb := fy_inR (i := 524) (by decide +kernel) rfl
theorem tl102 : Cond.methodLink RL 69 yX10_clearWord ∈ fy_tb := fy_inR (i := 1174) (by decide +kernel) rfl
theorem tl103 : Cond.instanceMethod yX10_clearWord ∈ fy_tb := fy_inR (i := 1175) (by decide +kernel) rfl
theorem tl104 : Cond.selects RX10 yX10_clearWord yX10_clearWord ∈ fy_tb := fy_inR (i := 1176) (by decide +kernel) rfl
theorem tl105 : Cond.code yX10_clearWord cX10_clearWord 2 (some .int) ∈ fy_tb := fy_inR (i := 1177) (by decide +kernel) rfl
theorem tl106 : Cond.methodLink RL 70 yX9_acceptingStates ∈ fy_tb := fy_inR (i := 525) (by decide +kernel) rfl
theorem tl107 : Cond.instanceMethod yX9_acceptingStates ∈ fy_tb := fy_inR (i := 526) (by decide +kernel) rfl
theorem tl108 : Cond.selects RX9 yX9_acceptingStates yX9_acceptingStates ∈ fy_tb := fy_inR (i := 527) (by decide +kernel) rfl
theorem tl109 : Cond.code yX9_acceptingStates cX9_acceptingStates 4 (some .int) ∈ fy_tb := fy_inR (i := 528) (by decide +kernel) rfl
theorem tl110 : Cond.methodLink RL 73 yX10_acceptingStates ∈ fy_tb := fy_inR (i := 1178) (by decide +kernel) rfl
theorem tl111 : Cond.instanceMethod yX10_acceptingStates ∈ fy_tb := fy_inR (i := 1179) (by decide +kernel) rfl
theorem tl112 : Cond.selects RX10 yX10_acceptingStates yX10_acceptingStates ∈ fy_tb := fy_inR (i := 1180) (by decide +kernel) rfl
theorem tl113 : Cond.code yX10_acceptingStates cX10_acceptingStates 3 (some .int) ∈ fy_tb := fy_inR (i := 1181) (by decide +kernel) rfl
theorem tl114 : Cond.methodLink RL 74 yX9_accepts ∈ fy_tb := fy_inR (i := 543) (by decide +kernel) rfl
theorem tl115 : Cond.instanceMethod yX9_accepts ∈ fy_tb := fy_inR (i := 544) (by decide +kernel) rfl
theorem tl116 : Cond.selects RX9 yX9_accepts yX9_accepts ∈ fy_tb := fy_inR (i := 545) (by decide +kernel) rfl
theorem tl117 : Cond.code yX9_accepts cX9_accepts 3 (some .int) ∈ fy_tb := fy_inR (i := 546) (by decide +kernel) rfl
theorem tl118 : Cond.methodLink RL 77 yX10_accepts ∈ fy_tb := fy_inR (i := 1194) (by decide +kernel) rfl
theorem tl119 : Cond.instanceMethod yX10_accepts ∈ fy_tb := fy_inR (i := 1195) (by decide +kernel) rfl
theorem tl120 : Cond.selects RX10 yX10_accepts yX10_accepts ∈ fy_tb := fy_inR (i := 1196) (by decide +kernel) rfl
theorem tl121 : Cond.code yX10_accepts cX10_accepts 2 (some .int) ∈ fy_tb := fy_inR (i := 1197) (by decide +kernel) rfl
theorem tl122 : Cond.methodLink RL 78 yX9_rank ∈ fy_tb := fy_inR (i := 547) (by decide +kernel) rfl
theorem tl123 : Cond.instanceMethod yX9_rank ∈ fy_tb := fy_inR (i := 548) (by decide +kernel) rfl
theorem tl124 : Cond.selects RX9 yX9_rank yX9_rank ∈ fy_tb := fy_inR (i := 549) (by decide +kernel) rfl
theorem tl125 : Cond.code yX9_rank cX9_rank 5 (some .int) ∈ fy_tb := fy_inR (i := 550) (by decide +kernel) rfl
theorem tl126 : Cond.methodLink RL 81 yX10_rank ∈ fy_tb := fy_inR (i := 1202) (by decide +kernel) rfl
theorem tl127 : Cond.instanceMethod yX10_rank ∈ fy_tb := fy_inR (i := 1203) (by decide +kernel) rfl
theorem tl128 : Cond.selects RX10 yX10_rank yX10_rank ∈ fy_tb := fy_inR (i := 1204) (by decide +kernel) rfl
theorem tl129 : Cond.code yX10_rank cX10_rank 4 (some .int) ∈ fy_tb := fy_inR (i := 1205) (by decide +kernel) rfl
theorem tl130 : Cond.methodLink RL 82 yX9_strategy ∈ fy_tb := fy_inR (i := 589) (by decide +kernel) rfl
theorem tl131 : Cond.instanceMethod yX9_strategy ∈ fy_tb := fy_inR (i := 590) (by decide +kernel) rfl
theorem tl132 : Cond.selects RX9 yX9_strategy yX9_strategy ∈ fy_tb := fy_inR (i := 591) (by decide +kernel) rfl
theorem tl133 : Cond.code yX9_strategy cX9_strategy 5 (some .int) ∈ fy_tb := fy_inR (i := 592) (by decide +kernel) rfl
theorem tl134 : Cond.methodLink RL 85 yX10_strategy ∈ fy_tb := fy_inR (i := 1220) (by decide +kernel) rfl
theorem tl135 : Cond.instanceMethod yX10_strategy ∈ fy_tb := fy_inR (i := 1221) (by decide +kernel) rfl
theorem tl136 : Cond.selects RX10 yX10_strategy yX10_strategy ∈ fy_tb := fy_inR (i := 1222) (by decide +kernel) rfl
theorem tl137 : Cond.code yX10_strategy cX10_strategy 11 (some .int) ∈ fy_tb := fy_inR (i := 1223) (by decide +kernel) rfl
theorem tl138 : Cond.methodLink RL 86 yX9_reverseStep ∈ fy_tb := fy_inR (i := 599) (by decide +kernel) rfl
theorem tl139 : Cond.instanceMethod yX9_reverseStep ∈ fy_tb := fy_inR (i := 600) (by decide +kernel) rfl
theorem tl140 : Cond.selects RX9 yX9_reverseStep yX9_reverseStep ∈ fy_tb := fy_inR (i := 601) (by decide +kernel) rfl
theorem tl141 : Cond.code yX9_reverseStep cX9_reverseStep 5 (some .int) ∈ fy_tb := fy_inR (i := 602) (by decide +kernel) rfl
theorem tl142 : Cond.methodLink RL 89 yX10_reverseStep ∈ fy_tb := fy_inR (i := 1224) (by decide +kernel) rfl
theorem tl143 : Cond.instanceMethod yX10_reverseStep ∈ fy_tb := fy_inR (i := 1225) (by decide +kernel) rfl
theorem tl144 : Cond.selects RX10 yX10_reverseStep yX10_reverseStep ∈ fy_tb := fy_inR (i := 1226) (by decide +kernel) rfl
theorem tl145 : Cond.code yX10_reverseStep cX10_reverseStep 4 (some .int) ∈ fy_tb := fy_inR (i := 1227) (by decide +kernel) rfl
theorem tl146 : Cond.methodLink RL 90 yX9_reverseStates ∈ fy_tb := fy_inR (i := 604) (by decide +kernel) rfl
theorem tl147 : Cond.instanceMethod yX9_reverseStates ∈ fy_tb := fy_inR (i := 605) (by decide +kernel) rfl
theorem tl148 : Cond.selects RX9 yX9_reverseStates yX9_reverseStates ∈ fy_tb := fy_inR (i := 606) (by decide +kernel) rfl
theorem tl149 : Cond.code yX9_reverseStates cX9_reverseStates 3 (some .int) ∈ fy_tb := fy_inR (i := 607) (by decide +kernel) rfl
theorem tl150 : Cond.methodLink RL 93 yX10_reverseStates ∈ fy_tb := fy_inR (i := 1228) (by decide +kernel) rfl
theorem tl151 : Cond.instanceMethod yX10_reverseStates ∈ fy_tb := fy_inR (i := 1229) (by decide +kernel) rfl
theorem tl152 : Cond.selects RX10 yX10_reverseStates yX10_reverseStates ∈ fy_tb := fy_inR (i := 1230) (by decide +kernel) rfl
theorem tl153 : Cond.code yX10_reverseStates cX10_reverseStates 2 (some .int) ∈ fy_tb := fy_inR (i := 1231) (by decide +kernel) rfl
theorem tl154 : Cond.methodLink RL 94 yX9_reverseClasses ∈ fy_tb := fy_inR (i := 627) (by decide +kernel) rfl
theorem tl155 : Cond.instanceMethod yX9_reverseClasses ∈ fy_tb := fy_inR (i := 628) (by decide +kernel) rfl
theorem tl156 : Cond.selects RX9 yX9_reverseClasses yX9_reverseClasses ∈ fy_tb := fy_inR (i := 629) (by decide +kernel) rfl
theorem tl157 : Cond.code yX9_reverseClasses cX9_reverseClasses 3 (some .int) ∈ fy_tb := fy_inR (i := 630) (by decide +kernel) rfl
theorem tl158 : Cond.methodLink RL 97 yX10_reverseClasses ∈ fy_tb := fy_inR (i := 1244) (by decide +kernel) rfl
theorem tl159 : Cond.instanceMethod yX10_reverseClasses ∈ fy_tb := fy_inR (i := 1245) (by decide +kernel) rfl
theorem tl160 : Cond.selects RX10 yX10_reverseClasses yX10_reverseClasses ∈ fy_tb := fy_inR (i := 1246) (by decide +kernel) rfl
theorem tl161 : Cond.code yX10_reverseClasses cX10_reverseClasses 6 (some .int) ∈ fy_tb := fy_inR (i := 1247) (by decide +kernel) rfl
theorem tl162 : Cond.methodLink RL 98 yX9_existentialStates ∈ fy_tb := fy_inR (i := 649) (by decide +kernel) rfl
theorem tl163 : Cond.instanceMethod yX9_existentialStates ∈ fy_tb := fy_inR (i := 650) (by decide +kernel) rfl
theorem tl164 : Cond.selects RX9 yX9_existentialStates yX9_existentialStates ∈ fy_tb := fy_inR (i := 651) (by decide +kernel) rfl
theorem tl165 : Cond.code yX9_existentialStates cX9_existentialStates 3 (some .int) ∈ fy_tb := fy_inR (i := 652) (by decide +kernel) rfl
theorem tl166 : Cond.methodLink RL 101 yX10_existentialStates ∈ fy_tb := fy_inR (i := 1252) (by decide +kernel) rfl
theorem tl167 : Cond.instanceMethod yX10_existentialStates ∈ fy_tb := fy_inR (i := 1253) (by decide +kernel) rfl
theorem tl168 : Cond.selects RX10 yX10_existentialStates yX10_existentialStates ∈ fy_tb := fy_inR (i := 1254) (by decide +kernel) rfl
theorem tl169 : Cond.code yX10_existentialStates cX10_existentialStates 4 (some .int) ∈ fy_tb := fy_inR (i := 1255) (by decide +kernel) rfl
theorem tl170 : Cond.methodLink RL 102 yX9_existentialSets ∈ fy_tb := fy_inR (i := 668) (by decide +kernel) rfl
theorem tl171 : Cond.instanceMethod yX9_existentialSets ∈ fy_tb := fy_inR (i := 669) (by decide +kernel) rfl
theorem tl172 : Cond.selects RX9 yX9_existentialSets yX9_existentialSets ∈ fy_tb := fy_inR (i := 670) (by decide +kernel) rfl
theorem tl173 : Cond.code yX9_existentialSets cX9_existentialSets 7 (some .int) ∈ fy_tb := fy_inR (i := 671) (by decide +kernel) rfl
theorem tl174 : Cond.methodLink RL 105 yX10_existentialSets ∈ fy_tb := fy_inR (i := 1260) (by decide +kernel) rfl
theorem tl175 : Cond.instanceMethod yX10_existentialSets ∈ fy_tb := fy_inR (i := 1261) (by decide +kernel) rfl
theorem tl176 : Cond.selects RX10 yX10_existentialSets yX10_existentialSets ∈ fy_tb := fy_inR (i := 1262) (by decide +kernel) rfl
theorem tl177 : Cond.code yX10_existentialSets cX10_existentialSets 6 (some .int) ∈ fy_tb := fy_inR (i := 1263) (by decide +kernel) rfl
theorem tl178 : Cond.methodLink RL 106 yX9_relevantStates ∈ fy_tb := fy_inR (i := 677) (by decide +kernel) rfl
theorem tl179 : Cond.instanceMethod yX9_relevantStates ∈ fy_tb := fy_inR (i := 678) (by decide +kernel) rfl
theorem tl180 : Cond.selects RX9 yX9_relevantStates yX9_relevantStates ∈ fy_tb := fy_inR (i := 679) (by decide +kernel) rfl
theorem tl181 : Cond.code yX9_relevantStates cX9_relevantStates 3 (some .int) ∈ fy_tb := fy_inR (i := 680) (by decide +kernel) rfl
theorem tl182 : Cond.methodLink RL 109 yX10_relevantStates ∈ fy_tb := fy_inR (i := 1264) (by decide +kernel) rfl
theorem tl183 : Cond.instanceMethod yX10_relevantStates ∈ fy_tb := fy_inR (i := 1265) (by decide +kernel) rfl
theorem tl184 : Cond.selects RX10 yX10_relevantStates yX10_relevantStates ∈ fy_tb := fy_inR (i := 1266) (by decide +kernel) rfl
theorem tl185 : Cond.code yX10_relevantStates cX10_relevantStates 6 (some .int) ∈ fy_tb := fy_inR (i := 1267) (by decide +kernel) rfl
theorem tl186 : Cond.methodLink RL 110 yX9_findCheapest ∈ fy_tb := fy_inR (i := 693) (by decide +kernel) rfl
theorem tl187 : Cond.instanceMethod yX9_findCheapest ∈ fy_tb := fy_inR (i := 694) (by decide +kernel) rfl
theorem tl188 : Cond.selects RX9 yX9_findCheapest yX9_findCheapest ∈ fy_tb := fy_inR (i := 695) (by decide +kernel) rfl
theorem tl189 : Cond.code yX9_findCheapest cX9_findCheapest 3 (some .int) ∈ fy_tb := fy_inR (i := 696) (by decide +kernel) rfl
theorem tl190 : Cond.methodLink RL 113 yX10_findCheapest ∈ fy_tb := fy_inR (i := 1272) (by decide +kernel) rfl
theorem tl191 : Cond.instanceMethod yX10_findCheapest ∈ fy_tb := fy_inR (i := 1273) (by decide +kernel) rfl
theorem tl192 : Cond.selects RX10 yX10_findCheapest yX10_findCheapest ∈ fy_tb := fy_inR (i := 1274) (by decide +kernel) rfl
theorem tl193 : Cond.code yX10_findCheapest cX10_findCheapest 5 (some .int) ∈ fy_tb := fy_inR (i := 1275) (by decide +kernel) rfl
theorem tl194 : Cond.methodLink RL 114 yX9_findDifference ∈ fy_tb := fy_inR (i := 729) (by decide +kernel) rfl
theorem tl195 : Cond.instanceMethod yX9_findDifference ∈ fy_tb := fy_inR (i := 730) (by decide +kernel) rfl
theorem tl196 : Cond.selects RX9 yX9_findDifference yX9_findDifference ∈ fy_tb := fy_inR (i := 731) (by decide +kernel) rfl
theorem tl197 : Cond.code yX9_findDifference cX9_findDifference 5 (some .int) ∈ fy_tb := fy_inR (i := 732) (by decide +kernel) rfl
theorem tl198 : Cond.methodLink RL 117 yX10_findDifference ∈ fy_tb := fy_inR (i := 1292) (by decide +kernel) rfl
theorem tl199 : Cond.instanceMethod yX10_findDifference ∈ fy_tb := fy_inR (i := 1293) (by decide +kernel) rfl
theorem tl200 : Cond.selects RX10 yX10_findDifference yX10_findDifference ∈ fy_tb := fy_inR (i := 1294) (by decide +kernel) rfl
theorem tl201 : Cond.code yX10_findDifference cX10_findDifference 7 (some .int) ∈ fy_tb := fy_inR (i := 1295) (by decide +kernel) rfl
theorem tl202 : Cond.methodLink RL 118 yX9_foundLetter ∈ fy_tb := fy_inR (i := 770) (by decide +kernel) rfl
theorem tl203 : Cond.instanceMethod yX9_foundLetter ∈ fy_tb := fy_inR (i := 771) (by decide +kernel) rfl
theorem tl204 : Cond.selects RX9 yX9_foundLetter yX9_foundLetter ∈ fy_tb := fy_inR (i := 772) (by decide +kernel) rfl
theorem tl205 : Cond.code yX9_foundLetter cX9_foundLetter 2 (some .int) ∈ fy_tb := fy_inR (i := 773) (by decide +kernel) rfl
theorem tl206 : Cond.methodLink RL 121 yX10_foundLetter ∈ fy_tb := fy_inR (i := 1304) (by decide +kernel) rfl
theorem tl207 : Cond.instanceMethod yX10_foundLetter ∈ fy_tb := fy_inR (i := 1305) (by decide +kernel) rfl
theorem tl208 : Cond.selects RX10 yX10_foundLetter yX10_foundLetter ∈ fy_tb := fy_inR (i := 1306) (by decide +kernel) rfl
theorem tl209 : Cond.code yX10_foundLetter cX10_foundLetter 2 (some .int) ∈ fy_tb := fy_inR (i := 1307) (by decide +kernel) rfl
theorem tl210 : Cond.methodLink RL 122 yX9_foundCost ∈ fy_tb := fy_inR (i := 774) (by decide +kernel) rfl
theorem tl211 : Cond.instanceMethod yX9_foundCost ∈ fy_tb := fy_inR (i := 775) (by decide +kernel) rfl
theorem tl212 : Cond.selects RX9 yX9_foundCost yX9_foundCost ∈ fy_tb := fy_inR (i := 776) (by decide +kernel) rfl
theorem tl213 : Cond.code yX9_foundCost cX9_foundCost 1 (some .int) ∈ fy_tb := fy_inR (i := 777) (by decide +kernel) rfl
theorem tl214 : Cond.methodLink RL 125 yX10_foundCost ∈ fy_tb := fy_inR (i := 1308) (by decide +kernel) rfl
theorem tl215 : Cond.instanceMethod yX10_foundCost ∈ fy_tb := fy_inR (i := 1309) (by decide +kernel) rfl
theorem tl216 : Cond.selects RX10 yX10_foundCost yX10_foundCost ∈ fy_tb := fy_inR (i := 1310) (by decide +kernel) rfl
theorem tl217 : Cond.code yX10_foundCost cX10_foundCost 1 (some .int) ∈ fy_tb := fy_inR (i := 1311) (by decide +kernel) rfl
theorem tl218 : Cond.methodLink RL 126 yX9_isContained ∈ fy_tb := fy_inR (i := 778) (by decide +kernel) rfl
theorem tl219 : Cond.instanceMethod yX9_isContained ∈ fy_tb := fy_inR (i := 779) (by decide +kernel) rfl
theorem tl220 : Cond.selects RX9 yX9_isContained yX9_isContained ∈ fy_tb := fy_inR (i := 780) (by decide +kernel) rfl
theorem tl221 : Cond.code yX9_isContained cX9_isContained 5 (some .int) ∈ fy_tb := fy_inR (i := 781) (by decide +kernel) rfl
theorem tl222 : Cond.methodLink RL 129 yX10_isContained ∈ fy_tb := fy_inR (i := 1312) (by decide +kernel) rfl
theorem tl223 : Cond.instanceMethod yX10_isContained ∈ fy_tb := fy_inR (i := 1313) (by decide +kernel) rfl
theorem tl224 : Cond.selects RX10 yX10_isContained yX10_isContained ∈ fy_tb := fy_inR (i := 1314) (by decide +kernel) rfl
theorem tl225 : Cond.code yX10_isContained cX10_isContained 4 (some .int) ∈ fy_tb := fy_inR (i := 1315) (by decide +kernel) rfl
theorem tl226 : Cond.methodLink RL 130 yX9_countWords ∈ fy_tb := fy_inR (i := 782) (by decide +kernel) rfl
theorem tl227 : Cond.instanceMethod yX9_countWords ∈ fy_tb := fy_inR (i := 783) (by decide +kernel) rfl
theorem tl228 : Cond.selects RX9 yX9_countWords yX9_countWords ∈ fy_tb := fy_inR (i := 784) (by decide +kernel) rfl
theorem tl229 : Cond.code yX9_countWords cX9_countWords 4 (some .long) ∈ fy_tb := fy_inR (i := 785) (by decide +kernel) rfl
theorem tl230 : Cond.methodLink RL 134 yX10_countWords ∈ fy_tb := fy_inR (i := 1316) (by decide +kernel) rfl
theorem tl231 : Cond.instanceMethod yX10_countWords ∈ fy_tb := fy_inR (i := 1317) (by decide +kernel) rfl
theorem tl232 : Cond.selects RX10 yX10_countWords yX10_countWords ∈ fy_tb := fy_inR (i := 1318) (by decide +kernel) rfl
theorem tl233 : Cond.code yX10_countWords cX10_countWords 6 (some .long) ∈ fy_tb := fy_inR (i := 1319) (by decide +kernel) rfl
theorem tl234 : Cond.methodLink RL 135 yX9_dualize ∈ fy_tb := fy_inR (i := 797) (by decide +kernel) rfl
theorem tl235 : Cond.instanceMethod yX9_dualize ∈ fy_tb := fy_inR (i := 798) (by decide +kernel) rfl
theorem tl236 : Cond.selects RX9 yX9_dualize yX9_dualize ∈ fy_tb := fy_inR (i := 799) (by decide +kernel) rfl
theorem tl237 : Cond.code yX9_dualize cX9_dualize 5 (some .int) ∈ fy_tb := fy_inR (i := 800) (by decide +kernel) rfl
theorem tl238 : Cond.methodLink RL 138 yX10_dualize ∈ fy_tb := fy_inR (i := 1321) (by decide +kernel) rfl
theorem tl239 : Cond.instanceMethod yX10_dualize ∈ fy_tb := fy_inR (i := 1322) (by decide +kernel) rfl
theorem tl240 : Cond.selects RX10 yX10_dualize yX10_dualize ∈ fy_tb := fy_inR (i := 1323) (by decide +kernel) rfl
theorem tl241 : Cond.code yX10_dualize cX10_dualize 5 (some .int) ∈ fy_tb := fy_inR (i := 1324) (by decide +kernel) rfl
theorem tl242 : Cond.methodLink RL 139 yX9_combine ∈ fy_tb := fy_inR (i := 820) (by decide +kernel) rfl
theorem tl243 : Cond.instanceMethod yX9_combine ∈ fy_tb := fy_inR (i := 821) (by decide +kernel) rfl
theorem tl244 : Cond.selects RX9 yX9_combine yX9_combine ∈ fy_tb := fy_inR (i := 822) (by decide +kernel) rfl
theorem tl245 : Cond.code yX9_combine cX9_combine 8 (some .int) ∈ fy_tb := fy_inR (i := 823) (by decide +kernel) rfl
theorem tl246 : Cond.methodLink RL 142 yX10_combine ∈ fy_tb := fy_inR (i := 1332) (by decide +kernel) rfl
theorem tl247 : Cond.instanceMethod yX10_combine ∈ fy_tb := fy_inR (i := 1333) (by decide +kernel) rfl
theorem tl248 : Cond.selects RX10 yX10_combine yX10_combine ∈ fy_tb := fy_inR (i := 1334) (by decide +kernel) rfl
theorem tl249 : Cond.code yX10_combine cX10_combine 8 (some .int) ∈ fy_tb := fy_inR (i := 1335) (by decide +kernel) rfl
theorem tl250 : Cond.methodLink RL 143 yX9_save ∈ fy_tb := fy_inR (i := 857) (by decide +kernel) rfl
theorem tl251 : Cond.instanceMethod yX9_save ∈ fy_tb := fy_inR (i := 858) (by decide +kernel) rfl
theorem tl252 : Cond.selects RX9 yX9_save yX9_save ∈ fy_tb := fy_inR (i := 859) (by decide +kernel) rfl
theorem tl253 : Cond.code yX9_save cX9_save 1 (some .int) ∈ fy_tb := fy_inR (i := 860) (by decide +kernel) rfl
theorem tl254 : Cond.methodLink RL 146 yX10_save ∈ fy_tb := fy_inR (i := 1340) (by decide +kernel) rfl
theorem tl255 : Cond.instanceMethod yX10_save ∈ fy_tb := fy_inR (i := 1341) (by decide +kernel) rfl
theorem tl256 : Cond.selects RX10 yX10_save yX10_save ∈ fy_tb := fy_inR (i := 1342) (by decide +kernel) rfl
theorem tl257 : Cond.code yX10_save cX10_save 2 (some .int) ∈ fy_tb := fy_inR (i := 1343) (by decide +kernel) rfl
theorem tl258 : Cond.methodLink RL 147 yX9_restore ∈ fy_tb := fy_inR (i := 864) (by decide +kernel) rfl
theorem tl259 : Cond.instanceMethod yX9_restore ∈ fy_tb := fy_inR (i := 865) (by decide +kernel) rfl
theorem tl260 : Cond.selects RX9 yX9_restore yX9_restore ∈ fy_tb := fy_inR (i := 866) (by decide +kernel) rfl
theorem tl261 : Cond.code yX9_restore cX9_restore 1 (some .int) ∈ fy_tb := fy_inR (i := 867) (by decide +kernel) rfl
theorem tl262 : Cond.methodLink RL 150 yX10_restore ∈ fy_tb := fy_inR (i := 1348) (by decide +kernel) rfl
theorem tl263 : Cond.instanceMethod yX10_restore ∈ fy_tb := fy_inR (i := 1349) (by decide +kernel) rfl
theorem tl264 : Cond.selects RX10 yX10_restore yX10_restore ∈ fy_tb := fy_inR (i := 1350) (by decide +kernel) rfl
theorem tl265 : Cond.code yX10_restore cX10_restore 2 (some .int) ∈ fy_tb := fy_inR (i := 1351) (by decide +kernel) rfl
theorem kl13 : fy_kV RL 13 yX9_create cX9_create 6 (some .int) 3 := ⟨tl0, tl1, tl2, tl3, tl4, (by decide +kernel), (by decide +kernel), (by decide +kernel)⟩
theorem kl17 : fy_kV RL 17 yX10_create cX10_create 5 (some .int) 3 := ⟨tl5, tl6, tl7, tl8, tl9, (by decide +kernel), (by decide +kernel), (by decide +kernel)⟩
theorem kl18 : fy_kV RL 18 yX9_setFinal cX9_setFinal 6 (some .int) 3 := ⟨tl10, tl11, tl12, tl3, tl13, (by decide +kernel), (by decide +kernel), (by decide +kernel)⟩
theorem kl21 : fy_kV RL 21 yX10_setFinal cX10_setFinal 4 (some .int) 3 := ⟨tl14, tl15, tl16, tl8, tl17, (by decide +kernel), (by decide +kernel), (by decide +kernel)⟩
theorem kl22 : fy_kV RL 22 yX9_setWeight cX9_setWeight 6 (some .int) 3 := ⟨tl18, tl19, tl20, tl3, tl21, (by decide +kernel), (by decide +kernel), (by decide +kernel)⟩
theorem kl25 : fy_kV RL 25 yX10_setWeight cX10_setWeight 5 (some .int) 3 := ⟨tl22, tl23, tl24, tl8, tl25, (by decide +kernel), (by decide +kernel), (by decide +kernel)⟩
theorem kl26 : fy_kV RL 26 yX9_append cX9_append 3 (some .int) 2 := ⟨tl26, tl27, tl28, tl3, tl29, (by decide +kernel), (by decide +kernel), (by decide +kernel)⟩
theorem kl30 : fy_kV RL 30 yX10_append cX10_append 4 (some .int) 2 := ⟨tl30, tl31, tl32, tl8, tl33, (by decide +kernel), (by decide +kernel), (by decide +kernel)⟩
theorem kl31 : fy_kV RL 31 yX9_setInitial cX9_setInitial 2 (some .int) 1 := ⟨tl34, tl35, tl36, tl3, tl37, (by decide +kernel), (by decide +kernel), (by decide +kernel)⟩
theorem kl35 : fy_kV RL 35 yX10_setInitial cX10_setInitial 2 (some .int) 1 := ⟨tl38, tl39, tl40, tl8, tl41, (by decide +kernel), (by decide +kernel), (by decide +kernel)⟩
theorem kl36 : fy_kV RL 36 yX9_setTransition cX9_setTransition 4 (some .int) 3 := ⟨tl42, tl43, tl44, tl3, tl45, (by decide +kernel), (by decide +kernel), (by decide +kernel)⟩
theorem kl39 : fy_kV RL 39 yX10_setTransition cX10_setTransition 4 (some .int) 3 := ⟨tl46, tl47, tl48, tl8, tl49, (by decide +kernel), (by decide +kernel), (by decide +kernel)⟩
theorem kl40 : fy_kV RL 40 yX9_property cX9_property 4 (some .int) 2 := ⟨tl50, tl51, tl52, tl3, tl53, (by decide +kernel), (by decide +kernel), (by decide +kernel)⟩
theorem kl43 : fy_kV RL 43 yX10_property cX10_property 3 (some .int) 2 := ⟨tl54, tl55, tl56, tl8, tl57, (by decide +kernel), (by decide +kernel), (by decide +kernel)⟩
theorem kl44 : fy_kV RL 44 yX9_print cX9_print 5 (some .int) 3 := ⟨tl58, tl59, tl60, tl3, tl61, (by decide +kernel), (by decide +kernel), (by decide +kernel)⟩
theorem kl47 : fy_kV RL 47 yX10_print cX10_print 6 (some .int) 3 := ⟨tl62, tl63, tl64, tl8, tl65, (by decide +kernel), (by decide +kernel), (by decide +kernel)⟩
theorem kl48 : fy_kV RL 48 yX9_printed cX9_printed 2 (some .int) 1 := ⟨tl66, tl67, tl68, tl3, tl69, (by decide +kernel), (by decide +kernel), (by decide +kernel)⟩
theorem kl51 : fy_kV RL 51 yX10_printed cX10_printed 2 (some .int) 1 := ⟨tl70, tl71, tl72, tl8, tl73, (by decide +kernel), (by decide +kernel), (by decide +kernel)⟩
theorem kl52 : fy_kV RL 52 yX9_isSatisfied cX9_isSatisfied 7 (some .int) 4 := ⟨tl74, tl75, tl76, tl3, tl77, (by decide +kernel), (by decide +kernel), (by decide +kernel)⟩
theorem kl56 : fy_kV RL 56 yX10_isSatisfied cX10_isSatisfied 6 (some .int) 4 := ⟨tl78, tl79, tl80, tl8, tl81, (by decide +kernel), (by decide +kernel), (by decide +kernel)⟩
theorem kl57 : fy_kV RL 57 yX9_model cX9_model 8 (some .int) 4 := ⟨tl82, tl83, tl84, tl3, tl85, (by decide +kernel), (by decide +kernel), (by decide +kernel)⟩
theorem kl60 : fy_kV RL 60 yX10_model cX10_model 9 (some .int) 4 := ⟨tl86, tl87, tl88, tl8, tl89, (by decide +kernel), (by decide +kernel), (by decide +kernel)⟩
theorem kl61 : fy_kV RL 61 yX9_push cX9_push 2 (some .int) 1 := ⟨tl90, tl91, tl92, tl3, tl93, (by decide +kernel), (by decide +kernel), (by decide +kernel)⟩
theorem kl64 : fy_kV RL 64 yX10_push cX10_push 2 (some .int) 1 := ⟨tl94, tl95, tl96, tl8, tl97, (by decide +kernel), (by decide +kernel), (by decide +kernel)⟩
theorem kl65 : fy_kV RL 65 yX9_clearWord cX9_clearWord 2 (some .int) 0 := ⟨tl98, tl99, tl100, tl3, tl101, (by decide +kernel), (by decide +kernel), (by decide +kernel)⟩
theorem kl69 : fy_kV RL 69 yX10_clearWord cX10_clearWord 2 (some .int) 0 := ⟨tl102, tl103, tl104, tl8, tl105, (by decide +kernel), (by decide +kernel), (by decide +kernel)⟩
theorem kl70 : fy_kV RL 70 yX9_acceptingStates cX9_acceptingStates 4 (some .int) 2 := ⟨tl106, tl107, tl108, tl3, tl109, (by decide +kernel), (by decide +kernel), (by decide +kernel)⟩
theorem kl73 : fy_kV RL 73 yX10_acceptingStates cX10_acceptingStates 3 (some .int) 2 := ⟨tl110, tl111, tl112, tl8, tl113, (by decide +kernel), (by decide +kernel), (by decide +kernel)⟩
theorem kl74 : fy_kV RL 74 yX9_accepts cX9_accepts 3 (some .int) 1 := ⟨tl114, tl115, tl116, tl3, tl117, (by decide +kernel), (by decide +kernel), (by decide +kernel)⟩
theorem kl77 : fy_kV RL 77 yX10_accepts cX10_accepts 2 (some .int) 1 := ⟨tl118, tl119, tl120, tl8, tl121, (by decide +kernel), (by decide +kernel), (by decide +kernel)⟩
theorem kl78 : fy_kV RL 78 yX9_rank cX9_rank 5 (some .int) 3 := ⟨tl122, tl123, tl124, tl3, tl125, (by decide +kernel), (by decide +kernel), (by decide +kernel)⟩
theorem kl81 : fy_kV RL 81 yX10_rank cX10_rank 4 (some .int) 3 := ⟨tl126, tl127, tl128, tl8, tl129, (by decide +kernel), (by decide +kernel), (by decide +kernel)⟩
theorem kl82 : fy_kV RL 82 yX9_strategy cX9_strategy 5 (some .int) 3 := ⟨tl130, tl131, tl132, tl3, tl133, (by decide +kernel), (by decide +kernel), (by decide +kernel)⟩
theorem kl85 : fy_kV RL 85 yX10_strategy cX10_strategy 11 (some .int) 3 := ⟨tl134, tl135, tl136, tl8, tl137, (by decide +kernel), (by decide +kernel), (by decide +kernel)⟩
theorem kl86 : fy_kV RL 86 yX9_reverseStep cX9_reverseStep 5 (some .int) 3 := ⟨tl138, tl139, tl140, tl3, tl141, (by decide +kernel), (by decide +kernel), (by decide +kernel)⟩
theorem kl89 : fy_kV RL 89 yX10_reverseStep cX10_reverseStep 4 (some .int) 3 := ⟨tl142, tl143, tl144, tl8, tl145, (by decide +kernel), (by decide +kernel), (by decide +kernel)⟩
theorem kl90 : fy_kV RL 90 yX9_reverseStates cX9_reverseStates 3 (some .int) 1 := ⟨tl146, tl147, tl148, tl3, tl149, (by decide +kernel), (by decide +kernel), (by decide +kernel)⟩
theorem kl93 : fy_kV RL 93 yX10_reverseStates cX10_reverseStates 2 (some .int) 1 := ⟨tl150, tl151, tl152, tl8, tl153, (by decide +kernel), (by decide +kernel), (by decide +kernel)⟩
theorem kl94 : fy_kV RL 94 yX9_reverseClasses cX9_reverseClasses 3 (some .int) 1 := ⟨tl154, tl155, tl156, tl3, tl157, (by decide +kernel), (by decide +kernel), (by decide +kernel)⟩
theorem kl97 : fy_kV RL 97 yX10_reverseClasses cX10_reverseClasses 6 (some .int) 1 := ⟨tl158, tl159, tl160, tl8, tl161, (by decide +kernel), (by decide +kernel), (by decide +kernel)⟩
theorem kl98 : fy_kV RL 98 yX9_existentialStates cX9_existentialStates 3 (some .int) 1 := ⟨tl162, tl163, tl164, tl3, tl165, (by decide +kernel), (by decide +kernel), (by decide +kernel)⟩
theorem kl101 : fy_kV RL 101 yX10_existentialStates cX10_existentialStates 4 (some .int) 1 := ⟨tl166, tl167, tl168, tl8, tl169, (by decide +kernel), (by decide +kernel), (by decide +kernel)⟩
theorem kl102 : fy_kV RL 102 yX9_existentialSets cX9_existentialSets 7 (some .int) 2 := ⟨tl170, tl171, tl172, tl3, tl173, (by decide +kernel), (by decide +kernel), (by decide +kernel)⟩
theorem kl105 : fy_kV RL 105 yX10_existentialSets cX10_existentialSets 6 (some .int) 2 := ⟨tl174, tl175, tl176, tl8, tl177, (by decide +kernel), (by decide +kernel), (by decide +kernel)⟩
theorem kl106 : fy_kV RL 106 yX9_relevantStates cX9_relevantStates 3 (some .int) 1 := ⟨tl178, tl179, tl180, tl3, tl181, (by decide +kernel), (by decide +kernel), (by decide +kernel)⟩
theorem kl109 : fy_kV RL 109 yX10_relevantStates cX10_relevantStates 6 (some .int) 1 := ⟨tl182, tl183, tl184, tl8, tl185, (by decide +kernel), (by decide +kernel), (by decide +kernel)⟩
theorem kl110 : fy_kV RL 110 yX9_findCheapest cX9_findCheapest 3 (some .int) 1 := ⟨tl186, tl187, tl188, tl3, tl189, (by decide +kernel), (by decide +kernel), (by decide +kernel)⟩
theorem kl113 : fy_kV RL 113 yX10_findCheapest cX10_findCheapest 5 (some .int) 1 := ⟨tl190, tl191, tl192, tl8, tl193, (by decide +kernel), (by decide +kernel), (by decide +kernel)⟩
theorem kl114 : fy_kV RL 114 yX9_findDifference cX9_findDifference 5 (some .int) 2 := ⟨tl194, tl195, tl196, tl3, tl197, (by decide +kernel), (by decide +kernel), (by decide +kernel)⟩
theorem kl117 : fy_kV RL 117 yX10_findDifference cX10_findDifference 7 (some .int) 2 := ⟨tl198, tl199, tl200, tl8, tl201, (by decide +kernel), (by decide +kernel), (by decide +kernel)⟩
theorem kl118 : fy_kV RL 118 yX9_foundLetter cX9_foundLetter 2 (some .int) 1 := ⟨tl202, tl203, tl204, tl3, tl205, (by decide +kernel), (by decide +kernel), (by decide +kernel)⟩
theorem kl121 : fy_kV RL 121 yX10_foundLetter cX10_foundLetter 2 (some .int) 1 := ⟨tl206, tl207, tl208, tl8, tl209, (by decide +kernel), (by decide +kernel), (by decide +kernel)⟩
theorem kl122 : fy_kV RL 122 yX9_foundCost cX9_foundCost 1 (some .int) 0 := ⟨tl210, tl211, tl212, tl3, tl213, (by decide +kernel), (by decide +kernel), (by decide +kernel)⟩
theorem kl125 : fy_kV RL 125 yX10_foundCost cX10_foundCost 1 (some .int) 0 := ⟨tl214, tl215, tl216, tl8, tl217, (by decide +kernel), (by decide +kernel), (by decide +kernel)⟩
theorem kl126 : fy_kV RL 126 yX9_isContained cX9_isContained 5 (some .int) 2 := ⟨tl218, tl219, tl220, tl3, tl221, (by decide +kernel), (by decide +kernel), (by decide +kernel)⟩
theorem kl129 : fy_kV RL 129 yX10_isContained cX10_isContained 4 (some .int) 2 := ⟨tl222, tl223, tl224, tl8, tl225, (by decide +kernel), (by decide +kernel), (by decide +kernel)⟩
theorem kl130 : fy_kV RL 130 yX9_countWords cX9_countWords 4 (some .long) 2 := ⟨tl226, tl227, tl228, tl3, tl229, (by decide +kernel), (by decide +kernel), (by decide +kernel)⟩
theorem kl134 : fy_kV RL 134 yX10_countWords cX10_countWords 6 (some .long) 2 := ⟨tl230, tl231, tl232, tl8, tl233, (by decide +kernel), (by decide +kernel), (by decide +kernel)⟩
theorem kl135 : fy_kV RL 135 yX9_dualize cX9_dualize 5 (some .int) 2 := ⟨tl234, tl235, tl236, tl3, tl237, (by decide +kernel), (by decide +kernel), (by decide +kernel)⟩
theorem kl138 : fy_kV RL 138 yX10_dualize cX10_dualize 5 (some .int) 2 := ⟨tl238, tl239, tl240, tl8, tl241, (by decide +kernel), (by decide +kernel), (by decide +kernel)⟩
theorem kl139 : fy_kV RL 139 yX9_combine cX9_combine 8 (some .int) 4 := ⟨tl242, tl243, tl244, tl3, tl245, (by decide +kernel), (by decide +kernel), (by decide +kernel)⟩
theorem kl142 : fy_kV RL 142 yX10_combine cX10_combine 8 (some .int) 4 := ⟨tl246, tl247, tl248, tl8, tl249, (by decide +kernel), (by decide +kernel), (by decide +kernel)⟩
theorem kl143 : fy_kV RL 143 yX9_save cX9_save 1 (some .int) 0 := ⟨tl250, tl251, tl252, tl3, tl253, (by decide +kernel), (by decide +kernel), (by decide +kernel)⟩
theorem kl146 : fy_kV RL 146 yX10_save cX10_save 2 (some .int) 0 := ⟨tl254, tl255, tl256, tl8, tl257, (by decide +kernel), (by decide +kernel), (by decide +kernel)⟩
theorem kl147 : fy_kV RL 147 yX9_restore cX9_restore 1 (some .int) 0 := ⟨tl258, tl259, tl260, tl3, tl261, (by decide +kernel), (by decide +kernel), (by decide +kernel)⟩
theorem kl150 : fy_kV RL 150 yX10_restore cX10_restore 2 (some .int) 0 := ⟨tl262, tl263, tl264, tl8, tl265, (by decide +kernel), (by decide +kernel), (by decide +kernel)⟩
/-! THE LAW'S WALK over both worlds -/
section LW
variable {p : Program} {l : Launch} {e : Env} {s : State} {m : MethodId} {below : List Frame} {meth : Method} {c : Code} {H : Heap} {locs : List Loc} {cells slots : Nat} {Q : State → Prop} {pc : Nat} {ls : Array Slot} {rest : List Value} {b L : Nat} {xs : Nat → Int32}
abbrev lw_gX (D : va_G) (T : Nat → ClassId) (aX : Nat → Nat) (t : Nat) : fy_G := (D, T, aX, some t)
abbrev lw_gM (D : va_G) (T : Nat → ClassId) (aM : Nat → Nat) : fy_G := (D, T, aM, none)
def lw_C (D : va_G) (T : Nat → ClassId) (aX aM : Nat → Nat) (t : Nat) (p : Program) (s : State) (m : MethodId) (c : Code) (b L : Nat) (xs : Nat → Int32) : Prop :=
  p.tables.exec = Jvm.exec ∧ c.code = code ∧ c.maxLocals = 4 ∧ s.vm.findClass RL = some m.cls ∧ (∀ w ∈ fy_tb, w.before #[Value.ref b] s = true) ∧ va_K D vwCl (fy_ty T) s ∧ fy_N s ∧ fy_D (lw_gX D T aX t) X_Y ∧ fy_D (lw_gM D T aM) M_Y ∧ (∀ i j, i ∈ X_Y.2 → j ∈ M_Y.2 → aX i ≠ aM j) ∧ (∀ i ∈ X_Y.2, s.heap.size ≤ aX i) ∧ (∀ j ∈ M_Y.2, s.heap.size ≤ aM j) ∧ va_Z RX9 "CONTAINING" "[J" (.ref t) (fun q => s.heap.size ≤ q) s s.heap ∧ va_T .long t 6 (fun j => .long (fy_cont j)) (fun q => s.heap.size ≤ q) s s.heap ∧ va_X b L xs s s.heap ∧ b < s.heap.size ∧ L ≤ 2560
def lw_I (D : va_G) (T : Nat → ClassId) (aX aM : Nat → Nat) (t : Nat) (s : State) (SX SM : fy_S) (H : Heap) (locs : List Loc) : Prop := fy_P (lw_gX D T aX t) X_Y SX H ∧ fy_P (lw_gM D T aM) M_Y SM H ∧ va_S (fun q => s.heap.size ≤ q) s.heap H locs
variable {D : va_G} {T : Nat → ClassId} {aX aM : Nat → Nat} {t : Nat} {SX SM SX' SM' : fy_S} {R : Room}
theorem lw_lt {g : fy_G} {y : fy_Y} {S : fy_S} (h : fy_P g y S H) {i : Nat} (hi : i ∈ y.2) : g.2.2.1 i < H.size := (fz_mem.mp h i hi).lt
theorem lw_E (C : lw_C D T aX aM t p s m c b L xs) (I : lw_I D T aX aM t s SX SM H locs) : fy_E (lw_gX D T aX t) X_Y s H := by
  obtain ⟨-, -, -, -, -, -, -, -, -, -, hX, -, hZ, hT, -⟩ := C
  have hsub : ∀ q, fy_A (lw_gX D T aX t) X_Y q → s.heap.size ≤ q := by
    rintro q ⟨i, hi, rfl⟩
    exact hX i hi
  intro t' ht'
  obtain rfl : t = t' := Option.some.inj ht'
  exact ⟨(hZ.kept (fun a h1 h2 => I.2.2.2.1 a h1 h2)).narrow hsub, (hT.kept (fun a h1 h2 => I.2.2.2.1 a h1 h2)).narrow hsub⟩
theorem lw_runX {ym : MethodName} {bytes : ByteArray} {maxL index np d : Nat} {ret : Option FieldType} {As st : List Value} {Qc : Array Value → State → Outcome → State → Prop} (C : lw_C D T aX aM t p s m c b L xs) (I : lw_I D T aX aM t s SX SM H locs) (hM : fy_M (lw_gX D T aX t) X_Y l ym bytes maxL ret (fy_rm d) (.ref (aX 0) :: As) SX Qc) (k : fy_kV RL index ym bytes maxL ret np) (hc : vwCl[9]? = some (ym.cls, TX9, 14)) (hR : d + 1 ≤ R.frames ∧ 8 + (maxL + 11) + 45 * d ≤ R.locals) (hn : As.length = np) (hsize : ls.size = 4) (hst : st = As.reverse ++ .ref (aX 0) :: rest) (hW : (rest.map fun v => v.category).sum ≤ 8) (hf : cells ≤ R.cells ∧ slots ≤ R.slots) (hdg : decode code pc = .ok (.invokevirtual index, 3)) : va_Run p l e R s m #[Value.ref b] below meth c H locs cells slots 0 0 (F0 m pc ls st) rest (Qc (Value.ref (aX 0) :: As).toArray) (fy_A (lw_gX D T aX t) X_Y) := by
  have hE := lw_E C I
  obtain ⟨hx, hb, hml, hown, hts, hK, hN, hDX, hDM, -⟩ := C
  exact fz_runV (g := lw_gX D T aX t) (y := X_Y) (id := 0) hx hb hml hown hts hK hDX hE hN I.1 hM (X_o9 X_full X_i0) k hc hR hn hsize hst hW hf hdg
theorem lw_runM {ym : MethodName} {bytes : ByteArray} {maxL index np d : Nat} {ret : Option FieldType} {As st : List Value} {Qc : Array Value → State → Outcome → State → Prop} (C : lw_C D T aX aM t p s m c b L xs) (I : lw_I D T aX aM t s SX SM H locs) (hM : fy_M (lw_gM D T aM) M_Y l ym bytes maxL ret (fy_rm d) (.ref (aM 0) :: As) SM Qc) (k : fy_kV RL index ym bytes maxL ret np) (hc : vwCl[10]? = some (ym.cls, TX10, 49)) (hR : d + 1 ≤ R.frames ∧ 8 + (maxL + 11) + 45 * d ≤ R.locals) (hn : As.length = np) (hsize : ls.size = 4) (hst : st = As.reverse ++ .ref (aM 0) :: rest) (hW : (rest.map fun v => v.category).sum ≤ 8) (hf : cells ≤ R.cells ∧ slots ≤ R.slots) (hdg : decode code pc = .ok (.invokevirtual index, 3)) : va_Run p l e R s m #[Value.ref b] below meth c H locs cells slots 0 0 (F0 m pc ls st) rest (Qc (Value.ref (aM 0) :: As).toArray) (fy_A (lw_gM D T aM) M_Y) := by
  obtain ⟨hx, hb, hml, hown, hts, hK, hN, hDX, hDM, -⟩ := C
  exact fz_runV (g := lw_gM D T aM) (y := M_Y) (id := 0) hx hb hml hown hts hK hDM (fun t h => by cases h) hN I.2.1 hM M_o k hc hR hn hsize hst hW hf hdg
theorem lw_keepM {H1 : Heap} (C : lw_C D T aX aM t p s m c b L xs) (I : lw_I D T aX aM t s SX SM H locs) (hk : ∀ q : Nat, q < H.size → ¬ fy_A (lw_gX D T aX t) X_Y q → H1[q]? = H[q]?) : fy_P (lw_gM D T aM) M_Y SM H1 := by
  obtain ⟨-, -, -, -, -, -, -, -, -, hdis, -⟩ := C
  refine fz_mem.mpr (fun j hj => (fz_mem.mp I.2.1 j hj).kept (hk _ (lw_lt I.2.1 hj) ?_))
  rintro ⟨i, hi, h⟩
  exact hdis i j hi hj h.symm
theorem lw_keepX {H1 : Heap} (C : lw_C D T aX aM t p s m c b L xs) (I : lw_I D T aX aM t s SX SM H locs) (hk : ∀ q : Nat, q < H.size → ¬ fy_A (lw_gM D T aM) M_Y q → H1[q]? = H[q]?) : fy_P (lw_gX D T aX t) X_Y SX H1 := by
  obtain ⟨-, -, -, -, -, -, -, -, -, hdis, -⟩ := C
  refine fz_mem.mpr (fun i hi => (fz_mem.mp I.1 i hi).kept (hk _ (lw_lt I.1 hi) ?_))
  rintro ⟨j, hj, h⟩
  exact hdis i j hi hj h
theorem lw_subX (C : lw_C D T aX aM t p s m c b L xs) : ∀ q, fy_A (lw_gX D T aX t) X_Y q → s.heap.size ≤ q := by
  obtain ⟨-, -, -, -, -, -, -, -, -, -, hX, -⟩ := C
  rintro q ⟨i, hi, rfl⟩
  exact hX i hi
theorem lw_subM (C : lw_C D T aX aM t p s m c b L xs) : ∀ q, fy_A (lw_gM D T aM) M_Y q → s.heap.size ≤ q := by
  obtain ⟨-, -, -, -, -, -, -, -, -, -, -, hM, -⟩ := C
  rintro q ⟨i, hi, rfl⟩
  exact hM i hi
theorem lw_calXI {r : Int32} {a : Array Value} {st : List Value} (C : lw_C D T aX aM t p s m c b L xs) (I : lw_I D T aX aM t s SX SM H locs) (hr : va_Run p l e R s m #[Value.ref b] below meth c H locs cells slots 0 0 (F0 m pc ls st) rest (fy_QI (lw_gX D T aX t) X_Y r SX' a) (fy_A (lw_gX D T aX t) X_Y)) (kk : ∀ (H1 : Heap) (locs1 : List Loc), lw_I D T aX aM t s SX' SM H1 locs1 → W p l e R s m #[Value.ref b] below meth c H1 locs1 cells slots Q (F0 m (pc + 3) ls (.int r :: rest))) : W p l e R s m #[Value.ref b] below meth c H locs cells slots Q (F0 m pc ls st) := by
  refine va_calli hr I.2.2 (fun q _ h => lw_subX C q h) (lw_subX C) (fun r' u t' H1 locs1 ht _ hp hB _ hk hS => ?_)
  obtain ⟨rfl, rfl⟩ := hp
  exact kk H1 locs1 ⟨by rw [← ht]; exact hB, lw_keepM C I hk, hS⟩
theorem lw_calMI {r : Int32} {a : Array Value} {st : List Value} (C : lw_C D T aX aM t p s m c b L xs) (I : lw_I D T aX aM t s SX SM H locs) (hr : va_Run p l e R s m #[Value.ref b] below meth c H locs cells slots 0 0 (F0 m pc ls st) rest (fy_QI (lw_gM D T aM) M_Y r SM' a) (fy_A (lw_gM D T aM) M_Y)) (kk : ∀ (H1 : Heap) (locs1 : List Loc), lw_I D T aX aM t s SX SM' H1 locs1 → W p l e R s m #[Value.ref b] below meth c H1 locs1 cells slots Q (F0 m (pc + 3) ls (.int r :: rest))) : W p l e R s m #[Value.ref b] below meth c H locs cells slots Q (F0 m pc ls st) := by
  refine va_calli hr I.2.2 (fun q _ h => lw_subM C q h) (lw_subM C) (fun r' u t' H1 locs1 ht _ hp hB _ hk hS => ?_)
  obtain ⟨rfl, rfl⟩ := hp
  exact kk H1 locs1 ⟨lw_keepX C I hk, by rw [← ht]; exact hB, hS⟩
theorem lw_calXL {r : Int64} {a : Array Value} {st : List Value} (C : lw_C D T aX aM t p s m c b L xs) (I : lw_I D T aX aM t s SX SM H locs) (hr : va_Run p l e R s m #[Value.ref b] below meth c H locs cells slots 0 0 (F0 m pc ls st) rest (fy_QL (lw_gX D T aX t) X_Y r SX' a) (fy_A (lw_gX D T aX t) X_Y)) (kk : ∀ (H1 : Heap) (locs1 : List Loc), lw_I D T aX aM t s SX' SM H1 locs1 → W p l e R s m #[Value.ref b] below meth c H1 locs1 cells slots Q (F0 m (pc + 3) ls (.long r :: rest))) : W p l e R s m #[Value.ref b] below meth c H locs cells slots Q (F0 m pc ls st) := by
  refine va_calll hr I.2.2 (fun q _ h => lw_subX C q h) (lw_subX C) (fun r' u t' H1 locs1 ht _ hp hB _ hk hS => ?_)
  obtain ⟨rfl, rfl⟩ := hp
  exact kk H1 locs1 ⟨by rw [← ht]; exact hB, lw_keepM C I hk, hS⟩
theorem lw_calML {r : Int64} {a : Array Value} {st : List Value} (C : lw_C D T aX aM t p s m c b L xs) (I : lw_I D T aX aM t s SX SM H locs) (hr : va_Run p l e R s m #[Value.ref b] below meth c H locs cells slots 0 0 (F0 m pc ls st) rest (fy_QL (lw_gM D T aM) M_Y r SM' a) (fy_A (lw_gM D T aM) M_Y)) (kk : ∀ (H1 : Heap) (locs1 : List Loc), lw_I D T aX aM t s SX SM' H1 locs1 → W p l e R s m #[Value.ref b] below meth c H1 locs1 cells slots Q (F0 m (pc + 3) ls (.long r :: rest))) : W p l e R s m #[Value.ref b] below meth c H locs cells slots Q (F0 m pc ls st) := by
  refine va_calll hr I.2.2 (fun q _ h => lw_subM C q h) (lw_subM C) (fun r' u t' H1 locs1 ht _ hp hB _ hk hS => ?_)
  obtain ⟨rfl, rfl⟩ := hp
  exact kk H1 locs1 ⟨lw_keepX C I hk, by rw [← ht]; exact hB, hS⟩
theorem lw_sld (C : lw_C D T aX aM t p s m c b L xs) (I : lw_I D T aX aM t s SX SM H locs) {j k : Nat} (hj : j + 5 ≤ L) (hk : k < 5) {kv : Int32} (hkv : kv = nI k) (hdg : decode code pc = .ok (.iaload, 1)) (kk : W p l e R s m #[Value.ref b] below meth c H locs cells slots Q (F0 m (pc + 1) ls (.int (xs (j + k)) :: rest))) : W p l e R s m #[Value.ref b] below meth c H locs cells slots Q (F0 m pc ls (.int (nI j + kv) :: .ref b :: rest)) := by
  obtain ⟨hx, hb, -, -, -, -, -, -, -, -, -, -, -, -, hX, hbl, hL⟩ := C
  subst hkv
  have e : nI j + nI k = nI (j + k) := nI_add j k
  rw [e]
  refine va_sld (A := fun q => s.heap.size ≤ q) hx hb hX hbl (fun h => by omega) I.2.2 (vp_in_nI (by omega) (by omega)) hdg ?_
  rw [nI_clamp (by omega)]
  exact kk
theorem lw_sld0 (C : lw_C D T aX aM t p s m c b L xs) (I : lw_I D T aX aM t s SX SM H locs) {j : Nat} (hj : j + 5 ≤ L) (hdg : decode code pc = .ok (.iaload, 1)) (kk : W p l e R s m #[Value.ref b] below meth c H locs cells slots Q (F0 m (pc + 1) ls (.int (xs j) :: rest))) : W p l e R s m #[Value.ref b] below meth c H locs cells slots Q (F0 m pc ls (.int (nI j) :: .ref b :: rest)) := by
  obtain ⟨hx, hb, -, -, -, -, -, -, -, -, -, -, -, -, hX, hbl, hL⟩ := C
  refine va_sld (A := fun q => s.heap.size ≤ q) hx hb hX hbl (fun h => by omega) I.2.2 (vp_in_nI (by omega) (by omega)) hdg ?_
  rw [nI_clamp (by omega)]
  exact kk
end LW
set_option maxHeartbeats 4000000 in
set_option maxRecDepth 100000 in
theorem lw_case0 {p : Program} {l : Launch} {e : Env} {s : State} {m : MethodId} {below : List Frame} {meth : Method} {c : Code} {H : Heap} {locs : List Loc} {Q : State → Prop} {ls : Array Slot} {b L : Nat} {xs : Nat → Int32} {D : va_G} {T : Nat → ClassId} {aX aM : Nat → Nat} {t : Nat} {SX SM SX' SM' : fy_S} (C : lw_C D T aX aM t p s m c b L xs) (I : lw_I D T aX aM t s SX SM H locs) {j : Nat} (hj : j + 5 ≤ L) (hl : lv_has ls 4 [(3, .int (nI j)), (2, .ref (aM 0)), (1, .ref (aX 0)), (0, .ref b)]) {r : Int32} (hX : X9_create SX (xs (j + 1)) (xs (j + 2)) (xs (j + 3)) = some (SX', r)) (hM : M_create SM (xs (j + 1)) (xs (j + 2)) (xs (j + 3)) = some (SM', r)) (kk : ∀ (H : Heap) (locs : List Loc), lw_I D T aX aM t s SX' SM' H locs → W p l e room_1 s m #[Value.ref b] below meth c H locs 359 39462 Q (F0 m 1230 ls [])) : W p l e room_1 s m #[Value.ref b] below meth c H locs 359 39462 Q (F0 m 180 ls []) := by
  obtain ⟨hx, hb, -⟩ := id C
  refine lv_aload_n hx hb dL_law_180 rfl (lv_at hl 2 rfl) ?_
  refine lv_aload_n hx hb dL_law_181 rfl (lv_at hl 3 rfl) ?_
  refine lv_iload_n hx hb dL_law_182 rfl (lv_at hl 0 rfl) ?_
  refine lv_iconst (v := (1 : Int32)) hx hb dL_law_183 (by decide) ?_
  refine lv_iadd hx hb dL_law_184 ?_
  refine lw_sld C I hj (k := 1) (by decide) (by decide) dL_law_185 ?_
  refine lv_aload_n hx hb dL_law_186 rfl (lv_at hl 3 rfl) ?_
  refine lv_iload_n hx hb dL_law_187 rfl (lv_at hl 0 rfl) ?_
  refine lv_iconst (v := (2 : Int32)) hx hb dL_law_188 (by decide) ?_
  refine lv_iadd hx hb dL_law_189 ?_
  refine lw_sld C I hj (k := 2) (by decide) (by decide) dL_law_190 ?_
  refine lv_aload_n hx hb dL_law_191 rfl (lv_at hl 3 rfl) ?_
  refine lv_iload_n hx hb dL_law_192 rfl (lv_at hl 0 rfl) ?_
  refine lv_iconst (v := (3 : Int32)) hx hb dL_law_193 (by decide) ?_
  refine lv_iadd hx hb dL_law_194 ?_
  refine lw_sld C I hj (k := 3) (by decide) (by decide) dL_law_195 ?_
  refine lw_calXI C I (lw_runX (As := [.int (xs (j + 1)), .int (xs (j + 2)), .int (xs (j + 3))]) (rest := []) C I (c_X9_create l (lw_gX D T aX t) hX) kl13 rfl ⟨(Nat.le_of_ble_eq_true rfl), (Nat.le_of_ble_eq_true rfl)⟩ rfl hl.1 rfl (Nat.le_of_ble_eq_true rfl) ⟨(Nat.le_of_ble_eq_true rfl), (Nat.le_of_ble_eq_true rfl)⟩ dL_law_196) (fun H locs I => ?_)
  refine lv_aload_n hx hb dL_law_199 rfl (lv_at hl 1 rfl) ?_
  refine lv_aload_n hx hb dL_law_200 rfl (lv_at hl 3 rfl) ?_
  refine lv_iload_n hx hb dL_law_201 rfl (lv_at hl 0 rfl) ?_
  refine lv_iconst (v := (1 : Int32)) hx hb dL_law_202 (by decide) ?_
  refine lv_iadd hx hb dL_law_203 ?_
  refine lw_sld C I hj (k := 1) (by decide) (by decide) dL_law_204 ?_
  refine lv_aload_n hx hb dL_law_205 rfl (lv_at hl 3 rfl) ?_
  refine lv_iload_n hx hb dL_law_206 rfl (lv_at hl 0 rfl) ?_
  refine lv_iconst (v := (2 : Int32)) hx hb dL_law_207 (by decide) ?_
  refine lv_iadd hx hb dL_law_208 ?_
  refine lw_sld C I hj (k := 2) (by decide) (by decide) dL_law_209 ?_
  refine lv_aload_n hx hb dL_law_210 rfl (lv_at hl 3 rfl) ?_
  refine lv_iload_n hx hb dL_law_211 rfl (lv_at hl 0 rfl) ?_
  refine lv_iconst (v := (3 : Int32)) hx hb dL_law_212 (by decide) ?_
  refine lv_iadd hx hb dL_law_213 ?_
  refine lw_sld C I hj (k := 3) (by decide) (by decide) dL_law_214 ?_
  refine lw_calMI C I (lw_runM (As := [.int (xs (j + 1)), .int (xs (j + 2)), .int (xs (j + 3))]) (rest := [.int r]) C I (c_M_create l (lw_gM D T aM) hM) kl17 rfl ⟨(Nat.le_of_ble_eq_true rfl), (Nat.le_of_ble_eq_true rfl)⟩ rfl hl.1 rfl (Nat.le_of_ble_eq_true rfl) ⟨(Nat.le_of_ble_eq_true rfl), (Nat.le_of_ble_eq_true rfl)⟩ dL_law_215) (fun H locs I => ?_)
  refine lv_icmp_eq (tgt := 1230) hx hb dL_law_218 (by decide) (fun _ => ?_) (fun hc => absurd rfl hc)
  exact kk H locs I
set_option maxHeartbeats 4000000 in
set_option maxRecDepth 100000 in
theorem lw_case1 {p : Program} {l : Launch} {e : Env} {s : State} {m : MethodId} {below : List Frame} {meth : Method} {c : Code} {H : Heap} {locs : List Loc} {Q : State → Prop} {ls : Array Slot} {b L : Nat} {xs : Nat → Int32} {D : va_G} {T : Nat → ClassId} {aX aM : Nat → Nat} {t : Nat} {SX SM SX' SM' : fy_S} (C : lw_C D T aX aM t p s m c b L xs) (I : lw_I D T aX aM t s SX SM H locs) {j : Nat} (hj : j + 5 ≤ L) (hl : lv_has ls 4 [(3, .int (nI j)), (2, .ref (aM 0)), (1, .ref (aX 0)), (0, .ref b)]) {r : Int32} (hX : X9_setFinal SX (xs (j + 1)) (xs (j + 2)) (xs (j + 3)) = some (SX', r)) (hM : M_setFinal SM (xs (j + 1)) (xs (j + 2)) (xs (j + 3)) = some (SM', r)) (kk : ∀ (H : Heap) (locs : List Loc), lw_I D T aX aM t s SX' SM' H locs → W p l e room_1 s m #[Value.ref b] below meth c H locs 359 39462 Q (F0 m 1230 ls [])) : W p l e room_1 s m #[Value.ref b] below meth c H locs 359 39462 Q (F0 m 223 ls []) := by
  obtain ⟨hx, hb, -⟩ := id C
  refine lv_aload_n hx hb dL_law_223 rfl (lv_at hl 2 rfl) ?_
  refine lv_aload_n hx hb dL_law_224 rfl (lv_at hl 3 rfl) ?_
  refine lv_iload_n hx hb dL_law_225 rfl (lv_at hl 0 rfl) ?_
  refine lv_iconst (v := (1 : Int32)) hx hb dL_law_226 (by decide) ?_
  refine lv_iadd hx hb dL_law_227 ?_
  refine lw_sld C I hj (k := 1) (by decide) (by decide) dL_law_228 ?_
  refine lv_aload_n hx hb dL_law_229 rfl (lv_at hl 3 rfl) ?_
  refine lv_iload_n hx hb dL_law_230 rfl (lv_at hl 0 rfl) ?_
  refine lv_iconst (v := (2 : Int32)) hx hb dL_law_231 (by decide) ?_
  refine lv_iadd hx hb dL_law_232 ?_
  refine lw_sld C I hj (k := 2) (by decide) (by decide) dL_law_233 ?_
  refine lv_aload_n hx hb dL_law_234 rfl (lv_at hl 3 rfl) ?_
  refine lv_iload_n hx hb dL_law_235 rfl (lv_at hl 0 rfl) ?_
  refine lv_iconst (v := (3 : Int32)) hx hb dL_law_236 (by decide) ?_
  refine lv_iadd hx hb dL_law_237 ?_
  refine lw_sld C I hj (k := 3) (by decide) (by decide) dL_law_238 ?_
  refine lw_calXI C I (lw_runX (As := [.int (xs (j + 1)), .int (xs (j + 2)), .int (xs (j + 3))]) (rest := []) C I (c_X9_setFinal l (lw_gX D T aX t) hX) kl18 rfl ⟨(Nat.le_of_ble_eq_true rfl), (Nat.le_of_ble_eq_true rfl)⟩ rfl hl.1 rfl (Nat.le_of_ble_eq_true rfl) ⟨(Nat.le_of_ble_eq_true rfl), (Nat.le_of_ble_eq_true rfl)⟩ dL_law_239) (fun H locs I => ?_)
  refine lv_aload_n hx hb dL_law_242 rfl (lv_at hl 1 rfl) ?_
  refine lv_aload_n hx hb dL_law_243 rfl (lv_at hl 3 rfl) ?_
  refine lv_iload_n hx hb dL_law_244 rfl (lv_at hl 0 rfl) ?_
  refine lv_iconst (v := (1 : Int32)) hx hb dL_law_245 (by decide) ?_
  refine lv_iadd hx hb dL_law_246 ?_
  refine lw_sld C I hj (k := 1) (by decide) (by decide) dL_law_247 ?_
  refine lv_aload_n hx hb dL_law_248 rfl (lv_at hl 3 rfl) ?_
  refine lv_iload_n hx hb dL_law_249 rfl (lv_at hl 0 rfl) ?_
  refine lv_iconst (v := (2 : Int32)) hx hb dL_law_250 (by decide) ?_
  refine lv_iadd hx hb dL_law_251 ?_
  refine lw_sld C I hj (k := 2) (by decide) (by decide) dL_law_252 ?_
  refine lv_aload_n hx hb dL_law_253 rfl (lv_at hl 3 rfl) ?_
  refine lv_iload_n hx hb dL_law_254 rfl (lv_at hl 0 rfl) ?_
  refine lv_iconst (v := (3 : Int32)) hx hb dL_law_255 (by decide) ?_
  refine lv_iadd hx hb dL_law_256 ?_
  refine lw_sld C I hj (k := 3) (by decide) (by decide) dL_law_257 ?_
  refine lw_calMI C I (lw_runM (As := [.int (xs (j + 1)), .int (xs (j + 2)), .int (xs (j + 3))]) (rest := [.int r]) C I (c_M_setFinal l (lw_gM D T aM) hM) kl21 rfl ⟨(Nat.le_of_ble_eq_true rfl), (Nat.le_of_ble_eq_true rfl)⟩ rfl hl.1 rfl (Nat.le_of_ble_eq_true rfl) ⟨(Nat.le_of_ble_eq_true rfl), (Nat.le_of_ble_eq_true rfl)⟩ dL_law_258) (fun H locs I => ?_)
  refine lv_icmp_eq (tgt := 1230) hx hb dL_law_261 (by decide) (fun _ => ?_) (fun hc => absurd rfl hc)
  exact kk H locs I
set_option maxHeartbeats 4000000 in
set_option maxRecDepth 100000 in
theorem lw_case2 {p : Program} {l : Launch} {e : Env} {s : State} {m : MethodId} {below : List Frame} {meth : Method} {c : Code} {H : Heap} {locs : List Loc} {Q : State → Prop} {ls : Array Slot} {b L : Nat} {xs : Nat → Int32} {D : va_G} {T : Nat → ClassId} {aX aM : Nat → Nat} {t : Nat} {SX SM SX' SM' : fy_S} (C : lw_C D T aX aM t p s m c b L xs) (I : lw_I D T aX aM t s SX SM H locs) {j : Nat} (hj : j + 5 ≤ L) (hl : lv_has ls 4 [(3, .int (nI j)), (2, .ref (aM 0)), (1, .ref (aX 0)), (0, .ref b)]) {r : Int32} (hX : X9_setWeight SX (xs (j + 1)) (xs (j + 2)) (xs (j + 3)) = some (SX', r)) (hM : M_setWeight SM (xs (j + 1)) (xs (j + 2)) (xs (j + 3)) = some (SM', r)) (kk : ∀ (H : Heap) (locs : List Loc), lw_I D T aX aM t s SX' SM' H locs → W p l e room_1 s m #[Value.ref b] below meth c H locs 359 39462 Q (F0 m 1230 ls [])) : W p l e room_1 s m #[Value.ref b] below meth c H locs 359 39462 Q (F0 m 266 ls []) := by
  obtain ⟨hx, hb, -⟩ := id C
  refine lv_aload_n hx hb dL_law_266 rfl (lv_at hl 2 rfl) ?_
  refine lv_aload_n hx hb dL_law_267 rfl (lv_at hl 3 rfl) ?_
  refine lv_iload_n hx hb dL_law_268 rfl (lv_at hl 0 rfl) ?_
  refine lv_iconst (v := (1 : Int32)) hx hb dL_law_269 (by decide) ?_
  refine lv_iadd hx hb dL_law_270 ?_
  refine lw_sld C I hj (k := 1) (by decide) (by decide) dL_law_271 ?_
  refine lv_aload_n hx hb dL_law_272 rfl (lv_at hl 3 rfl) ?_
  refine lv_iload_n hx hb dL_law_273 rfl (lv_at hl 0 rfl) ?_
  refine lv_iconst (v := (2 : Int32)) hx hb dL_law_274 (by decide) ?_
  refine lv_iadd hx hb dL_law_275 ?_
  refine lw_sld C I hj (k := 2) (by decide) (by decide) dL_law_276 ?_
  refine lv_aload_n hx hb dL_law_277 rfl (lv_at hl 3 rfl) ?_
  refine lv_iload_n hx hb dL_law_278 rfl (lv_at hl 0 rfl) ?_
  refine lv_iconst (v := (3 : Int32)) hx hb dL_law_279 (by decide) ?_
  refine lv_iadd hx hb dL_law_280 ?_
  refine lw_sld C I hj (k := 3) (by decide) (by decide) dL_law_281 ?_
  refine lw_calXI C I (lw_runX (As := [.int (xs (j + 1)), .int (xs (j + 2)), .int (xs (j + 3))]) (rest := []) C I (c_X9_setWeight l (lw_gX D T aX t) hX) kl22 rfl ⟨(Nat.le_of_ble_eq_true rfl), (Nat.le_of_ble_eq_true rfl)⟩ rfl hl.1 rfl (Nat.le_of_ble_eq_true rfl) ⟨(Nat.le_of_ble_eq_true rfl), (Nat.le_of_ble_eq_true rfl)⟩ dL_law_282) (fun H locs I => ?_)
  refine lv_aload_n hx hb dL_law_285 rfl (lv_at hl 1 rfl) ?_
  refine lv_aload_n hx hb dL_law_286 rfl (lv_at hl 3 rfl) ?_
  refine lv_iload_n hx hb dL_law_287 rfl (lv_at hl 0 rfl) ?_
  refine lv_iconst (v := (1 : Int32)) hx hb dL_law_288 (by decide) ?_
  refine lv_iadd hx hb dL_law_289 ?_
  refine lw_sld C I hj (k := 1) (by decide) (by decide) dL_law_290 ?_
  refine lv_aload_n hx hb dL_law_291 rfl (lv_at hl 3 rfl) ?_
  refine lv_iload_n hx hb dL_law_292 rfl (lv_at hl 0 rfl) ?_
  refine lv_iconst (v := (2 : Int32)) hx hb dL_law_293 (by decide) ?_
  refine lv_iadd hx hb dL_law_294 ?_
  refine lw_sld C I hj (k := 2) (by decide) (by decide) dL_law_295 ?_
  refine lv_aload_n hx hb dL_law_296 rfl (lv_at hl 3 rfl) ?_
  refine lv_iload_n hx hb dL_law_297 rfl (lv_at hl 0 rfl) ?_
  refine lv_iconst (v := (3 : Int32)) hx hb dL_law_298 (by decide) ?_
  refine lv_iadd hx hb dL_law_299 ?_
  refine lw_sld C I hj (k := 3) (by decide) (by decide) dL_law_300 ?_
  refine lw_calMI C I (lw_runM (As := [.int (xs (j + 1)), .int (xs (j + 2)), .int (xs (j + 3))]) (rest := [.int r]) C I (c_M_setWeight l (lw_gM D T aM) hM) kl25 rfl ⟨(Nat.le_of_ble_eq_true rfl), (Nat.le_of_ble_eq_true rfl)⟩ rfl hl.1 rfl (Nat.le_of_ble_eq_true rfl) ⟨(Nat.le_of_ble_eq_true rfl), (Nat.le_of_ble_eq_true rfl)⟩ dL_law_301) (fun H locs I => ?_)
  refine lv_icmp_eq (tgt := 1230) hx hb dL_law_304 (by decide) (fun _ => ?_) (fun hc => absurd rfl hc)
  exact kk H locs I
set_option maxHeartbeats 4000000 in
set_option maxRecDepth 100000 in
theorem lw_case3 {p : Program} {l : Launch} {e : Env} {s : State} {m : MethodId} {below : List Frame} {meth : Method} {c : Code} {H : Heap} {locs : List Loc} {Q : State → Prop} {ls : Array Slot} {b L : Nat} {xs : Nat → Int32} {D : va_G} {T : Nat → ClassId} {aX aM : Nat → Nat} {t : Nat} {SX SM SX' SM' : fy_S} (C : lw_C D T aX aM t p s m c b L xs) (I : lw_I D T aX aM t s SX SM H locs) {j : Nat} (hj : j + 5 ≤ L) (hl : lv_has ls 4 [(3, .int (nI j)), (2, .ref (aM 0)), (1, .ref (aX 0)), (0, .ref b)]) {r : Int32} (hX : X9_append SX (xs (j + 1)) (xs (j + 2)) = some (SX', r)) (hM : M_append SM (xs (j + 1)) (xs (j + 2)) = some (SM', r)) (kk : ∀ (H : Heap) (locs : List Loc), lw_I D T aX aM t s SX' SM' H locs → W p l e room_1 s m #[Value.ref b] below meth c H locs 359 39462 Q (F0 m 1230 ls [])) : W p l e room_1 s m #[Value.ref b] below meth c H locs 359 39462 Q (F0 m 309 ls []) := by
  obtain ⟨hx, hb, -⟩ := id C
  refine lv_aload_n hx hb dL_law_309 rfl (lv_at hl 2 rfl) ?_
  refine lv_aload_n hx hb dL_law_310 rfl (lv_at hl 3 rfl) ?_
  refine lv_iload_n hx hb dL_law_311 rfl (lv_at hl 0 rfl) ?_
  refine lv_iconst (v := (1 : Int32)) hx hb dL_law_312 (by decide) ?_
  refine lv_iadd hx hb dL_law_313 ?_
  refine lw_sld C I hj (k := 1) (by decide) (by decide) dL_law_314 ?_
  refine lv_aload_n hx hb dL_law_315 rfl (lv_at hl 3 rfl) ?_
  refine lv_iload_n hx hb dL_law_316 rfl (lv_at hl 0 rfl) ?_
  refine lv_iconst (v := (2 : Int32)) hx hb dL_law_317 (by decide) ?_
  refine lv_iadd hx hb dL_law_318 ?_
  refine lw_sld C I hj (k := 2) (by decide) (by decide) dL_law_319 ?_
  refine lw_calXI C I (lw_runX (As := [.int (xs (j + 1)), .int (xs (j + 2))]) (rest := []) C I (c_X9_append l (lw_gX D T aX t) hX) kl26 rfl ⟨(Nat.le_of_ble_eq_true rfl), (Nat.le_of_ble_eq_true rfl)⟩ rfl hl.1 rfl (Nat.le_of_ble_eq_true rfl) ⟨(Nat.le_of_ble_eq_true rfl), (Nat.le_of_ble_eq_true rfl)⟩ dL_law_320) (fun H locs I => ?_)
  refine lv_aload_n hx hb dL_law_323 rfl (lv_at hl 1 rfl) ?_
  refine lv_aload_n hx hb dL_law_324 rfl (lv_at hl 3 rfl) ?_
  refine lv_iload_n hx hb dL_law_325 rfl (lv_at hl 0 rfl) ?_
  refine lv_iconst (v := (1 : Int32)) hx hb dL_law_326 (by decide) ?_
  refine lv_iadd hx hb dL_law_327 ?_
  refine lw_sld C I hj (k := 1) (by decide) (by decide) dL_law_328 ?_
  refine lv_aload_n hx hb dL_law_329 rfl (lv_at hl 3 rfl) ?_
  refine lv_iload_n hx hb dL_law_330 rfl (lv_at hl 0 rfl) ?_
  refine lv_iconst (v := (2 : Int32)) hx hb dL_law_331 (by decide) ?_
  refine lv_iadd hx hb dL_law_332 ?_
  refine lw_sld C I hj (k := 2) (by decide) (by decide) dL_law_333 ?_
  refine lw_calMI C I (lw_runM (As := [.int (xs (j + 1)), .int (xs (j + 2))]) (rest := [.int r]) C I (c_M_append l (lw_gM D T aM) hM) kl30 rfl ⟨(Nat.le_of_ble_eq_true rfl), (Nat.le_of_ble_eq_true rfl)⟩ rfl hl.1 rfl (Nat.le_of_ble_eq_true rfl) ⟨(Nat.le_of_ble_eq_true rfl), (Nat.le_of_ble_eq_true rfl)⟩ dL_law_334) (fun H locs I => ?_)
  refine lv_icmp_eq (tgt := 1230) hx hb dL_law_337 (by decide) (fun _ => ?_) (fun hc => absurd rfl hc)
  exact kk H locs I
set_option maxHeartbeats 4000000 in
set_option maxRecDepth 100000 in
theorem lw_case4 {p : Program} {l : Launch} {e : Env} {s : State} {m : MethodId} {below : List Frame} {meth : Method} {c : Code} {H : Heap} {locs : List Loc} {Q : State → Prop} {ls : Array Slot} {b L : Nat} {xs : Nat → Int32} {D : va_G} {T : Nat → ClassId} {aX aM : Nat → Nat} {t : Nat} {SX SM SX' SM' : fy_S} (C : lw_C D T aX aM t p s m c b L xs) (I : lw_I D T aX aM t s SX SM H locs) {j : Nat} (hj : j + 5 ≤ L) (hl : lv_has ls 4 [(3, .int (nI j)), (2, .ref (aM 0)), (1, .ref (aX 0)), (0, .ref b)]) {r : Int32} (hX : X9_setInitial SX (xs (j + 1)) = some (SX', r)) (hM : M_setInitial SM (xs (j + 1)) = some (SM', r)) (kk : ∀ (H : Heap) (locs : List Loc), lw_I D T aX aM t s SX' SM' H locs → W p l e room_1 s m #[Value.ref b] below meth c H locs 359 39462 Q (F0 m 1230 ls [])) : W p l e room_1 s m #[Value.ref b] below meth c H locs 359 39462 Q (F0 m 342 ls []) := by
  obtain ⟨hx, hb, -⟩ := id C
  refine lv_aload_n hx hb dL_law_342 rfl (lv_at hl 2 rfl) ?_
  refine lv_aload_n hx hb dL_law_343 rfl (lv_at hl 3 rfl) ?_
  refine lv_iload_n hx hb dL_law_344 rfl (lv_at hl 0 rfl) ?_
  refine lv_iconst (v := (1 : Int32)) hx hb dL_law_345 (by decide) ?_
  refine lv_iadd hx hb dL_law_346 ?_
  refine lw_sld C I hj (k := 1) (by decide) (by decide) dL_law_347 ?_
  refine lw_calXI C I (lw_runX (As := [.int (xs (j + 1))]) (rest := []) C I (c_X9_setInitial l (lw_gX D T aX t) rfl hX) kl31 rfl ⟨(Nat.le_of_ble_eq_true rfl), (Nat.le_of_ble_eq_true rfl)⟩ rfl hl.1 rfl (Nat.le_of_ble_eq_true rfl) ⟨(Nat.le_of_ble_eq_true rfl), (Nat.le_of_ble_eq_true rfl)⟩ dL_law_348) (fun H locs I => ?_)
  refine lv_aload_n hx hb dL_law_351 rfl (lv_at hl 1 rfl) ?_
  refine lv_aload_n hx hb dL_law_352 rfl (lv_at hl 3 rfl) ?_
  refine lv_iload_n hx hb dL_law_353 rfl (lv_at hl 0 rfl) ?_
  refine lv_iconst (v := (1 : Int32)) hx hb dL_law_354 (by decide) ?_
  refine lv_iadd hx hb dL_law_355 ?_
  refine lw_sld C I hj (k := 1) (by decide) (by decide) dL_law_356 ?_
  refine lw_calMI C I (lw_runM (As := [.int (xs (j + 1))]) (rest := [.int r]) C I (c_M_setInitial l (lw_gM D T aM) hM) kl35 rfl ⟨(Nat.le_of_ble_eq_true rfl), (Nat.le_of_ble_eq_true rfl)⟩ rfl hl.1 rfl (Nat.le_of_ble_eq_true rfl) ⟨(Nat.le_of_ble_eq_true rfl), (Nat.le_of_ble_eq_true rfl)⟩ dL_law_357) (fun H locs I => ?_)
  refine lv_icmp_eq (tgt := 1230) hx hb dL_law_360 (by decide) (fun _ => ?_) (fun hc => absurd rfl hc)
  exact kk H locs I
set_option maxHeartbeats 4000000 in
set_option maxRecDepth 100000 in
theorem lw_case5 {p : Program} {l : Launch} {e : Env} {s : State} {m : MethodId} {below : List Frame} {meth : Method} {c : Code} {H : Heap} {locs : List Loc} {Q : State → Prop} {ls : Array Slot} {b L : Nat} {xs : Nat → Int32} {D : va_G} {T : Nat → ClassId} {aX aM : Nat → Nat} {t : Nat} {SX SM SX' SM' : fy_S} (C : lw_C D T aX aM t p s m c b L xs) (I : lw_I D T aX aM t s SX SM H locs) {j : Nat} (hj : j + 5 ≤ L) (hl : lv_has ls 4 [(3, .int (nI j)), (2, .ref (aM 0)), (1, .ref (aX 0)), (0, .ref b)]) {r : Int32} (hX : X9_setTransition SX (xs (j + 1)) (xs (j + 2)) (xs (j + 3)) = some (SX', r)) (hM : M_setTransition SM (xs (j + 1)) (xs (j + 2)) (xs (j + 3)) = some (SM', r)) (kk : ∀ (H : Heap) (locs : List Loc), lw_I D T aX aM t s SX' SM' H locs → W p l e room_1 s m #[Value.ref b] below meth c H locs 359 39462 Q (F0 m 1230 ls [])) : W p l e room_1 s m #[Value.ref b] below meth c H locs 359 39462 Q (F0 m 365 ls []) := by
  obtain ⟨hx, hb, -⟩ := id C
  refine lv_aload_n hx hb dL_law_365 rfl (lv_at hl 2 rfl) ?_
  refine lv_aload_n hx hb dL_law_366 rfl (lv_at hl 3 rfl) ?_
  refine lv_iload_n hx hb dL_law_367 rfl (lv_at hl 0 rfl) ?_
  refine lv_iconst (v := (1 : Int32)) hx hb dL_law_368 (by decide) ?_
  refine lv_iadd hx hb dL_law_369 ?_
  refine lw_sld C I hj (k := 1) (by decide) (by decide) dL_law_370 ?_
  refine lv_aload_n hx hb dL_law_371 rfl (lv_at hl 3 rfl) ?_
  refine lv_iload_n hx hb dL_law_372 rfl (lv_at hl 0 rfl) ?_
  refine lv_iconst (v := (2 : Int32)) hx hb dL_law_373 (by decide) ?_
  refine lv_iadd hx hb dL_law_374 ?_
  refine lw_sld C I hj (k := 2) (by decide) (by decide) dL_law_375 ?_
  refine lv_aload_n hx hb dL_law_376 rfl (lv_at hl 3 rfl) ?_
  refine lv_iload_n hx hb dL_law_377 rfl (lv_at hl 0 rfl) ?_
  refine lv_iconst (v := (3 : Int32)) hx hb dL_law_378 (by decide) ?_
  refine lv_iadd hx hb dL_law_379 ?_
  refine lw_sld C I hj (k := 3) (by decide) (by decide) dL_law_380 ?_
  refine lw_calXI C I (lw_runX (As := [.int (xs (j + 1)), .int (xs (j + 2)), .int (xs (j + 3))]) (rest := []) C I (c_X9_setTransition l (lw_gX D T aX t) rfl hX) kl36 rfl ⟨(Nat.le_of_ble_eq_true rfl), (Nat.le_of_ble_eq_true rfl)⟩ rfl hl.1 rfl (Nat.le_of_ble_eq_true rfl) ⟨(Nat.le_of_ble_eq_true rfl), (Nat.le_of_ble_eq_true rfl)⟩ dL_law_381) (fun H locs I => ?_)
  refine lv_aload_n hx hb dL_law_384 rfl (lv_at hl 1 rfl) ?_
  refine lv_aload_n hx hb dL_law_385 rfl (lv_at hl 3 rfl) ?_
  refine lv_iload_n hx hb dL_law_386 rfl (lv_at hl 0 rfl) ?_
  refine lv_iconst (v := (1 : Int32)) hx hb dL_law_387 (by decide) ?_
  refine lv_iadd hx hb dL_law_388 ?_
  refine lw_sld C I hj (k := 1) (by decide) (by decide) dL_law_389 ?_
  refine lv_aload_n hx hb dL_law_390 rfl (lv_at hl 3 rfl) ?_
  refine lv_iload_n hx hb dL_law_391 rfl (lv_at hl 0 rfl) ?_
  refine lv_iconst (v := (2 : Int32)) hx hb dL_law_392 (by decide) ?_
  refine lv_iadd hx hb dL_law_393 ?_
  refine lw_sld C I hj (k := 2) (by decide) (by decide) dL_law_394 ?_
  refine lv_aload_n hx hb dL_law_395 rfl (lv_at hl 3 rfl) ?_
  refine lv_iload_n hx hb dL_law_396 rfl (lv_at hl 0 rfl) ?_
  refine lv_iconst (v := (3 : Int32)) hx hb dL_law_397 (by decide) ?_
  refine lv_iadd hx hb dL_law_398 ?_
  refine lw_sld C I hj (k := 3) (by decide) (by decide) dL_law_399 ?_
  refine lw_calMI C I (lw_runM (As := [.int (xs (j + 1)), .int (xs (j + 2)), .int (xs (j + 3))]) (rest := [.int r]) C I (c_M_setTransition l (lw_gM D T aM) hM) kl39 rfl ⟨(Nat.le_of_ble_eq_true rfl), (Nat.le_of_ble_eq_true rfl)⟩ rfl hl.1 rfl (Nat.le_of_ble_eq_true rfl) ⟨(Nat.le_of_ble_eq_true rfl), (Nat.le_of_ble_eq_true rfl)⟩ dL_law_400) (fun H locs I => ?_)
  refine lv_icmp_eq (tgt := 1230) hx hb dL_law_403 (by decide) (fun _ => ?_) (fun hc => absurd rfl hc)
  exact kk H locs I
set_option maxHeartbeats 4000000 in
set_option maxRecDepth 100000 in
theorem lw_case6 {p : Program} {l : Launch} {e : Env} {s : State} {m : MethodId} {below : List Frame} {meth : Method} {c : Code} {H : Heap} {locs : List Loc} {Q : State → Prop} {ls : Array Slot} {b L : Nat} {xs : Nat → Int32} {D : va_G} {T : Nat → ClassId} {aX aM : Nat → Nat} {t : Nat} {SX SM SX' SM' : fy_S} (C : lw_C D T aX aM t p s m c b L xs) (I : lw_I D T aX aM t s SX SM H locs) {j : Nat} (hj : j + 5 ≤ L) (hl : lv_has ls 4 [(3, .int (nI j)), (2, .ref (aM 0)), (1, .ref (aX 0)), (0, .ref b)]) {r : Int32} (hX : X9_property SX (xs (j + 1)) (xs (j + 2)) = some r) (hM : M_property SM (xs (j + 1)) (xs (j + 2)) = some r) (kk : ∀ (H : Heap) (locs : List Loc), lw_I D T aX aM t s SX SM H locs → W p l e room_1 s m #[Value.ref b] below meth c H locs 359 39462 Q (F0 m 1230 ls [])) : W p l e room_1 s m #[Value.ref b] below meth c H locs 359 39462 Q (F0 m 408 ls []) := by
  obtain ⟨hx, hb, -⟩ := id C
  refine lv_aload_n hx hb dL_law_408 rfl (lv_at hl 2 rfl) ?_
  refine lv_aload_n hx hb dL_law_409 rfl (lv_at hl 3 rfl) ?_
  refine lv_iload_n hx hb dL_law_410 rfl (lv_at hl 0 rfl) ?_
  refine lv_iconst (v := (1 : Int32)) hx hb dL_law_411 (by decide) ?_
  refine lv_iadd hx hb dL_law_412 ?_
  refine lw_sld C I hj (k := 1) (by decide) (by decide) dL_law_413 ?_
  refine lv_aload_n hx hb dL_law_414 rfl (lv_at hl 3 rfl) ?_
  refine lv_iload_n hx hb dL_law_415 rfl (lv_at hl 0 rfl) ?_
  refine lv_iconst (v := (2 : Int32)) hx hb dL_law_416 (by decide) ?_
  refine lv_iadd hx hb dL_law_417 ?_
  refine lw_sld C I hj (k := 2) (by decide) (by decide) dL_law_418 ?_
  refine lw_calXI C I (lw_runX (As := [.int (xs (j + 1)), .int (xs (j + 2))]) (rest := []) C I (c_X9_property l (lw_gX D T aX t) hX) kl40 rfl ⟨(Nat.le_of_ble_eq_true rfl), (Nat.le_of_ble_eq_true rfl)⟩ rfl hl.1 rfl (Nat.le_of_ble_eq_true rfl) ⟨(Nat.le_of_ble_eq_true rfl), (Nat.le_of_ble_eq_true rfl)⟩ dL_law_419) (fun H locs I => ?_)
  refine lv_aload_n hx hb dL_law_422 rfl (lv_at hl 1 rfl) ?_
  refine lv_aload_n hx hb dL_law_423 rfl (lv_at hl 3 rfl) ?_
  refine lv_iload_n hx hb dL_law_424 rfl (lv_at hl 0 rfl) ?_
  refine lv_iconst (v := (1 : Int32)) hx hb dL_law_425 (by decide) ?_
  refine lv_iadd hx hb dL_law_426 ?_
  refine lw_sld C I hj (k := 1) (by decide) (by decide) dL_law_427 ?_
  refine lv_aload_n hx hb dL_law_428 rfl (lv_at hl 3 rfl) ?_
  refine lv_iload_n hx hb dL_law_429 rfl (lv_at hl 0 rfl) ?_
  refine lv_iconst (v := (2 : Int32)) hx hb dL_law_430 (by decide) ?_
  refine lv_iadd hx hb dL_law_431 ?_
  refine lw_sld C I hj (k := 2) (by decide) (by decide) dL_law_432 ?_
  refine lw_calMI C I (lw_runM (As := [.int (xs (j + 1)), .int (xs (j + 2))]) (rest := [.int r]) C I (c_M_property l (lw_gM D T aM) hM) kl43 rfl ⟨(Nat.le_of_ble_eq_true rfl), (Nat.le_of_ble_eq_true rfl)⟩ rfl hl.1 rfl (Nat.le_of_ble_eq_true rfl) ⟨(Nat.le_of_ble_eq_true rfl), (Nat.le_of_ble_eq_true rfl)⟩ dL_law_433) (fun H locs I => ?_)
  refine lv_icmp_eq (tgt := 1230) hx hb dL_law_436 (by decide) (fun _ => ?_) (fun hc => absurd rfl hc)
  exact kk H locs I
set_option maxHeartbeats 4000000 in
set_option maxRecDepth 100000 in
theorem lw_case7 {p : Program} {l : Launch} {e : Env} {s : State} {m : MethodId} {below : List Frame} {meth : Method} {c : Code} {H : Heap} {locs : List Loc} {Q : State → Prop} {ls : Array Slot} {b L : Nat} {xs : Nat → Int32} {D : va_G} {T : Nat → ClassId} {aX aM : Nat → Nat} {t : Nat} {SX SM SX' SM' : fy_S} (C : lw_C D T aX aM t p s m c b L xs) (I : lw_I D T aX aM t s SX SM H locs) {j : Nat} (hj : j + 5 ≤ L) (hl : lv_has ls 4 [(3, .int (nI j)), (2, .ref (aM 0)), (1, .ref (aX 0)), (0, .ref b)]) {r : Int32} (hX : X9_print SX (xs (j + 1)) (xs (j + 2)) (xs (j + 3)) = some (SX', r)) (hM : M_print SM (xs (j + 1)) (xs (j + 2)) (xs (j + 3)) = some (SM', r)) (kk : ∀ (H : Heap) (locs : List Loc), lw_I D T aX aM t s SX' SM' H locs → W p l e room_1 s m #[Value.ref b] below meth c H locs 359 39462 Q (F0 m 1230 ls [])) : W p l e room_1 s m #[Value.ref b] below meth c H locs 359 39462 Q (F0 m 441 ls []) := by
  obtain ⟨hx, hb, -⟩ := id C
  refine lv_aload_n hx hb dL_law_441 rfl (lv_at hl 2 rfl) ?_
  refine lv_aload_n hx hb dL_law_442 rfl (lv_at hl 3 rfl) ?_
  refine lv_iload_n hx hb dL_law_443 rfl (lv_at hl 0 rfl) ?_
  refine lv_iconst (v := (1 : Int32)) hx hb dL_law_444 (by decide) ?_
  refine lv_iadd hx hb dL_law_445 ?_
  refine lw_sld C I hj (k := 1) (by decide) (by decide) dL_law_446 ?_
  refine lv_aload_n hx hb dL_law_447 rfl (lv_at hl 3 rfl) ?_
  refine lv_iload_n hx hb dL_law_448 rfl (lv_at hl 0 rfl) ?_
  refine lv_iconst (v := (2 : Int32)) hx hb dL_law_449 (by decide) ?_
  refine lv_iadd hx hb dL_law_450 ?_
  refine lw_sld C I hj (k := 2) (by decide) (by decide) dL_law_451 ?_
  refine lv_aload_n hx hb dL_law_452 rfl (lv_at hl 3 rfl) ?_
  refine lv_iload_n hx hb dL_law_453 rfl (lv_at hl 0 rfl) ?_
  refine lv_iconst (v := (3 : Int32)) hx hb dL_law_454 (by decide) ?_
  refine lv_iadd hx hb dL_law_455 ?_
  refine lw_sld C I hj (k := 3) (by decide) (by decide) dL_law_456 ?_
  refine lw_calXI C I (lw_runX (As := [.int (xs (j + 1)), .int (xs (j + 2)), .int (xs (j + 3))]) (rest := []) C I (c_X9_print l (lw_gX D T aX t) hX) kl44 rfl ⟨(Nat.le_of_ble_eq_true rfl), (Nat.le_of_ble_eq_true rfl)⟩ rfl hl.1 rfl (Nat.le_of_ble_eq_true rfl) ⟨(Nat.le_of_ble_eq_true rfl), (Nat.le_of_ble_eq_true rfl)⟩ dL_law_457) (fun H locs I => ?_)
  refine lv_aload_n hx hb dL_law_460 rfl (lv_at hl 1 rfl) ?_
  refine lv_aload_n hx hb dL_law_461 rfl (lv_at hl 3 rfl) ?_
  refine lv_iload_n hx hb dL_law_462 rfl (lv_at hl 0 rfl) ?_
  refine lv_iconst (v := (1 : Int32)) hx hb dL_law_463 (by decide) ?_
  refine lv_iadd hx hb dL_law_464 ?_
  refine lw_sld C I hj (k := 1) (by decide) (by decide) dL_law_465 ?_
  refine lv_aload_n hx hb dL_law_466 rfl (lv_at hl 3 rfl) ?_
  refine lv_iload_n hx hb dL_law_467 rfl (lv_at hl 0 rfl) ?_
  refine lv_iconst (v := (2 : Int32)) hx hb dL_law_468 (by decide) ?_
  refine lv_iadd hx hb dL_law_469 ?_
  refine lw_sld C I hj (k := 2) (by decide) (by decide) dL_law_470 ?_
  refine lv_aload_n hx hb dL_law_471 rfl (lv_at hl 3 rfl) ?_
  refine lv_iload_n hx hb dL_law_472 rfl (lv_at hl 0 rfl) ?_
  refine lv_iconst (v := (3 : Int32)) hx hb dL_law_473 (by decide) ?_
  refine lv_iadd hx hb dL_law_474 ?_
  refine lw_sld C I hj (k := 3) (by decide) (by decide) dL_law_475 ?_
  refine lw_calMI C I (lw_runM (As := [.int (xs (j + 1)), .int (xs (j + 2)), .int (xs (j + 3))]) (rest := [.int r]) C I (c_M_print l (lw_gM D T aM) hM) kl47 rfl ⟨(Nat.le_of_ble_eq_true rfl), (Nat.le_of_ble_eq_true rfl)⟩ rfl hl.1 rfl (Nat.le_of_ble_eq_true rfl) ⟨(Nat.le_of_ble_eq_true rfl), (Nat.le_of_ble_eq_true rfl)⟩ dL_law_476) (fun H locs I => ?_)
  refine lv_icmp_eq (tgt := 1230) hx hb dL_law_479 (by decide) (fun _ => ?_) (fun hc => absurd rfl hc)
  exact kk H locs I
set_option maxHeartbeats 4000000 in
set_option maxRecDepth 100000 in
theorem lw_case8 {p : Program} {l : Launch} {e : Env} {s : State} {m : MethodId} {below : List Frame} {meth : Method} {c : Code} {H : Heap} {locs : List Loc} {Q : State → Prop} {ls : Array Slot} {b L : Nat} {xs : Nat → Int32} {D : va_G} {T : Nat → ClassId} {aX aM : Nat → Nat} {t : Nat} {SX SM SX' SM' : fy_S} (C : lw_C D T aX aM t p s m c b L xs) (I : lw_I D T aX aM t s SX SM H locs) {j : Nat} (hj : j + 5 ≤ L) (hl : lv_has ls 4 [(3, .int (nI j)), (2, .ref (aM 0)), (1, .ref (aX 0)), (0, .ref b)]) {r : Int32} (hX : X9_printed SX (xs (j + 1)) = some r) (hM : M_printed SM (xs (j + 1)) = some r) (kk : ∀ (H : Heap) (locs : List Loc), lw_I D T aX aM t s SX SM H locs → W p l e room_1 s m #[Value.ref b] below meth c H locs 359 39462 Q (F0 m 1230 ls [])) : W p l e room_1 s m #[Value.ref b] below meth c H locs 359 39462 Q (F0 m 484 ls []) := by
  obtain ⟨hx, hb, -⟩ := id C
  refine lv_aload_n hx hb dL_law_484 rfl (lv_at hl 2 rfl) ?_
  refine lv_aload_n hx hb dL_law_485 rfl (lv_at hl 3 rfl) ?_
  refine lv_iload_n hx hb dL_law_486 rfl (lv_at hl 0 rfl) ?_
  refine lv_iconst (v := (1 : Int32)) hx hb dL_law_487 (by decide) ?_
  refine lv_iadd hx hb dL_law_488 ?_
  refine lw_sld C I hj (k := 1) (by decide) (by decide) dL_law_489 ?_
  refine lw_calXI C I (lw_runX (As := [.int (xs (j + 1))]) (rest := []) C I (c_X9_printed l (lw_gX D T aX t) hX) kl48 rfl ⟨(Nat.le_of_ble_eq_true rfl), (Nat.le_of_ble_eq_true rfl)⟩ rfl hl.1 rfl (Nat.le_of_ble_eq_true rfl) ⟨(Nat.le_of_ble_eq_true rfl), (Nat.le_of_ble_eq_true rfl)⟩ dL_law_490) (fun H locs I => ?_)
  refine lv_aload_n hx hb dL_law_493 rfl (lv_at hl 1 rfl) ?_
  refine lv_aload_n hx hb dL_law_494 rfl (lv_at hl 3 rfl) ?_
  refine lv_iload_n hx hb dL_law_495 rfl (lv_at hl 0 rfl) ?_
  refine lv_iconst (v := (1 : Int32)) hx hb dL_law_496 (by decide) ?_
  refine lv_iadd hx hb dL_law_497 ?_
  refine lw_sld C I hj (k := 1) (by decide) (by decide) dL_law_498 ?_
  refine lw_calMI C I (lw_runM (As := [.int (xs (j + 1))]) (rest := [.int r]) C I (c_M_printed l (lw_gM D T aM) hM) kl51 rfl ⟨(Nat.le_of_ble_eq_true rfl), (Nat.le_of_ble_eq_true rfl)⟩ rfl hl.1 rfl (Nat.le_of_ble_eq_true rfl) ⟨(Nat.le_of_ble_eq_true rfl), (Nat.le_of_ble_eq_true rfl)⟩ dL_law_499) (fun H locs I => ?_)
  refine lv_icmp_eq (tgt := 1230) hx hb dL_law_502 (by decide) (fun _ => ?_) (fun hc => absurd rfl hc)
  exact kk H locs I
set_option maxHeartbeats 4000000 in
set_option maxRecDepth 100000 in
theorem lw_case9 {p : Program} {l : Launch} {e : Env} {s : State} {m : MethodId} {below : List Frame} {meth : Method} {c : Code} {H : Heap} {locs : List Loc} {Q : State → Prop} {ls : Array Slot} {b L : Nat} {xs : Nat → Int32} {D : va_G} {T : Nat → ClassId} {aX aM : Nat → Nat} {t : Nat} {SX SM SX' SM' : fy_S} (C : lw_C D T aX aM t p s m c b L xs) (I : lw_I D T aX aM t s SX SM H locs) {j : Nat} (hj : j + 5 ≤ L) (hl : lv_has ls 4 [(3, .int (nI j)), (2, .ref (aM 0)), (1, .ref (aX 0)), (0, .ref b)]) {r : Int32} (hX : X9_isSatisfied SX (xs (j + 1)) (xs (j + 2)) (xs (j + 3)) (xs (j + 4)) = some r) (hM : M_isSatisfied SM (xs (j + 1)) (xs (j + 2)) (xs (j + 3)) (xs (j + 4)) = some r) (kk : ∀ (H : Heap) (locs : List Loc), lw_I D T aX aM t s SX SM H locs → W p l e room_1 s m #[Value.ref b] below meth c H locs 359 39462 Q (F0 m 1230 ls [])) : W p l e room_1 s m #[Value.ref b] below meth c H locs 359 39462 Q (F0 m 507 ls []) := by
  obtain ⟨hx, hb, -⟩ := id C
  refine lv_aload_n hx hb dL_law_507 rfl (lv_at hl 2 rfl) ?_
  refine lv_aload_n hx hb dL_law_508 rfl (lv_at hl 3 rfl) ?_
  refine lv_iload_n hx hb dL_law_509 rfl (lv_at hl 0 rfl) ?_
  refine lv_iconst (v := (1 : Int32)) hx hb dL_law_510 (by decide) ?_
  refine lv_iadd hx hb dL_law_511 ?_
  refine lw_sld C I hj (k := 1) (by decide) (by decide) dL_law_512 ?_
  refine lv_aload_n hx hb dL_law_513 rfl (lv_at hl 3 rfl) ?_
  refine lv_iload_n hx hb dL_law_514 rfl (lv_at hl 0 rfl) ?_
  refine lv_iconst (v := (2 : Int32)) hx hb dL_law_515 (by decide) ?_
  refine lv_iadd hx hb dL_law_516 ?_
  refine lw_sld C I hj (k := 2) (by decide) (by decide) dL_law_517 ?_
  refine lv_aload_n hx hb dL_law_518 rfl (lv_at hl 3 rfl) ?_
  refine lv_iload_n hx hb dL_law_519 rfl (lv_at hl 0 rfl) ?_
  refine lv_iconst (v := (3 : Int32)) hx hb dL_law_520 (by decide) ?_
  refine lv_iadd hx hb dL_law_521 ?_
  refine lw_sld C I hj (k := 3) (by decide) (by decide) dL_law_522 ?_
  refine lv_aload_n hx hb dL_law_523 rfl (lv_at hl 3 rfl) ?_
  refine lv_iload_n hx hb dL_law_524 rfl (lv_at hl 0 rfl) ?_
  refine lv_iconst (v := (4 : Int32)) hx hb dL_law_525 (by decide) ?_
  refine lv_iadd hx hb dL_law_526 ?_
  refine lw_sld C I hj (k := 4) (by decide) (by decide) dL_law_527 ?_
  refine lw_calXI C I (lw_runX (As := [.int (xs (j + 1)), .int (xs (j + 2)), .int (xs (j + 3)), .int (xs (j + 4))]) (rest := []) C I (c_X9_isSatisfied l (lw_gX D T aX t) hX) kl52 rfl ⟨(Nat.le_of_ble_eq_true rfl), (Nat.le_of_ble_eq_true rfl)⟩ rfl hl.1 rfl (Nat.le_of_ble_eq_true rfl) ⟨(Nat.le_of_ble_eq_true rfl), (Nat.le_of_ble_eq_true rfl)⟩ dL_law_528) (fun H locs I => ?_)
  refine lv_aload_n hx hb dL_law_531 rfl (lv_at hl 1 rfl) ?_
  refine lv_aload_n hx hb dL_law_532 rfl (lv_at hl 3 rfl) ?_
  refine lv_iload_n hx hb dL_law_533 rfl (lv_at hl 0 rfl) ?_
  refine lv_iconst (v := (1 : Int32)) hx hb dL_law_534 (by decide) ?_
  refine lv_iadd hx hb dL_law_535 ?_
  refine lw_sld C I hj (k := 1) (by decide) (by decide) dL_law_536 ?_
  refine lv_aload_n hx hb dL_law_537 rfl (lv_at hl 3 rfl) ?_
  refine lv_iload_n hx hb dL_law_538 rfl (lv_at hl 0 rfl) ?_
  refine lv_iconst (v := (2 : Int32)) hx hb dL_law_539 (by decide) ?_
  refine lv_iadd hx hb dL_law_540 ?_
  refine lw_sld C I hj (k := 2) (by decide) (by decide) dL_law_541 ?_
  refine lv_aload_n hx hb dL_law_542 rfl (lv_at hl 3 rfl) ?_
  refine lv_iload_n hx hb dL_law_543 rfl (lv_at hl 0 rfl) ?_
  refine lv_iconst (v := (3 : Int32)) hx hb dL_law_544 (by decide) ?_
  refine lv_iadd hx hb dL_law_545 ?_
  refine lw_sld C I hj (k := 3) (by decide) (by decide) dL_law_546 ?_
  refine lv_aload_n hx hb dL_law_547 rfl (lv_at hl 3 rfl) ?_
  refine lv_iload_n hx hb dL_law_548 rfl (lv_at hl 0 rfl) ?_
  refine lv_iconst (v := (4 : Int32)) hx hb dL_law_549 (by decide) ?_
  refine lv_iadd hx hb dL_law_550 ?_
  refine lw_sld C I hj (k := 4) (by decide) (by decide) dL_law_551 ?_
  refine lw_calMI C I (lw_runM (As := [.int (xs (j + 1)), .int (xs (j + 2)), .int (xs (j + 3)), .int (xs (j + 4))]) (rest := [.int r]) C I (c_M_isSatisfied l (lw_gM D T aM) hM) kl56 rfl ⟨(Nat.le_of_ble_eq_true rfl), (Nat.le_of_ble_eq_true rfl)⟩ rfl hl.1 rfl (Nat.le_of_ble_eq_true rfl) ⟨(Nat.le_of_ble_eq_true rfl), (Nat.le_of_ble_eq_true rfl)⟩ dL_law_552) (fun H locs I => ?_)
  refine lv_icmp_eq (tgt := 1230) hx hb dL_law_555 (by decide) (fun _ => ?_) (fun hc => absurd rfl hc)
  exact kk H locs I
set_option maxHeartbeats 4000000 in
set_option maxRecDepth 100000 in
theorem lw_case10 {p : Program} {l : Launch} {e : Env} {s : State} {m : MethodId} {below : List Frame} {meth : Method} {c : Code} {H : Heap} {locs : List Loc} {Q : State → Prop} {ls : Array Slot} {b L : Nat} {xs : Nat → Int32} {D : va_G} {T : Nat → ClassId} {aX aM : Nat → Nat} {t : Nat} {SX SM SX' SM' : fy_S} (C : lw_C D T aX aM t p s m c b L xs) (I : lw_I D T aX aM t s SX SM H locs) {j : Nat} (hj : j + 5 ≤ L) (hl : lv_has ls 4 [(3, .int (nI j)), (2, .ref (aM 0)), (1, .ref (aX 0)), (0, .ref b)]) {r : Int32} (hX : X9_model SX (xs (j + 1)) (xs (j + 2)) (xs (j + 3)) (xs (j + 4)) = some r) (hM : M_model SM (xs (j + 1)) (xs (j + 2)) (xs (j + 3)) (xs (j + 4)) = some (SM', r)) (kk : ∀ (H : Heap) (locs : List Loc), lw_I D T aX aM t s SX SM' H locs → W p l e room_1 s m #[Value.ref b] below meth c H locs 359 39462 Q (F0 m 1230 ls [])) : W p l e room_1 s m #[Value.ref b] below meth c H locs 359 39462 Q (F0 m 560 ls []) := by
  obtain ⟨hx, hb, -⟩ := id C
  refine lv_aload_n hx hb dL_law_560 rfl (lv_at hl 2 rfl) ?_
  refine lv_aload_n hx hb dL_law_561 rfl (lv_at hl 3 rfl) ?_
  refine lv_iload_n hx hb dL_law_562 rfl (lv_at hl 0 rfl) ?_
  refine lv_iconst (v := (1 : Int32)) hx hb dL_law_563 (by decide) ?_
  refine lv_iadd hx hb dL_law_564 ?_
  refine lw_sld C I hj (k := 1) (by decide) (by decide) dL_law_565 ?_
  refine lv_aload_n hx hb dL_law_566 rfl (lv_at hl 3 rfl) ?_
  refine lv_iload_n hx hb dL_law_567 rfl (lv_at hl 0 rfl) ?_
  refine lv_iconst (v := (2 : Int32)) hx hb dL_law_568 (by decide) ?_
  refine lv_iadd hx hb dL_law_569 ?_
  refine lw_sld C I hj (k := 2) (by decide) (by decide) dL_law_570 ?_
  refine lv_aload_n hx hb dL_law_571 rfl (lv_at hl 3 rfl) ?_
  refine lv_iload_n hx hb dL_law_572 rfl (lv_at hl 0 rfl) ?_
  refine lv_iconst (v := (3 : Int32)) hx hb dL_law_573 (by decide) ?_
  refine lv_iadd hx hb dL_law_574 ?_
  refine lw_sld C I hj (k := 3) (by decide) (by decide) dL_law_575 ?_
  refine lv_aload_n hx hb dL_law_576 rfl (lv_at hl 3 rfl) ?_
  refine lv_iload_n hx hb dL_law_577 rfl (lv_at hl 0 rfl) ?_
  refine lv_iconst (v := (4 : Int32)) hx hb dL_law_578 (by decide) ?_
  refine lv_iadd hx hb dL_law_579 ?_
  refine lw_sld C I hj (k := 4) (by decide) (by decide) dL_law_580 ?_
  refine lw_calXI C I (lw_runX (As := [.int (xs (j + 1)), .int (xs (j + 2)), .int (xs (j + 3)), .int (xs (j + 4))]) (rest := []) C I (c_X9_model l (lw_gX D T aX t) rfl hX) kl57 rfl ⟨(Nat.le_of_ble_eq_true rfl), (Nat.le_of_ble_eq_true rfl)⟩ rfl hl.1 rfl (Nat.le_of_ble_eq_true rfl) ⟨(Nat.le_of_ble_eq_true rfl), (Nat.le_of_ble_eq_true rfl)⟩ dL_law_581) (fun H locs I => ?_)
  refine lv_aload_n hx hb dL_law_584 rfl (lv_at hl 1 rfl) ?_
  refine lv_aload_n hx hb dL_law_585 rfl (lv_at hl 3 rfl) ?_
  refine lv_iload_n hx hb dL_law_586 rfl (lv_at hl 0 rfl) ?_
  refine lv_iconst (v := (1 : Int32)) hx hb dL_law_587 (by decide) ?_
  refine lv_iadd hx hb dL_law_588 ?_
  refine lw_sld C I hj (k := 1) (by decide) (by decide) dL_law_589 ?_
  refine lv_aload_n hx hb dL_law_590 rfl (lv_at hl 3 rfl) ?_
  refine lv_iload_n hx hb dL_law_591 rfl (lv_at hl 0 rfl) ?_
  refine lv_iconst (v := (2 : Int32)) hx hb dL_law_592 (by decide) ?_
  refine lv_iadd hx hb dL_law_593 ?_
  refine lw_sld C I hj (k := 2) (by decide) (by decide) dL_law_594 ?_
  refine lv_aload_n hx hb dL_law_595 rfl (lv_at hl 3 rfl) ?_
  refine lv_iload_n hx hb dL_law_596 rfl (lv_at hl 0 rfl) ?_
  refine lv_iconst (v := (3 : Int32)) hx hb dL_law_597 (by decide) ?_
  refine lv_iadd hx hb dL_law_598 ?_
  refine lw_sld C I hj (k := 3) (by decide) (by decide) dL_law_599 ?_
  refine lv_aload_n hx hb dL_law_600 rfl (lv_at hl 3 rfl) ?_
  refine lv_iload_n hx hb dL_law_601 rfl (lv_at hl 0 rfl) ?_
  refine lv_iconst (v := (4 : Int32)) hx hb dL_law_602 (by decide) ?_
  refine lv_iadd hx hb dL_law_603 ?_
  refine lw_sld C I hj (k := 4) (by decide) (by decide) dL_law_604 ?_
  refine lw_calMI C I (lw_runM (As := [.int (xs (j + 1)), .int (xs (j + 2)), .int (xs (j + 3)), .int (xs (j + 4))]) (rest := [.int r]) C I (c_M_model l (lw_gM D T aM) hM) kl60 rfl ⟨(Nat.le_of_ble_eq_true rfl), (Nat.le_of_ble_eq_true rfl)⟩ rfl hl.1 rfl (Nat.le_of_ble_eq_true rfl) ⟨(Nat.le_of_ble_eq_true rfl), (Nat.le_of_ble_eq_true rfl)⟩ dL_law_605) (fun H locs I => ?_)
  refine lv_icmp_eq (tgt := 1230) hx hb dL_law_608 (by decide) (fun _ => ?_) (fun hc => absurd rfl hc)
  exact kk H locs I
set_option maxHeartbeats 4000000 in
set_option maxRecDepth 100000 in
theorem lw_case11 {p : Program} {l : Launch} {e : Env} {s : State} {m : MethodId} {below : List Frame} {meth : Method} {c : Code} {H : Heap} {locs : List Loc} {Q : State → Prop} {ls : Array Slot} {b L : Nat} {xs : Nat → Int32} {D : va_G} {T : Nat → ClassId} {aX aM : Nat → Nat} {t : Nat} {SX SM SX' SM' : fy_S} (C : lw_C D T aX aM t p s m c b L xs) (I : lw_I D T aX aM t s SX SM H locs) {j : Nat} (hj : j + 5 ≤ L) (hl : lv_has ls 4 [(3, .int (nI j)), (2, .ref (aM 0)), (1, .ref (aX 0)), (0, .ref b)]) {r : Int32} (hX : X9_push SX (xs (j + 1)) = some (SX', r)) (hM : M_push SM (xs (j + 1)) = some (SM', r)) (kk : ∀ (H : Heap) (locs : List Loc), lw_I D T aX aM t s SX' SM' H locs → W p l e room_1 s m #[Value.ref b] below meth c H locs 359 39462 Q (F0 m 1230 ls [])) : W p l e room_1 s m #[Value.ref b] below meth c H locs 359 39462 Q (F0 m 613 ls []) := by
  obtain ⟨hx, hb, -⟩ := id C
  refine lv_aload_n hx hb dL_law_613 rfl (lv_at hl 2 rfl) ?_
  refine lv_aload_n hx hb dL_law_614 rfl (lv_at hl 3 rfl) ?_
  refine lv_iload_n hx hb dL_law_615 rfl (lv_at hl 0 rfl) ?_
  refine lv_iconst (v := (1 : Int32)) hx hb dL_law_616 (by decide) ?_
  refine lv_iadd hx hb dL_law_617 ?_
  refine lw_sld C I hj (k := 1) (by decide) (by decide) dL_law_618 ?_
  refine lw_calXI C I (lw_runX (As := [.int (xs (j + 1))]) (rest := []) C I (c_X9_push l (lw_gX D T aX t) hX) kl61 rfl ⟨(Nat.le_of_ble_eq_true rfl), (Nat.le_of_ble_eq_true rfl)⟩ rfl hl.1 rfl (Nat.le_of_ble_eq_true rfl) ⟨(Nat.le_of_ble_eq_true rfl), (Nat.le_of_ble_eq_true rfl)⟩ dL_law_619) (fun H locs I => ?_)
  refine lv_aload_n hx hb dL_law_622 rfl (lv_at hl 1 rfl) ?_
  refine lv_aload_n hx hb dL_law_623 rfl (lv_at hl 3 rfl) ?_
  refine lv_iload_n hx hb dL_law_624 rfl (lv_at hl 0 rfl) ?_
  refine lv_iconst (v := (1 : Int32)) hx hb dL_law_625 (by decide) ?_
  refine lv_iadd hx hb dL_law_626 ?_
  refine lw_sld C I hj (k := 1) (by decide) (by decide) dL_law_627 ?_
  refine lw_calMI C I (lw_runM (As := [.int (xs (j + 1))]) (rest := [.int r]) C I (c_M_push l (lw_gM D T aM) hM) kl64 rfl ⟨(Nat.le_of_ble_eq_true rfl), (Nat.le_of_ble_eq_true rfl)⟩ rfl hl.1 rfl (Nat.le_of_ble_eq_true rfl) ⟨(Nat.le_of_ble_eq_true rfl), (Nat.le_of_ble_eq_true rfl)⟩ dL_law_628) (fun H locs I => ?_)
  refine lv_icmp_eq (tgt := 1230) hx hb dL_law_631 (by decide) (fun _ => ?_) (fun hc => absurd rfl hc)
  exact kk H locs I
set_option maxHeartbeats 4000000 in
set_option maxRecDepth 100000 in
theorem lw_case12 {p : Program} {l : Launch} {e : Env} {s : State} {m : MethodId} {below : List Frame} {meth : Method} {c : Code} {H : Heap} {locs : List Loc} {Q : State → Prop} {ls : Array Slot} {b L : Nat} {xs : Nat → Int32} {D : va_G} {T : Nat → ClassId} {aX aM : Nat → Nat} {t : Nat} {SX SM SX' SM' : fy_S} (C : lw_C D T aX aM t p s m c b L xs) (I : lw_I D T aX aM t s SX SM H locs) {j : Nat} (hj : j + 5 ≤ L) (hl : lv_has ls 4 [(3, .int (nI j)), (2, .ref (aM 0)), (1, .ref (aX 0)), (0, .ref b)]) {r : Int32} (hX : X9_clearWord SX  = some (SX', r)) (hM : M_clearWord SM  = some (SM', r)) (kk : ∀ (H : Heap) (locs : List Loc), lw_I D T aX aM t s SX' SM' H locs → W p l e room_1 s m #[Value.ref b] below meth c H locs 359 39462 Q (F0 m 1230 ls [])) : W p l e room_1 s m #[Value.ref b] below meth c H locs 359 39462 Q (F0 m 636 ls []) := by
  obtain ⟨hx, hb, -⟩ := id C
  refine lv_aload_n hx hb dL_law_636 rfl (lv_at hl 2 rfl) ?_
  refine lw_calXI C I (lw_runX (As := []) (rest := []) C I (c_X9_clearWord l (lw_gX D T aX t) hX) kl65 rfl ⟨(Nat.le_of_ble_eq_true rfl), (Nat.le_of_ble_eq_true rfl)⟩ rfl hl.1 rfl (Nat.le_of_ble_eq_true rfl) ⟨(Nat.le_of_ble_eq_true rfl), (Nat.le_of_ble_eq_true rfl)⟩ dL_law_637) (fun H locs I => ?_)
  refine lv_aload_n hx hb dL_law_640 rfl (lv_at hl 1 rfl) ?_
  refine lw_calMI C I (lw_runM (As := []) (rest := [.int r]) C I (c_M_clearWord l (lw_gM D T aM) hM) kl69 rfl ⟨(Nat.le_of_ble_eq_true rfl), (Nat.le_of_ble_eq_true rfl)⟩ rfl hl.1 rfl (Nat.le_of_ble_eq_true rfl) ⟨(Nat.le_of_ble_eq_true rfl), (Nat.le_of_ble_eq_true rfl)⟩ dL_law_641) (fun H locs I => ?_)
  refine lv_icmp_eq (tgt := 1230) hx hb dL_law_644 (by decide) (fun _ => ?_) (fun hc => absurd rfl hc)
  exact kk H locs I
set_option maxHeartbeats 4000000 in
set_option maxRecDepth 100000 in
theorem lw_case13 {p : Program} {l : Launch} {e : Env} {s : State} {m : MethodId} {below : List Frame} {meth : Method} {c : Code} {H : Heap} {locs : List Loc} {Q : State → Prop} {ls : Array Slot} {b L : Nat} {xs : Nat → Int32} {D : va_G} {T : Nat → ClassId} {aX aM : Nat → Nat} {t : Nat} {SX SM SX' SM' : fy_S} (C : lw_C D T aX aM t p s m c b L xs) (I : lw_I D T aX aM t s SX SM H locs) {j : Nat} (hj : j + 5 ≤ L) (hl : lv_has ls 4 [(3, .int (nI j)), (2, .ref (aM 0)), (1, .ref (aX 0)), (0, .ref b)]) {r : Int32} (hX : X9_acceptingStates SX (xs (j + 1)) (xs (j + 2)) = some r) (hM : M_acceptingStates SM (xs (j + 1)) (xs (j + 2)) = some r) (kk : ∀ (H : Heap) (locs : List Loc), lw_I D T aX aM t s SX SM H locs → W p l e room_1 s m #[Value.ref b] below meth c H locs 359 39462 Q (F0 m 1230 ls [])) : W p l e room_1 s m #[Value.ref b] below meth c H locs 359 39462 Q (F0 m 649 ls []) := by
  obtain ⟨hx, hb, -⟩ := id C
  refine lv_aload_n hx hb dL_law_649 rfl (lv_at hl 2 rfl) ?_
  refine lv_aload_n hx hb dL_law_650 rfl (lv_at hl 3 rfl) ?_
  refine lv_iload_n hx hb dL_law_651 rfl (lv_at hl 0 rfl) ?_
  refine lv_iconst (v := (1 : Int32)) hx hb dL_law_652 (by decide) ?_
  refine lv_iadd hx hb dL_law_653 ?_
  refine lw_sld C I hj (k := 1) (by decide) (by decide) dL_law_654 ?_
  refine lv_aload_n hx hb dL_law_655 rfl (lv_at hl 3 rfl) ?_
  refine lv_iload_n hx hb dL_law_656 rfl (lv_at hl 0 rfl) ?_
  refine lv_iconst (v := (2 : Int32)) hx hb dL_law_657 (by decide) ?_
  refine lv_iadd hx hb dL_law_658 ?_
  refine lw_sld C I hj (k := 2) (by decide) (by decide) dL_law_659 ?_
  refine lw_calXI C I (lw_runX (As := [.int (xs (j + 1)), .int (xs (j + 2))]) (rest := []) C I (c_X9_acceptingStates l (lw_gX D T aX t) hX) kl70 rfl ⟨(Nat.le_of_ble_eq_true rfl), (Nat.le_of_ble_eq_true rfl)⟩ rfl hl.1 rfl (Nat.le_of_ble_eq_true rfl) ⟨(Nat.le_of_ble_eq_true rfl), (Nat.le_of_ble_eq_true rfl)⟩ dL_law_660) (fun H locs I => ?_)
  refine lv_aload_n hx hb dL_law_663 rfl (lv_at hl 1 rfl) ?_
  refine lv_aload_n hx hb dL_law_664 rfl (lv_at hl 3 rfl) ?_
  refine lv_iload_n hx hb dL_law_665 rfl (lv_at hl 0 rfl) ?_
  refine lv_iconst (v := (1 : Int32)) hx hb dL_law_666 (by decide) ?_
  refine lv_iadd hx hb dL_law_667 ?_
  refine lw_sld C I hj (k := 1) (by decide) (by decide) dL_law_668 ?_
  refine lv_aload_n hx hb dL_law_669 rfl (lv_at hl 3 rfl) ?_
  refine lv_iload_n hx hb dL_law_670 rfl (lv_at hl 0 rfl) ?_
  refine lv_iconst (v := (2 : Int32)) hx hb dL_law_671 (by decide) ?_
  refine lv_iadd hx hb dL_law_672 ?_
  refine lw_sld C I hj (k := 2) (by decide) (by decide) dL_law_673 ?_
  refine lw_calMI C I (lw_runM (As := [.int (xs (j + 1)), .int (xs (j + 2))]) (rest := [.int r]) C I (c_M_acceptingStates l (lw_gM D T aM) hM) kl73 rfl ⟨(Nat.le_of_ble_eq_true rfl), (Nat.le_of_ble_eq_true rfl)⟩ rfl hl.1 rfl (Nat.le_of_ble_eq_true rfl) ⟨(Nat.le_of_ble_eq_true rfl), (Nat.le_of_ble_eq_true rfl)⟩ dL_law_674) (fun H locs I => ?_)
  refine lv_icmp_eq (tgt := 1230) hx hb dL_law_677 (by decide) (fun _ => ?_) (fun hc => absurd rfl hc)
  exact kk H locs I
set_option maxHeartbeats 4000000 in
set_option maxRecDepth 100000 in
theorem lw_case14 {p : Program} {l : Launch} {e : Env} {s : State} {m : MethodId} {below : List Frame} {meth : Method} {c : Code} {H : Heap} {locs : List Loc} {Q : State → Prop} {ls : Array Slot} {b L : Nat} {xs : Nat → Int32} {D : va_G} {T : Nat → ClassId} {aX aM : Nat → Nat} {t : Nat} {SX SM SX' SM' : fy_S} (C : lw_C D T aX aM t p s m c b L xs) (I : lw_I D T aX aM t s SX SM H locs) {j : Nat} (hj : j + 5 ≤ L) (hl : lv_has ls 4 [(3, .int (nI j)), (2, .ref (aM 0)), (1, .ref (aX 0)), (0, .ref b)]) {r : Int32} (hX : X9_accepts SX (xs (j + 1)) = some r) (hM : M_accepts SM (xs (j + 1)) = some r) (kk : ∀ (H : Heap) (locs : List Loc), lw_I D T aX aM t s SX SM H locs → W p l e room_1 s m #[Value.ref b] below meth c H locs 359 39462 Q (F0 m 1230 ls [])) : W p l e room_1 s m #[Value.ref b] below meth c H locs 359 39462 Q (F0 m 682 ls []) := by
  obtain ⟨hx, hb, -⟩ := id C
  refine lv_aload_n hx hb dL_law_682 rfl (lv_at hl 2 rfl) ?_
  refine lv_aload_n hx hb dL_law_683 rfl (lv_at hl 3 rfl) ?_
  refine lv_iload_n hx hb dL_law_684 rfl (lv_at hl 0 rfl) ?_
  refine lv_iconst (v := (1 : Int32)) hx hb dL_law_685 (by decide) ?_
  refine lv_iadd hx hb dL_law_686 ?_
  refine lw_sld C I hj (k := 1) (by decide) (by decide) dL_law_687 ?_
  refine lw_calXI C I (lw_runX (As := [.int (xs (j + 1))]) (rest := []) C I (c_X9_accepts l (lw_gX D T aX t) hX) kl74 rfl ⟨(Nat.le_of_ble_eq_true rfl), (Nat.le_of_ble_eq_true rfl)⟩ rfl hl.1 rfl (Nat.le_of_ble_eq_true rfl) ⟨(Nat.le_of_ble_eq_true rfl), (Nat.le_of_ble_eq_true rfl)⟩ dL_law_688) (fun H locs I => ?_)
  refine lv_aload_n hx hb dL_law_691 rfl (lv_at hl 1 rfl) ?_
  refine lv_aload_n hx hb dL_law_692 rfl (lv_at hl 3 rfl) ?_
  refine lv_iload_n hx hb dL_law_693 rfl (lv_at hl 0 rfl) ?_
  refine lv_iconst (v := (1 : Int32)) hx hb dL_law_694 (by decide) ?_
  refine lv_iadd hx hb dL_law_695 ?_
  refine lw_sld C I hj (k := 1) (by decide) (by decide) dL_law_696 ?_
  refine lw_calMI C I (lw_runM (As := [.int (xs (j + 1))]) (rest := [.int r]) C I (c_M_accepts l (lw_gM D T aM) hM) kl77 rfl ⟨(Nat.le_of_ble_eq_true rfl), (Nat.le_of_ble_eq_true rfl)⟩ rfl hl.1 rfl (Nat.le_of_ble_eq_true rfl) ⟨(Nat.le_of_ble_eq_true rfl), (Nat.le_of_ble_eq_true rfl)⟩ dL_law_697) (fun H locs I => ?_)
  refine lv_icmp_eq (tgt := 1230) hx hb dL_law_700 (by decide) (fun _ => ?_) (fun hc => absurd rfl hc)
  exact kk H locs I
set_option maxHeartbeats 4000000 in
set_option maxRecDepth 100000 in
theorem lw_case15 {p : Program} {l : Launch} {e : Env} {s : State} {m : MethodId} {below : List Frame} {meth : Method} {c : Code} {H : Heap} {locs : List Loc} {Q : State → Prop} {ls : Array Slot} {b L : Nat} {xs : Nat → Int32} {D : va_G} {T : Nat → ClassId} {aX aM : Nat → Nat} {t : Nat} {SX SM SX' SM' : fy_S} (C : lw_C D T aX aM t p s m c b L xs) (I : lw_I D T aX aM t s SX SM H locs) {j : Nat} (hj : j + 5 ≤ L) (hl : lv_has ls 4 [(3, .int (nI j)), (2, .ref (aM 0)), (1, .ref (aX 0)), (0, .ref b)]) {r : Int32} (hX : X9_rank SX (xs (j + 1)) (xs (j + 2)) (xs (j + 3)) = some (SX', r)) (hM : M_rank SM (xs (j + 1)) (xs (j + 2)) (xs (j + 3)) = some (SM', r)) (kk : ∀ (H : Heap) (locs : List Loc), lw_I D T aX aM t s SX' SM' H locs → W p l e room_1 s m #[Value.ref b] below meth c H locs 359 39462 Q (F0 m 1230 ls [])) : W p l e room_1 s m #[Value.ref b] below meth c H locs 359 39462 Q (F0 m 705 ls []) := by
  obtain ⟨hx, hb, -⟩ := id C
  refine lv_aload_n hx hb dL_law_705 rfl (lv_at hl 2 rfl) ?_
  refine lv_aload_n hx hb dL_law_706 rfl (lv_at hl 3 rfl) ?_
  refine lv_iload_n hx hb dL_law_707 rfl (lv_at hl 0 rfl) ?_
  refine lv_iconst (v := (1 : Int32)) hx hb dL_law_708 (by decide) ?_
  refine lv_iadd hx hb dL_law_709 ?_
  refine lw_sld C I hj (k := 1) (by decide) (by decide) dL_law_710 ?_
  refine lv_aload_n hx hb dL_law_711 rfl (lv_at hl 3 rfl) ?_
  refine lv_iload_n hx hb dL_law_712 rfl (lv_at hl 0 rfl) ?_
  refine lv_iconst (v := (2 : Int32)) hx hb dL_law_713 (by decide) ?_
  refine lv_iadd hx hb dL_law_714 ?_
  refine lw_sld C I hj (k := 2) (by decide) (by decide) dL_law_715 ?_
  refine lv_aload_n hx hb dL_law_716 rfl (lv_at hl 3 rfl) ?_
  refine lv_iload_n hx hb dL_law_717 rfl (lv_at hl 0 rfl) ?_
  refine lv_iconst (v := (3 : Int32)) hx hb dL_law_718 (by decide) ?_
  refine lv_iadd hx hb dL_law_719 ?_
  refine lw_sld C I hj (k := 3) (by decide) (by decide) dL_law_720 ?_
  refine lw_calXI C I (lw_runX (As := [.int (xs (j + 1)), .int (xs (j + 2)), .int (xs (j + 3))]) (rest := []) C I (c_X9_rank l (lw_gX D T aX t) hX) kl78 rfl ⟨(Nat.le_of_ble_eq_true rfl), (Nat.le_of_ble_eq_true rfl)⟩ rfl hl.1 rfl (Nat.le_of_ble_eq_true rfl) ⟨(Nat.le_of_ble_eq_true rfl), (Nat.le_of_ble_eq_true rfl)⟩ dL_law_721) (fun H locs I => ?_)
  refine lv_aload_n hx hb dL_law_724 rfl (lv_at hl 1 rfl) ?_
  refine lv_aload_n hx hb dL_law_725 rfl (lv_at hl 3 rfl) ?_
  refine lv_iload_n hx hb dL_law_726 rfl (lv_at hl 0 rfl) ?_
  refine lv_iconst (v := (1 : Int32)) hx hb dL_law_727 (by decide) ?_
  refine lv_iadd hx hb dL_law_728 ?_
  refine lw_sld C I hj (k := 1) (by decide) (by decide) dL_law_729 ?_
  refine lv_aload_n hx hb dL_law_730 rfl (lv_at hl 3 rfl) ?_
  refine lv_iload_n hx hb dL_law_731 rfl (lv_at hl 0 rfl) ?_
  refine lv_iconst (v := (2 : Int32)) hx hb dL_law_732 (by decide) ?_
  refine lv_iadd hx hb dL_law_733 ?_
  refine lw_sld C I hj (k := 2) (by decide) (by decide) dL_law_734 ?_
  refine lv_aload_n hx hb dL_law_735 rfl (lv_at hl 3 rfl) ?_
  refine lv_iload_n hx hb dL_law_736 rfl (lv_at hl 0 rfl) ?_
  refine lv_iconst (v := (3 : Int32)) hx hb dL_law_737 (by decide) ?_
  refine lv_iadd hx hb dL_law_738 ?_
  refine lw_sld C I hj (k := 3) (by decide) (by decide) dL_law_739 ?_
  refine lw_calMI C I (lw_runM (As := [.int (xs (j + 1)), .int (xs (j + 2)), .int (xs (j + 3))]) (rest := [.int r]) C I (c_M_rank l (lw_gM D T aM) hM) kl81 rfl ⟨(Nat.le_of_ble_eq_true rfl), (Nat.le_of_ble_eq_true rfl)⟩ rfl hl.1 rfl (Nat.le_of_ble_eq_true rfl) ⟨(Nat.le_of_ble_eq_true rfl), (Nat.le_of_ble_eq_true rfl)⟩ dL_law_740) (fun H locs I => ?_)
  refine lv_icmp_eq (tgt := 1230) hx hb dL_law_743 (by decide) (fun _ => ?_) (fun hc => absurd rfl hc)
  exact kk H locs I
set_option maxHeartbeats 4000000 in
set_option maxRecDepth 100000 in
theorem lw_case16 {p : Program} {l : Launch} {e : Env} {s : State} {m : MethodId} {below : List Frame} {meth : Method} {c : Code} {H : Heap} {locs : List Loc} {Q : State → Prop} {ls : Array Slot} {b L : Nat} {xs : Nat → Int32} {D : va_G} {T : Nat → ClassId} {aX aM : Nat → Nat} {t : Nat} {SX SM SX' SM' : fy_S} (C : lw_C D T aX aM t p s m c b L xs) (I : lw_I D T aX aM t s SX SM H locs) {j : Nat} (hj : j + 5 ≤ L) (hl : lv_has ls 4 [(3, .int (nI j)), (2, .ref (aM 0)), (1, .ref (aX 0)), (0, .ref b)]) {r : Int32} (hX : X9_strategy SX (xs (j + 1)) (xs (j + 2)) (xs (j + 3)) = some (SX', r)) (hM : M_strategy SM (xs (j + 1)) (xs (j + 2)) (xs (j + 3)) = some (SM', r)) (kk : ∀ (H : Heap) (locs : List Loc), lw_I D T aX aM t s SX' SM' H locs → W p l e room_1 s m #[Value.ref b] below meth c H locs 359 39462 Q (F0 m 1230 ls [])) : W p l e room_1 s m #[Value.ref b] below meth c H locs 359 39462 Q (F0 m 748 ls []) := by
  obtain ⟨hx, hb, -⟩ := id C
  refine lv_aload_n hx hb dL_law_748 rfl (lv_at hl 2 rfl) ?_
  refine lv_aload_n hx hb dL_law_749 rfl (lv_at hl 3 rfl) ?_
  refine lv_iload_n hx hb dL_law_750 rfl (lv_at hl 0 rfl) ?_
  refine lv_iconst (v := (1 : Int32)) hx hb dL_law_751 (by decide) ?_
  refine lv_iadd hx hb dL_law_752 ?_
  refine lw_sld C I hj (k := 1) (by decide) (by decide) dL_law_753 ?_
  refine lv_aload_n hx hb dL_law_754 rfl (lv_at hl 3 rfl) ?_
  refine lv_iload_n hx hb dL_law_755 rfl (lv_at hl 0 rfl) ?_
  refine lv_iconst (v := (2 : Int32)) hx hb dL_law_756 (by decide) ?_
  refine lv_iadd hx hb dL_law_757 ?_
  refine lw_sld C I hj (k := 2) (by decide) (by decide) dL_law_758 ?_
  refine lv_aload_n hx hb dL_law_759 rfl (lv_at hl 3 rfl) ?_
  refine lv_iload_n hx hb dL_law_760 rfl (lv_at hl 0 rfl) ?_
  refine lv_iconst (v := (3 : Int32)) hx hb dL_law_761 (by decide) ?_
  refine lv_iadd hx hb dL_law_762 ?_
  refine lw_sld C I hj (k := 3) (by decide) (by decide) dL_law_763 ?_
  refine lw_calXI C I (lw_runX (As := [.int (xs (j + 1)), .int (xs (j + 2)), .int (xs (j + 3))]) (rest := []) C I (c_X9_strategy l (lw_gX D T aX t) hX) kl82 rfl ⟨(Nat.le_of_ble_eq_true rfl), (Nat.le_of_ble_eq_true rfl)⟩ rfl hl.1 rfl (Nat.le_of_ble_eq_true rfl) ⟨(Nat.le_of_ble_eq_true rfl), (Nat.le_of_ble_eq_true rfl)⟩ dL_law_764) (fun H locs I => ?_)
  refine lv_aload_n hx hb dL_law_767 rfl (lv_at hl 1 rfl) ?_
  refine lv_aload_n hx hb dL_law_768 rfl (lv_at hl 3 rfl) ?_
  refine lv_iload_n hx hb dL_law_769 rfl (lv_at hl 0 rfl) ?_
  refine lv_iconst (v := (1 : Int32)) hx hb dL_law_770 (by decide) ?_
  refine lv_iadd hx hb dL_law_771 ?_
  refine lw_sld C I hj (k := 1) (by decide) (by decide) dL_law_772 ?_
  refine lv_aload_n hx hb dL_law_773 rfl (lv_at hl 3 rfl) ?_
  refine lv_iload_n hx hb dL_law_774 rfl (lv_at hl 0 rfl) ?_
  refine lv_iconst (v := (2 : Int32)) hx hb dL_law_775 (by decide) ?_
  refine lv_iadd hx hb dL_law_776 ?_
  refine lw_sld C I hj (k := 2) (by decide) (by decide) dL_law_777 ?_
  refine lv_aload_n hx hb dL_law_778 rfl (lv_at hl 3 rfl) ?_
  refine lv_iload_n hx hb dL_law_779 rfl (lv_at hl 0 rfl) ?_
  refine lv_iconst (v := (3 : Int32)) hx hb dL_law_780 (by decide) ?_
  refine lv_iadd hx hb dL_law_781 ?_
  refine lw_sld C I hj (k := 3) (by decide) (by decide) dL_law_782 ?_
  refine lw_calMI C I (lw_runM (As := [.int (xs (j + 1)), .int (xs (j + 2)), .int (xs (j + 3))]) (rest := [.int r]) C I (c_M_strategy l (lw_gM D T aM) hM) kl85 rfl ⟨(Nat.le_of_ble_eq_true rfl), (Nat.le_of_ble_eq_true rfl)⟩ rfl hl.1 rfl (Nat.le_of_ble_eq_true rfl) ⟨(Nat.le_of_ble_eq_true rfl), (Nat.le_of_ble_eq_true rfl)⟩ dL_law_783) (fun H locs I => ?_)
  refine lv_icmp_eq (tgt := 1230) hx hb dL_law_786 (by decide) (fun _ => ?_) (fun hc => absurd rfl hc)
  exact kk H locs I
set_option maxHeartbeats 4000000 in
set_option maxRecDepth 100000 in
theorem lw_case17 {p : Program} {l : Launch} {e : Env} {s : State} {m : MethodId} {below : List Frame} {meth : Method} {c : Code} {H : Heap} {locs : List Loc} {Q : State → Prop} {ls : Array Slot} {b L : Nat} {xs : Nat → Int32} {D : va_G} {T : Nat → ClassId} {aX aM : Nat → Nat} {t : Nat} {SX SM SX' SM' : fy_S} (C : lw_C D T aX aM t p s m c b L xs) (I : lw_I D T aX aM t s SX SM H locs) {j : Nat} (hj : j + 5 ≤ L) (hl : lv_has ls 4 [(3, .int (nI j)), (2, .ref (aM 0)), (1, .ref (aX 0)), (0, .ref b)]) {r : Int32} (hX : X9_reverseStep SX (xs (j + 1)) (xs (j + 2)) (xs (j + 3)) = some r) (hM : M_reverseStep SM (xs (j + 1)) (xs (j + 2)) (xs (j + 3)) = some r) (kk : ∀ (H : Heap) (locs : List Loc), lw_I D T aX aM t s SX SM H locs → W p l e room_1 s m #[Value.ref b] below meth c H locs 359 39462 Q (F0 m 1230 ls [])) : W p l e room_1 s m #[Value.ref b] below meth c H locs 359 39462 Q (F0 m 791 ls []) := by
  obtain ⟨hx, hb, -⟩ := id C
  refine lv_aload_n hx hb dL_law_791 rfl (lv_at hl 2 rfl) ?_
  refine lv_aload_n hx hb dL_law_792 rfl (lv_at hl 3 rfl) ?_
  refine lv_iload_n hx hb dL_law_793 rfl (lv_at hl 0 rfl) ?_
  refine lv_iconst (v := (1 : Int32)) hx hb dL_law_794 (by decide) ?_
  refine lv_iadd hx hb dL_law_795 ?_
  refine lw_sld C I hj (k := 1) (by decide) (by decide) dL_law_796 ?_
  refine lv_aload_n hx hb dL_law_797 rfl (lv_at hl 3 rfl) ?_
  refine lv_iload_n hx hb dL_law_798 rfl (lv_at hl 0 rfl) ?_
  refine lv_iconst (v := (2 : Int32)) hx hb dL_law_799 (by decide) ?_
  refine lv_iadd hx hb dL_law_800 ?_
  refine lw_sld C I hj (k := 2) (by decide) (by decide) dL_law_801 ?_
  refine lv_aload_n hx hb dL_law_802 rfl (lv_at hl 3 rfl) ?_
  refine lv_iload_n hx hb dL_law_803 rfl (lv_at hl 0 rfl) ?_
  refine lv_iconst (v := (3 : Int32)) hx hb dL_law_804 (by decide) ?_
  refine lv_iadd hx hb dL_law_805 ?_
  refine lw_sld C I hj (k := 3) (by decide) (by decide) dL_law_806 ?_
  refine lw_calXI C I (lw_runX (As := [.int (xs (j + 1)), .int (xs (j + 2)), .int (xs (j + 3))]) (rest := []) C I (c_X9_reverseStep l (lw_gX D T aX t) hX) kl86 rfl ⟨(Nat.le_of_ble_eq_true rfl), (Nat.le_of_ble_eq_true rfl)⟩ rfl hl.1 rfl (Nat.le_of_ble_eq_true rfl) ⟨(Nat.le_of_ble_eq_true rfl), (Nat.le_of_ble_eq_true rfl)⟩ dL_law_807) (fun H locs I => ?_)
  refine lv_aload_n hx hb dL_law_810 rfl (lv_at hl 1 rfl) ?_
  refine lv_aload_n hx hb dL_law_811 rfl (lv_at hl 3 rfl) ?_
  refine lv_iload_n hx hb dL_law_812 rfl (lv_at hl 0 rfl) ?_
  refine lv_iconst (v := (1 : Int32)) hx hb dL_law_813 (by decide) ?_
  refine lv_iadd hx hb dL_law_814 ?_
  refine lw_sld C I hj (k := 1) (by decide) (by decide) dL_law_815 ?_
  refine lv_aload_n hx hb dL_law_816 rfl (lv_at hl 3 rfl) ?_
  refine lv_iload_n hx hb dL_law_817 rfl (lv_at hl 0 rfl) ?_
  refine lv_iconst (v := (2 : Int32)) hx hb dL_law_818 (by decide) ?_
  refine lv_iadd hx hb dL_law_819 ?_
  refine lw_sld C I hj (k := 2) (by decide) (by decide) dL_law_820 ?_
  refine lv_aload_n hx hb dL_law_821 rfl (lv_at hl 3 rfl) ?_
  refine lv_iload_n hx hb dL_law_822 rfl (lv_at hl 0 rfl) ?_
  refine lv_iconst (v := (3 : Int32)) hx hb dL_law_823 (by decide) ?_
  refine lv_iadd hx hb dL_law_824 ?_
  refine lw_sld C I hj (k := 3) (by decide) (by decide) dL_law_825 ?_
  refine lw_calMI C I (lw_runM (As := [.int (xs (j + 1)), .int (xs (j + 2)), .int (xs (j + 3))]) (rest := [.int r]) C I (c_M_reverseStep l (lw_gM D T aM) hM) kl89 rfl ⟨(Nat.le_of_ble_eq_true rfl), (Nat.le_of_ble_eq_true rfl)⟩ rfl hl.1 rfl (Nat.le_of_ble_eq_true rfl) ⟨(Nat.le_of_ble_eq_true rfl), (Nat.le_of_ble_eq_true rfl)⟩ dL_law_826) (fun H locs I => ?_)
  refine lv_icmp_eq (tgt := 1230) hx hb dL_law_829 (by decide) (fun _ => ?_) (fun hc => absurd rfl hc)
  exact kk H locs I
set_option maxHeartbeats 4000000 in
set_option maxRecDepth 100000 in
theorem lw_case18 {p : Program} {l : Launch} {e : Env} {s : State} {m : MethodId} {below : List Frame} {meth : Method} {c : Code} {H : Heap} {locs : List Loc} {Q : State → Prop} {ls : Array Slot} {b L : Nat} {xs : Nat → Int32} {D : va_G} {T : Nat → ClassId} {aX aM : Nat → Nat} {t : Nat} {SX SM SX' SM' : fy_S} (C : lw_C D T aX aM t p s m c b L xs) (I : lw_I D T aX aM t s SX SM H locs) {j : Nat} (hj : j + 5 ≤ L) (hl : lv_has ls 4 [(3, .int (nI j)), (2, .ref (aM 0)), (1, .ref (aX 0)), (0, .ref b)]) {r : Int32} (hX : X9_reverseStates SX (xs (j + 1)) = some (SX', r)) (hM : M_reverseStates SM (xs (j + 1)) = some (SM', r)) (kk : ∀ (H : Heap) (locs : List Loc), lw_I D T aX aM t s SX' SM' H locs → W p l e room_1 s m #[Value.ref b] below meth c H locs 359 39462 Q (F0 m 1230 ls [])) : W p l e room_1 s m #[Value.ref b] below meth c H locs 359 39462 Q (F0 m 834 ls []) := by
  obtain ⟨hx, hb, -⟩ := id C
  refine lv_aload_n hx hb dL_law_834 rfl (lv_at hl 2 rfl) ?_
  refine lv_aload_n hx hb dL_law_835 rfl (lv_at hl 3 rfl) ?_
  refine lv_iload_n hx hb dL_law_836 rfl (lv_at hl 0 rfl) ?_
  refine lv_iconst (v := (1 : Int32)) hx hb dL_law_837 (by decide) ?_
  refine lv_iadd hx hb dL_law_838 ?_
  refine lw_sld C I hj (k := 1) (by decide) (by decide) dL_law_839 ?_
  refine lw_calXI C I (lw_runX (As := [.int (xs (j + 1))]) (rest := []) C I (c_X9_reverseStates l (lw_gX D T aX t) hX) kl90 rfl ⟨(Nat.le_of_ble_eq_true rfl), (Nat.le_of_ble_eq_true rfl)⟩ rfl hl.1 rfl (Nat.le_of_ble_eq_true rfl) ⟨(Nat.le_of_ble_eq_true rfl), (Nat.le_of_ble_eq_true rfl)⟩ dL_law_840) (fun H locs I => ?_)
  refine lv_aload_n hx hb dL_law_843 rfl (lv_at hl 1 rfl) ?_
  refine lv_aload_n hx hb dL_law_844 rfl (lv_at hl 3 rfl) ?_
  refine lv_iload_n hx hb dL_law_845 rfl (lv_at hl 0 rfl) ?_
  refine lv_iconst (v := (1 : Int32)) hx hb dL_law_846 (by decide) ?_
  refine lv_iadd hx hb dL_law_847 ?_
  refine lw_sld C I hj (k := 1) (by decide) (by decide) dL_law_848 ?_
  refine lw_calMI C I (lw_runM (As := [.int (xs (j + 1))]) (rest := [.int r]) C I (c_M_reverseStates l (lw_gM D T aM) hM) kl93 rfl ⟨(Nat.le_of_ble_eq_true rfl), (Nat.le_of_ble_eq_true rfl)⟩ rfl hl.1 rfl (Nat.le_of_ble_eq_true rfl) ⟨(Nat.le_of_ble_eq_true rfl), (Nat.le_of_ble_eq_true rfl)⟩ dL_law_849) (fun H locs I => ?_)
  refine lv_icmp_eq (tgt := 1230) hx hb dL_law_852 (by decide) (fun _ => ?_) (fun hc => absurd rfl hc)
  exact kk H locs I
set_option maxHeartbeats 4000000 in
set_option maxRecDepth 100000 in
theorem lw_case19 {p : Program} {l : Launch} {e : Env} {s : State} {m : MethodId} {below : List Frame} {meth : Method} {c : Code} {H : Heap} {locs : List Loc} {Q : State → Prop} {ls : Array Slot} {b L : Nat} {xs : Nat → Int32} {D : va_G} {T : Nat → ClassId} {aX aM : Nat → Nat} {t : Nat} {SX SM SX' SM' : fy_S} (C : lw_C D T aX aM t p s m c b L xs) (I : lw_I D T aX aM t s SX SM H locs) {j : Nat} (hj : j + 5 ≤ L) (hl : lv_has ls 4 [(3, .int (nI j)), (2, .ref (aM 0)), (1, .ref (aX 0)), (0, .ref b)]) {r : Int32} (hX : X9_reverseClasses SX (xs (j + 1)) = some (SX', r)) (hM : M_reverseClasses SM (xs (j + 1)) = some (SM', r)) (kk : ∀ (H : Heap) (locs : List Loc), lw_I D T aX aM t s SX' SM' H locs → W p l e room_1 s m #[Value.ref b] below meth c H locs 359 39462 Q (F0 m 1230 ls [])) : W p l e room_1 s m #[Value.ref b] below meth c H locs 359 39462 Q (F0 m 857 ls []) := by
  obtain ⟨hx, hb, -⟩ := id C
  refine lv_aload_n hx hb dL_law_857 rfl (lv_at hl 2 rfl) ?_
  refine lv_aload_n hx hb dL_law_858 rfl (lv_at hl 3 rfl) ?_
  refine lv_iload_n hx hb dL_law_859 rfl (lv_at hl 0 rfl) ?_
  refine lv_iconst (v := (1 : Int32)) hx hb dL_law_860 (by decide) ?_
  refine lv_iadd hx hb dL_law_861 ?_
  refine lw_sld C I hj (k := 1) (by decide) (by decide) dL_law_862 ?_
  refine lw_calXI C I (lw_runX (As := [.int (xs (j + 1))]) (rest := []) C I (c_X9_reverseClasses l (lw_gX D T aX t) hX) kl94 rfl ⟨(Nat.le_of_ble_eq_true rfl), (Nat.le_of_ble_eq_true rfl)⟩ rfl hl.1 rfl (Nat.le_of_ble_eq_true rfl) ⟨(Nat.le_of_ble_eq_true rfl), (Nat.le_of_ble_eq_true rfl)⟩ dL_law_863) (fun H locs I => ?_)
  refine lv_aload_n hx hb dL_law_866 rfl (lv_at hl 1 rfl) ?_
  refine lv_aload_n hx hb dL_law_867 rfl (lv_at hl 3 rfl) ?_
  refine lv_iload_n hx hb dL_law_868 rfl (lv_at hl 0 rfl) ?_
  refine lv_iconst (v := (1 : Int32)) hx hb dL_law_869 (by decide) ?_
  refine lv_iadd hx hb dL_law_870 ?_
  refine lw_sld C I hj (k := 1) (by decide) (by decide) dL_law_871 ?_
  refine lw_calMI C I (lw_runM (As := [.int (xs (j + 1))]) (rest := [.int r]) C I (c_M_reverseClasses l (lw_gM D T aM) hM) kl97 rfl ⟨(Nat.le_of_ble_eq_true rfl), (Nat.le_of_ble_eq_true rfl)⟩ rfl hl.1 rfl (Nat.le_of_ble_eq_true rfl) ⟨(Nat.le_of_ble_eq_true rfl), (Nat.le_of_ble_eq_true rfl)⟩ dL_law_872) (fun H locs I => ?_)
  refine lv_icmp_eq (tgt := 1230) hx hb dL_law_875 (by decide) (fun _ => ?_) (fun hc => absurd rfl hc)
  exact kk H locs I
set_option maxHeartbeats 4000000 in
set_option maxRecDepth 100000 in
theorem lw_case20 {p : Program} {l : Launch} {e : Env} {s : State} {m : MethodId} {below : List Frame} {meth : Method} {c : Code} {H : Heap} {locs : List Loc} {Q : State → Prop} {ls : Array Slot} {b L : Nat} {xs : Nat → Int32} {D : va_G} {T : Nat → ClassId} {aX aM : Nat → Nat} {t : Nat} {SX SM SX' SM' : fy_S} (C : lw_C D T aX aM t p s m c b L xs) (I : lw_I D T aX aM t s SX SM H locs) {j : Nat} (hj : j + 5 ≤ L) (hl : lv_has ls 4 [(3, .int (nI j)), (2, .ref (aM 0)), (1, .ref (aX 0)), (0, .ref b)]) {r : Int32} (hX : X9_existentialStates SX (xs (j + 1)) = some r) (hM : M_existentialStates SM (xs (j + 1)) = some (SM', r)) (kk : ∀ (H : Heap) (locs : List Loc), lw_I D T aX aM t s SX SM' H locs → W p l e room_1 s m #[Value.ref b] below meth c H locs 359 39462 Q (F0 m 1230 ls [])) : W p l e room_1 s m #[Value.ref b] below meth c H locs 359 39462 Q (F0 m 880 ls []) := by
  obtain ⟨hx, hb, -⟩ := id C
  refine lv_aload_n hx hb dL_law_880 rfl (lv_at hl 2 rfl) ?_
  refine lv_aload_n hx hb dL_law_881 rfl (lv_at hl 3 rfl) ?_
  refine lv_iload_n hx hb dL_law_882 rfl (lv_at hl 0 rfl) ?_
  refine lv_iconst (v := (1 : Int32)) hx hb dL_law_883 (by decide) ?_
  refine lv_iadd hx hb dL_law_884 ?_
  refine lw_sld C I hj (k := 1) (by decide) (by decide) dL_law_885 ?_
  refine lw_calXI C I (lw_runX (As := [.int (xs (j + 1))]) (rest := []) C I (c_X9_existentialStates l (lw_gX D T aX t) rfl hX) kl98 rfl ⟨(Nat.le_of_ble_eq_true rfl), (Nat.le_of_ble_eq_true rfl)⟩ rfl hl.1 rfl (Nat.le_of_ble_eq_true rfl) ⟨(Nat.le_of_ble_eq_true rfl), (Nat.le_of_ble_eq_true rfl)⟩ dL_law_886) (fun H locs I => ?_)
  refine lv_aload_n hx hb dL_law_889 rfl (lv_at hl 1 rfl) ?_
  refine lv_aload_n hx hb dL_law_890 rfl (lv_at hl 3 rfl) ?_
  refine lv_iload_n hx hb dL_law_891 rfl (lv_at hl 0 rfl) ?_
  refine lv_iconst (v := (1 : Int32)) hx hb dL_law_892 (by decide) ?_
  refine lv_iadd hx hb dL_law_893 ?_
  refine lw_sld C I hj (k := 1) (by decide) (by decide) dL_law_894 ?_
  refine lw_calMI C I (lw_runM (As := [.int (xs (j + 1))]) (rest := [.int r]) C I (c_M_existentialStates l (lw_gM D T aM) hM) kl101 rfl ⟨(Nat.le_of_ble_eq_true rfl), (Nat.le_of_ble_eq_true rfl)⟩ rfl hl.1 rfl (Nat.le_of_ble_eq_true rfl) ⟨(Nat.le_of_ble_eq_true rfl), (Nat.le_of_ble_eq_true rfl)⟩ dL_law_895) (fun H locs I => ?_)
  refine lv_icmp_eq (tgt := 1230) hx hb dL_law_898 (by decide) (fun _ => ?_) (fun hc => absurd rfl hc)
  exact kk H locs I
set_option maxHeartbeats 4000000 in
set_option maxRecDepth 100000 in
theorem lw_case21 {p : Program} {l : Launch} {e : Env} {s : State} {m : MethodId} {below : List Frame} {meth : Method} {c : Code} {H : Heap} {locs : List Loc} {Q : State → Prop} {ls : Array Slot} {b L : Nat} {xs : Nat → Int32} {D : va_G} {T : Nat → ClassId} {aX aM : Nat → Nat} {t : Nat} {SX SM SX' SM' : fy_S} (C : lw_C D T aX aM t p s m c b L xs) (I : lw_I D T aX aM t s SX SM H locs) {j : Nat} (hj : j + 5 ≤ L) (hl : lv_has ls 4 [(3, .int (nI j)), (2, .ref (aM 0)), (1, .ref (aX 0)), (0, .ref b)]) {r : Int32} (hX : X9_existentialSets SX (xs (j + 1)) (xs (j + 2)) = some r) (hM : M_existentialSets SM (xs (j + 1)) (xs (j + 2)) = some (SM', r)) (kk : ∀ (H : Heap) (locs : List Loc), lw_I D T aX aM t s SX SM' H locs → W p l e room_1 s m #[Value.ref b] below meth c H locs 359 39462 Q (F0 m 1230 ls [])) : W p l e room_1 s m #[Value.ref b] below meth c H locs 359 39462 Q (F0 m 903 ls []) := by
  obtain ⟨hx, hb, -⟩ := id C
  refine lv_aload_n hx hb dL_law_903 rfl (lv_at hl 2 rfl) ?_
  refine lv_aload_n hx hb dL_law_904 rfl (lv_at hl 3 rfl) ?_
  refine lv_iload_n hx hb dL_law_905 rfl (lv_at hl 0 rfl) ?_
  refine lv_iconst (v := (1 : Int32)) hx hb dL_law_906 (by decide) ?_
  refine lv_iadd hx hb dL_law_907 ?_
  refine lw_sld C I hj (k := 1) (by decide) (by decide) dL_law_908 ?_
  refine lv_aload_n hx hb dL_law_909 rfl (lv_at hl 3 rfl) ?_
  refine lv_iload_n hx hb dL_law_910 rfl (lv_at hl 0 rfl) ?_
  refine lv_iconst (v := (2 : Int32)) hx hb dL_law_911 (by decide) ?_
  refine lv_iadd hx hb dL_law_912 ?_
  refine lw_sld C I hj (k := 2) (by decide) (by decide) dL_law_913 ?_
  refine lw_calXI C I (lw_runX (As := [.int (xs (j + 1)), .int (xs (j + 2))]) (rest := []) C I (c_X9_existentialSets l (lw_gX D T aX t) rfl hX) kl102 rfl ⟨(Nat.le_of_ble_eq_true rfl), (Nat.le_of_ble_eq_true rfl)⟩ rfl hl.1 rfl (Nat.le_of_ble_eq_true rfl) ⟨(Nat.le_of_ble_eq_true rfl), (Nat.le_of_ble_eq_true rfl)⟩ dL_law_914) (fun H locs I => ?_)
  refine lv_aload_n hx hb dL_law_917 rfl (lv_at hl 1 rfl) ?_
  refine lv_aload_n hx hb dL_law_918 rfl (lv_at hl 3 rfl) ?_
  refine lv_iload_n hx hb dL_law_919 rfl (lv_at hl 0 rfl) ?_
  refine lv_iconst (v := (1 : Int32)) hx hb dL_law_920 (by decide) ?_
  refine lv_iadd hx hb dL_law_921 ?_
  refine lw_sld C I hj (k := 1) (by decide) (by decide) dL_law_922 ?_
  refine lv_aload_n hx hb dL_law_923 rfl (lv_at hl 3 rfl) ?_
  refine lv_iload_n hx hb dL_law_924 rfl (lv_at hl 0 rfl) ?_
  refine lv_iconst (v := (2 : Int32)) hx hb dL_law_925 (by decide) ?_
  refine lv_iadd hx hb dL_law_926 ?_
  refine lw_sld C I hj (k := 2) (by decide) (by decide) dL_law_927 ?_
  refine lw_calMI C I (lw_runM (As := [.int (xs (j + 1)), .int (xs (j + 2))]) (rest := [.int r]) C I (c_M_existentialSets l (lw_gM D T aM) hM) kl105 rfl ⟨(Nat.le_of_ble_eq_true rfl), (Nat.le_of_ble_eq_true rfl)⟩ rfl hl.1 rfl (Nat.le_of_ble_eq_true rfl) ⟨(Nat.le_of_ble_eq_true rfl), (Nat.le_of_ble_eq_true rfl)⟩ dL_law_928) (fun H locs I => ?_)
  refine lv_icmp_eq (tgt := 1230) hx hb dL_law_931 (by decide) (fun _ => ?_) (fun hc => absurd rfl hc)
  exact kk H locs I
set_option maxHeartbeats 4000000 in
set_option maxRecDepth 100000 in
theorem lw_case22 {p : Program} {l : Launch} {e : Env} {s : State} {m : MethodId} {below : List Frame} {meth : Method} {c : Code} {H : Heap} {locs : List Loc} {Q : State → Prop} {ls : Array Slot} {b L : Nat} {xs : Nat → Int32} {D : va_G} {T : Nat → ClassId} {aX aM : Nat → Nat} {t : Nat} {SX SM SX' SM' : fy_S} (C : lw_C D T aX aM t p s m c b L xs) (I : lw_I D T aX aM t s SX SM H locs) {j : Nat} (hj : j + 5 ≤ L) (hl : lv_has ls 4 [(3, .int (nI j)), (2, .ref (aM 0)), (1, .ref (aX 0)), (0, .ref b)]) {r : Int32} (hX : X9_relevantStates SX (xs (j + 1)) = some r) (hM : M_relevantStates SM (xs (j + 1)) = some r) (kk : ∀ (H : Heap) (locs : List Loc), lw_I D T aX aM t s SX SM H locs → W p l e room_1 s m #[Value.ref b] below meth c H locs 359 39462 Q (F0 m 1230 ls [])) : W p l e room_1 s m #[Value.ref b] below meth c H locs 359 39462 Q (F0 m 936 ls []) := by
  obtain ⟨hx, hb, -⟩ := id C
  refine lv_aload_n hx hb dL_law_936 rfl (lv_at hl 2 rfl) ?_
  refine lv_aload_n hx hb dL_law_937 rfl (lv_at hl 3 rfl) ?_
  refine lv_iload_n hx hb dL_law_938 rfl (lv_at hl 0 rfl) ?_
  refine lv_iconst (v := (1 : Int32)) hx hb dL_law_939 (by decide) ?_
  refine lv_iadd hx hb dL_law_940 ?_
  refine lw_sld C I hj (k := 1) (by decide) (by decide) dL_law_941 ?_
  refine lw_calXI C I (lw_runX (As := [.int (xs (j + 1))]) (rest := []) C I (c_X9_relevantStates l (lw_gX D T aX t) hX) kl106 rfl ⟨(Nat.le_of_ble_eq_true rfl), (Nat.le_of_ble_eq_true rfl)⟩ rfl hl.1 rfl (Nat.le_of_ble_eq_true rfl) ⟨(Nat.le_of_ble_eq_true rfl), (Nat.le_of_ble_eq_true rfl)⟩ dL_law_942) (fun H locs I => ?_)
  refine lv_aload_n hx hb dL_law_945 rfl (lv_at hl 1 rfl) ?_
  refine lv_aload_n hx hb dL_law_946 rfl (lv_at hl 3 rfl) ?_
  refine lv_iload_n hx hb dL_law_947 rfl (lv_at hl 0 rfl) ?_
  refine lv_iconst (v := (1 : Int32)) hx hb dL_law_948 (by decide) ?_
  refine lv_iadd hx hb dL_law_949 ?_
  refine lw_sld C I hj (k := 1) (by decide) (by decide) dL_law_950 ?_
  refine lw_calMI C I (lw_runM (As := [.int (xs (j + 1))]) (rest := [.int r]) C I (c_M_relevantStates l (lw_gM D T aM) hM) kl109 rfl ⟨(Nat.le_of_ble_eq_true rfl), (Nat.le_of_ble_eq_true rfl)⟩ rfl hl.1 rfl (Nat.le_of_ble_eq_true rfl) ⟨(Nat.le_of_ble_eq_true rfl), (Nat.le_of_ble_eq_true rfl)⟩ dL_law_951) (fun H locs I => ?_)
  refine lv_icmp_eq (tgt := 1230) hx hb dL_law_954 (by decide) (fun _ => ?_) (fun hc => absurd rfl hc)
  exact kk H locs I
set_option maxHeartbeats 4000000 in
set_option maxRecDepth 100000 in
theorem lw_case23 {p : Program} {l : Launch} {e : Env} {s : State} {m : MethodId} {below : List Frame} {meth : Method} {c : Code} {H : Heap} {locs : List Loc} {Q : State → Prop} {ls : Array Slot} {b L : Nat} {xs : Nat → Int32} {D : va_G} {T : Nat → ClassId} {aX aM : Nat → Nat} {t : Nat} {SX SM SX' SM' : fy_S} (C : lw_C D T aX aM t p s m c b L xs) (I : lw_I D T aX aM t s SX SM H locs) {j : Nat} (hj : j + 5 ≤ L) (hl : lv_has ls 4 [(3, .int (nI j)), (2, .ref (aM 0)), (1, .ref (aX 0)), (0, .ref b)]) {r : Int32} (hX : X9_findCheapest SX (xs (j + 1)) = some (SX', r)) (hM : M_findCheapest SM (xs (j + 1)) = some (SM', r)) (kk : ∀ (H : Heap) (locs : List Loc), lw_I D T aX aM t s SX' SM' H locs → W p l e room_1 s m #[Value.ref b] below meth c H locs 359 39462 Q (F0 m 1230 ls [])) : W p l e room_1 s m #[Value.ref b] below meth c H locs 359 39462 Q (F0 m 959 ls []) := by
  obtain ⟨hx, hb, -⟩ := id C
  refine lv_aload_n hx hb dL_law_959 rfl (lv_at hl 2 rfl) ?_
  refine lv_aload_n hx hb dL_law_960 rfl (lv_at hl 3 rfl) ?_
  refine lv_iload_n hx hb dL_law_961 rfl (lv_at hl 0 rfl) ?_
  refine lv_iconst (v := (1 : Int32)) hx hb dL_law_962 (by decide) ?_
  refine lv_iadd hx hb dL_law_963 ?_
  refine lw_sld C I hj (k := 1) (by decide) (by decide) dL_law_964 ?_
  refine lw_calXI C I (lw_runX (As := [.int (xs (j + 1))]) (rest := []) C I (c_X9_findCheapest l (lw_gX D T aX t) hX) kl110 rfl ⟨(Nat.le_of_ble_eq_true rfl), (Nat.le_of_ble_eq_true rfl)⟩ rfl hl.1 rfl (Nat.le_of_ble_eq_true rfl) ⟨(Nat.le_of_ble_eq_true rfl), (Nat.le_of_ble_eq_true rfl)⟩ dL_law_965) (fun H locs I => ?_)
  refine lv_aload_n hx hb dL_law_968 rfl (lv_at hl 1 rfl) ?_
  refine lv_aload_n hx hb dL_law_969 rfl (lv_at hl 3 rfl) ?_
  refine lv_iload_n hx hb dL_law_970 rfl (lv_at hl 0 rfl) ?_
  refine lv_iconst (v := (1 : Int32)) hx hb dL_law_971 (by decide) ?_
  refine lv_iadd hx hb dL_law_972 ?_
  refine lw_sld C I hj (k := 1) (by decide) (by decide) dL_law_973 ?_
  refine lw_calMI C I (lw_runM (As := [.int (xs (j + 1))]) (rest := [.int r]) C I (c_M_findCheapest l (lw_gM D T aM) hM) kl113 rfl ⟨(Nat.le_of_ble_eq_true rfl), (Nat.le_of_ble_eq_true rfl)⟩ rfl hl.1 rfl (Nat.le_of_ble_eq_true rfl) ⟨(Nat.le_of_ble_eq_true rfl), (Nat.le_of_ble_eq_true rfl)⟩ dL_law_974) (fun H locs I => ?_)
  refine lv_icmp_eq (tgt := 1230) hx hb dL_law_977 (by decide) (fun _ => ?_) (fun hc => absurd rfl hc)
  exact kk H locs I
set_option maxHeartbeats 4000000 in
set_option maxRecDepth 100000 in
theorem lw_case24 {p : Program} {l : Launch} {e : Env} {s : State} {m : MethodId} {below : List Frame} {meth : Method} {c : Code} {H : Heap} {locs : List Loc} {Q : State → Prop} {ls : Array Slot} {b L : Nat} {xs : Nat → Int32} {D : va_G} {T : Nat → ClassId} {aX aM : Nat → Nat} {t : Nat} {SX SM SX' SM' : fy_S} (C : lw_C D T aX aM t p s m c b L xs) (I : lw_I D T aX aM t s SX SM H locs) {j : Nat} (hj : j + 5 ≤ L) (hl : lv_has ls 4 [(3, .int (nI j)), (2, .ref (aM 0)), (1, .ref (aX 0)), (0, .ref b)]) {r : Int32} (hX : X9_findDifference SX (xs (j + 1)) (xs (j + 2)) = some (SX', r)) (hM : M_findDifference SM (xs (j + 1)) (xs (j + 2)) = some (SM', r)) (kk : ∀ (H : Heap) (locs : List Loc), lw_I D T aX aM t s SX' SM' H locs → W p l e room_1 s m #[Value.ref b] below meth c H locs 359 39462 Q (F0 m 1230 ls [])) : W p l e room_1 s m #[Value.ref b] below meth c H locs 359 39462 Q (F0 m 982 ls []) := by
  obtain ⟨hx, hb, -⟩ := id C
  refine lv_aload_n hx hb dL_law_982 rfl (lv_at hl 2 rfl) ?_
  refine lv_aload_n hx hb dL_law_983 rfl (lv_at hl 3 rfl) ?_
  refine lv_iload_n hx hb dL_law_984 rfl (lv_at hl 0 rfl) ?_
  refine lv_iconst (v := (1 : Int32)) hx hb dL_law_985 (by decide) ?_
  refine lv_iadd hx hb dL_law_986 ?_
  refine lw_sld C I hj (k := 1) (by decide) (by decide) dL_law_987 ?_
  refine lv_aload_n hx hb dL_law_988 rfl (lv_at hl 3 rfl) ?_
  refine lv_iload_n hx hb dL_law_989 rfl (lv_at hl 0 rfl) ?_
  refine lv_iconst (v := (2 : Int32)) hx hb dL_law_990 (by decide) ?_
  refine lv_iadd hx hb dL_law_991 ?_
  refine lw_sld C I hj (k := 2) (by decide) (by decide) dL_law_992 ?_
  refine lw_calXI C I (lw_runX (As := [.int (xs (j + 1)), .int (xs (j + 2))]) (rest := []) C I (c_X9_findDifference l (lw_gX D T aX t) hX) kl114 rfl ⟨(Nat.le_of_ble_eq_true rfl), (Nat.le_of_ble_eq_true rfl)⟩ rfl hl.1 rfl (Nat.le_of_ble_eq_true rfl) ⟨(Nat.le_of_ble_eq_true rfl), (Nat.le_of_ble_eq_true rfl)⟩ dL_law_993) (fun H locs I => ?_)
  refine lv_aload_n hx hb dL_law_996 rfl (lv_at hl 1 rfl) ?_
  refine lv_aload_n hx hb dL_law_997 rfl (lv_at hl 3 rfl) ?_
  refine lv_iload_n hx hb dL_law_998 rfl (lv_at hl 0 rfl) ?_
  refine lv_iconst (v := (1 : Int32)) hx hb dL_law_999 (by decide) ?_
  refine lv_iadd hx hb dL_law_1000 ?_
  refine lw_sld C I hj (k := 1) (by decide) (by decide) dL_law_1001 ?_
  refine lv_aload_n hx hb dL_law_1002 rfl (lv_at hl 3 rfl) ?_
  refine lv_iload_n hx hb dL_law_1003 rfl (lv_at hl 0 rfl) ?_
  refine lv_iconst (v := (2 : Int32)) hx hb dL_law_1004 (by decide) ?_
  refine lv_iadd hx hb dL_law_1005 ?_
  refine lw_sld C I hj (k := 2) (by decide) (by decide) dL_law_1006 ?_
  refine lw_calMI C I (lw_runM (As := [.int (xs (j + 1)), .int (xs (j + 2))]) (rest := [.int r]) C I (c_M_findDifference l (lw_gM D T aM) hM) kl117 rfl ⟨(Nat.le_of_ble_eq_true rfl), (Nat.le_of_ble_eq_true rfl)⟩ rfl hl.1 rfl (Nat.le_of_ble_eq_true rfl) ⟨(Nat.le_of_ble_eq_true rfl), (Nat.le_of_ble_eq_true rfl)⟩ dL_law_1007) (fun H locs I => ?_)
  refine lv_icmp_eq (tgt := 1230) hx hb dL_law_1010 (by decide) (fun _ => ?_) (fun hc => absurd rfl hc)
  exact kk H locs I
set_option maxHeartbeats 4000000 in
set_option maxRecDepth 100000 in
theorem lw_case25 {p : Program} {l : Launch} {e : Env} {s : State} {m : MethodId} {below : List Frame} {meth : Method} {c : Code} {H : Heap} {locs : List Loc} {Q : State → Prop} {ls : Array Slot} {b L : Nat} {xs : Nat → Int32} {D : va_G} {T : Nat → ClassId} {aX aM : Nat → Nat} {t : Nat} {SX SM SX' SM' : fy_S} (C : lw_C D T aX aM t p s m c b L xs) (I : lw_I D T aX aM t s SX SM H locs) {j : Nat} (hj : j + 5 ≤ L) (hl : lv_has ls 4 [(3, .int (nI j)), (2, .ref (aM 0)), (1, .ref (aX 0)), (0, .ref b)]) {r : Int32} (hX : X9_foundLetter SX (xs (j + 1)) = some r) (hM : M_foundLetter SM (xs (j + 1)) = some r) (kk : ∀ (H : Heap) (locs : List Loc), lw_I D T aX aM t s SX SM H locs → W p l e room_1 s m #[Value.ref b] below meth c H locs 359 39462 Q (F0 m 1230 ls [])) : W p l e room_1 s m #[Value.ref b] below meth c H locs 359 39462 Q (F0 m 1015 ls []) := by
  obtain ⟨hx, hb, -⟩ := id C
  refine lv_aload_n hx hb dL_law_1015 rfl (lv_at hl 2 rfl) ?_
  refine lv_aload_n hx hb dL_law_1016 rfl (lv_at hl 3 rfl) ?_
  refine lv_iload_n hx hb dL_law_1017 rfl (lv_at hl 0 rfl) ?_
  refine lv_iconst (v := (1 : Int32)) hx hb dL_law_1018 (by decide) ?_
  refine lv_iadd hx hb dL_law_1019 ?_
  refine lw_sld C I hj (k := 1) (by decide) (by decide) dL_law_1020 ?_
  refine lw_calXI C I (lw_runX (As := [.int (xs (j + 1))]) (rest := []) C I (c_X9_foundLetter l (lw_gX D T aX t) hX) kl118 rfl ⟨(Nat.le_of_ble_eq_true rfl), (Nat.le_of_ble_eq_true rfl)⟩ rfl hl.1 rfl (Nat.le_of_ble_eq_true rfl) ⟨(Nat.le_of_ble_eq_true rfl), (Nat.le_of_ble_eq_true rfl)⟩ dL_law_1021) (fun H locs I => ?_)
  refine lv_aload_n hx hb dL_law_1024 rfl (lv_at hl 1 rfl) ?_
  refine lv_aload_n hx hb dL_law_1025 rfl (lv_at hl 3 rfl) ?_
  refine lv_iload_n hx hb dL_law_1026 rfl (lv_at hl 0 rfl) ?_
  refine lv_iconst (v := (1 : Int32)) hx hb dL_law_1027 (by decide) ?_
  refine lv_iadd hx hb dL_law_1028 ?_
  refine lw_sld C I hj (k := 1) (by decide) (by decide) dL_law_1029 ?_
  refine lw_calMI C I (lw_runM (As := [.int (xs (j + 1))]) (rest := [.int r]) C I (c_M_foundLetter l (lw_gM D T aM) hM) kl121 rfl ⟨(Nat.le_of_ble_eq_true rfl), (Nat.le_of_ble_eq_true rfl)⟩ rfl hl.1 rfl (Nat.le_of_ble_eq_true rfl) ⟨(Nat.le_of_ble_eq_true rfl), (Nat.le_of_ble_eq_true rfl)⟩ dL_law_1030) (fun H locs I => ?_)
  refine lv_icmp_eq (tgt := 1230) hx hb dL_law_1033 (by decide) (fun _ => ?_) (fun hc => absurd rfl hc)
  exact kk H locs I
set_option maxHeartbeats 4000000 in
set_option maxRecDepth 100000 in
theorem lw_case26 {p : Program} {l : Launch} {e : Env} {s : State} {m : MethodId} {below : List Frame} {meth : Method} {c : Code} {H : Heap} {locs : List Loc} {Q : State → Prop} {ls : Array Slot} {b L : Nat} {xs : Nat → Int32} {D : va_G} {T : Nat → ClassId} {aX aM : Nat → Nat} {t : Nat} {SX SM SX' SM' : fy_S} (C : lw_C D T aX aM t p s m c b L xs) (I : lw_I D T aX aM t s SX SM H locs) {j : Nat} (hj : j + 5 ≤ L) (hl : lv_has ls 4 [(3, .int (nI j)), (2, .ref (aM 0)), (1, .ref (aX 0)), (0, .ref b)]) {r : Int32} (hX : X9_foundCost SX  = some r) (hM : M_foundCost SM  = some r) (kk : ∀ (H : Heap) (locs : List Loc), lw_I D T aX aM t s SX SM H locs → W p l e room_1 s m #[Value.ref b] below meth c H locs 359 39462 Q (F0 m 1230 ls [])) : W p l e room_1 s m #[Value.ref b] below meth c H locs 359 39462 Q (F0 m 1038 ls []) := by
  obtain ⟨hx, hb, -⟩ := id C
  refine lv_aload_n hx hb dL_law_1038 rfl (lv_at hl 2 rfl) ?_
  refine lw_calXI C I (lw_runX (As := []) (rest := []) C I (c_X9_foundCost l (lw_gX D T aX t) hX) kl122 rfl ⟨(Nat.le_of_ble_eq_true rfl), (Nat.le_of_ble_eq_true rfl)⟩ rfl hl.1 rfl (Nat.le_of_ble_eq_true rfl) ⟨(Nat.le_of_ble_eq_true rfl), (Nat.le_of_ble_eq_true rfl)⟩ dL_law_1039) (fun H locs I => ?_)
  refine lv_aload_n hx hb dL_law_1042 rfl (lv_at hl 1 rfl) ?_
  refine lw_calMI C I (lw_runM (As := []) (rest := [.int r]) C I (c_M_foundCost l (lw_gM D T aM) hM) kl125 rfl ⟨(Nat.le_of_ble_eq_true rfl), (Nat.le_of_ble_eq_true rfl)⟩ rfl hl.1 rfl (Nat.le_of_ble_eq_true rfl) ⟨(Nat.le_of_ble_eq_true rfl), (Nat.le_of_ble_eq_true rfl)⟩ dL_law_1043) (fun H locs I => ?_)
  refine lv_icmp_eq (tgt := 1230) hx hb dL_law_1046 (by decide) (fun _ => ?_) (fun hc => absurd rfl hc)
  exact kk H locs I
set_option maxHeartbeats 4000000 in
set_option maxRecDepth 100000 in
theorem lw_case27 {p : Program} {l : Launch} {e : Env} {s : State} {m : MethodId} {below : List Frame} {meth : Method} {c : Code} {H : Heap} {locs : List Loc} {Q : State → Prop} {ls : Array Slot} {b L : Nat} {xs : Nat → Int32} {D : va_G} {T : Nat → ClassId} {aX aM : Nat → Nat} {t : Nat} {SX SM SX' SM' : fy_S} (C : lw_C D T aX aM t p s m c b L xs) (I : lw_I D T aX aM t s SX SM H locs) {j : Nat} (hj : j + 5 ≤ L) (hl : lv_has ls 4 [(3, .int (nI j)), (2, .ref (aM 0)), (1, .ref (aX 0)), (0, .ref b)]) {r : Int32} (hX : X9_isContained SX (xs (j + 1)) (xs (j + 2)) = some (SX', r)) (hM : M_isContained SM (xs (j + 1)) (xs (j + 2)) = some (SM', r)) (kk : ∀ (H : Heap) (locs : List Loc), lw_I D T aX aM t s SX' SM' H locs → W p l e room_1 s m #[Value.ref b] below meth c H locs 359 39462 Q (F0 m 1230 ls [])) : W p l e room_1 s m #[Value.ref b] below meth c H locs 359 39462 Q (F0 m 1051 ls []) := by
  obtain ⟨hx, hb, -⟩ := id C
  refine lv_aload_n hx hb dL_law_1051 rfl (lv_at hl 2 rfl) ?_
  refine lv_aload_n hx hb dL_law_1052 rfl (lv_at hl 3 rfl) ?_
  refine lv_iload_n hx hb dL_law_1053 rfl (lv_at hl 0 rfl) ?_
  refine lv_iconst (v := (1 : Int32)) hx hb dL_law_1054 (by decide) ?_
  refine lv_iadd hx hb dL_law_1055 ?_
  refine lw_sld C I hj (k := 1) (by decide) (by decide) dL_law_1056 ?_
  refine lv_aload_n hx hb dL_law_1057 rfl (lv_at hl 3 rfl) ?_
  refine lv_iload_n hx hb dL_law_1058 rfl (lv_at hl 0 rfl) ?_
  refine lv_iconst (v := (2 : Int32)) hx hb dL_law_1059 (by decide) ?_
  refine lv_iadd hx hb dL_law_1060 ?_
  refine lw_sld C I hj (k := 2) (by decide) (by decide) dL_law_1061 ?_
  refine lw_calXI C I (lw_runX (As := [.int (xs (j + 1)), .int (xs (j + 2))]) (rest := []) C I (c_X9_isContained l (lw_gX D T aX t) hX) kl126 rfl ⟨(Nat.le_of_ble_eq_true rfl), (Nat.le_of_ble_eq_true rfl)⟩ rfl hl.1 rfl (Nat.le_of_ble_eq_true rfl) ⟨(Nat.le_of_ble_eq_true rfl), (Nat.le_of_ble_eq_true rfl)⟩ dL_law_1062) (fun H locs I => ?_)
  refine lv_aload_n hx hb dL_law_1065 rfl (lv_at hl 1 rfl) ?_
  refine lv_aload_n hx hb dL_law_1066 rfl (lv_at hl 3 rfl) ?_
  refine lv_iload_n hx hb dL_law_1067 rfl (lv_at hl 0 rfl) ?_
  refine lv_iconst (v := (1 : Int32)) hx hb dL_law_1068 (by decide) ?_
  refine lv_iadd hx hb dL_law_1069 ?_
  refine lw_sld C I hj (k := 1) (by decide) (by decide) dL_law_1070 ?_
  refine lv_aload_n hx hb dL_law_1071 rfl (lv_at hl 3 rfl) ?_
  refine lv_iload_n hx hb dL_law_1072 rfl (lv_at hl 0 rfl) ?_
  refine lv_iconst (v := (2 : Int32)) hx hb dL_law_1073 (by decide) ?_
  refine lv_iadd hx hb dL_law_1074 ?_
  refine lw_sld C I hj (k := 2) (by decide) (by decide) dL_law_1075 ?_
  refine lw_calMI C I (lw_runM (As := [.int (xs (j + 1)), .int (xs (j + 2))]) (rest := [.int r]) C I (c_M_isContained l (lw_gM D T aM) hM) kl129 rfl ⟨(Nat.le_of_ble_eq_true rfl), (Nat.le_of_ble_eq_true rfl)⟩ rfl hl.1 rfl (Nat.le_of_ble_eq_true rfl) ⟨(Nat.le_of_ble_eq_true rfl), (Nat.le_of_ble_eq_true rfl)⟩ dL_law_1076) (fun H locs I => ?_)
  refine lv_icmp_eq (tgt := 1230) hx hb dL_law_1079 (by decide) (fun _ => ?_) (fun hc => absurd rfl hc)
  exact kk H locs I
set_option maxHeartbeats 4000000 in
set_option maxRecDepth 100000 in
theorem lw_case28 {p : Program} {l : Launch} {e : Env} {s : State} {m : MethodId} {below : List Frame} {meth : Method} {c : Code} {H : Heap} {locs : List Loc} {Q : State → Prop} {ls : Array Slot} {b L : Nat} {xs : Nat → Int32} {D : va_G} {T : Nat → ClassId} {aX aM : Nat → Nat} {t : Nat} {SX SM SX' SM' : fy_S} (C : lw_C D T aX aM t p s m c b L xs) (I : lw_I D T aX aM t s SX SM H locs) {j : Nat} (hj : j + 5 ≤ L) (hl : lv_has ls 4 [(3, .int (nI j)), (2, .ref (aM 0)), (1, .ref (aX 0)), (0, .ref b)]) {r : Int64} (hX : X9_countWords SX (xs (j + 1)) (xs (j + 2)) = some (SX', r)) (hM : M_countWords SM (xs (j + 1)) (xs (j + 2)) = some (SM', r)) (kk : ∀ (H : Heap) (locs : List Loc), lw_I D T aX aM t s SX' SM' H locs → W p l e room_1 s m #[Value.ref b] below meth c H locs 359 39462 Q (F0 m 1230 ls [])) : W p l e room_1 s m #[Value.ref b] below meth c H locs 359 39462 Q (F0 m 1084 ls []) := by
  obtain ⟨hx, hb, -⟩ := id C
  refine lv_aload_n hx hb dL_law_1084 rfl (lv_at hl 2 rfl) ?_
  refine lv_aload_n hx hb dL_law_1085 rfl (lv_at hl 3 rfl) ?_
  refine lv_iload_n hx hb dL_law_1086 rfl (lv_at hl 0 rfl) ?_
  refine lv_iconst (v := (1 : Int32)) hx hb dL_law_1087 (by decide) ?_
  refine lv_iadd hx hb dL_law_1088 ?_
  refine lw_sld C I hj (k := 1) (by decide) (by decide) dL_law_1089 ?_
  refine lv_aload_n hx hb dL_law_1090 rfl (lv_at hl 3 rfl) ?_
  refine lv_iload_n hx hb dL_law_1091 rfl (lv_at hl 0 rfl) ?_
  refine lv_iconst (v := (2 : Int32)) hx hb dL_law_1092 (by decide) ?_
  refine lv_iadd hx hb dL_law_1093 ?_
  refine lw_sld C I hj (k := 2) (by decide) (by decide) dL_law_1094 ?_
  refine lw_calXL C I (lw_runX (As := [.int (xs (j + 1)), .int (xs (j + 2))]) (rest := []) C I (c_X9_countWords l (lw_gX D T aX t) hX) kl130 rfl ⟨(Nat.le_of_ble_eq_true rfl), (Nat.le_of_ble_eq_true rfl)⟩ rfl hl.1 rfl (Nat.le_of_ble_eq_true rfl) ⟨(Nat.le_of_ble_eq_true rfl), (Nat.le_of_ble_eq_true rfl)⟩ dL_law_1095) (fun H locs I => ?_)
  refine lv_aload_n hx hb dL_law_1098 rfl (lv_at hl 1 rfl) ?_
  refine lv_aload_n hx hb dL_law_1099 rfl (lv_at hl 3 rfl) ?_
  refine lv_iload_n hx hb dL_law_1100 rfl (lv_at hl 0 rfl) ?_
  refine lv_iconst (v := (1 : Int32)) hx hb dL_law_1101 (by decide) ?_
  refine lv_iadd hx hb dL_law_1102 ?_
  refine lw_sld C I hj (k := 1) (by decide) (by decide) dL_law_1103 ?_
  refine lv_aload_n hx hb dL_law_1104 rfl (lv_at hl 3 rfl) ?_
  refine lv_iload_n hx hb dL_law_1105 rfl (lv_at hl 0 rfl) ?_
  refine lv_iconst (v := (2 : Int32)) hx hb dL_law_1106 (by decide) ?_
  refine lv_iadd hx hb dL_law_1107 ?_
  refine lw_sld C I hj (k := 2) (by decide) (by decide) dL_law_1108 ?_
  refine lw_calML C I (lw_runM (As := [.int (xs (j + 1)), .int (xs (j + 2))]) (rest := [.long r]) C I (c_M_countWords l (lw_gM D T aM) hM) kl134 rfl ⟨(Nat.le_of_ble_eq_true rfl), (Nat.le_of_ble_eq_true rfl)⟩ rfl hl.1 rfl (Nat.le_of_ble_eq_true rfl) ⟨(Nat.le_of_ble_eq_true rfl), (Nat.le_of_ble_eq_true rfl)⟩ dL_law_1109) (fun H locs I => ?_)
  refine W.lcmp hx hb dL_law_1112 ?_
  refine lv_if_eq (tgt := 1230) hx hb dL_law_1113 (by decide) (fun _ => ?_) (fun hc => absurd (by simp [lg_cmp]) hc)
  exact kk H locs I
set_option maxHeartbeats 4000000 in
set_option maxRecDepth 100000 in
theorem lw_case29 {p : Program} {l : Launch} {e : Env} {s : State} {m : MethodId} {below : List Frame} {meth : Method} {c : Code} {H : Heap} {locs : List Loc} {Q : State → Prop} {ls : Array Slot} {b L : Nat} {xs : Nat → Int32} {D : va_G} {T : Nat → ClassId} {aX aM : Nat → Nat} {t : Nat} {SX SM SX' SM' : fy_S} (C : lw_C D T aX aM t p s m c b L xs) (I : lw_I D T aX aM t s SX SM H locs) {j : Nat} (hj : j + 5 ≤ L) (hl : lv_has ls 4 [(3, .int (nI j)), (2, .ref (aM 0)), (1, .ref (aX 0)), (0, .ref b)]) {r : Int32} (hX : X9_dualize SX (xs (j + 1)) (xs (j + 2)) = some (SX', r)) (hM : M_dualize SM (xs (j + 1)) (xs (j + 2)) = some (SM', r)) (kk : ∀ (H : Heap) (locs : List Loc), lw_I D T aX aM t s SX' SM' H locs → W p l e room_1 s m #[Value.ref b] below meth c H locs 359 39462 Q (F0 m 1230 ls [])) : W p l e room_1 s m #[Value.ref b] below meth c H locs 359 39462 Q (F0 m 1118 ls []) := by
  obtain ⟨hx, hb, -⟩ := id C
  refine lv_aload_n hx hb dL_law_1118 rfl (lv_at hl 2 rfl) ?_
  refine lv_aload_n hx hb dL_law_1119 rfl (lv_at hl 3 rfl) ?_
  refine lv_iload_n hx hb dL_law_1120 rfl (lv_at hl 0 rfl) ?_
  refine lv_iconst (v := (1 : Int32)) hx hb dL_law_1121 (by decide) ?_
  refine lv_iadd hx hb dL_law_1122 ?_
  refine lw_sld C I hj (k := 1) (by decide) (by decide) dL_law_1123 ?_
  refine lv_aload_n hx hb dL_law_1124 rfl (lv_at hl 3 rfl) ?_
  refine lv_iload_n hx hb dL_law_1125 rfl (lv_at hl 0 rfl) ?_
  refine lv_iconst (v := (2 : Int32)) hx hb dL_law_1126 (by decide) ?_
  refine lv_iadd hx hb dL_law_1127 ?_
  refine lw_sld C I hj (k := 2) (by decide) (by decide) dL_law_1128 ?_
  refine lw_calXI C I (lw_runX (As := [.int (xs (j + 1)), .int (xs (j + 2))]) (rest := []) C I (c_X9_dualize l (lw_gX D T aX t) hX) kl135 rfl ⟨(Nat.le_of_ble_eq_true rfl), (Nat.le_of_ble_eq_true rfl)⟩ rfl hl.1 rfl (Nat.le_of_ble_eq_true rfl) ⟨(Nat.le_of_ble_eq_true rfl), (Nat.le_of_ble_eq_true rfl)⟩ dL_law_1129) (fun H locs I => ?_)
  refine lv_aload_n hx hb dL_law_1132 rfl (lv_at hl 1 rfl) ?_
  refine lv_aload_n hx hb dL_law_1133 rfl (lv_at hl 3 rfl) ?_
  refine lv_iload_n hx hb dL_law_1134 rfl (lv_at hl 0 rfl) ?_
  refine lv_iconst (v := (1 : Int32)) hx hb dL_law_1135 (by decide) ?_
  refine lv_iadd hx hb dL_law_1136 ?_
  refine lw_sld C I hj (k := 1) (by decide) (by decide) dL_law_1137 ?_
  refine lv_aload_n hx hb dL_law_1138 rfl (lv_at hl 3 rfl) ?_
  refine lv_iload_n hx hb dL_law_1139 rfl (lv_at hl 0 rfl) ?_
  refine lv_iconst (v := (2 : Int32)) hx hb dL_law_1140 (by decide) ?_
  refine lv_iadd hx hb dL_law_1141 ?_
  refine lw_sld C I hj (k := 2) (by decide) (by decide) dL_law_1142 ?_
  refine lw_calMI C I (lw_runM (As := [.int (xs (j + 1)), .int (xs (j + 2))]) (rest := [.int r]) C I (c_M_dualize l (lw_gM D T aM) hM) kl138 rfl ⟨(Nat.le_of_ble_eq_true rfl), (Nat.le_of_ble_eq_true rfl)⟩ rfl hl.1 rfl (Nat.le_of_ble_eq_true rfl) ⟨(Nat.le_of_ble_eq_true rfl), (Nat.le_of_ble_eq_true rfl)⟩ dL_law_1143) (fun H locs I => ?_)
  refine lv_icmp_eq (tgt := 1230) hx hb dL_law_1146 (by decide) (fun _ => ?_) (fun hc => absurd rfl hc)
  exact kk H locs I
set_option maxHeartbeats 4000000 in
set_option maxRecDepth 100000 in
theorem lw_case30 {p : Program} {l : Launch} {e : Env} {s : State} {m : MethodId} {below : List Frame} {meth : Method} {c : Code} {H : Heap} {locs : List Loc} {Q : State → Prop} {ls : Array Slot} {b L : Nat} {xs : Nat → Int32} {D : va_G} {T : Nat → ClassId} {aX aM : Nat → Nat} {t : Nat} {SX SM SX' SM' : fy_S} (C : lw_C D T aX aM t p s m c b L xs) (I : lw_I D T aX aM t s SX SM H locs) {j : Nat} (hj : j + 5 ≤ L) (hl : lv_has ls 4 [(3, .int (nI j)), (2, .ref (aM 0)), (1, .ref (aX 0)), (0, .ref b)]) {r : Int32} (hX : X9_combine SX (xs (j + 1)) (xs (j + 2)) (xs (j + 3)) (xs (j + 4)) = some (SX', r)) (hM : M_combine SM (xs (j + 1)) (xs (j + 2)) (xs (j + 3)) (xs (j + 4)) = some (SM', r)) (kk : ∀ (H : Heap) (locs : List Loc), lw_I D T aX aM t s SX' SM' H locs → W p l e room_1 s m #[Value.ref b] below meth c H locs 359 39462 Q (F0 m 1230 ls [])) : W p l e room_1 s m #[Value.ref b] below meth c H locs 359 39462 Q (F0 m 1151 ls []) := by
  obtain ⟨hx, hb, -⟩ := id C
  refine lv_aload_n hx hb dL_law_1151 rfl (lv_at hl 2 rfl) ?_
  refine lv_aload_n hx hb dL_law_1152 rfl (lv_at hl 3 rfl) ?_
  refine lv_iload_n hx hb dL_law_1153 rfl (lv_at hl 0 rfl) ?_
  refine lv_iconst (v := (1 : Int32)) hx hb dL_law_1154 (by decide) ?_
  refine lv_iadd hx hb dL_law_1155 ?_
  refine lw_sld C I hj (k := 1) (by decide) (by decide) dL_law_1156 ?_
  refine lv_aload_n hx hb dL_law_1157 rfl (lv_at hl 3 rfl) ?_
  refine lv_iload_n hx hb dL_law_1158 rfl (lv_at hl 0 rfl) ?_
  refine lv_iconst (v := (2 : Int32)) hx hb dL_law_1159 (by decide) ?_
  refine lv_iadd hx hb dL_law_1160 ?_
  refine lw_sld C I hj (k := 2) (by decide) (by decide) dL_law_1161 ?_
  refine lv_aload_n hx hb dL_law_1162 rfl (lv_at hl 3 rfl) ?_
  refine lv_iload_n hx hb dL_law_1163 rfl (lv_at hl 0 rfl) ?_
  refine lv_iconst (v := (3 : Int32)) hx hb dL_law_1164 (by decide) ?_
  refine lv_iadd hx hb dL_law_1165 ?_
  refine lw_sld C I hj (k := 3) (by decide) (by decide) dL_law_1166 ?_
  refine lv_aload_n hx hb dL_law_1167 rfl (lv_at hl 3 rfl) ?_
  refine lv_iload_n hx hb dL_law_1168 rfl (lv_at hl 0 rfl) ?_
  refine lv_iconst (v := (4 : Int32)) hx hb dL_law_1169 (by decide) ?_
  refine lv_iadd hx hb dL_law_1170 ?_
  refine lw_sld C I hj (k := 4) (by decide) (by decide) dL_law_1171 ?_
  refine lw_calXI C I (lw_runX (As := [.int (xs (j + 1)), .int (xs (j + 2)), .int (xs (j + 3)), .int (xs (j + 4))]) (rest := []) C I (c_X9_combine l (lw_gX D T aX t) hX) kl139 rfl ⟨(Nat.le_of_ble_eq_true rfl), (Nat.le_of_ble_eq_true rfl)⟩ rfl hl.1 rfl (Nat.le_of_ble_eq_true rfl) ⟨(Nat.le_of_ble_eq_true rfl), (Nat.le_of_ble_eq_true rfl)⟩ dL_law_1172) (fun H locs I => ?_)
  refine lv_aload_n hx hb dL_law_1175 rfl (lv_at hl 1 rfl) ?_
  refine lv_aload_n hx hb dL_law_1176 rfl (lv_at hl 3 rfl) ?_
  refine lv_iload_n hx hb dL_law_1177 rfl (lv_at hl 0 rfl) ?_
  refine lv_iconst (v := (1 : Int32)) hx hb dL_law_1178 (by decide) ?_
  refine lv_iadd hx hb dL_law_1179 ?_
  refine lw_sld C I hj (k := 1) (by decide) (by decide) dL_law_1180 ?_
  refine lv_aload_n hx hb dL_law_1181 rfl (lv_at hl 3 rfl) ?_
  refine lv_iload_n hx hb dL_law_1182 rfl (lv_at hl 0 rfl) ?_
  refine lv_iconst (v := (2 : Int32)) hx hb dL_law_1183 (by decide) ?_
  refine lv_iadd hx hb dL_law_1184 ?_
  refine lw_sld C I hj (k := 2) (by decide) (by decide) dL_law_1185 ?_
  refine lv_aload_n hx hb dL_law_1186 rfl (lv_at hl 3 rfl) ?_
  refine lv_iload_n hx hb dL_law_1187 rfl (lv_at hl 0 rfl) ?_
  refine lv_iconst (v := (3 : Int32)) hx hb dL_law_1188 (by decide) ?_
  refine lv_iadd hx hb dL_law_1189 ?_
  refine lw_sld C I hj (k := 3) (by decide) (by decide) dL_law_1190 ?_
  refine lv_aload_n hx hb dL_law_1191 rfl (lv_at hl 3 rfl) ?_
  refine lv_iload_n hx hb dL_law_1192 rfl (lv_at hl 0 rfl) ?_
  refine lv_iconst (v := (4 : Int32)) hx hb dL_law_1193 (by decide) ?_
  refine lv_iadd hx hb dL_law_1194 ?_
  refine lw_sld C I hj (k := 4) (by decide) (by decide) dL_law_1195 ?_
  refine lw_calMI C I (lw_runM (As := [.int (xs (j + 1)), .int (xs (j + 2)), .int (xs (j + 3)), .int (xs (j + 4))]) (rest := [.int r]) C I (c_M_combine l (lw_gM D T aM) hM) kl142 rfl ⟨(Nat.le_of_ble_eq_true rfl), (Nat.le_of_ble_eq_true rfl)⟩ rfl hl.1 rfl (Nat.le_of_ble_eq_true rfl) ⟨(Nat.le_of_ble_eq_true rfl), (Nat.le_of_ble_eq_true rfl)⟩ dL_law_1196) (fun H locs I => ?_)
  refine lv_icmp_eq (tgt := 1230) hx hb dL_law_1199 (by decide) (fun _ => ?_) (fun hc => absurd rfl hc)
  exact kk H locs I
set_option maxHeartbeats 4000000 in
set_option maxRecDepth 100000 in
theorem lw_case31 {p : Program} {l : Launch} {e : Env} {s : State} {m : MethodId} {below : List Frame} {meth : Method} {c : Code} {H : Heap} {locs : List Loc} {Q : State → Prop} {ls : Array Slot} {b L : Nat} {xs : Nat → Int32} {D : va_G} {T : Nat → ClassId} {aX aM : Nat → Nat} {t : Nat} {SX SM SX' SM' : fy_S} (C : lw_C D T aX aM t p s m c b L xs) (I : lw_I D T aX aM t s SX SM H locs) {j : Nat} (hj : j + 5 ≤ L) (hl : lv_has ls 4 [(3, .int (nI j)), (2, .ref (aM 0)), (1, .ref (aX 0)), (0, .ref b)]) {r : Int32} (hX : X9_save SX  = some (SX', r)) (hM : M_save SM  = some (SM', r)) (kk : ∀ (H : Heap) (locs : List Loc), lw_I D T aX aM t s SX' SM' H locs → W p l e room_1 s m #[Value.ref b] below meth c H locs 359 39462 Q (F0 m 1230 ls [])) : W p l e room_1 s m #[Value.ref b] below meth c H locs 359 39462 Q (F0 m 1204 ls []) := by
  obtain ⟨hx, hb, -⟩ := id C
  refine lv_aload_n hx hb dL_law_1204 rfl (lv_at hl 2 rfl) ?_
  refine lw_calXI C I (lw_runX (As := []) (rest := []) C I (c_X9_save l (lw_gX D T aX t) hX) kl143 rfl ⟨(Nat.le_of_ble_eq_true rfl), (Nat.le_of_ble_eq_true rfl)⟩ rfl hl.1 rfl (Nat.le_of_ble_eq_true rfl) ⟨(Nat.le_of_ble_eq_true rfl), (Nat.le_of_ble_eq_true rfl)⟩ dL_law_1205) (fun H locs I => ?_)
  refine lv_aload_n hx hb dL_law_1208 rfl (lv_at hl 1 rfl) ?_
  refine lw_calMI C I (lw_runM (As := []) (rest := [.int r]) C I (c_M_save l (lw_gM D T aM) hM) kl146 rfl ⟨(Nat.le_of_ble_eq_true rfl), (Nat.le_of_ble_eq_true rfl)⟩ rfl hl.1 rfl (Nat.le_of_ble_eq_true rfl) ⟨(Nat.le_of_ble_eq_true rfl), (Nat.le_of_ble_eq_true rfl)⟩ dL_law_1209) (fun H locs I => ?_)
  refine lv_icmp_eq (tgt := 1230) hx hb dL_law_1212 (by decide) (fun _ => ?_) (fun hc => absurd rfl hc)
  exact kk H locs I
set_option maxHeartbeats 4000000 in
set_option maxRecDepth 100000 in
theorem lw_case32 {p : Program} {l : Launch} {e : Env} {s : State} {m : MethodId} {below : List Frame} {meth : Method} {c : Code} {H : Heap} {locs : List Loc} {Q : State → Prop} {ls : Array Slot} {b L : Nat} {xs : Nat → Int32} {D : va_G} {T : Nat → ClassId} {aX aM : Nat → Nat} {t : Nat} {SX SM SX' SM' : fy_S} (C : lw_C D T aX aM t p s m c b L xs) (I : lw_I D T aX aM t s SX SM H locs) {j : Nat} (hj : j + 5 ≤ L) (hl : lv_has ls 4 [(3, .int (nI j)), (2, .ref (aM 0)), (1, .ref (aX 0)), (0, .ref b)]) {r : Int32} (hX : X9_restore SX  = some (SX', r)) (hM : M_restore SM  = some (SM', r)) (kk : ∀ (H : Heap) (locs : List Loc), lw_I D T aX aM t s SX' SM' H locs → W p l e room_1 s m #[Value.ref b] below meth c H locs 359 39462 Q (F0 m 1230 ls [])) : W p l e room_1 s m #[Value.ref b] below meth c H locs 359 39462 Q (F0 m 1217 ls []) := by
  obtain ⟨hx, hb, -⟩ := id C
  refine lv_aload_n hx hb dL_law_1217 rfl (lv_at hl 2 rfl) ?_
  refine lw_calXI C I (lw_runX (As := []) (rest := []) C I (c_X9_restore l (lw_gX D T aX t) hX) kl147 rfl ⟨(Nat.le_of_ble_eq_true rfl), (Nat.le_of_ble_eq_true rfl)⟩ rfl hl.1 rfl (Nat.le_of_ble_eq_true rfl) ⟨(Nat.le_of_ble_eq_true rfl), (Nat.le_of_ble_eq_true rfl)⟩ dL_law_1218) (fun H locs I => ?_)
  refine lv_aload_n hx hb dL_law_1221 rfl (lv_at hl 1 rfl) ?_
  refine lw_calMI C I (lw_runM (As := []) (rest := [.int r]) C I (c_M_restore l (lw_gM D T aM) hM) kl150 rfl ⟨(Nat.le_of_ble_eq_true rfl), (Nat.le_of_ble_eq_true rfl)⟩ rfl hl.1 rfl (Nat.le_of_ble_eq_true rfl) ⟨(Nat.le_of_ble_eq_true rfl), (Nat.le_of_ble_eq_true rfl)⟩ dL_law_1222) (fun H locs I => ?_)
  refine lv_icmp_eq (tgt := 1230) hx hb dL_law_1225 (by decide) (fun _ => ?_) (fun hc => absurd rfl hc)
  exact kk H locs I
/-- what one call does to both sides: the same answer -/
def lw_step (SX SM : fy_S) (o a1 a2 a3 a4 : Int32) (SX' SM' : fy_S) : Prop :=
  (o = nI 0 → ∃ r : Int32, X9_create SX a1 a2 a3 = some (SX', r) ∧ M_create SM a1 a2 a3 = some (SM', r)) ∧
  (o = nI 1 → ∃ r : Int32, X9_setFinal SX a1 a2 a3 = some (SX', r) ∧ M_setFinal SM a1 a2 a3 = some (SM', r)) ∧
  (o = nI 2 → ∃ r : Int32, X9_setWeight SX a1 a2 a3 = some (SX', r) ∧ M_setWeight SM a1 a2 a3 = some (SM', r)) ∧
  (o = nI 3 → ∃ r : Int32, X9_append SX a1 a2 = some (SX', r) ∧ M_append SM a1 a2 = some (SM', r)) ∧
  (o = nI 4 → ∃ r : Int32, X9_setInitial SX a1 = some (SX', r) ∧ M_setInitial SM a1 = some (SM', r)) ∧
  (o = nI 5 → ∃ r : Int32, X9_setTransition SX a1 a2 a3 = some (SX', r) ∧ M_setTransition SM a1 a2 a3 = some (SM', r)) ∧
  (o = nI 6 → ∃ r : Int32, X9_property SX a1 a2 = some r ∧ M_property SM a1 a2 = some r ∧ SX' = SX ∧ SM' = SM) ∧
  (o = nI 7 → ∃ r : Int32, X9_print SX a1 a2 a3 = some (SX', r) ∧ M_print SM a1 a2 a3 = some (SM', r)) ∧
  (o = nI 8 → ∃ r : Int32, X9_printed SX a1 = some r ∧ M_printed SM a1 = some r ∧ SX' = SX ∧ SM' = SM) ∧
  (o = nI 9 → ∃ r : Int32, X9_isSatisfied SX a1 a2 a3 a4 = some r ∧ M_isSatisfied SM a1 a2 a3 a4 = some r ∧ SX' = SX ∧ SM' = SM) ∧
  (o = nI 10 → ∃ r : Int32, X9_model SX a1 a2 a3 a4 = some r ∧ M_model SM a1 a2 a3 a4 = some (SM', r) ∧ SX' = SX) ∧
  (o = nI 11 → ∃ r : Int32, X9_push SX a1 = some (SX', r) ∧ M_push SM a1 = some (SM', r)) ∧
  (o = nI 12 → ∃ r : Int32, X9_clearWord SX  = some (SX', r) ∧ M_clearWord SM  = some (SM', r)) ∧
  (o = nI 13 → ∃ r : Int32, X9_acceptingStates SX a1 a2 = some r ∧ M_acceptingStates SM a1 a2 = some r ∧ SX' = SX ∧ SM' = SM) ∧
  (o = nI 14 → ∃ r : Int32, X9_accepts SX a1 = some r ∧ M_accepts SM a1 = some r ∧ SX' = SX ∧ SM' = SM) ∧
  (o = nI 15 → ∃ r : Int32, X9_rank SX a1 a2 a3 = some (SX', r) ∧ M_rank SM a1 a2 a3 = some (SM', r)) ∧
  (o = nI 16 → ∃ r : Int32, X9_strategy SX a1 a2 a3 = some (SX', r) ∧ M_strategy SM a1 a2 a3 = some (SM', r)) ∧
  (o = nI 17 → ∃ r : Int32, X9_reverseStep SX a1 a2 a3 = some r ∧ M_reverseStep SM a1 a2 a3 = some r ∧ SX' = SX ∧ SM' = SM) ∧
  (o = nI 18 → ∃ r : Int32, X9_reverseStates SX a1 = some (SX', r) ∧ M_reverseStates SM a1 = some (SM', r)) ∧
  (o = nI 19 → ∃ r : Int32, X9_reverseClasses SX a1 = some (SX', r) ∧ M_reverseClasses SM a1 = some (SM', r)) ∧
  (o = nI 20 → ∃ r : Int32, X9_existentialStates SX a1 = some r ∧ M_existentialStates SM a1 = some (SM', r) ∧ SX' = SX) ∧
  (o = nI 21 → ∃ r : Int32, X9_existentialSets SX a1 a2 = some r ∧ M_existentialSets SM a1 a2 = some (SM', r) ∧ SX' = SX) ∧
  (o = nI 22 → ∃ r : Int32, X9_relevantStates SX a1 = some r ∧ M_relevantStates SM a1 = some r ∧ SX' = SX ∧ SM' = SM) ∧
  (o = nI 23 → ∃ r : Int32, X9_findCheapest SX a1 = some (SX', r) ∧ M_findCheapest SM a1 = some (SM', r)) ∧
  (o = nI 24 → ∃ r : Int32, X9_findDifference SX a1 a2 = some (SX', r) ∧ M_findDifference SM a1 a2 = some (SM', r)) ∧
  (o = nI 25 → ∃ r : Int32, X9_foundLetter SX a1 = some r ∧ M_foundLetter SM a1 = some r ∧ SX' = SX ∧ SM' = SM) ∧
  (o = nI 26 → ∃ r : Int32, X9_foundCost SX  = some r ∧ M_foundCost SM  = some r ∧ SX' = SX ∧ SM' = SM) ∧
  (o = nI 27 → ∃ r : Int32, X9_isContained SX a1 a2 = some (SX', r) ∧ M_isContained SM a1 a2 = some (SM', r)) ∧
  (o = nI 28 → ∃ r : Int64, X9_countWords SX a1 a2 = some (SX', r) ∧ M_countWords SM a1 a2 = some (SM', r)) ∧
  (o = nI 29 → ∃ r : Int32, X9_dualize SX a1 a2 = some (SX', r) ∧ M_dualize SM a1 a2 = some (SM', r)) ∧
  (o = nI 30 → ∃ r : Int32, X9_combine SX a1 a2 a3 a4 = some (SX', r) ∧ M_combine SM a1 a2 a3 a4 = some (SM', r)) ∧
  (o = nI 31 → ∃ r : Int32, X9_save SX  = some (SX', r) ∧ M_save SM  = some (SM', r)) ∧
  (o = nI 32 → ∃ r : Int32, X9_restore SX  = some (SX', r) ∧ M_restore SM  = some (SM', r)) ∧
  ((∀ k : Nat, k < 33 → ¬ o = nI k) → SX' = SX ∧ SM' = SM)
set_option maxHeartbeats 4000000 in
set_option maxRecDepth 100000 in
theorem lw_switch {p : Program} {l : Launch} {e : Env} {s : State} {m : MethodId} {below : List Frame} {meth : Method} {c : Code} {H : Heap} {locs : List Loc} {Q : State → Prop} {ls : Array Slot} {b L : Nat} {xs : Nat → Int32} {D : va_G} {T : Nat → ClassId} {aX aM : Nat → Nat} {t : Nat} {SX SM SX' SM' : fy_S} (C : lw_C D T aX aM t p s m c b L xs) (I : lw_I D T aX aM t s SX SM H locs) {j : Nat} (hj : j + 5 ≤ L) (hl : lv_has ls 4 [(3, .int (nI j)), (2, .ref (aM 0)), (1, .ref (aX 0)), (0, .ref b)]) {o : Int32} (hst : lw_step SX SM o (xs (j + 1)) (xs (j + 2)) (xs (j + 3)) (xs (j + 4)) SX' SM') (kk : ∀ (H : Heap) (locs : List Loc), lw_I D T aX aM t s SX' SM' H locs → W p l e room_1 s m #[Value.ref b] below meth c H locs 359 39462 Q (F0 m 1230 ls [])) : W p l e room_1 s m #[Value.ref b] below meth c H locs 359 39462 Q (F0 m 32 ls [.int o]) := by
  obtain ⟨hx, hb, -⟩ := id C
  unfold lw_step at hst
  by_cases ho0 : o = nI 0
  · refine lv_tableIn (tgt := 180) (off := 148) hx hb dL_law_32 (by rw [ho0]; decide) (by rw [ho0]; decide) (by rw [ho0]; decide) (by decide) ?_
    obtain ⟨r, hX, hM⟩ := hst.1 ho0
    exact lw_case0 (SX' := SX') (SM' := SM') C I hj hl hX hM kk
  by_cases ho1 : o = nI 1
  · refine lv_tableIn (tgt := 223) (off := 191) hx hb dL_law_32 (by rw [ho1]; decide) (by rw [ho1]; decide) (by rw [ho1]; decide) (by decide) ?_
    obtain ⟨r, hX, hM⟩ := hst.2.1 ho1
    exact lw_case1 (SX' := SX') (SM' := SM') C I hj hl hX hM kk
  by_cases ho2 : o = nI 2
  · refine lv_tableIn (tgt := 266) (off := 234) hx hb dL_law_32 (by rw [ho2]; decide) (by rw [ho2]; decide) (by rw [ho2]; decide) (by decide) ?_
    obtain ⟨r, hX, hM⟩ := hst.2.2.1 ho2
    exact lw_case2 (SX' := SX') (SM' := SM') C I hj hl hX hM kk
  by_cases ho3 : o = nI 3
  · refine lv_tableIn (tgt := 309) (off := 277) hx hb dL_law_32 (by rw [ho3]; decide) (by rw [ho3]; decide) (by rw [ho3]; decide) (by decide) ?_
    obtain ⟨r, hX, hM⟩ := hst.2.2.2.1 ho3
    exact lw_case3 (SX' := SX') (SM' := SM') C I hj hl hX hM kk
  by_cases ho4 : o = nI 4
  · refine lv_tableIn (tgt := 342) (off := 310) hx hb dL_law_32 (by rw [ho4]; decide) (by rw [ho4]; decide) (by rw [ho4]; decide) (by decide) ?_
    obtain ⟨r, hX, hM⟩ := hst.2.2.2.2.1 ho4
    exact lw_case4 (SX' := SX') (SM' := SM') C I hj hl hX hM kk
  by_cases ho5 : o = nI 5
  · refine lv_tableIn (tgt := 365) (off := 333) hx hb dL_law_32 (by rw [ho5]; decide) (by rw [ho5]; decide) (by rw [ho5]; decide) (by decide) ?_
    obtain ⟨r, hX, hM⟩ := hst.2.2.2.2.2.1 ho5
    exact lw_case5 (SX' := SX') (SM' := SM') C I hj hl hX hM kk
  by_cases ho6 : o = nI 6
  · refine lv_tableIn (tgt := 408) (off := 376) hx hb dL_law_32 (by rw [ho6]; decide) (by rw [ho6]; decide) (by rw [ho6]; decide) (by decide) ?_
    obtain ⟨r, hX, hM, rfl, rfl⟩ := hst.2.2.2.2.2.2.1 ho6
    exact lw_case6 (SX' := SX') (SM' := SM') C I hj hl hX hM kk
  by_cases ho7 : o = nI 7
  · refine lv_tableIn (tgt := 441) (off := 409) hx hb dL_law_32 (by rw [ho7]; decide) (by rw [ho7]; decide) (by rw [ho7]; decide) (by decide) ?_
    obtain ⟨r, hX, hM⟩ := hst.2.2.2.2.2.2.2.1 ho7
    exact lw_case7 (SX' := SX') (SM' := SM') C I hj hl hX hM kk
  by_cases ho8 : o = nI 8
  · refine lv_tableIn (tgt := 484) (off := 452) hx hb dL_law_32 (by rw [ho8]; decide) (by rw [ho8]; decide) (by rw [ho8]; decide) (by decide) ?_
    obtain ⟨r, hX, hM, rfl, rfl⟩ := hst.2.2.2.2.2.2.2.2.1 ho8
    exact lw_case8 (SX' := SX') (SM' := SM') C I hj hl hX hM kk
  by_cases ho9 : o = nI 9
  · refine lv_tableIn (tgt := 507) (off := 475) hx hb dL_law_32 (by rw [ho9]; decide) (by rw [ho9]; decide) (by rw [ho9]; decide) (by decide) ?_
    obtain ⟨r, hX, hM, rfl, rfl⟩ := hst.2.2.2.2.2.2.2.2.2.1 ho9
    exact lw_case9 (SX' := SX') (SM' := SM') C I hj hl hX hM kk
  by_cases ho10 : o = nI 10
  · refine lv_tableIn (tgt := 560) (off := 528) hx hb dL_law_32 (by rw [ho10]; decide) (by rw [ho10]; decide) (by rw [ho10]; decide) (by decide) ?_
    obtain ⟨r, hX, hM, rfl⟩ := hst.2.2.2.2.2.2.2.2.2.2.1 ho10
    exact lw_case10 (SX' := SX') (SM' := SM') C I hj hl hX hM kk
  by_cases ho11 : o = nI 11
  · refine lv_tableIn (tgt := 613) (off := 581) hx hb dL_law_32 (by rw [ho11]; decide) (by rw [ho11]; decide) (by rw [ho11]; decide) (by decide) ?_
    obtain ⟨r, hX, hM⟩ := hst.2.2.2.2.2.2.2.2.2.2.2.1 ho11
    exact lw_case11 (SX' := SX') (SM' := SM') C I hj hl hX hM kk
  by_cases ho12 : o = nI 12
  · refine lv_tableIn (tgt := 636) (off := 604) hx hb dL_law_32 (by rw [ho12]; decide) (by rw [ho12]; decide) (by rw [ho12]; decide) (by decide) ?_
    obtain ⟨r, hX, hM⟩ := hst.2.2.2.2.2.2.2.2.2.2.2.2.1 ho12
    exact lw_case12 (SX' := SX') (SM' := SM') C I hj hl hX hM kk
  by_cases ho13 : o = nI 13
  · refine lv_tableIn (tgt := 649) (off := 617) hx hb dL_law_32 (by rw [ho13]; decide) (by rw [ho13]; decide) (by rw [ho13]; decide) (by decide) ?_
    obtain ⟨r, hX, hM, rfl, rfl⟩ := hst.2.2.2.2.2.2.2.2.2.2.2.2.2.1 ho13
    exact lw_case13 (SX' := SX') (SM' := SM') C I hj hl hX hM kk
  by_cases ho14 : o = nI 14
  · refine lv_tableIn (tgt := 682) (off := 650) hx hb dL_law_32 (by rw [ho14]; decide) (by rw [ho14]; decide) (by rw [ho14]; decide) (by decide) ?_
    obtain ⟨r, hX, hM, rfl, rfl⟩ := hst.2.2.2.2.2.2.2.2.2.2.2.2.2.2.1 ho14
    exact lw_case14 (SX' := SX') (SM' := SM') C I hj hl hX hM kk
  by_cases ho15 : o = nI 15
  · refine lv_tableIn (tgt := 705) (off := 673) hx hb dL_law_32 (by rw [ho15]; decide) (by rw [ho15]; decide) (by rw [ho15]; decide) (by decide) ?_
    obtain ⟨r, hX, hM⟩ := hst.2.2.2.2.2.2.2.2.2.2.2.2.2.2.2.1 ho15
    exact lw_case15 (SX' := SX') (SM' := SM') C I hj hl hX hM kk
  by_cases ho16 : o = nI 16
  · refine lv_tableIn (tgt := 748) (off := 716) hx hb dL_law_32 (by rw [ho16]; decide) (by rw [ho16]; decide) (by rw [ho16]; decide) (by decide) ?_
    obtain ⟨r, hX, hM⟩ := hst.2.2.2.2.2.2.2.2.2.2.2.2.2.2.2.2.1 ho16
    exact lw_case16 (SX' := SX') (SM' := SM') C I hj hl hX hM kk
  by_cases ho17 : o = nI 17
  · refine lv_tableIn (tgt := 791) (off := 759) hx hb dL_law_32 (by rw [ho17]; decide) (by rw [ho17]; decide) (by rw [ho17]; decide) (by decide) ?_
    obtain ⟨r, hX, hM, rfl, rfl⟩ := hst.2.2.2.2.2.2.2.2.2.2.2.2.2.2.2.2.2.1 ho17
    exact lw_case17 (SX' := SX') (SM' := SM') C I hj hl hX hM kk
  by_cases ho18 : o = nI 18
  · refine lv_tableIn (tgt := 834) (off := 802) hx hb dL_law_32 (by rw [ho18]; decide) (by rw [ho18]; decide) (by rw [ho18]; decide) (by decide) ?_
    obtain ⟨r, hX, hM⟩ := hst.2.2.2.2.2.2.2.2.2.2.2.2.2.2.2.2.2.2.1 ho18
    exact lw_case18 (SX' := SX') (SM' := SM') C I hj hl hX hM kk
  by_cases ho19 : o = nI 19
  · refine lv_tableIn (tgt := 857) (off := 825) hx hb dL_law_32 (by rw [ho19]; decide) (by rw [ho19]; decide) (by rw [ho19]; decide) (by decide) ?_
    obtain ⟨r, hX, hM⟩ := hst.2.2.2.2.2.2.2.2.2.2.2.2.2.2.2.2.2.2.2.1 ho19
    exact lw_case19 (SX' := SX') (SM' := SM') C I hj hl hX hM kk
  by_cases ho20 : o = nI 20
  · refine lv_tableIn (tgt := 880) (off := 848) hx hb dL_law_32 (by rw [ho20]; decide) (by rw [ho20]; decide) (by rw [ho20]; decide) (by decide) ?_
    obtain ⟨r, hX, hM, rfl⟩ := hst.2.2.2.2.2.2.2.2.2.2.2.2.2.2.2.2.2.2.2.2.1 ho20
    exact lw_case20 (SX' := SX') (SM' := SM') C I hj hl hX hM kk
  by_cases ho21 : o = nI 21
  · refine lv_tableIn (tgt := 903) (off := 871) hx hb dL_law_32 (by rw [ho21]; decide) (by rw [ho21]; decide) (by rw [ho21]; decide) (by decide) ?_
    obtain ⟨r, hX, hM, rfl⟩ := hst.2.2.2.2.2.2.2.2.2.2.2.2.2.2.2.2.2.2.2.2.2.1 ho21
    exact lw_case21 (SX' := SX') (SM' := SM') C I hj hl hX hM kk
  by_cases ho22 : o = nI 22
  · refine lv_tableIn (tgt := 936) (off := 904) hx hb dL_law_32 (by rw [ho22]; decide) (by rw [ho22]; decide) (by rw [ho22]; decide) (by decide) ?_
    obtain ⟨r, hX, hM, rfl, rfl⟩ := hst.2.2.2.2.2.2.2.2.2.2.2.2.2.2.2.2.2.2.2.2.2.2.1 ho22
    exact lw_case22 (SX' := SX') (SM' := SM') C I hj hl hX hM kk
  by_cases ho23 : o = nI 23
  · refine lv_tableIn (tgt := 959) (off := 927) hx hb dL_law_32 (by rw [ho23]; decide) (by rw [ho23]; decide) (by rw [ho23]; decide) (by decide) ?_
    obtain ⟨r, hX, hM⟩ := hst.2.2.2.2.2.2.2.2.2.2.2.2.2.2.2.2.2.2.2.2.2.2.2.1 ho23
    exact lw_case23 (SX' := SX') (SM' := SM') C I hj hl hX hM kk
  by_cases ho24 : o = nI 24
  · refine lv_tableIn (tgt := 982) (off := 950) hx hb dL_law_32 (by rw [ho24]; decide) (by rw [ho24]; decide) (by rw [ho24]; decide) (by decide) ?_
    obtain ⟨r, hX, hM⟩ := hst.2.2.2.2.2.2.2.2.2.2.2.2.2.2.2.2.2.2.2.2.2.2.2.2.1 ho24
    exact lw_case24 (SX' := SX') (SM' := SM') C I hj hl hX hM kk
  by_cases ho25 : o = nI 25
  · refine lv_tableIn (tgt := 1015) (off := 983) hx hb dL_law_32 (by rw [ho25]; decide) (by rw [ho25]; decide) (by rw [ho25]; decide) (by decide) ?_
    obtain ⟨r, hX, hM, rfl, rfl⟩ := hst.2.2.2.2.2.2.2.2.2.2.2.2.2.2.2.2.2.2.2.2.2.2.2.2.2.1 ho25
    exact lw_case25 (SX' := SX') (SM' := SM') C I hj hl hX hM kk
  by_cases ho26 : o = nI 26
  · refine lv_tableIn (tgt := 1038) (off := 1006) hx hb dL_law_32 (by rw [ho26]; decide) (by rw [ho26]; decide) (by rw [ho26]; decide) (by decide) ?_
    obtain ⟨r, hX, hM, rfl, rfl⟩ := hst.2.2.2.2.2.2.2.2.2.2.2.2.2.2.2.2.2.2.2.2.2.2.2.2.2.2.1 ho26
    exact lw_case26 (SX' := SX') (SM' := SM') C I hj hl hX hM kk
  by_cases ho27 : o = nI 27
  · refine lv_tableIn (tgt := 1051) (off := 1019) hx hb dL_law_32 (by rw [ho27]; decide) (by rw [ho27]; decide) (by rw [ho27]; decide) (by decide) ?_
    obtain ⟨r, hX, hM⟩ := hst.2.2.2.2.2.2.2.2.2.2.2.2.2.2.2.2.2.2.2.2.2.2.2.2.2.2.2.1 ho27
    exact lw_case27 (SX' := SX') (SM' := SM') C I hj hl hX hM kk
  by_cases ho28 : o = nI 28
  · refine lv_tableIn (tgt := 1084) (off := 1052) hx hb dL_law_32 (by rw [ho28]; decide) (by rw [ho28]; decide) (by rw [ho28]; decide) (by decide) ?_
    obtain ⟨r, hX, hM⟩ := hst.2.2.2.2.2.2.2.2.2.2.2.2.2.2.2.2.2.2.2.2.2.2.2.2.2.2.2.2.1 ho28
    exact lw_case28 (SX' := SX') (SM' := SM') C I hj hl hX hM kk
  by_cases ho29 : o = nI 29
  · refine lv_tableIn (tgt := 1118) (off := 1086) hx hb dL_law_32 (by rw [ho29]; decide) (by rw [ho29]; decide) (by rw [ho29]; decide) (by decide) ?_
    obtain ⟨r, hX, hM⟩ := hst.2.2.2.2.2.2.2.2.2.2.2.2.2.2.2.2.2.2.2.2.2.2.2.2.2.2.2.2.2.1 ho29
    exact lw_case29 (SX' := SX') (SM' := SM') C I hj hl hX hM kk
  by_cases ho30 : o = nI 30
  · refine lv_tableIn (tgt := 1151) (off := 1119) hx hb dL_law_32 (by rw [ho30]; decide) (by rw [ho30]; decide) (by rw [ho30]; decide) (by decide) ?_
    obtain ⟨r, hX, hM⟩ := hst.2.2.2.2.2.2.2.2.2.2.2.2.2.2.2.2.2.2.2.2.2.2.2.2.2.2.2.2.2.2.1 ho30
    exact lw_case30 (SX' := SX') (SM' := SM') C I hj hl hX hM kk
  by_cases ho31 : o = nI 31
  · refine lv_tableIn (tgt := 1204) (off := 1172) hx hb dL_law_32 (by rw [ho31]; decide) (by rw [ho31]; decide) (by rw [ho31]; decide) (by decide) ?_
    obtain ⟨r, hX, hM⟩ := hst.2.2.2.2.2.2.2.2.2.2.2.2.2.2.2.2.2.2.2.2.2.2.2.2.2.2.2.2.2.2.2.1 ho31
    exact lw_case31 (SX' := SX') (SM' := SM') C I hj hl hX hM kk
  by_cases ho32 : o = nI 32
  · refine lv_tableIn (tgt := 1217) (off := 1185) hx hb dL_law_32 (by rw [ho32]; decide) (by rw [ho32]; decide) (by rw [ho32]; decide) (by decide) ?_
    obtain ⟨r, hX, hM⟩ := hst.2.2.2.2.2.2.2.2.2.2.2.2.2.2.2.2.2.2.2.2.2.2.2.2.2.2.2.2.2.2.2.2.1 ho32
    exact lw_case32 (SX' := SX') (SM' := SM') C I hj hl hX hM kk
  have hall : ∀ k : Nat, k < 33 → ¬ o = nI k := by
    intro k hk
    match k, hk with
    | 0, _ => exact ho0
    | 1, _ => exact ho1
    | 2, _ => exact ho2
    | 3, _ => exact ho3
    | 4, _ => exact ho4
    | 5, _ => exact ho5
    | 6, _ => exact ho6
    | 7, _ => exact ho7
    | 8, _ => exact ho8
    | 9, _ => exact ho9
    | 10, _ => exact ho10
    | 11, _ => exact ho11
    | 12, _ => exact ho12
    | 13, _ => exact ho13
    | 14, _ => exact ho14
    | 15, _ => exact ho15
    | 16, _ => exact ho16
    | 17, _ => exact ho17
    | 18, _ => exact ho18
    | 19, _ => exact ho19
    | 20, _ => exact ho20
    | 21, _ => exact ho21
    | 22, _ => exact ho22
    | 23, _ => exact ho23
    | 24, _ => exact ho24
    | 25, _ => exact ho25
    | 26, _ => exact ho26
    | 27, _ => exact ho27
    | 28, _ => exact ho28
    | 29, _ => exact ho29
    | 30, _ => exact ho30
    | 31, _ => exact ho31
    | 32, _ => exact ho32
    | k + 33, h => exact absurd h (by omega)
  obtain ⟨rfl, rfl⟩ := hst.2.2.2.2.2.2.2.2.2.2.2.2.2.2.2.2.2.2.2.2.2.2.2.2.2.2.2.2.2.2.2.2.2 hall
  exact lv_tableOut (tgt := 1230) hx hb dL_law_32 (fy_swi (n := 33) (by decide) hall) (by decide) (kk H locs I)
set_option maxHeartbeats 4000000 in
set_option maxRecDepth 100000 in
theorem lw_loop {p : Program} {l : Launch} {e : Env} {s : State} {m : MethodId} {below : List Frame} {meth : Method} {c : Code} {Q : State → Prop} {b L : Nat} {xs : Nat → Int32} {D : va_G} {T : Nat → ClassId} {aX aM : Nat → Nat} {t : Nat} (C : lw_C D T aX aM t p s m c b L xs) (Inv : fy_S → fy_S → Prop) (hstep : ∀ (SX SM : fy_S) (o a1 a2 a3 a4 : Int32), Inv SX SM → ∃ SX' SM', lw_step SX SM (o &&& 63) a1 a2 a3 a4 SX' SM' ∧ Inv SX' SM') (kk : ∀ (H : Heap) (locs : List Loc) (ls : Array Slot), va_S (fun q => s.heap.size ≤ q) s.heap H locs → W p l e room_1 s m #[Value.ref b] below meth c H locs 359 39462 Q (F0 m 1236 ls [])) : ∀ (n j : Nat) (SX SM : fy_S) (H : Heap) (locs : List Loc) (ls : Array Slot), L < j + n → j ≤ L + 4 → Inv SX SM → lw_I D T aX aM t s SX SM H locs → lv_has ls 4 [(3, .int (nI j)), (2, .ref (aM 0)), (1, .ref (aX 0)), (0, .ref b)] → W p l e room_1 s m #[Value.ref b] below meth c H locs 359 39462 Q (F0 m 18 ls []) := by
  obtain ⟨hx, hb, hml, hown, hts, hK, hN, hDX, hDM, hdis, hXA, hMA, hZ, hT, hX, hbl, hL⟩ := id C
  have hcmp : ∀ j : Nat, j ≤ L + 4 → ((Int32.ofNat L - 5 < nI j) ↔ L < j + 5) := by
    intro j hj
    have h1 : (Int32.ofNat L).toInt = (L : Int) := nI_toInt (n := L) (by omega)
    have h2 : (nI j).toInt = (j : Int) := nI_toInt (by omega)
    have h3 : (Int32.ofNat L - 5).toInt = (L : Int) - 5 := by
      rw [Int32.toInt_sub, h1]
      have : (5 : Int32).toInt = 5 := by decide
      rw [this]
      exact Int.bmod_eq_of_le (by omega) (by omega)
    rw [Int32.lt_iff_toInt_lt, h3, h2]
    omega
  intro n
  induction n with
  | zero =>
    intro j SX SM H locs ls hn hj hI I hl
    refine lv_iload_n hx hb dL_law_18 rfl (lv_at hl 0 rfl) ?_
    refine lv_aload_n hx hb dL_law_19 rfl (lv_at hl 3 rfl) ?_
    refine va_slen (A := fun q => s.heap.size ≤ q) hx hb hX hbl (fun h => by omega) I.2.2 dL_law_20 ?_
    refine lv_iconst (v := (5 : Int32)) hx hb dL_law_21 (by decide) ?_
    refine lv_isub hx hb dL_law_22 ?_
    refine lv_icmp_gt (tgt := 1236) hx hb dL_law_23 (by decide) (fun hc => ?_) (fun hc => ?_)
    · exact kk H locs ls I.2.2
    · exact absurd ((hcmp j hj).mpr (by omega)) hc
  | succ n ih =>
    intro j SX SM H locs ls hn hj hI I hl
    refine lv_iload_n hx hb dL_law_18 rfl (lv_at hl 0 rfl) ?_
    refine lv_aload_n hx hb dL_law_19 rfl (lv_at hl 3 rfl) ?_
    refine va_slen (A := fun q => s.heap.size ≤ q) hx hb hX hbl (fun h => by omega) I.2.2 dL_law_20 ?_
    refine lv_iconst (v := (5 : Int32)) hx hb dL_law_21 (by decide) ?_
    refine lv_isub hx hb dL_law_22 ?_
    refine lv_icmp_gt (tgt := 1236) hx hb dL_law_23 (by decide) (fun hc => ?_) (fun hc => ?_)
    · exact kk H locs ls I.2.2
    · have hj5 : j + 5 ≤ L := by
        have := mt (hcmp j hj).mpr hc
        omega
      refine lv_aload_n hx hb dL_law_26 rfl (lv_at hl 3 rfl) ?_
      refine lv_iload_n hx hb dL_law_27 rfl (lv_at hl 0 rfl) ?_
      refine lw_sld0 C I hj5 dL_law_28 ?_
      refine lv_bipush (v := (63 : Int32)) hx hb dL_law_29 (by decide) ?_
      refine lv_iand hx hb dL_law_31 ?_
      obtain ⟨SX', SM', hst, hI'⟩ := hstep SX SM (xs j) (xs (j + 1)) (xs (j + 2)) (xs (j + 3)) (xs (j + 4)) hI
      refine lw_switch C I hj5 hl hst (fun H locs I => ?_)
      refine lv_iinc (k := 0) (v := nI (j + 5)) (lv' := [(3, .int (nI (j + 5))), (2, .ref (aM 0)), (1, .ref (aX 0)), (0, .ref b)]) hx hb dL_law_1230 hl rfl (by rw [← nI_add]; rfl) (by decide) rfl (fun ls hl => ?_)
      refine lv_goto (tgt := 18) hx hb dL_law_1233 (by decide) ?_
      exact ih (j + 5) SX' SM' H locs ls (by omega) (by omega) hI' I hl
