theorem pw_inX0 : ∀ w ∈ u_ws RX0 TX0 2, w ∈ pw_BW := fun w h => pw_bw ((by decide +kernel : ∀ w ∈ u_ws RX0 TX0 2, w ∈ lw_tbl) w h) (List.all_eq_true.mp (by decide +kernel : (u_ws RX0 TX0 2).all goodWord = true) w h)
theorem pw_inX1 : ∀ w ∈ u_ws RX1 TX1 4, w ∈ pw_BW := fun w h => pw_bw ((by decide +kernel : ∀ w ∈ u_ws RX1 TX1 4, w ∈ lw_tbl) w h) (List.all_eq_true.mp (by decide +kernel : (u_ws RX1 TX1 4).all goodWord = true) w h)
theorem pw_inX2 : ∀ w ∈ u_ws RX2 TX2 11, w ∈ pw_BW := fun w h => pw_bw ((by decide +kernel : ∀ w ∈ u_ws RX2 TX2 11, w ∈ lw_tbl) w h) (List.all_eq_true.mp (by decide +kernel : (u_ws RX2 TX2 11).all goodWord = true) w h)
theorem pw_inX3 : ∀ w ∈ u_ws RX3 TX3 5, w ∈ pw_BW := fun w h => pw_bw ((by decide +kernel : ∀ w ∈ u_ws RX3 TX3 5, w ∈ lw_tbl) w h) (List.all_eq_true.mp (by decide +kernel : (u_ws RX3 TX3 5).all goodWord = true) w h)
theorem pw_inX4 : ∀ w ∈ u_ws RX4 TX4 3, w ∈ pw_BW := fun w h => pw_bw ((by decide +kernel : ∀ w ∈ u_ws RX4 TX4 3, w ∈ lw_tbl) w h) (List.all_eq_true.mp (by decide +kernel : (u_ws RX4 TX4 3).all goodWord = true) w h)
theorem pw_inX5 : ∀ w ∈ u_ws RX5 TX5 3, w ∈ pw_BW := fun w h => pw_bw ((by decide +kernel : ∀ w ∈ u_ws RX5 TX5 3, w ∈ lw_tbl) w h) (List.all_eq_true.mp (by decide +kernel : (u_ws RX5 TX5 3).all goodWord = true) w h)
theorem pw_inX6 : ∀ w ∈ u_ws RX6 TX6 8, w ∈ pw_BW := fun w h => pw_bw ((by decide +kernel : ∀ w ∈ u_ws RX6 TX6 8, w ∈ lw_tbl) w h) (List.all_eq_true.mp (by decide +kernel : (u_ws RX6 TX6 8).all goodWord = true) w h)
theorem pw_inX7 : ∀ w ∈ u_ws RX7 TX7 2, w ∈ pw_BW := fun w h => pw_bw ((by decide +kernel : ∀ w ∈ u_ws RX7 TX7 2, w ∈ lw_tbl) w h) (List.all_eq_true.mp (by decide +kernel : (u_ws RX7 TX7 2).all goodWord = true) w h)
theorem pw_inX8 : ∀ w ∈ u_ws RX8 TX8 2, w ∈ pw_BW := fun w h => pw_bw ((by decide +kernel : ∀ w ∈ u_ws RX8 TX8 2, w ∈ lw_tbl) w h) (List.all_eq_true.mp (by decide +kernel : (u_ws RX8 TX8 2).all goodWord = true) w h)
theorem pw_inX9 : ∀ w ∈ u_ws RX9 TX9 1, w ∈ pw_BW := fun w h => pw_bw ((by decide +kernel : ∀ w ∈ u_ws RX9 TX9 1, w ∈ lw_tbl) w h) (List.all_eq_true.mp (by decide +kernel : (u_ws RX9 TX9 1).all goodWord = true) w h)
theorem pw_inX10 : ∀ w ∈ u_ws RX10 TX10 9, w ∈ pw_BW := fun w h => pw_bw ((by decide +kernel : ∀ w ∈ u_ws RX10 TX10 9, w ∈ lw_tbl) w h) (List.all_eq_true.mp (by decide +kernel : (u_ws RX10 TX10 9).all goodWord = true) w h)
theorem pw_inX11 : ∀ w ∈ u_ws RX11 TX11 28, w ∈ pw_BW := fun w h => pw_bw ((by decide +kernel : ∀ w ∈ u_ws RX11 TX11 28, w ∈ lw_tbl) w h) (List.all_eq_true.mp (by decide +kernel : (u_ws RX11 TX11 28).all goodWord = true) w h)
theorem mw_0 : Cond.selects RX2 yX2_append yX2_append ∈ pw_BW := pw_bw (List.mem_of_getElem? (i := 0) (by decide +kernel)) rfl
theorem mw_1 : Cond.selects RX10 yX10_refusalOfPair yX10_refusalOfPair ∈ pw_BW := pw_bw (List.mem_of_getElem? (i := 1) (by decide +kernel)) rfl
theorem mw_2 : Cond.selects RX2 yX2_follow yX2_follow ∈ pw_BW := pw_bw (List.mem_of_getElem? (i := 2) (by decide +kernel)) rfl
theorem mw_3 : Cond.selects RX10 yX10_freshNet yX10_freshNet ∈ pw_BW := pw_bw (List.mem_of_getElem? (i := 3) (by decide +kernel)) rfl
theorem mw_4 : Cond.selects RX6 yX6_isClosed yX6_isClosed ∈ pw_BW := pw_bw (List.mem_of_getElem? (i := 4) (by decide +kernel)) rfl
theorem mw_5 : Cond.selects RX6 yX6_sortBySize yX6_sortBySize ∈ pw_BW := pw_bw (List.mem_of_getElem? (i := 5) (by decide +kernel)) rfl
theorem mw_6 : Cond.selects RX9 yX9_sumOver yX9_sumOver ∈ pw_BW := pw_bw (List.mem_of_getElem? (i := 6) (by decide +kernel)) rfl
theorem mw_7 : Cond.selects RX9 yX9_over yX9_over ∈ pw_BW := pw_bw (List.mem_of_getElem? (i := 7) (by decide +kernel)) rfl
theorem mw_8 : Cond.selects RX5 yX5_seen yX5_seen ∈ pw_BW := pw_bw (List.mem_of_getElem? (i := 8) (by decide +kernel)) rfl
theorem mw_9 : Cond.selects RX5 yX5_howManyUnderWay yX5_howManyUnderWay ∈ pw_BW := pw_bw (List.mem_of_getElem? (i := 9) (by decide +kernel)) rfl
theorem mw_10 : Cond.selects RX10 yX10_markedNet yX10_markedNet ∈ pw_BW := pw_bw (List.mem_of_getElem? (i := 10) (by decide +kernel)) rfl
theorem mw_11 : Cond.selects RX4 yX4_nearestBeyond yX4_nearestBeyond ∈ pw_BW := pw_bw (List.mem_of_getElem? (i := 11) (by decide +kernel)) rfl
theorem mw_12 : Cond.selects RX11 yX11_isProcess yX11_isProcess ∈ pw_BW := pw_bw (List.mem_of_getElem? (i := 12) (by decide +kernel)) rfl
theorem mw_13 : Cond.selects RX11 yX11_comes yX11_comes ∈ pw_BW := pw_bw (List.mem_of_getElem? (i := 13) (by decide +kernel)) rfl
theorem mw_14 : Cond.selects RX11 yX11_joins yX11_joins ∈ pw_BW := pw_bw (List.mem_of_getElem? (i := 14) (by decide +kernel)) rfl
theorem mw_15 : Cond.selects RX11 yX11_isEvent yX11_isEvent ∈ pw_BW := pw_bw (List.mem_of_getElem? (i := 15) (by decide +kernel)) rfl
theorem mw_16 : Cond.selects RX11 yX11_isCut yX11_isCut ∈ pw_BW := pw_bw (List.mem_of_getElem? (i := 16) (by decide +kernel)) rfl
theorem mw_17 : Cond.selects RX11 yX11_isPossible yX11_isPossible ∈ pw_BW := pw_bw (List.mem_of_getElem? (i := 17) (by decide +kernel)) rfl
theorem mw_18 : Cond.selects RX11 yX11_open yX11_open ∈ pw_BW := pw_bw (List.mem_of_getElem? (i := 18) (by decide +kernel)) rfl
theorem mw_19 : Cond.selects RX11 yX11_count yX11_count ∈ pw_BW := pw_bw (List.mem_of_getElem? (i := 19) (by decide +kernel)) rfl
theorem mw_20 : Cond.selects RX11 yX11_whole yX11_whole ∈ pw_BW := pw_bw (List.mem_of_getElem? (i := 20) (by decide +kernel)) rfl
theorem mw_21 : Cond.selects RX11 yX11_walk yX11_walk ∈ pw_BW := pw_bw (List.mem_of_getElem? (i := 21) (by decide +kernel)) rfl
theorem mw_22 : Cond.selects RX11 yX11_push yX11_push ∈ pw_BW := pw_bw (List.mem_of_getElem? (i := 22) (by decide +kernel)) rfl
theorem mw_23 : Cond.selects RX11 yX11_copy yX11_copy ∈ pw_BW := pw_bw (List.mem_of_getElem? (i := 23) (by decide +kernel)) rfl
theorem mw_24 : Cond.selects RX11 yX11_worthOf yX11_worthOf ∈ pw_BW := pw_bw (List.mem_of_getElem? (i := 24) (by decide +kernel)) rfl
theorem mw_25 : Cond.selects RX11 yX11_nameAt yX11_nameAt ∈ pw_BW := pw_bw (List.mem_of_getElem? (i := 25) (by decide +kernel)) rfl
theorem mw_26 : Cond.selects RX11 yX11_underWay yX11_underWay ∈ pw_BW := pw_bw (List.mem_of_getElem? (i := 26) (by decide +kernel)) rfl
theorem mw_27 : Cond.selects RX11 yX11_extreme yX11_extreme ∈ pw_BW := pw_bw (List.mem_of_getElem? (i := 27) (by decide +kernel)) rfl
theorem mw_28 : Cond.selects RX11 yX11_study yX11_study ∈ pw_BW := pw_bw (List.mem_of_getElem? (i := 28) (by decide +kernel)) rfl
theorem mw_29 : Cond.selects RX11 yX11_bars yX11_bars ∈ pw_BW := pw_bw (List.mem_of_getElem? (i := 29) (by decide +kernel)) rfl
theorem mw_30 : Cond.selects RX11 yX11_isKept yX11_isKept ∈ pw_BW := pw_bw (List.mem_of_getElem? (i := 30) (by decide +kernel)) rfl
theorem mw_31 : Cond.selects RX11 yX11_isClosed yX11_isClosed ∈ pw_BW := pw_bw (List.mem_of_getElem? (i := 31) (by decide +kernel)) rfl
theorem mw_32 : Cond.selects RX11 yX11_firstWrong yX11_firstWrong ∈ pw_BW := pw_bw (List.mem_of_getElem? (i := 32) (by decide +kernel)) rfl
theorem mw_33 : Cond.initialized RL ∈ pw_BW := pw_bw (List.mem_of_getElem? (i := 33) (by decide +kernel)) rfl
theorem mw_34 : Cond.initialized RX10 ∈ pw_BW := pw_bw (List.mem_of_getElem? (i := 34) (by decide +kernel)) rfl
theorem mw_35 : Cond.initialized RX2 ∈ pw_BW := pw_bw (List.mem_of_getElem? (i := 35) (by decide +kernel)) rfl
theorem mw_36 : Cond.initialized RX3 ∈ pw_BW := pw_bw (List.mem_of_getElem? (i := 36) (by decide +kernel)) rfl
theorem mw_37 : Cond.initialized RX6 ∈ pw_BW := pw_bw (List.mem_of_getElem? (i := 37) (by decide +kernel)) rfl
theorem mw_38 : Cond.initialized RX7 ∈ pw_BW := pw_bw (List.mem_of_getElem? (i := 38) (by decide +kernel)) rfl
theorem mw_39 : Cond.initialized RX1 ∈ pw_BW := pw_bw (List.mem_of_getElem? (i := 39) (by decide +kernel)) rfl
theorem mw_40 : Cond.initialized RX0 ∈ pw_BW := pw_bw (List.mem_of_getElem? (i := 40) (by decide +kernel)) rfl
theorem mw_41 : Cond.initialized RX5 ∈ pw_BW := pw_bw (List.mem_of_getElem? (i := 41) (by decide +kernel)) rfl
theorem mw_42 : Cond.initialized RX4 ∈ pw_BW := pw_bw (List.mem_of_getElem? (i := 42) (by decide +kernel)) rfl
theorem mw_43 : Cond.initialized RX9 ∈ pw_BW := pw_bw (List.mem_of_getElem? (i := 43) (by decide +kernel)) rfl
theorem mw_44 : Cond.initialized RX8 ∈ pw_BW := pw_bw (List.mem_of_getElem? (i := 44) (by decide +kernel)) rfl
theorem mw_45 : Cond.initialized RX11 ∈ pw_BW := pw_bw (List.mem_of_getElem? (i := 45) (by decide +kernel)) rfl
theorem mw_46 : Cond.initialized RJ9 ∈ pw_BW := pw_bw (List.mem_of_getElem? (i := 46) (by decide +kernel)) rfl
theorem mw_47 : Cond.initialized RJ7 ∈ pw_BW := pw_bw (List.mem_of_getElem? (i := 47) (by decide +kernel)) rfl
theorem mw_50 : Cond.methodLink RL 9 yX10_init ∈ pw_BW := pw_bw (List.mem_of_getElem? (i := 50) (by decide +kernel)) rfl
theorem mw_51 : Cond.instanceMethod yX10_init ∈ pw_BW := pw_bw (List.mem_of_getElem? (i := 51) (by decide +kernel)) rfl
set_option maxRecDepth 40000 in
theorem mw_52 : Cond.code yX10_init cX10_init 1 none ∈ pw_BW := pw_bw (List.mem_of_getElem? (i := 52) (by rfl)) rfl
theorem mw_59 : Cond.instanceMethod yX2_init ∈ pw_BW := pw_bw (List.mem_of_getElem? (i := 59) (by decide +kernel)) rfl
set_option maxRecDepth 40000 in
theorem mw_60 : Cond.code yX2_init cX2_init 1 none ∈ pw_BW := pw_bw (List.mem_of_getElem? (i := 60) (by rfl)) rfl
theorem mw_65 : Cond.instanceMethod yX3_init ∈ pw_BW := pw_bw (List.mem_of_getElem? (i := 65) (by decide +kernel)) rfl
set_option maxRecDepth 40000 in
theorem mw_66 : Cond.code yX3_init cX3_init 1 none ∈ pw_BW := pw_bw (List.mem_of_getElem? (i := 66) (by rfl)) rfl
theorem mw_68 : Cond.fieldLink RX3 9 "PerhapsWas$Letters" "from" "[I" ∈ pw_BW := pw_bw (List.mem_of_getElem? (i := 68) (by decide +kernel)) rfl
theorem mw_69 : Cond.fieldLink RX5 74 "PerhapsWas$Letters" "from" "[I" ∈ pw_BW := pw_bw (List.mem_of_getElem? (i := 69) (by decide +kernel)) rfl
theorem mw_70 : Cond.fieldLink RX10 140 "PerhapsWas$Letters" "from" "[I" ∈ pw_BW := pw_bw (List.mem_of_getElem? (i := 70) (by decide +kernel)) rfl
theorem mw_71 : Cond.fieldLink RX2 70 "PerhapsWas$Letters" "from" "[I" ∈ pw_BW := pw_bw (List.mem_of_getElem? (i := 71) (by decide +kernel)) rfl
theorem mw_72 : Cond.fieldLink RX3 15 "PerhapsWas$Letters" "to" "[I" ∈ pw_BW := pw_bw (List.mem_of_getElem? (i := 72) (by decide +kernel)) rfl
theorem mw_73 : Cond.fieldLink RX5 77 "PerhapsWas$Letters" "to" "[I" ∈ pw_BW := pw_bw (List.mem_of_getElem? (i := 73) (by decide +kernel)) rfl
theorem mw_74 : Cond.fieldLink RX10 107 "PerhapsWas$Letters" "to" "[I" ∈ pw_BW := pw_bw (List.mem_of_getElem? (i := 74) (by decide +kernel)) rfl
theorem mw_75 : Cond.fieldLink RX2 64 "PerhapsWas$Letters" "to" "[I" ∈ pw_BW := pw_bw (List.mem_of_getElem? (i := 75) (by decide +kernel)) rfl
theorem mw_76 : Cond.fieldLink RX3 18 "PerhapsWas$Letters" "sent" "[I" ∈ pw_BW := pw_bw (List.mem_of_getElem? (i := 76) (by decide +kernel)) rfl
theorem mw_77 : Cond.fieldLink RX5 80 "PerhapsWas$Letters" "sent" "[I" ∈ pw_BW := pw_bw (List.mem_of_getElem? (i := 77) (by decide +kernel)) rfl
theorem mw_78 : Cond.fieldLink RX10 143 "PerhapsWas$Letters" "sent" "[I" ∈ pw_BW := pw_bw (List.mem_of_getElem? (i := 78) (by decide +kernel)) rfl
theorem mw_79 : Cond.fieldLink RX2 73 "PerhapsWas$Letters" "sent" "[I" ∈ pw_BW := pw_bw (List.mem_of_getElem? (i := 79) (by decide +kernel)) rfl
theorem mw_80 : Cond.fieldLink RX3 21 "PerhapsWas$Letters" "taken" "[I" ∈ pw_BW := pw_bw (List.mem_of_getElem? (i := 80) (by decide +kernel)) rfl
theorem mw_81 : Cond.fieldLink RX5 83 "PerhapsWas$Letters" "taken" "[I" ∈ pw_BW := pw_bw (List.mem_of_getElem? (i := 81) (by decide +kernel)) rfl
theorem mw_82 : Cond.fieldLink RX10 103 "PerhapsWas$Letters" "taken" "[I" ∈ pw_BW := pw_bw (List.mem_of_getElem? (i := 82) (by decide +kernel)) rfl
theorem mw_83 : Cond.fieldLink RX2 67 "PerhapsWas$Letters" "taken" "[I" ∈ pw_BW := pw_bw (List.mem_of_getElem? (i := 83) (by decide +kernel)) rfl
theorem mw_84 : Cond.fieldLink RX3 24 "PerhapsWas$Letters" "total" "I" ∈ pw_BW := pw_bw (List.mem_of_getElem? (i := 84) (by decide +kernel)) rfl
theorem mw_85 : Cond.fieldLink RX5 69 "PerhapsWas$Letters" "total" "I" ∈ pw_BW := pw_bw (List.mem_of_getElem? (i := 85) (by decide +kernel)) rfl
theorem mw_86 : Cond.fieldLink RX2 95 "PerhapsWas$Letters" "total" "I" ∈ pw_BW := pw_bw (List.mem_of_getElem? (i := 86) (by decide +kernel)) rfl
theorem mw_87 : Cond.fieldLink RX10 283 "PerhapsWas$Letters" "total" "I" ∈ pw_BW := pw_bw (List.mem_of_getElem? (i := 87) (by decide +kernel)) rfl
theorem mw_100 : Cond.fieldLink RX2 12 "PerhapsWas$History" "letters" "LPerhapsWas$Letters;" ∈ pw_BW := pw_bw (List.mem_of_getElem? (i := 100) (by decide +kernel)) rfl
theorem mw_101 : Cond.fieldLink RX5 65 "PerhapsWas$History" "letters" "LPerhapsWas$Letters;" ∈ pw_BW := pw_bw (List.mem_of_getElem? (i := 101) (by decide +kernel)) rfl
theorem mw_102 : Cond.fieldLink RX10 94 "PerhapsWas$History" "letters" "LPerhapsWas$Letters;" ∈ pw_BW := pw_bw (List.mem_of_getElem? (i := 102) (by decide +kernel)) rfl
theorem mw_103 : Cond.fieldLink RX2 18 "PerhapsWas$History" "had" "[I" ∈ pw_BW := pw_bw (List.mem_of_getElem? (i := 103) (by decide +kernel)) rfl
theorem mw_104 : Cond.fieldLink RX6 56 "PerhapsWas$History" "had" "[I" ∈ pw_BW := pw_bw (List.mem_of_getElem? (i := 104) (by decide +kernel)) rfl
theorem mw_105 : Cond.fieldLink RX10 175 "PerhapsWas$History" "had" "[I" ∈ pw_BW := pw_bw (List.mem_of_getElem? (i := 105) (by decide +kernel)) rfl
theorem mw_106 : Cond.fieldLink RX2 22 "PerhapsWas$History" "came" "[I" ∈ pw_BW := pw_bw (List.mem_of_getElem? (i := 106) (by decide +kernel)) rfl
theorem mw_107 : Cond.fieldLink RX2 25 "PerhapsWas$History" "kinds" "[I" ∈ pw_BW := pw_bw (List.mem_of_getElem? (i := 107) (by decide +kernel)) rfl
theorem mw_108 : Cond.fieldLink RX10 131 "PerhapsWas$History" "kinds" "[I" ∈ pw_BW := pw_bw (List.mem_of_getElem? (i := 108) (by decide +kernel)) rfl
theorem mw_109 : Cond.fieldLink RX2 28 "PerhapsWas$History" "subjects" "[I" ∈ pw_BW := pw_bw (List.mem_of_getElem? (i := 109) (by decide +kernel)) rfl
theorem mw_110 : Cond.fieldLink RX10 134 "PerhapsWas$History" "subjects" "[I" ∈ pw_BW := pw_bw (List.mem_of_getElem? (i := 110) (by decide +kernel)) rfl
theorem mw_111 : Cond.fieldLink RX2 31 "PerhapsWas$History" "turns" "[I" ∈ pw_BW := pw_bw (List.mem_of_getElem? (i := 111) (by decide +kernel)) rfl
theorem mw_112 : Cond.fieldLink RX10 137 "PerhapsWas$History" "turns" "[I" ∈ pw_BW := pw_bw (List.mem_of_getElem? (i := 112) (by decide +kernel)) rfl
theorem mw_113 : Cond.fieldLink RX2 34 "PerhapsWas$History" "clocks" "[I" ∈ pw_BW := pw_bw (List.mem_of_getElem? (i := 113) (by decide +kernel)) rfl
theorem mw_114 : Cond.fieldLink RX2 37 "PerhapsWas$History" "values" "[I" ∈ pw_BW := pw_bw (List.mem_of_getElem? (i := 114) (by decide +kernel)) rfl
theorem mw_115 : Cond.fieldLink RX5 54 "PerhapsWas$History" "values" "[I" ∈ pw_BW := pw_bw (List.mem_of_getElem? (i := 115) (by decide +kernel)) rfl
theorem mw_116 : Cond.fieldLink RX10 73 "PerhapsWas$History" "processes" "I" ∈ pw_BW := pw_bw (List.mem_of_getElem? (i := 116) (by decide +kernel)) rfl
theorem mw_117 : Cond.fieldLink RX2 40 "PerhapsWas$History" "processes" "I" ∈ pw_BW := pw_bw (List.mem_of_getElem? (i := 117) (by decide +kernel)) rfl
theorem mw_118 : Cond.fieldLink RX10 117 "PerhapsWas$History" "total" "I" ∈ pw_BW := pw_bw (List.mem_of_getElem? (i := 118) (by decide +kernel)) rfl
theorem mw_119 : Cond.fieldLink RX2 84 "PerhapsWas$History" "total" "I" ∈ pw_BW := pw_bw (List.mem_of_getElem? (i := 119) (by decide +kernel)) rfl
theorem mw_120 : Cond.fieldLink RX6 48 "PerhapsWas$History" "changes" "I" ∈ pw_BW := pw_bw (List.mem_of_getElem? (i := 120) (by decide +kernel)) rfl
theorem mw_121 : Cond.fieldLink RX2 87 "PerhapsWas$History" "changes" "I" ∈ pw_BW := pw_bw (List.mem_of_getElem? (i := 121) (by decide +kernel)) rfl
theorem mw_147 : Cond.methodLink RX10 18 yX6_init ∈ pw_BW := pw_bw (List.mem_of_getElem? (i := 147) (by decide +kernel)) rfl
theorem mw_148 : Cond.instanceMethod yX6_init ∈ pw_BW := pw_bw (List.mem_of_getElem? (i := 148) (by decide +kernel)) rfl
set_option maxRecDepth 40000 in
theorem mw_149 : Cond.code yX6_init cX6_init 2 none ∈ pw_BW := pw_bw (List.mem_of_getElem? (i := 149) (by rfl)) rfl
theorem mw_151 : Cond.fieldLink RX6 29 "PerhapsWas$Net" "history" "LPerhapsWas$History;" ∈ pw_BW := pw_bw (List.mem_of_getElem? (i := 151) (by decide +kernel)) rfl
theorem mw_152 : Cond.fieldLink RX6 9 "PerhapsWas$Net" "inOrder" "[I" ∈ pw_BW := pw_bw (List.mem_of_getElem? (i := 152) (by decide +kernel)) rfl
theorem mw_153 : Cond.fieldLink RX9 21 "PerhapsWas$Net" "inOrder" "[I" ∈ pw_BW := pw_bw (List.mem_of_getElem? (i := 153) (by decide +kernel)) rfl
theorem mw_154 : Cond.fieldLink RX4 29 "PerhapsWas$Net" "inOrder" "[I" ∈ pw_BW := pw_bw (List.mem_of_getElem? (i := 154) (by decide +kernel)) rfl
theorem mw_155 : Cond.fieldLink RX10 165 "PerhapsWas$Net" "inOrder" "[I" ∈ pw_BW := pw_bw (List.mem_of_getElem? (i := 155) (by decide +kernel)) rfl
theorem mw_156 : Cond.fieldLink RX6 15 "PerhapsWas$Net" "allowed" "[Z" ∈ pw_BW := pw_bw (List.mem_of_getElem? (i := 156) (by decide +kernel)) rfl
theorem mw_157 : Cond.fieldLink RX10 157 "PerhapsWas$Net" "allowed" "[Z" ∈ pw_BW := pw_bw (List.mem_of_getElem? (i := 157) (by decide +kernel)) rfl
theorem mw_158 : Cond.fieldLink RX6 19 "PerhapsWas$Net" "ends" "[I" ∈ pw_BW := pw_bw (List.mem_of_getElem? (i := 158) (by decide +kernel)) rfl
theorem mw_159 : Cond.fieldLink RX6 22 "PerhapsWas$Net" "counts" "[I" ∈ pw_BW := pw_bw (List.mem_of_getElem? (i := 159) (by decide +kernel)) rfl
theorem mw_160 : Cond.fieldLink RX9 15 "PerhapsWas$Net" "total" "I" ∈ pw_BW := pw_bw (List.mem_of_getElem? (i := 160) (by decide +kernel)) rfl
theorem mw_161 : Cond.fieldLink RX4 23 "PerhapsWas$Net" "total" "I" ∈ pw_BW := pw_bw (List.mem_of_getElem? (i := 161) (by decide +kernel)) rfl
theorem mw_162 : Cond.fieldLink RX6 83 "PerhapsWas$Net" "total" "I" ∈ pw_BW := pw_bw (List.mem_of_getElem? (i := 162) (by decide +kernel)) rfl
theorem mw_163 : Cond.fieldLink RX10 161 "PerhapsWas$Net" "total" "I" ∈ pw_BW := pw_bw (List.mem_of_getElem? (i := 163) (by decide +kernel)) rfl
theorem mw_164 : Cond.fieldLink RX9 25 "PerhapsWas$Net" "whole" "I" ∈ pw_BW := pw_bw (List.mem_of_getElem? (i := 164) (by decide +kernel)) rfl
theorem mw_165 : Cond.fieldLink RX6 53 "PerhapsWas$Net" "whole" "I" ∈ pw_BW := pw_bw (List.mem_of_getElem? (i := 165) (by decide +kernel)) rfl
theorem mw_166 : Cond.fieldLink RX6 25 "PerhapsWas$Net" "seenChanges" "I" ∈ pw_BW := pw_bw (List.mem_of_getElem? (i := 166) (by decide +kernel)) rfl
theorem mw_187 : Cond.methodLink RX10 27 yX7_init ∈ pw_BW := pw_bw (List.mem_of_getElem? (i := 187) (by decide +kernel)) rfl
theorem mw_188 : Cond.instanceMethod yX7_init ∈ pw_BW := pw_bw (List.mem_of_getElem? (i := 188) (by decide +kernel)) rfl
set_option maxRecDepth 40000 in
theorem mw_189 : Cond.code yX7_init cX7_init 2 none ∈ pw_BW := pw_bw (List.mem_of_getElem? (i := 189) (by rfl)) rfl
theorem mw_195 : Cond.instanceMethod yX1_init ∈ pw_BW := pw_bw (List.mem_of_getElem? (i := 195) (by decide +kernel)) rfl
set_option maxRecDepth 40000 in
theorem mw_196 : Cond.code yX1_init cX1_init 1 none ∈ pw_BW := pw_bw (List.mem_of_getElem? (i := 196) (by rfl)) rfl
theorem mw_198 : Cond.fieldLink RX1 9 "PerhapsWas$Formula" "kinds" "[I" ∈ pw_BW := pw_bw (List.mem_of_getElem? (i := 198) (by decide +kernel)) rfl
theorem mw_199 : Cond.fieldLink RX5 34 "PerhapsWas$Formula" "kinds" "[I" ∈ pw_BW := pw_bw (List.mem_of_getElem? (i := 199) (by decide +kernel)) rfl
theorem mw_200 : Cond.fieldLink RX1 15 "PerhapsWas$Formula" "firsts" "[I" ∈ pw_BW := pw_bw (List.mem_of_getElem? (i := 200) (by decide +kernel)) rfl
theorem mw_201 : Cond.fieldLink RX5 41 "PerhapsWas$Formula" "firsts" "[I" ∈ pw_BW := pw_bw (List.mem_of_getElem? (i := 201) (by decide +kernel)) rfl
theorem mw_202 : Cond.fieldLink RX1 18 "PerhapsWas$Formula" "seconds" "[I" ∈ pw_BW := pw_bw (List.mem_of_getElem? (i := 202) (by decide +kernel)) rfl
theorem mw_203 : Cond.fieldLink RX5 44 "PerhapsWas$Formula" "seconds" "[I" ∈ pw_BW := pw_bw (List.mem_of_getElem? (i := 203) (by decide +kernel)) rfl
theorem mw_204 : Cond.fieldLink RX7 22 "PerhapsWas$Formula" "parts" "I" ∈ pw_BW := pw_bw (List.mem_of_getElem? (i := 204) (by decide +kernel)) rfl
theorem mw_205 : Cond.fieldLink RX5 28 "PerhapsWas$Formula" "parts" "I" ∈ pw_BW := pw_bw (List.mem_of_getElem? (i := 205) (by decide +kernel)) rfl
theorem mw_206 : Cond.fieldLink RX1 21 "PerhapsWas$Formula" "parts" "I" ∈ pw_BW := pw_bw (List.mem_of_getElem? (i := 206) (by decide +kernel)) rfl
theorem mw_207 : Cond.fieldLink RX0 22 "PerhapsWas$Formula" "parts" "I" ∈ pw_BW := pw_bw (List.mem_of_getElem? (i := 207) (by decide +kernel)) rfl
theorem mw_217 : Cond.fieldLink RX7 11 "PerhapsWas$Pile" "formulas" "[LPerhapsWas$Formula;" ∈ pw_BW := pw_bw (List.mem_of_getElem? (i := 217) (by decide +kernel)) rfl
theorem mw_218 : Cond.fieldLink RX10 221 "PerhapsWas$Pile" "formulas" "[LPerhapsWas$Formula;" ∈ pw_BW := pw_bw (List.mem_of_getElem? (i := 218) (by decide +kernel)) rfl
theorem mw_219 : Cond.fieldLink RX7 18 "PerhapsWas$Pile" "tops" "I" ∈ pw_BW := pw_bw (List.mem_of_getElem? (i := 219) (by decide +kernel)) rfl
theorem mw_220 : Cond.fieldLink RX10 200 "PerhapsWas$Pile" "tops" "I" ∈ pw_BW := pw_bw (List.mem_of_getElem? (i := 220) (by decide +kernel)) rfl
theorem mw_228 : Cond.methodLink RX10 34 yX0_init ∈ pw_BW := pw_bw (List.mem_of_getElem? (i := 228) (by decide +kernel)) rfl
theorem mw_229 : Cond.instanceMethod yX0_init ∈ pw_BW := pw_bw (List.mem_of_getElem? (i := 229) (by decide +kernel)) rfl
set_option maxRecDepth 40000 in
theorem mw_230 : Cond.code yX0_init cX0_init 2 none ∈ pw_BW := pw_bw (List.mem_of_getElem? (i := 230) (by rfl)) rfl
theorem mw_234 : Cond.fieldLink RX0 11 "PerhapsWas$Conditions" "formulas" "[LPerhapsWas$Formula;" ∈ pw_BW := pw_bw (List.mem_of_getElem? (i := 234) (by decide +kernel)) rfl
theorem mw_235 : Cond.fieldLink RX10 230 "PerhapsWas$Conditions" "formulas" "[LPerhapsWas$Formula;" ∈ pw_BW := pw_bw (List.mem_of_getElem? (i := 235) (by decide +kernel)) rfl
theorem mw_236 : Cond.fieldLink RX0 18 "PerhapsWas$Conditions" "total" "I" ∈ pw_BW := pw_bw (List.mem_of_getElem? (i := 236) (by decide +kernel)) rfl
theorem mw_237 : Cond.fieldLink RX10 220 "PerhapsWas$Conditions" "total" "I" ∈ pw_BW := pw_bw (List.mem_of_getElem? (i := 237) (by decide +kernel)) rfl
theorem mw_245 : Cond.methodLink RX10 41 yX5_init ∈ pw_BW := pw_bw (List.mem_of_getElem? (i := 245) (by decide +kernel)) rfl
theorem mw_246 : Cond.instanceMethod yX5_init ∈ pw_BW := pw_bw (List.mem_of_getElem? (i := 246) (by decide +kernel)) rfl
set_option maxRecDepth 40000 in
theorem mw_247 : Cond.code yX5_init cX5_init 2 none ∈ pw_BW := pw_bw (List.mem_of_getElem? (i := 247) (by rfl)) rfl
theorem mw_249 : Cond.fieldLink RX5 18 "PerhapsWas$Moment" "history" "LPerhapsWas$History;" ∈ pw_BW := pw_bw (List.mem_of_getElem? (i := 249) (by decide +kernel)) rfl
theorem mw_250 : Cond.fieldLink RX5 9 "PerhapsWas$Moment" "counts" "[I" ∈ pw_BW := pw_bw (List.mem_of_getElem? (i := 250) (by decide +kernel)) rfl
theorem mw_251 : Cond.fieldLink RX5 15 "PerhapsWas$Moment" "pile" "[I" ∈ pw_BW := pw_bw (List.mem_of_getElem? (i := 251) (by decide +kernel)) rfl
theorem mw_261 : Cond.methodLink RX10 48 yX4_init ∈ pw_BW := pw_bw (List.mem_of_getElem? (i := 261) (by decide +kernel)) rfl
theorem mw_262 : Cond.instanceMethod yX4_init ∈ pw_BW := pw_bw (List.mem_of_getElem? (i := 262) (by decide +kernel)) rfl
set_option maxRecDepth 40000 in
theorem mw_263 : Cond.code yX4_init cX4_init 2 none ∈ pw_BW := pw_bw (List.mem_of_getElem? (i := 263) (by rfl)) rfl
theorem mw_265 : Cond.fieldLink RX4 19 "PerhapsWas$Marks" "moment" "LPerhapsWas$Moment;" ∈ pw_BW := pw_bw (List.mem_of_getElem? (i := 265) (by decide +kernel)) rfl
theorem mw_266 : Cond.fieldLink RX4 9 "PerhapsWas$Marks" "holds" "[Z" ∈ pw_BW := pw_bw (List.mem_of_getElem? (i := 266) (by decide +kernel)) rfl
theorem mw_267 : Cond.fieldLink RX10 185 "PerhapsWas$Marks" "holds" "[Z" ∈ pw_BW := pw_bw (List.mem_of_getElem? (i := 267) (by decide +kernel)) rfl
theorem mw_268 : Cond.fieldLink RX4 15 "PerhapsWas$Marks" "nearest" "[I" ∈ pw_BW := pw_bw (List.mem_of_getElem? (i := 268) (by decide +kernel)) rfl
theorem mw_279 : Cond.instanceMethod yX9_init ∈ pw_BW := pw_bw (List.mem_of_getElem? (i := 279) (by decide +kernel)) rfl
set_option maxRecDepth 40000 in
theorem mw_280 : Cond.code yX9_init cX9_init 1 none ∈ pw_BW := pw_bw (List.mem_of_getElem? (i := 280) (by rfl)) rfl
theorem mw_282 : Cond.fieldLink RX9 9 "PerhapsWas$Ways" "onward" "[J" ∈ pw_BW := pw_bw (List.mem_of_getElem? (i := 282) (by decide +kernel)) rfl
theorem mw_290 : Cond.instanceMethod yX8_init ∈ pw_BW := pw_bw (List.mem_of_getElem? (i := 290) (by decide +kernel)) rfl
set_option maxRecDepth 40000 in
theorem mw_291 : Cond.code yX8_init cX8_init 1 none ∈ pw_BW := pw_bw (List.mem_of_getElem? (i := 291) (by rfl)) rfl
theorem mw_293 : Cond.fieldLink RX8 9 "PerhapsWas$Row" "told" "[I" ∈ pw_BW := pw_bw (List.mem_of_getElem? (i := 293) (by decide +kernel)) rfl
theorem mw_294 : Cond.fieldLink RX8 15 "PerhapsWas$Row" "length" "I" ∈ pw_BW := pw_bw (List.mem_of_getElem? (i := 294) (by decide +kernel)) rfl
theorem mw_295 : Cond.fieldLink RX10 269 "PerhapsWas$Row" "length" "I" ∈ pw_BW := pw_bw (List.mem_of_getElem? (i := 295) (by decide +kernel)) rfl
theorem mw_301 : Cond.fieldLink RX10 10 "PerhapsWas" "history" "LPerhapsWas$History;" ∈ pw_BW := pw_bw (List.mem_of_getElem? (i := 301) (by decide +kernel)) rfl
theorem mw_302 : Cond.fieldLink RX10 21 "PerhapsWas" "net" "LPerhapsWas$Net;" ∈ pw_BW := pw_bw (List.mem_of_getElem? (i := 302) (by decide +kernel)) rfl
theorem mw_303 : Cond.fieldLink RX10 28 "PerhapsWas" "pile" "LPerhapsWas$Pile;" ∈ pw_BW := pw_bw (List.mem_of_getElem? (i := 303) (by decide +kernel)) rfl
theorem mw_304 : Cond.fieldLink RX10 35 "PerhapsWas" "conditions" "LPerhapsWas$Conditions;" ∈ pw_BW := pw_bw (List.mem_of_getElem? (i := 304) (by decide +kernel)) rfl
theorem mw_305 : Cond.fieldLink RX10 42 "PerhapsWas" "moment" "LPerhapsWas$Moment;" ∈ pw_BW := pw_bw (List.mem_of_getElem? (i := 305) (by decide +kernel)) rfl
theorem mw_306 : Cond.fieldLink RX10 51 "PerhapsWas" "marks" "LPerhapsWas$Marks;" ∈ pw_BW := pw_bw (List.mem_of_getElem? (i := 306) (by decide +kernel)) rfl
theorem mw_307 : Cond.fieldLink RX10 58 "PerhapsWas" "ways" "LPerhapsWas$Ways;" ∈ pw_BW := pw_bw (List.mem_of_getElem? (i := 307) (by decide +kernel)) rfl
theorem mw_308 : Cond.fieldLink RX10 65 "PerhapsWas" "row" "LPerhapsWas$Row;" ∈ pw_BW := pw_bw (List.mem_of_getElem? (i := 308) (by decide +kernel)) rfl
theorem mw_309 : Cond.fieldLink RX10 69 "PerhapsWas" "refusal" "I" ∈ pw_BW := pw_bw (List.mem_of_getElem? (i := 309) (by decide +kernel)) rfl
theorem mw_329 : Cond.methodLink RL 13 yX10_process ∈ pw_BW := pw_bw (List.mem_of_getElem? (i := 329) (by decide +kernel)) rfl
theorem mw_330 : Cond.instanceMethod yX10_process ∈ pw_BW := pw_bw (List.mem_of_getElem? (i := 330) (by decide +kernel)) rfl
theorem mw_331 : Cond.selects RX10 yX10_process yX10_process ∈ pw_BW := pw_bw (List.mem_of_getElem? (i := 331) (by decide +kernel)) rfl
set_option maxRecDepth 40000 in
theorem mw_332 : Cond.code yX10_process cX10_process 1 (some .int) ∈ pw_BW := pw_bw (List.mem_of_getElem? (i := 332) (by rfl)) rfl
theorem mw_333 : Cond.methodLink RL 18 yX10_own ∈ pw_BW := pw_bw (List.mem_of_getElem? (i := 333) (by decide +kernel)) rfl
theorem mw_334 : Cond.instanceMethod yX10_own ∈ pw_BW := pw_bw (List.mem_of_getElem? (i := 334) (by decide +kernel)) rfl
theorem mw_335 : Cond.selects RX10 yX10_own yX10_own ∈ pw_BW := pw_bw (List.mem_of_getElem? (i := 335) (by decide +kernel)) rfl
set_option maxRecDepth 40000 in
theorem mw_336 : Cond.code yX10_own cX10_own 5 (some .int) ∈ pw_BW := pw_bw (List.mem_of_getElem? (i := 336) (by rfl)) rfl
theorem mw_337 : Cond.methodLink RX10 76 yX2_hasProcess ∈ pw_BW := pw_bw (List.mem_of_getElem? (i := 337) (by decide +kernel)) rfl
theorem mw_338 : Cond.instanceMethod yX2_hasProcess ∈ pw_BW := pw_bw (List.mem_of_getElem? (i := 338) (by decide +kernel)) rfl
theorem mw_339 : Cond.selects RX2 yX2_hasProcess yX2_hasProcess ∈ pw_BW := pw_bw (List.mem_of_getElem? (i := 339) (by decide +kernel)) rfl
set_option maxRecDepth 40000 in
theorem mw_340 : Cond.code yX2_hasProcess cX2_hasProcess 2 (some .boolean) ∈ pw_BW := pw_bw (List.mem_of_getElem? (i := 340) (by rfl)) rfl
theorem mw_341 : Cond.methodLink RX10 80 yX2_isFull ∈ pw_BW := pw_bw (List.mem_of_getElem? (i := 341) (by decide +kernel)) rfl
theorem mw_342 : Cond.instanceMethod yX2_isFull ∈ pw_BW := pw_bw (List.mem_of_getElem? (i := 342) (by decide +kernel)) rfl
theorem mw_343 : Cond.selects RX2 yX2_isFull yX2_isFull ∈ pw_BW := pw_bw (List.mem_of_getElem? (i := 343) (by decide +kernel)) rfl
set_option maxRecDepth 40000 in
theorem mw_344 : Cond.code yX2_isFull cX2_isFull 2 (some .boolean) ∈ pw_BW := pw_bw (List.mem_of_getElem? (i := 344) (by rfl)) rfl
theorem mw_345 : Cond.methodLink RX10 83 yX2_change ∈ pw_BW := pw_bw (List.mem_of_getElem? (i := 345) (by decide +kernel)) rfl
theorem mw_346 : Cond.instanceMethod yX2_change ∈ pw_BW := pw_bw (List.mem_of_getElem? (i := 346) (by decide +kernel)) rfl
theorem mw_347 : Cond.selects RX2 yX2_change yX2_change ∈ pw_BW := pw_bw (List.mem_of_getElem? (i := 347) (by decide +kernel)) rfl
set_option maxRecDepth 40000 in
theorem mw_348 : Cond.code yX2_change cX2_change 7 (some .int) ∈ pw_BW := pw_bw (List.mem_of_getElem? (i := 348) (by rfl)) rfl
theorem mw_349 : Cond.methodLink RX2 55 yX2_append ∈ pw_BW := pw_bw (List.mem_of_getElem? (i := 349) (by decide +kernel)) rfl
theorem mw_351 : Cond.instanceMethod yX2_append ∈ pw_BW := pw_bw (List.mem_of_getElem? (i := 351) (by decide +kernel)) rfl
set_option maxRecDepth 40000 in
theorem mw_352 : Cond.code yX2_append cX2_append 7 (some .int) ∈ pw_BW := pw_bw (List.mem_of_getElem? (i := 352) (by rfl)) rfl
theorem mw_353 : Cond.methodLink RX2 80 yX2_place ∈ pw_BW := pw_bw (List.mem_of_getElem? (i := 353) (by decide +kernel)) rfl
theorem mw_354 : Cond.static yX2_place ∈ pw_BW := pw_bw (List.mem_of_getElem? (i := 354) (by decide +kernel)) rfl
set_option maxRecDepth 40000 in
theorem mw_355 : Cond.code yX2_place cX2_place 2 (some .int) ∈ pw_BW := pw_bw (List.mem_of_getElem? (i := 355) (by rfl)) rfl
theorem mw_356 : Cond.methodLink RX2 48 yX2_clockOf ∈ pw_BW := pw_bw (List.mem_of_getElem? (i := 356) (by decide +kernel)) rfl
theorem mw_357 : Cond.instanceMethod yX2_clockOf ∈ pw_BW := pw_bw (List.mem_of_getElem? (i := 357) (by decide +kernel)) rfl
theorem mw_358 : Cond.selects RX2 yX2_clockOf yX2_clockOf ∈ pw_BW := pw_bw (List.mem_of_getElem? (i := 358) (by decide +kernel)) rfl
set_option maxRecDepth 40000 in
theorem mw_359 : Cond.code yX2_clockOf cX2_clockOf 4 (some .int) ∈ pw_BW := pw_bw (List.mem_of_getElem? (i := 359) (by rfl)) rfl
theorem mw_360 : Cond.methodLink RX2 58 yX2_valuePlace ∈ pw_BW := pw_bw (List.mem_of_getElem? (i := 360) (by decide +kernel)) rfl
theorem mw_361 : Cond.static yX2_valuePlace ∈ pw_BW := pw_bw (List.mem_of_getElem? (i := 361) (by decide +kernel)) rfl
set_option maxRecDepth 40000 in
theorem mw_362 : Cond.code yX2_valuePlace cX2_valuePlace 3 (some .int) ∈ pw_BW := pw_bw (List.mem_of_getElem? (i := 362) (by rfl)) rfl
theorem mw_363 : Cond.methodLink RL 23 yX10_send ∈ pw_BW := pw_bw (List.mem_of_getElem? (i := 363) (by decide +kernel)) rfl
theorem mw_364 : Cond.instanceMethod yX10_send ∈ pw_BW := pw_bw (List.mem_of_getElem? (i := 364) (by decide +kernel)) rfl
theorem mw_365 : Cond.selects RX10 yX10_send yX10_send ∈ pw_BW := pw_bw (List.mem_of_getElem? (i := 365) (by decide +kernel)) rfl
set_option maxRecDepth 40000 in
theorem mw_366 : Cond.code yX10_send cX10_send 4 (some .int) ∈ pw_BW := pw_bw (List.mem_of_getElem? (i := 366) (by rfl)) rfl
theorem mw_367 : Cond.methodLink RX10 87 yX10_refusalOfPair ∈ pw_BW := pw_bw (List.mem_of_getElem? (i := 367) (by decide +kernel)) rfl
theorem mw_369 : Cond.instanceMethod yX10_refusalOfPair ∈ pw_BW := pw_bw (List.mem_of_getElem? (i := 369) (by decide +kernel)) rfl
set_option maxRecDepth 40000 in
theorem mw_370 : Cond.code yX10_refusalOfPair cX10_refusalOfPair 3 (some .int) ∈ pw_BW := pw_bw (List.mem_of_getElem? (i := 370) (by rfl)) rfl
theorem mw_371 : Cond.methodLink RX10 91 yX2_sendOut ∈ pw_BW := pw_bw (List.mem_of_getElem? (i := 371) (by decide +kernel)) rfl
theorem mw_372 : Cond.instanceMethod yX2_sendOut ∈ pw_BW := pw_bw (List.mem_of_getElem? (i := 372) (by decide +kernel)) rfl
theorem mw_373 : Cond.selects RX2 yX2_sendOut yX2_sendOut ∈ pw_BW := pw_bw (List.mem_of_getElem? (i := 373) (by decide +kernel)) rfl
set_option maxRecDepth 40000 in
theorem mw_374 : Cond.code yX2_sendOut cX2_sendOut 4 (some .int) ∈ pw_BW := pw_bw (List.mem_of_getElem? (i := 374) (by rfl)) rfl
theorem mw_375 : Cond.methodLink RX2 61 yX3_write ∈ pw_BW := pw_bw (List.mem_of_getElem? (i := 375) (by decide +kernel)) rfl
theorem mw_376 : Cond.instanceMethod yX3_write ∈ pw_BW := pw_bw (List.mem_of_getElem? (i := 376) (by decide +kernel)) rfl
theorem mw_377 : Cond.selects RX3 yX3_write yX3_write ∈ pw_BW := pw_bw (List.mem_of_getElem? (i := 377) (by decide +kernel)) rfl
set_option maxRecDepth 40000 in
theorem mw_378 : Cond.code yX3_write cX3_write 5 (some .int) ∈ pw_BW := pw_bw (List.mem_of_getElem? (i := 378) (by rfl)) rfl
theorem mw_379 : Cond.methodLink RL 28 yX10_take ∈ pw_BW := pw_bw (List.mem_of_getElem? (i := 379) (by decide +kernel)) rfl
theorem mw_380 : Cond.instanceMethod yX10_take ∈ pw_BW := pw_bw (List.mem_of_getElem? (i := 380) (by decide +kernel)) rfl
theorem mw_381 : Cond.selects RX10 yX10_take yX10_take ∈ pw_BW := pw_bw (List.mem_of_getElem? (i := 381) (by decide +kernel)) rfl
set_option maxRecDepth 40000 in
theorem mw_382 : Cond.code yX10_take cX10_take 3 (some .int) ∈ pw_BW := pw_bw (List.mem_of_getElem? (i := 382) (by rfl)) rfl
theorem mw_383 : Cond.methodLink RX10 98 yX3_has ∈ pw_BW := pw_bw (List.mem_of_getElem? (i := 383) (by decide +kernel)) rfl
theorem mw_384 : Cond.instanceMethod yX3_has ∈ pw_BW := pw_bw (List.mem_of_getElem? (i := 384) (by decide +kernel)) rfl
theorem mw_385 : Cond.selects RX3 yX3_has yX3_has ∈ pw_BW := pw_bw (List.mem_of_getElem? (i := 385) (by decide +kernel)) rfl
set_option maxRecDepth 40000 in
theorem mw_386 : Cond.code yX3_has cX3_has 2 (some .boolean) ∈ pw_BW := pw_bw (List.mem_of_getElem? (i := 386) (by rfl)) rfl
theorem mw_387 : Cond.methodLink RX10 110 yX2_takeIn ∈ pw_BW := pw_bw (List.mem_of_getElem? (i := 387) (by decide +kernel)) rfl
theorem mw_388 : Cond.instanceMethod yX2_takeIn ∈ pw_BW := pw_bw (List.mem_of_getElem? (i := 388) (by decide +kernel)) rfl
theorem mw_389 : Cond.selects RX2 yX2_takeIn yX2_takeIn ∈ pw_BW := pw_bw (List.mem_of_getElem? (i := 389) (by decide +kernel)) rfl
set_option maxRecDepth 40000 in
theorem mw_390 : Cond.code yX2_takeIn cX2_takeIn 4 (some .int) ∈ pw_BW := pw_bw (List.mem_of_getElem? (i := 390) (by rfl)) rfl
theorem mw_391 : Cond.methodLink RX2 76 yX2_follow ∈ pw_BW := pw_bw (List.mem_of_getElem? (i := 391) (by decide +kernel)) rfl
theorem mw_393 : Cond.instanceMethod yX2_follow ∈ pw_BW := pw_bw (List.mem_of_getElem? (i := 393) (by decide +kernel)) rfl
set_option maxRecDepth 40000 in
theorem mw_394 : Cond.code yX2_follow cX2_follow 6 none ∈ pw_BW := pw_bw (List.mem_of_getElem? (i := 394) (by rfl)) rfl
theorem mw_395 : Cond.methodLink RX2 90 yJ9_max_7cf53 ∈ pw_BW := pw_bw (List.mem_of_getElem? (i := 395) (by decide +kernel)) rfl
theorem mw_396 : Cond.static yJ9_max_7cf53 ∈ pw_BW := pw_bw (List.mem_of_getElem? (i := 396) (by decide +kernel)) rfl
set_option maxRecDepth 40000 in
theorem mw_397 : Cond.code yJ9_max_7cf53 cJ9_max_7cf53 2 (some .int) ∈ pw_BW := pw_bw (List.mem_of_getElem? (i := 397) (by rfl)) rfl
theorem mw_398 : Cond.methodLink RL 33 yX10_wait ∈ pw_BW := pw_bw (List.mem_of_getElem? (i := 398) (by decide +kernel)) rfl
theorem mw_399 : Cond.instanceMethod yX10_wait ∈ pw_BW := pw_bw (List.mem_of_getElem? (i := 399) (by decide +kernel)) rfl
theorem mw_400 : Cond.selects RX10 yX10_wait yX10_wait ∈ pw_BW := pw_bw (List.mem_of_getElem? (i := 400) (by decide +kernel)) rfl
set_option maxRecDepth 40000 in
theorem mw_401 : Cond.code yX10_wait cX10_wait 4 (some .int) ∈ pw_BW := pw_bw (List.mem_of_getElem? (i := 401) (by rfl)) rfl
theorem mw_402 : Cond.methodLink RX10 114 yX2_awaitAll ∈ pw_BW := pw_bw (List.mem_of_getElem? (i := 402) (by decide +kernel)) rfl
theorem mw_403 : Cond.instanceMethod yX2_awaitAll ∈ pw_BW := pw_bw (List.mem_of_getElem? (i := 403) (by decide +kernel)) rfl
theorem mw_404 : Cond.selects RX2 yX2_awaitAll yX2_awaitAll ∈ pw_BW := pw_bw (List.mem_of_getElem? (i := 404) (by decide +kernel)) rfl
set_option maxRecDepth 40000 in
theorem mw_405 : Cond.code yX2_awaitAll cX2_awaitAll 4 (some .int) ∈ pw_BW := pw_bw (List.mem_of_getElem? (i := 405) (by rfl)) rfl
theorem mw_406 : Cond.methodLink RL 37 yX10_undo ∈ pw_BW := pw_bw (List.mem_of_getElem? (i := 406) (by decide +kernel)) rfl
theorem mw_407 : Cond.instanceMethod yX10_undo ∈ pw_BW := pw_bw (List.mem_of_getElem? (i := 407) (by decide +kernel)) rfl
theorem mw_408 : Cond.selects RX10 yX10_undo yX10_undo ∈ pw_BW := pw_bw (List.mem_of_getElem? (i := 408) (by decide +kernel)) rfl
set_option maxRecDepth 40000 in
theorem mw_409 : Cond.code yX10_undo cX10_undo 1 (some .int) ∈ pw_BW := pw_bw (List.mem_of_getElem? (i := 409) (by rfl)) rfl
theorem mw_410 : Cond.methodLink RX10 120 yX2_takeBack ∈ pw_BW := pw_bw (List.mem_of_getElem? (i := 410) (by decide +kernel)) rfl
theorem mw_411 : Cond.instanceMethod yX2_takeBack ∈ pw_BW := pw_bw (List.mem_of_getElem? (i := 411) (by decide +kernel)) rfl
theorem mw_412 : Cond.selects RX2 yX2_takeBack yX2_takeBack ∈ pw_BW := pw_bw (List.mem_of_getElem? (i := 412) (by decide +kernel)) rfl
set_option maxRecDepth 40000 in
theorem mw_413 : Cond.code yX2_takeBack cX2_takeBack 3 (some .int) ∈ pw_BW := pw_bw (List.mem_of_getElem? (i := 413) (by rfl)) rfl
theorem mw_414 : Cond.methodLink RL 41 yX10_event ∈ pw_BW := pw_bw (List.mem_of_getElem? (i := 414) (by decide +kernel)) rfl
theorem mw_415 : Cond.instanceMethod yX10_event ∈ pw_BW := pw_bw (List.mem_of_getElem? (i := 415) (by decide +kernel)) rfl
theorem mw_416 : Cond.selects RX10 yX10_event yX10_event ∈ pw_BW := pw_bw (List.mem_of_getElem? (i := 416) (by decide +kernel)) rfl
set_option maxRecDepth 40000 in
theorem mw_417 : Cond.code yX10_event cX10_event 5 (some .int) ∈ pw_BW := pw_bw (List.mem_of_getElem? (i := 417) (by rfl)) rfl
theorem mw_418 : Cond.methodLink RX10 124 yX2_hasEvent ∈ pw_BW := pw_bw (List.mem_of_getElem? (i := 418) (by decide +kernel)) rfl
theorem mw_419 : Cond.instanceMethod yX2_hasEvent ∈ pw_BW := pw_bw (List.mem_of_getElem? (i := 419) (by decide +kernel)) rfl
theorem mw_420 : Cond.selects RX2 yX2_hasEvent yX2_hasEvent ∈ pw_BW := pw_bw (List.mem_of_getElem? (i := 420) (by decide +kernel)) rfl
set_option maxRecDepth 40000 in
theorem mw_421 : Cond.code yX2_hasEvent cX2_hasEvent 3 (some .boolean) ∈ pw_BW := pw_bw (List.mem_of_getElem? (i := 421) (by rfl)) rfl
theorem mw_422 : Cond.methodLink RX2 44 yX2_hasProcess ∈ pw_BW := pw_bw (List.mem_of_getElem? (i := 422) (by decide +kernel)) rfl
theorem mw_423 : Cond.methodLink RX10 128 yX2_place ∈ pw_BW := pw_bw (List.mem_of_getElem? (i := 423) (by decide +kernel)) rfl
theorem mw_424 : Cond.methodLink RL 46 yX10_letter ∈ pw_BW := pw_bw (List.mem_of_getElem? (i := 424) (by decide +kernel)) rfl
theorem mw_425 : Cond.instanceMethod yX10_letter ∈ pw_BW := pw_bw (List.mem_of_getElem? (i := 425) (by decide +kernel)) rfl
theorem mw_426 : Cond.selects RX10 yX10_letter yX10_letter ∈ pw_BW := pw_bw (List.mem_of_getElem? (i := 426) (by decide +kernel)) rfl
set_option maxRecDepth 40000 in
theorem mw_427 : Cond.code yX10_letter cX10_letter 4 (some .int) ∈ pw_BW := pw_bw (List.mem_of_getElem? (i := 427) (by rfl)) rfl
theorem mw_428 : Cond.methodLink RL 50 yX10_ahead ∈ pw_BW := pw_bw (List.mem_of_getElem? (i := 428) (by decide +kernel)) rfl
theorem mw_429 : Cond.instanceMethod yX10_ahead ∈ pw_BW := pw_bw (List.mem_of_getElem? (i := 429) (by decide +kernel)) rfl
theorem mw_430 : Cond.selects RX10 yX10_ahead yX10_ahead ∈ pw_BW := pw_bw (List.mem_of_getElem? (i := 430) (by decide +kernel)) rfl
set_option maxRecDepth 40000 in
theorem mw_431 : Cond.code yX10_ahead cX10_ahead 5 (some .int) ∈ pw_BW := pw_bw (List.mem_of_getElem? (i := 431) (by rfl)) rfl
theorem mw_432 : Cond.methodLink RX10 146 yX2_clockOf ∈ pw_BW := pw_bw (List.mem_of_getElem? (i := 432) (by decide +kernel)) rfl
theorem mw_433 : Cond.methodLink RL 54 yX10_clock ∈ pw_BW := pw_bw (List.mem_of_getElem? (i := 433) (by decide +kernel)) rfl
theorem mw_434 : Cond.instanceMethod yX10_clock ∈ pw_BW := pw_bw (List.mem_of_getElem? (i := 434) (by decide +kernel)) rfl
theorem mw_435 : Cond.selects RX10 yX10_clock yX10_clock ∈ pw_BW := pw_bw (List.mem_of_getElem? (i := 435) (by decide +kernel)) rfl
set_option maxRecDepth 40000 in
theorem mw_436 : Cond.code yX10_clock cX10_clock 4 (some .int) ∈ pw_BW := pw_bw (List.mem_of_getElem? (i := 436) (by rfl)) rfl
theorem mw_437 : Cond.methodLink RL 58 yX10_possible ∈ pw_BW := pw_bw (List.mem_of_getElem? (i := 437) (by decide +kernel)) rfl
theorem mw_438 : Cond.instanceMethod yX10_possible ∈ pw_BW := pw_bw (List.mem_of_getElem? (i := 438) (by decide +kernel)) rfl
theorem mw_439 : Cond.selects RX10 yX10_possible yX10_possible ∈ pw_BW := pw_bw (List.mem_of_getElem? (i := 439) (by decide +kernel)) rfl
set_option maxRecDepth 40000 in
theorem mw_440 : Cond.code yX10_possible cX10_possible 2 (some .int) ∈ pw_BW := pw_bw (List.mem_of_getElem? (i := 440) (by rfl)) rfl
theorem mw_441 : Cond.methodLink RX10 150 yX2_hasCut ∈ pw_BW := pw_bw (List.mem_of_getElem? (i := 441) (by decide +kernel)) rfl
theorem mw_442 : Cond.instanceMethod yX2_hasCut ∈ pw_BW := pw_bw (List.mem_of_getElem? (i := 442) (by decide +kernel)) rfl
theorem mw_443 : Cond.selects RX2 yX2_hasCut yX2_hasCut ∈ pw_BW := pw_bw (List.mem_of_getElem? (i := 443) (by decide +kernel)) rfl
set_option maxRecDepth 40000 in
theorem mw_444 : Cond.code yX2_hasCut cX2_hasCut 4 (some .boolean) ∈ pw_BW := pw_bw (List.mem_of_getElem? (i := 444) (by rfl)) rfl
theorem mw_445 : Cond.methodLink RX10 153 yX10_freshNet ∈ pw_BW := pw_bw (List.mem_of_getElem? (i := 445) (by decide +kernel)) rfl
theorem mw_447 : Cond.instanceMethod yX10_freshNet ∈ pw_BW := pw_bw (List.mem_of_getElem? (i := 447) (by decide +kernel)) rfl
set_option maxRecDepth 40000 in
theorem mw_448 : Cond.code yX10_freshNet cX10_freshNet 1 (some (.object RX6)) ∈ pw_BW := pw_bw (List.mem_of_getElem? (i := 448) (by rfl)) rfl
theorem mw_449 : Cond.methodLink RX10 287 yX6_refresh ∈ pw_BW := pw_bw (List.mem_of_getElem? (i := 449) (by decide +kernel)) rfl
theorem mw_450 : Cond.instanceMethod yX6_refresh ∈ pw_BW := pw_bw (List.mem_of_getElem? (i := 450) (by decide +kernel)) rfl
theorem mw_451 : Cond.selects RX6 yX6_refresh yX6_refresh ∈ pw_BW := pw_bw (List.mem_of_getElem? (i := 451) (by decide +kernel)) rfl
set_option maxRecDepth 40000 in
theorem mw_452 : Cond.code yX6_refresh cX6_refresh 2 none ∈ pw_BW := pw_bw (List.mem_of_getElem? (i := 452) (by rfl)) rfl
theorem mw_455 : Cond.methodLink RX6 59 yX2_hasCut ∈ pw_BW := pw_bw (List.mem_of_getElem? (i := 455) (by decide +kernel)) rfl
theorem mw_456 : Cond.methodLink RX6 63 yX6_isClosed ∈ pw_BW := pw_bw (List.mem_of_getElem? (i := 456) (by decide +kernel)) rfl
theorem mw_458 : Cond.instanceMethod yX6_isClosed ∈ pw_BW := pw_bw (List.mem_of_getElem? (i := 458) (by decide +kernel)) rfl
set_option maxRecDepth 40000 in
theorem mw_459 : Cond.code yX6_isClosed cX6_isClosed 5 (some .boolean) ∈ pw_BW := pw_bw (List.mem_of_getElem? (i := 459) (by rfl)) rfl
theorem mw_460 : Cond.methodLink RX6 69 yX2_clockOf ∈ pw_BW := pw_bw (List.mem_of_getElem? (i := 460) (by decide +kernel)) rfl
theorem mw_461 : Cond.methodLink RX6 66 yX6_sortBySize ∈ pw_BW := pw_bw (List.mem_of_getElem? (i := 461) (by decide +kernel)) rfl
theorem mw_463 : Cond.instanceMethod yX6_sortBySize ∈ pw_BW := pw_bw (List.mem_of_getElem? (i := 463) (by decide +kernel)) rfl
set_option maxRecDepth 40000 in
theorem mw_464 : Cond.code yX6_sortBySize cX6_sortBySize 3 none ∈ pw_BW := pw_bw (List.mem_of_getElem? (i := 464) (by rfl)) rfl
theorem mw_465 : Cond.methodLink RX6 73 yJ7_fill_53178 ∈ pw_BW := pw_bw (List.mem_of_getElem? (i := 465) (by decide +kernel)) rfl
theorem mw_466 : Cond.static yJ7_fill_53178 ∈ pw_BW := pw_bw (List.mem_of_getElem? (i := 466) (by decide +kernel)) rfl
set_option maxRecDepth 40000 in
theorem mw_467 : Cond.code yJ7_fill_53178 cJ7_fill_53178 4 none ∈ pw_BW := pw_bw (List.mem_of_getElem? (i := 467) (by rfl)) rfl
theorem mw_468 : Cond.methodLink RX6 79 yX6_sizeOf ∈ pw_BW := pw_bw (List.mem_of_getElem? (i := 468) (by decide +kernel)) rfl
theorem mw_469 : Cond.static yX6_sizeOf ∈ pw_BW := pw_bw (List.mem_of_getElem? (i := 469) (by decide +kernel)) rfl
set_option maxRecDepth 40000 in
theorem mw_470 : Cond.code yX6_sizeOf cX6_sizeOf 4 (some .int) ∈ pw_BW := pw_bw (List.mem_of_getElem? (i := 470) (by rfl)) rfl
theorem mw_471 : Cond.methodLink RL 62 yX10_cuts ∈ pw_BW := pw_bw (List.mem_of_getElem? (i := 471) (by decide +kernel)) rfl
theorem mw_472 : Cond.instanceMethod yX10_cuts ∈ pw_BW := pw_bw (List.mem_of_getElem? (i := 472) (by decide +kernel)) rfl
theorem mw_473 : Cond.selects RX10 yX10_cuts yX10_cuts ∈ pw_BW := pw_bw (List.mem_of_getElem? (i := 473) (by decide +kernel)) rfl
set_option maxRecDepth 40000 in
theorem mw_474 : Cond.code yX10_cuts cX10_cuts 3 (some .int) ∈ pw_BW := pw_bw (List.mem_of_getElem? (i := 474) (by rfl)) rfl
theorem mw_475 : Cond.methodLink RX10 162 yX6_howManyOf ∈ pw_BW := pw_bw (List.mem_of_getElem? (i := 475) (by decide +kernel)) rfl
theorem mw_476 : Cond.instanceMethod yX6_howManyOf ∈ pw_BW := pw_bw (List.mem_of_getElem? (i := 476) (by decide +kernel)) rfl
theorem mw_477 : Cond.selects RX6 yX6_howManyOf yX6_howManyOf ∈ pw_BW := pw_bw (List.mem_of_getElem? (i := 477) (by decide +kernel)) rfl
set_option maxRecDepth 40000 in
theorem mw_478 : Cond.code yX6_howManyOf cX6_howManyOf 2 (some .int) ∈ pw_BW := pw_bw (List.mem_of_getElem? (i := 478) (by rfl)) rfl
theorem mw_479 : Cond.methodLink RL 66 yX10_next ∈ pw_BW := pw_bw (List.mem_of_getElem? (i := 479) (by decide +kernel)) rfl
theorem mw_480 : Cond.instanceMethod yX10_next ∈ pw_BW := pw_bw (List.mem_of_getElem? (i := 480) (by decide +kernel)) rfl
theorem mw_481 : Cond.selects RX10 yX10_next yX10_next ∈ pw_BW := pw_bw (List.mem_of_getElem? (i := 481) (by decide +kernel)) rfl
set_option maxRecDepth 40000 in
theorem mw_482 : Cond.code yX10_next cX10_next 2 (some .int) ∈ pw_BW := pw_bw (List.mem_of_getElem? (i := 482) (by rfl)) rfl
theorem mw_483 : Cond.methodLink RX10 168 yX6_firstBehind ∈ pw_BW := pw_bw (List.mem_of_getElem? (i := 483) (by decide +kernel)) rfl
theorem mw_484 : Cond.instanceMethod yX6_firstBehind ∈ pw_BW := pw_bw (List.mem_of_getElem? (i := 484) (by decide +kernel)) rfl
theorem mw_485 : Cond.selects RX6 yX6_firstBehind yX6_firstBehind ∈ pw_BW := pw_bw (List.mem_of_getElem? (i := 485) (by decide +kernel)) rfl
set_option maxRecDepth 40000 in
theorem mw_486 : Cond.code yX6_firstBehind cX6_firstBehind 4 (some .int) ∈ pw_BW := pw_bw (List.mem_of_getElem? (i := 486) (by rfl)) rfl
theorem mw_487 : Cond.methodLink RL 70 yX10_join ∈ pw_BW := pw_bw (List.mem_of_getElem? (i := 487) (by decide +kernel)) rfl
theorem mw_488 : Cond.instanceMethod yX10_join ∈ pw_BW := pw_bw (List.mem_of_getElem? (i := 488) (by decide +kernel)) rfl
theorem mw_489 : Cond.selects RX10 yX10_join yX10_join ∈ pw_BW := pw_bw (List.mem_of_getElem? (i := 489) (by decide +kernel)) rfl
set_option maxRecDepth 40000 in
theorem mw_490 : Cond.code yX10_join cX10_join 4 (some .int) ∈ pw_BW := pw_bw (List.mem_of_getElem? (i := 490) (by rfl)) rfl
theorem mw_491 : Cond.methodLink RX10 171 yX6_combine ∈ pw_BW := pw_bw (List.mem_of_getElem? (i := 491) (by decide +kernel)) rfl
theorem mw_492 : Cond.static yX6_combine ∈ pw_BW := pw_bw (List.mem_of_getElem? (i := 492) (by decide +kernel)) rfl
set_option maxRecDepth 40000 in
theorem mw_493 : Cond.code yX6_combine cX6_combine 7 (some .int) ∈ pw_BW := pw_bw (List.mem_of_getElem? (i := 493) (by rfl)) rfl
theorem mw_494 : Cond.methodLink RX6 33 yX6_shareOf ∈ pw_BW := pw_bw (List.mem_of_getElem? (i := 494) (by decide +kernel)) rfl
theorem mw_495 : Cond.static yX6_shareOf ∈ pw_BW := pw_bw (List.mem_of_getElem? (i := 495) (by decide +kernel)) rfl
set_option maxRecDepth 40000 in
theorem mw_496 : Cond.code yX6_shareOf cX6_shareOf 4 (some .int) ∈ pw_BW := pw_bw (List.mem_of_getElem? (i := 496) (by rfl)) rfl
theorem mw_497 : Cond.methodLink RX6 37 yJ9_min_7cf53 ∈ pw_BW := pw_bw (List.mem_of_getElem? (i := 497) (by decide +kernel)) rfl
theorem mw_498 : Cond.static yJ9_min_7cf53 ∈ pw_BW := pw_bw (List.mem_of_getElem? (i := 498) (by decide +kernel)) rfl
set_option maxRecDepth 40000 in
theorem mw_499 : Cond.code yJ9_min_7cf53 cJ9_min_7cf53 2 (some .int) ∈ pw_BW := pw_bw (List.mem_of_getElem? (i := 499) (by rfl)) rfl
theorem mw_500 : Cond.methodLink RX6 42 yJ9_max_7cf53 ∈ pw_BW := pw_bw (List.mem_of_getElem? (i := 500) (by decide +kernel)) rfl
theorem mw_501 : Cond.methodLink RL 74 yX10_least ∈ pw_BW := pw_bw (List.mem_of_getElem? (i := 501) (by decide +kernel)) rfl
theorem mw_502 : Cond.instanceMethod yX10_least ∈ pw_BW := pw_bw (List.mem_of_getElem? (i := 502) (by decide +kernel)) rfl
theorem mw_503 : Cond.selects RX10 yX10_least yX10_least ∈ pw_BW := pw_bw (List.mem_of_getElem? (i := 503) (by decide +kernel)) rfl
set_option maxRecDepth 40000 in
theorem mw_504 : Cond.code yX10_least cX10_least 3 (some .int) ∈ pw_BW := pw_bw (List.mem_of_getElem? (i := 504) (by rfl)) rfl
theorem mw_505 : Cond.methodLink RX10 178 yX2_leastWith ∈ pw_BW := pw_bw (List.mem_of_getElem? (i := 505) (by decide +kernel)) rfl
theorem mw_506 : Cond.instanceMethod yX2_leastWith ∈ pw_BW := pw_bw (List.mem_of_getElem? (i := 506) (by decide +kernel)) rfl
theorem mw_507 : Cond.selects RX2 yX2_leastWith yX2_leastWith ∈ pw_BW := pw_bw (List.mem_of_getElem? (i := 507) (by decide +kernel)) rfl
set_option maxRecDepth 40000 in
theorem mw_508 : Cond.code yX2_leastWith cX2_leastWith 5 (some .int) ∈ pw_BW := pw_bw (List.mem_of_getElem? (i := 508) (by rfl)) rfl
theorem mw_510 : Cond.methodLink RL 78 yX10_orders ∈ pw_BW := pw_bw (List.mem_of_getElem? (i := 510) (by decide +kernel)) rfl
theorem mw_511 : Cond.instanceMethod yX10_orders ∈ pw_BW := pw_bw (List.mem_of_getElem? (i := 511) (by decide +kernel)) rfl
theorem mw_512 : Cond.selects RX10 yX10_orders yX10_orders ∈ pw_BW := pw_bw (List.mem_of_getElem? (i := 512) (by decide +kernel)) rfl
set_option maxRecDepth 40000 in
theorem mw_513 : Cond.code yX10_orders cX10_orders 2 (some .long) ∈ pw_BW := pw_bw (List.mem_of_getElem? (i := 513) (by rfl)) rfl
theorem mw_514 : Cond.methodLink RX10 181 yX4_wipe ∈ pw_BW := pw_bw (List.mem_of_getElem? (i := 514) (by decide +kernel)) rfl
theorem mw_515 : Cond.instanceMethod yX4_wipe ∈ pw_BW := pw_bw (List.mem_of_getElem? (i := 515) (by decide +kernel)) rfl
theorem mw_516 : Cond.selects RX4 yX4_wipe yX4_wipe ∈ pw_BW := pw_bw (List.mem_of_getElem? (i := 516) (by decide +kernel)) rfl
set_option maxRecDepth 40000 in
theorem mw_517 : Cond.code yX4_wipe cX4_wipe 3 none ∈ pw_BW := pw_bw (List.mem_of_getElem? (i := 517) (by rfl)) rfl
theorem mw_518 : Cond.methodLink RX10 188 yX9_fill ∈ pw_BW := pw_bw (List.mem_of_getElem? (i := 518) (by decide +kernel)) rfl
theorem mw_519 : Cond.instanceMethod yX9_fill ∈ pw_BW := pw_bw (List.mem_of_getElem? (i := 519) (by decide +kernel)) rfl
theorem mw_520 : Cond.selects RX9 yX9_fill yX9_fill ∈ pw_BW := pw_bw (List.mem_of_getElem? (i := 520) (by decide +kernel)) rfl
set_option maxRecDepth 40000 in
theorem mw_521 : Cond.code yX9_fill cX9_fill 5 (some .long) ∈ pw_BW := pw_bw (List.mem_of_getElem? (i := 521) (by rfl)) rfl
theorem mw_522 : Cond.methodLink RX9 28 yX9_sumOver ∈ pw_BW := pw_bw (List.mem_of_getElem? (i := 522) (by decide +kernel)) rfl
theorem mw_524 : Cond.instanceMethod yX9_sumOver ∈ pw_BW := pw_bw (List.mem_of_getElem? (i := 524) (by decide +kernel)) rfl
set_option maxRecDepth 40000 in
theorem mw_525 : Cond.code yX9_sumOver cX9_sumOver 6 (some .long) ∈ pw_BW := pw_bw (List.mem_of_getElem? (i := 525) (by rfl)) rfl
theorem mw_526 : Cond.methodLink RX9 38 yX9_over ∈ pw_BW := pw_bw (List.mem_of_getElem? (i := 526) (by decide +kernel)) rfl
theorem mw_528 : Cond.instanceMethod yX9_over ∈ pw_BW := pw_bw (List.mem_of_getElem? (i := 528) (by decide +kernel)) rfl
set_option maxRecDepth 40000 in
theorem mw_529 : Cond.code yX9_over cX9_over 5 (some .long) ∈ pw_BW := pw_bw (List.mem_of_getElem? (i := 529) (by rfl)) rfl
theorem mw_530 : Cond.methodLink RX9 42 yX6_up ∈ pw_BW := pw_bw (List.mem_of_getElem? (i := 530) (by decide +kernel)) rfl
theorem mw_531 : Cond.instanceMethod yX6_up ∈ pw_BW := pw_bw (List.mem_of_getElem? (i := 531) (by decide +kernel)) rfl
theorem mw_532 : Cond.selects RX6 yX6_up yX6_up ∈ pw_BW := pw_bw (List.mem_of_getElem? (i := 532) (by decide +kernel)) rfl
set_option maxRecDepth 40000 in
theorem mw_533 : Cond.code yX6_up cX6_up 4 (some .int) ∈ pw_BW := pw_bw (List.mem_of_getElem? (i := 533) (by rfl)) rfl
theorem mw_534 : Cond.methodLink RL 85 yX10_order ∈ pw_BW := pw_bw (List.mem_of_getElem? (i := 534) (by decide +kernel)) rfl
theorem mw_535 : Cond.instanceMethod yX10_order ∈ pw_BW := pw_bw (List.mem_of_getElem? (i := 535) (by decide +kernel)) rfl
theorem mw_536 : Cond.selects RX10 yX10_order yX10_order ∈ pw_BW := pw_bw (List.mem_of_getElem? (i := 536) (by decide +kernel)) rfl
set_option maxRecDepth 40000 in
theorem mw_537 : Cond.code yX10_order cX10_order 4 (some .int) ∈ pw_BW := pw_bw (List.mem_of_getElem? (i := 537) (by rfl)) rfl
theorem mw_538 : Cond.methodLink RX10 192 yX10_orders ∈ pw_BW := pw_bw (List.mem_of_getElem? (i := 538) (by decide +kernel)) rfl
theorem mw_539 : Cond.methodLink RX10 196 yX9_processAt ∈ pw_BW := pw_bw (List.mem_of_getElem? (i := 539) (by decide +kernel)) rfl
theorem mw_540 : Cond.instanceMethod yX9_processAt ∈ pw_BW := pw_bw (List.mem_of_getElem? (i := 540) (by decide +kernel)) rfl
theorem mw_541 : Cond.selects RX9 yX9_processAt yX9_processAt ∈ pw_BW := pw_bw (List.mem_of_getElem? (i := 541) (by decide +kernel)) rfl
set_option maxRecDepth 40000 in
theorem mw_542 : Cond.code yX9_processAt cX9_processAt 10 (some .int) ∈ pw_BW := pw_bw (List.mem_of_getElem? (i := 542) (by rfl)) rfl
theorem mw_544 : Cond.methodLink RL 90 yX10_number ∈ pw_BW := pw_bw (List.mem_of_getElem? (i := 544) (by decide +kernel)) rfl
theorem mw_545 : Cond.instanceMethod yX10_number ∈ pw_BW := pw_bw (List.mem_of_getElem? (i := 545) (by decide +kernel)) rfl
theorem mw_546 : Cond.selects RX10 yX10_number yX10_number ∈ pw_BW := pw_bw (List.mem_of_getElem? (i := 546) (by decide +kernel)) rfl
set_option maxRecDepth 40000 in
theorem mw_547 : Cond.code yX10_number cX10_number 2 (some .int) ∈ pw_BW := pw_bw (List.mem_of_getElem? (i := 547) (by rfl)) rfl
theorem mw_548 : Cond.methodLink RX10 203 yX7_push ∈ pw_BW := pw_bw (List.mem_of_getElem? (i := 548) (by decide +kernel)) rfl
theorem mw_549 : Cond.instanceMethod yX7_push ∈ pw_BW := pw_bw (List.mem_of_getElem? (i := 549) (by decide +kernel)) rfl
theorem mw_550 : Cond.selects RX7 yX7_push yX7_push ∈ pw_BW := pw_bw (List.mem_of_getElem? (i := 550) (by decide +kernel)) rfl
set_option maxRecDepth 40000 in
theorem mw_551 : Cond.code yX7_push cX7_push 4 (some .int) ∈ pw_BW := pw_bw (List.mem_of_getElem? (i := 551) (by rfl)) rfl
theorem mw_552 : Cond.methodLink RX7 25 yX1_append ∈ pw_BW := pw_bw (List.mem_of_getElem? (i := 552) (by decide +kernel)) rfl
theorem mw_553 : Cond.instanceMethod yX1_append ∈ pw_BW := pw_bw (List.mem_of_getElem? (i := 553) (by decide +kernel)) rfl
theorem mw_554 : Cond.selects RX1 yX1_append yX1_append ∈ pw_BW := pw_bw (List.mem_of_getElem? (i := 554) (by decide +kernel)) rfl
set_option maxRecDepth 40000 in
theorem mw_555 : Cond.code yX1_append cX1_append 4 none ∈ pw_BW := pw_bw (List.mem_of_getElem? (i := 555) (by rfl)) rfl
theorem mw_556 : Cond.methodLink RL 94 yX10_part ∈ pw_BW := pw_bw (List.mem_of_getElem? (i := 556) (by decide +kernel)) rfl
theorem mw_557 : Cond.instanceMethod yX10_part ∈ pw_BW := pw_bw (List.mem_of_getElem? (i := 557) (by decide +kernel)) rfl
theorem mw_558 : Cond.selects RX10 yX10_part yX10_part ∈ pw_BW := pw_bw (List.mem_of_getElem? (i := 558) (by decide +kernel)) rfl
set_option maxRecDepth 40000 in
theorem mw_559 : Cond.code yX10_part cX10_part 4 (some .int) ∈ pw_BW := pw_bw (List.mem_of_getElem? (i := 559) (by rfl)) rfl
theorem mw_560 : Cond.methodLink RX10 206 yX10_mayBeProcess ∈ pw_BW := pw_bw (List.mem_of_getElem? (i := 560) (by decide +kernel)) rfl
theorem mw_561 : Cond.static yX10_mayBeProcess ∈ pw_BW := pw_bw (List.mem_of_getElem? (i := 561) (by decide +kernel)) rfl
set_option maxRecDepth 40000 in
theorem mw_562 : Cond.code yX10_mayBeProcess cX10_mayBeProcess 1 (some .boolean) ∈ pw_BW := pw_bw (List.mem_of_getElem? (i := 562) (by rfl)) rfl
theorem mw_563 : Cond.methodLink RL 98 yX10_op ∈ pw_BW := pw_bw (List.mem_of_getElem? (i := 563) (by decide +kernel)) rfl
theorem mw_564 : Cond.instanceMethod yX10_op ∈ pw_BW := pw_bw (List.mem_of_getElem? (i := 564) (by decide +kernel)) rfl
theorem mw_565 : Cond.selects RX10 yX10_op yX10_op ∈ pw_BW := pw_bw (List.mem_of_getElem? (i := 565) (by decide +kernel)) rfl
set_option maxRecDepth 40000 in
theorem mw_566 : Cond.code yX10_op cX10_op 2 (some .int) ∈ pw_BW := pw_bw (List.mem_of_getElem? (i := 566) (by rfl)) rfl
theorem mw_567 : Cond.methodLink RX10 209 yX1_sidesOf ∈ pw_BW := pw_bw (List.mem_of_getElem? (i := 567) (by decide +kernel)) rfl
theorem mw_568 : Cond.static yX1_sidesOf ∈ pw_BW := pw_bw (List.mem_of_getElem? (i := 568) (by decide +kernel)) rfl
set_option maxRecDepth 40000 in
theorem mw_569 : Cond.code yX1_sidesOf cX1_sidesOf 1 (some .int) ∈ pw_BW := pw_bw (List.mem_of_getElem? (i := 569) (by rfl)) rfl
theorem mw_570 : Cond.methodLink RX10 214 yX7_partsBehind ∈ pw_BW := pw_bw (List.mem_of_getElem? (i := 570) (by decide +kernel)) rfl
theorem mw_571 : Cond.instanceMethod yX7_partsBehind ∈ pw_BW := pw_bw (List.mem_of_getElem? (i := 571) (by decide +kernel)) rfl
theorem mw_572 : Cond.selects RX7 yX7_partsBehind yX7_partsBehind ∈ pw_BW := pw_bw (List.mem_of_getElem? (i := 572) (by decide +kernel)) rfl
set_option maxRecDepth 40000 in
theorem mw_573 : Cond.code yX7_partsBehind cX7_partsBehind 4 (some .int) ∈ pw_BW := pw_bw (List.mem_of_getElem? (i := 573) (by rfl)) rfl
theorem mw_574 : Cond.methodLink RX7 29 yX1_sidesOf ∈ pw_BW := pw_bw (List.mem_of_getElem? (i := 574) (by decide +kernel)) rfl
theorem mw_575 : Cond.methodLink RX10 217 yX7_unite ∈ pw_BW := pw_bw (List.mem_of_getElem? (i := 575) (by decide +kernel)) rfl
theorem mw_576 : Cond.instanceMethod yX7_unite ∈ pw_BW := pw_bw (List.mem_of_getElem? (i := 576) (by decide +kernel)) rfl
theorem mw_577 : Cond.selects RX7 yX7_unite yX7_unite ∈ pw_BW := pw_bw (List.mem_of_getElem? (i := 577) (by decide +kernel)) rfl
set_option maxRecDepth 40000 in
theorem mw_578 : Cond.code yX7_unite cX7_unite 2 (some .int) ∈ pw_BW := pw_bw (List.mem_of_getElem? (i := 578) (by rfl)) rfl
theorem mw_579 : Cond.methodLink RX7 33 yX1_appendAll ∈ pw_BW := pw_bw (List.mem_of_getElem? (i := 579) (by decide +kernel)) rfl
theorem mw_580 : Cond.instanceMethod yX1_appendAll ∈ pw_BW := pw_bw (List.mem_of_getElem? (i := 580) (by decide +kernel)) rfl
theorem mw_581 : Cond.selects RX1 yX1_appendAll yX1_appendAll ∈ pw_BW := pw_bw (List.mem_of_getElem? (i := 581) (by decide +kernel)) rfl
set_option maxRecDepth 40000 in
theorem mw_582 : Cond.code yX1_appendAll cX1_appendAll 3 none ∈ pw_BW := pw_bw (List.mem_of_getElem? (i := 582) (by rfl)) rfl
theorem mw_583 : Cond.methodLink RX1 25 yX1_append ∈ pw_BW := pw_bw (List.mem_of_getElem? (i := 583) (by decide +kernel)) rfl
theorem mw_584 : Cond.methodLink RL 102 yX10_condition ∈ pw_BW := pw_bw (List.mem_of_getElem? (i := 584) (by decide +kernel)) rfl
theorem mw_585 : Cond.instanceMethod yX10_condition ∈ pw_BW := pw_bw (List.mem_of_getElem? (i := 585) (by decide +kernel)) rfl
theorem mw_586 : Cond.selects RX10 yX10_condition yX10_condition ∈ pw_BW := pw_bw (List.mem_of_getElem? (i := 586) (by decide +kernel)) rfl
set_option maxRecDepth 40000 in
theorem mw_587 : Cond.code yX10_condition cX10_condition 1 (some .int) ∈ pw_BW := pw_bw (List.mem_of_getElem? (i := 587) (by rfl)) rfl
theorem mw_588 : Cond.methodLink RX10 225 yX0_keep ∈ pw_BW := pw_bw (List.mem_of_getElem? (i := 588) (by decide +kernel)) rfl
theorem mw_589 : Cond.instanceMethod yX0_keep ∈ pw_BW := pw_bw (List.mem_of_getElem? (i := 589) (by decide +kernel)) rfl
theorem mw_590 : Cond.selects RX0 yX0_keep yX0_keep ∈ pw_BW := pw_bw (List.mem_of_getElem? (i := 590) (by decide +kernel)) rfl
set_option maxRecDepth 40000 in
theorem mw_591 : Cond.code yX0_keep cX0_keep 2 (some .int) ∈ pw_BW := pw_bw (List.mem_of_getElem? (i := 591) (by rfl)) rfl
theorem mw_592 : Cond.methodLink RX0 25 yX1_appendAll ∈ pw_BW := pw_bw (List.mem_of_getElem? (i := 592) (by decide +kernel)) rfl
theorem mw_593 : Cond.methodLink RL 106 yX10_clear ∈ pw_BW := pw_bw (List.mem_of_getElem? (i := 593) (by decide +kernel)) rfl
theorem mw_594 : Cond.instanceMethod yX10_clear ∈ pw_BW := pw_bw (List.mem_of_getElem? (i := 594) (by decide +kernel)) rfl
theorem mw_595 : Cond.selects RX10 yX10_clear yX10_clear ∈ pw_BW := pw_bw (List.mem_of_getElem? (i := 595) (by decide +kernel)) rfl
set_option maxRecDepth 40000 in
theorem mw_596 : Cond.code yX10_clear cX10_clear 3 (some .int) ∈ pw_BW := pw_bw (List.mem_of_getElem? (i := 596) (by rfl)) rfl
theorem mw_597 : Cond.methodLink RL 110 yX10_value ∈ pw_BW := pw_bw (List.mem_of_getElem? (i := 597) (by decide +kernel)) rfl
theorem mw_598 : Cond.instanceMethod yX10_value ∈ pw_BW := pw_bw (List.mem_of_getElem? (i := 598) (by decide +kernel)) rfl
theorem mw_599 : Cond.selects RX10 yX10_value yX10_value ∈ pw_BW := pw_bw (List.mem_of_getElem? (i := 599) (by decide +kernel)) rfl
set_option maxRecDepth 40000 in
theorem mw_600 : Cond.code yX10_value cX10_value 3 (some .int) ∈ pw_BW := pw_bw (List.mem_of_getElem? (i := 600) (by rfl)) rfl
theorem mw_601 : Cond.methodLink RX10 229 yX0_has ∈ pw_BW := pw_bw (List.mem_of_getElem? (i := 601) (by decide +kernel)) rfl
theorem mw_602 : Cond.instanceMethod yX0_has ∈ pw_BW := pw_bw (List.mem_of_getElem? (i := 602) (by decide +kernel)) rfl
theorem mw_603 : Cond.selects RX0 yX0_has yX0_has ∈ pw_BW := pw_bw (List.mem_of_getElem? (i := 603) (by decide +kernel)) rfl
set_option maxRecDepth 40000 in
theorem mw_604 : Cond.code yX0_has cX0_has 2 (some .boolean) ∈ pw_BW := pw_bw (List.mem_of_getElem? (i := 604) (by rfl)) rfl
theorem mw_605 : Cond.methodLink RX10 231 yX5_worth ∈ pw_BW := pw_bw (List.mem_of_getElem? (i := 605) (by decide +kernel)) rfl
theorem mw_606 : Cond.instanceMethod yX5_worth ∈ pw_BW := pw_bw (List.mem_of_getElem? (i := 606) (by decide +kernel)) rfl
theorem mw_607 : Cond.selects RX5 yX5_worth yX5_worth ∈ pw_BW := pw_bw (List.mem_of_getElem? (i := 607) (by decide +kernel)) rfl
set_option maxRecDepth 40000 in
theorem mw_608 : Cond.code yX5_worth cX5_worth 7 (some .int) ∈ pw_BW := pw_bw (List.mem_of_getElem? (i := 608) (by rfl)) rfl
theorem mw_609 : Cond.methodLink RX5 22 yX6_shareOf ∈ pw_BW := pw_bw (List.mem_of_getElem? (i := 609) (by decide +kernel)) rfl
theorem mw_610 : Cond.methodLink RX5 37 yX1_sidesOf ∈ pw_BW := pw_bw (List.mem_of_getElem? (i := 610) (by decide +kernel)) rfl
theorem mw_611 : Cond.methodLink RX5 47 yX5_seen ∈ pw_BW := pw_bw (List.mem_of_getElem? (i := 611) (by decide +kernel)) rfl
theorem mw_613 : Cond.instanceMethod yX5_seen ∈ pw_BW := pw_bw (List.mem_of_getElem? (i := 613) (by decide +kernel)) rfl
set_option maxRecDepth 40000 in
theorem mw_614 : Cond.code yX5_seen cX5_seen 4 (some .int) ∈ pw_BW := pw_bw (List.mem_of_getElem? (i := 614) (by rfl)) rfl
theorem mw_615 : Cond.methodLink RX5 59 yX2_valuePlace ∈ pw_BW := pw_bw (List.mem_of_getElem? (i := 615) (by decide +kernel)) rfl
theorem mw_616 : Cond.methodLink RX5 62 yX5_howManyUnderWay ∈ pw_BW := pw_bw (List.mem_of_getElem? (i := 616) (by decide +kernel)) rfl
theorem mw_618 : Cond.instanceMethod yX5_howManyUnderWay ∈ pw_BW := pw_bw (List.mem_of_getElem? (i := 618) (by decide +kernel)) rfl
set_option maxRecDepth 40000 in
theorem mw_619 : Cond.code yX5_howManyUnderWay cX5_howManyUnderWay 9 (some .int) ∈ pw_BW := pw_bw (List.mem_of_getElem? (i := 619) (by rfl)) rfl
theorem mw_620 : Cond.methodLink RX5 51 yX5_reckoned ∈ pw_BW := pw_bw (List.mem_of_getElem? (i := 620) (by decide +kernel)) rfl
theorem mw_621 : Cond.static yX5_reckoned ∈ pw_BW := pw_bw (List.mem_of_getElem? (i := 621) (by decide +kernel)) rfl
set_option maxRecDepth 40000 in
theorem mw_622 : Cond.code yX5_reckoned cX5_reckoned 3 (some .int) ∈ pw_BW := pw_bw (List.mem_of_getElem? (i := 622) (by rfl)) rfl
theorem mw_623 : Cond.methodLink RL 114 yX10_status ∈ pw_BW := pw_bw (List.mem_of_getElem? (i := 623) (by decide +kernel)) rfl
theorem mw_624 : Cond.instanceMethod yX10_status ∈ pw_BW := pw_bw (List.mem_of_getElem? (i := 624) (by decide +kernel)) rfl
theorem mw_625 : Cond.selects RX10 yX10_status yX10_status ∈ pw_BW := pw_bw (List.mem_of_getElem? (i := 625) (by decide +kernel)) rfl
set_option maxRecDepth 40000 in
theorem mw_626 : Cond.code yX10_status cX10_status 1 (some .int) ∈ pw_BW := pw_bw (List.mem_of_getElem? (i := 626) (by rfl)) rfl
theorem mw_627 : Cond.methodLink RL 118 yX10_may ∈ pw_BW := pw_bw (List.mem_of_getElem? (i := 627) (by decide +kernel)) rfl
theorem mw_628 : Cond.instanceMethod yX10_may ∈ pw_BW := pw_bw (List.mem_of_getElem? (i := 628) (by decide +kernel)) rfl
theorem mw_629 : Cond.selects RX10 yX10_may yX10_may ∈ pw_BW := pw_bw (List.mem_of_getElem? (i := 629) (by decide +kernel)) rfl
set_option maxRecDepth 40000 in
theorem mw_630 : Cond.code yX10_may cX10_may 2 (some .int) ∈ pw_BW := pw_bw (List.mem_of_getElem? (i := 630) (by rfl)) rfl
theorem mw_631 : Cond.methodLink RX10 235 yX10_markedNet ∈ pw_BW := pw_bw (List.mem_of_getElem? (i := 631) (by decide +kernel)) rfl
theorem mw_633 : Cond.instanceMethod yX10_markedNet ∈ pw_BW := pw_bw (List.mem_of_getElem? (i := 633) (by decide +kernel)) rfl
set_option maxRecDepth 40000 in
theorem mw_634 : Cond.code yX10_markedNet cX10_markedNet 3 (some (.object RX6)) ∈ pw_BW := pw_bw (List.mem_of_getElem? (i := 634) (by rfl)) rfl
theorem mw_635 : Cond.methodLink RX10 290 yX4_set ∈ pw_BW := pw_bw (List.mem_of_getElem? (i := 635) (by decide +kernel)) rfl
theorem mw_636 : Cond.instanceMethod yX4_set ∈ pw_BW := pw_bw (List.mem_of_getElem? (i := 636) (by decide +kernel)) rfl
theorem mw_637 : Cond.selects RX4 yX4_set yX4_set ∈ pw_BW := pw_bw (List.mem_of_getElem? (i := 637) (by decide +kernel)) rfl
set_option maxRecDepth 40000 in
theorem mw_638 : Cond.code yX4_set cX4_set 5 none ∈ pw_BW := pw_bw (List.mem_of_getElem? (i := 638) (by rfl)) rfl
theorem mw_639 : Cond.methodLink RX4 32 yX5_worth ∈ pw_BW := pw_bw (List.mem_of_getElem? (i := 639) (by decide +kernel)) rfl
theorem mw_640 : Cond.methodLink RX10 239 yX6_firstOf ∈ pw_BW := pw_bw (List.mem_of_getElem? (i := 640) (by decide +kernel)) rfl
theorem mw_641 : Cond.instanceMethod yX6_firstOf ∈ pw_BW := pw_bw (List.mem_of_getElem? (i := 641) (by decide +kernel)) rfl
theorem mw_642 : Cond.selects RX6 yX6_firstOf yX6_firstOf ∈ pw_BW := pw_bw (List.mem_of_getElem? (i := 642) (by decide +kernel)) rfl
set_option maxRecDepth 40000 in
theorem mw_643 : Cond.code yX6_firstOf cX6_firstOf 3 (some .int) ∈ pw_BW := pw_bw (List.mem_of_getElem? (i := 643) (by rfl)) rfl
theorem mw_644 : Cond.methodLink RL 122 yX10_last ∈ pw_BW := pw_bw (List.mem_of_getElem? (i := 644) (by decide +kernel)) rfl
theorem mw_645 : Cond.instanceMethod yX10_last ∈ pw_BW := pw_bw (List.mem_of_getElem? (i := 645) (by decide +kernel)) rfl
theorem mw_646 : Cond.selects RX10 yX10_last yX10_last ∈ pw_BW := pw_bw (List.mem_of_getElem? (i := 646) (by decide +kernel)) rfl
set_option maxRecDepth 40000 in
theorem mw_647 : Cond.code yX10_last cX10_last 2 (some .int) ∈ pw_BW := pw_bw (List.mem_of_getElem? (i := 647) (by rfl)) rfl
theorem mw_648 : Cond.methodLink RX10 243 yX6_lastOf ∈ pw_BW := pw_bw (List.mem_of_getElem? (i := 648) (by decide +kernel)) rfl
theorem mw_649 : Cond.instanceMethod yX6_lastOf ∈ pw_BW := pw_bw (List.mem_of_getElem? (i := 649) (by decide +kernel)) rfl
theorem mw_650 : Cond.selects RX6 yX6_lastOf yX6_lastOf ∈ pw_BW := pw_bw (List.mem_of_getElem? (i := 650) (by decide +kernel)) rfl
set_option maxRecDepth 40000 in
theorem mw_651 : Cond.code yX6_lastOf cX6_lastOf 3 (some .int) ∈ pw_BW := pw_bw (List.mem_of_getElem? (i := 651) (by rfl)) rfl
theorem mw_652 : Cond.methodLink RL 126 yX10_many ∈ pw_BW := pw_bw (List.mem_of_getElem? (i := 652) (by decide +kernel)) rfl
theorem mw_653 : Cond.instanceMethod yX10_many ∈ pw_BW := pw_bw (List.mem_of_getElem? (i := 653) (by decide +kernel)) rfl
theorem mw_654 : Cond.selects RX10 yX10_many yX10_many ∈ pw_BW := pw_bw (List.mem_of_getElem? (i := 654) (by decide +kernel)) rfl
set_option maxRecDepth 40000 in
theorem mw_655 : Cond.code yX10_many cX10_many 2 (some .int) ∈ pw_BW := pw_bw (List.mem_of_getElem? (i := 655) (by rfl)) rfl
theorem mw_656 : Cond.methodLink RX10 246 yX6_howManyIn ∈ pw_BW := pw_bw (List.mem_of_getElem? (i := 656) (by decide +kernel)) rfl
theorem mw_657 : Cond.instanceMethod yX6_howManyIn ∈ pw_BW := pw_bw (List.mem_of_getElem? (i := 657) (by decide +kernel)) rfl
theorem mw_658 : Cond.selects RX6 yX6_howManyIn yX6_howManyIn ∈ pw_BW := pw_bw (List.mem_of_getElem? (i := 658) (by decide +kernel)) rfl
set_option maxRecDepth 40000 in
theorem mw_659 : Cond.code yX6_howManyIn cX6_howManyIn 4 (some .int) ∈ pw_BW := pw_bw (List.mem_of_getElem? (i := 659) (by rfl)) rfl
theorem mw_660 : Cond.methodLink RL 130 yX10_sure ∈ pw_BW := pw_bw (List.mem_of_getElem? (i := 660) (by decide +kernel)) rfl
theorem mw_661 : Cond.instanceMethod yX10_sure ∈ pw_BW := pw_bw (List.mem_of_getElem? (i := 661) (by decide +kernel)) rfl
theorem mw_662 : Cond.selects RX10 yX10_sure yX10_sure ∈ pw_BW := pw_bw (List.mem_of_getElem? (i := 662) (by decide +kernel)) rfl
set_option maxRecDepth 40000 in
theorem mw_663 : Cond.code yX10_sure cX10_sure 2 (some .int) ∈ pw_BW := pw_bw (List.mem_of_getElem? (i := 663) (by rfl)) rfl
theorem mw_664 : Cond.methodLink RX10 249 yX10_avoids ∈ pw_BW := pw_bw (List.mem_of_getElem? (i := 664) (by decide +kernel)) rfl
theorem mw_665 : Cond.instanceMethod yX10_avoids ∈ pw_BW := pw_bw (List.mem_of_getElem? (i := 665) (by decide +kernel)) rfl
theorem mw_666 : Cond.selects RX10 yX10_avoids yX10_avoids ∈ pw_BW := pw_bw (List.mem_of_getElem? (i := 666) (by decide +kernel)) rfl
set_option maxRecDepth 40000 in
theorem mw_667 : Cond.code yX10_avoids cX10_avoids 2 (some .long) ∈ pw_BW := pw_bw (List.mem_of_getElem? (i := 667) (by rfl)) rfl
theorem mw_668 : Cond.constantLong RX10 253 (-1 : Int64) ∈ pw_BW := pw_bw (List.mem_of_getElem? (i := 668) (by decide +kernel)) rfl
theorem mw_669 : Cond.methodLink RL 134 yX10_avoid ∈ pw_BW := pw_bw (List.mem_of_getElem? (i := 669) (by decide +kernel)) rfl
theorem mw_670 : Cond.instanceMethod yX10_avoid ∈ pw_BW := pw_bw (List.mem_of_getElem? (i := 670) (by decide +kernel)) rfl
theorem mw_671 : Cond.selects RX10 yX10_avoid yX10_avoid ∈ pw_BW := pw_bw (List.mem_of_getElem? (i := 671) (by decide +kernel)) rfl
set_option maxRecDepth 40000 in
theorem mw_672 : Cond.code yX10_avoid cX10_avoid 3 (some .int) ∈ pw_BW := pw_bw (List.mem_of_getElem? (i := 672) (by rfl)) rfl
theorem mw_673 : Cond.methodLink RL 138 yX10_avoids ∈ pw_BW := pw_bw (List.mem_of_getElem? (i := 673) (by decide +kernel)) rfl
theorem mw_674 : Cond.methodLink RL 143 yX10_is ∈ pw_BW := pw_bw (List.mem_of_getElem? (i := 674) (by decide +kernel)) rfl
theorem mw_675 : Cond.instanceMethod yX10_is ∈ pw_BW := pw_bw (List.mem_of_getElem? (i := 675) (by decide +kernel)) rfl
theorem mw_676 : Cond.selects RX10 yX10_is yX10_is ∈ pw_BW := pw_bw (List.mem_of_getElem? (i := 676) (by decide +kernel)) rfl
set_option maxRecDepth 40000 in
theorem mw_677 : Cond.code yX10_is cX10_is 5 (some .int) ∈ pw_BW := pw_bw (List.mem_of_getElem? (i := 677) (by rfl)) rfl
theorem mw_678 : Cond.methodLink RX10 255 yX4_areKept ∈ pw_BW := pw_bw (List.mem_of_getElem? (i := 678) (by decide +kernel)) rfl
theorem mw_679 : Cond.instanceMethod yX4_areKept ∈ pw_BW := pw_bw (List.mem_of_getElem? (i := 679) (by decide +kernel)) rfl
theorem mw_680 : Cond.selects RX4 yX4_areKept yX4_areKept ∈ pw_BW := pw_bw (List.mem_of_getElem? (i := 680) (by decide +kernel)) rfl
set_option maxRecDepth 40000 in
theorem mw_681 : Cond.code yX4_areKept cX4_areKept 6 (some .boolean) ∈ pw_BW := pw_bw (List.mem_of_getElem? (i := 681) (by rfl)) rfl
theorem mw_682 : Cond.methodLink RX4 38 yX6_up ∈ pw_BW := pw_bw (List.mem_of_getElem? (i := 682) (by decide +kernel)) rfl
theorem mw_683 : Cond.methodLink RX10 259 yX4_areMet ∈ pw_BW := pw_bw (List.mem_of_getElem? (i := 683) (by decide +kernel)) rfl
theorem mw_684 : Cond.instanceMethod yX4_areMet ∈ pw_BW := pw_bw (List.mem_of_getElem? (i := 684) (by decide +kernel)) rfl
theorem mw_685 : Cond.selects RX4 yX4_areMet yX4_areMet ∈ pw_BW := pw_bw (List.mem_of_getElem? (i := 685) (by decide +kernel)) rfl
set_option maxRecDepth 40000 in
theorem mw_686 : Cond.code yX4_areMet cX4_areMet 4 (some .boolean) ∈ pw_BW := pw_bw (List.mem_of_getElem? (i := 686) (by rfl)) rfl
theorem mw_687 : Cond.methodLink RX4 42 yX4_nearestBeyond ∈ pw_BW := pw_bw (List.mem_of_getElem? (i := 687) (by decide +kernel)) rfl
theorem mw_689 : Cond.instanceMethod yX4_nearestBeyond ∈ pw_BW := pw_bw (List.mem_of_getElem? (i := 689) (by decide +kernel)) rfl
set_option maxRecDepth 40000 in
theorem mw_690 : Cond.code yX4_nearestBeyond cX4_nearestBeyond 8 (some .int) ∈ pw_BW := pw_bw (List.mem_of_getElem? (i := 690) (by rfl)) rfl
theorem mw_691 : Cond.methodLink RX4 46 yX6_down ∈ pw_BW := pw_bw (List.mem_of_getElem? (i := 691) (by decide +kernel)) rfl
theorem mw_692 : Cond.instanceMethod yX6_down ∈ pw_BW := pw_bw (List.mem_of_getElem? (i := 692) (by decide +kernel)) rfl
theorem mw_693 : Cond.selects RX6 yX6_down yX6_down ∈ pw_BW := pw_bw (List.mem_of_getElem? (i := 693) (by decide +kernel)) rfl
set_option maxRecDepth 40000 in
theorem mw_694 : Cond.code yX6_down cX6_down 4 (some .int) ∈ pw_BW := pw_bw (List.mem_of_getElem? (i := 694) (by rfl)) rfl
theorem mw_695 : Cond.methodLink RX4 49 yX6_combine ∈ pw_BW := pw_bw (List.mem_of_getElem? (i := 695) (by decide +kernel)) rfl
theorem mw_696 : Cond.methodLink RX10 262 yX4_areJoined ∈ pw_BW := pw_bw (List.mem_of_getElem? (i := 696) (by decide +kernel)) rfl
theorem mw_697 : Cond.instanceMethod yX4_areJoined ∈ pw_BW := pw_bw (List.mem_of_getElem? (i := 697) (by decide +kernel)) rfl
theorem mw_698 : Cond.selects RX4 yX4_areJoined yX4_areJoined ∈ pw_BW := pw_bw (List.mem_of_getElem? (i := 698) (by decide +kernel)) rfl
set_option maxRecDepth 40000 in
theorem mw_699 : Cond.code yX4_areJoined cX4_areJoined 4 (some .boolean) ∈ pw_BW := pw_bw (List.mem_of_getElem? (i := 699) (by rfl)) rfl
theorem mw_700 : Cond.methodLink RL 147 yX10_before ∈ pw_BW := pw_bw (List.mem_of_getElem? (i := 700) (by decide +kernel)) rfl
theorem mw_701 : Cond.instanceMethod yX10_before ∈ pw_BW := pw_bw (List.mem_of_getElem? (i := 701) (by decide +kernel)) rfl
theorem mw_702 : Cond.selects RX10 yX10_before yX10_before ∈ pw_BW := pw_bw (List.mem_of_getElem? (i := 702) (by decide +kernel)) rfl
set_option maxRecDepth 40000 in
theorem mw_703 : Cond.code yX10_before cX10_before 5 (some .int) ∈ pw_BW := pw_bw (List.mem_of_getElem? (i := 703) (by rfl)) rfl
theorem mw_704 : Cond.methodLink RX10 265 yX9_fillUntil ∈ pw_BW := pw_bw (List.mem_of_getElem? (i := 704) (by decide +kernel)) rfl
theorem mw_705 : Cond.instanceMethod yX9_fillUntil ∈ pw_BW := pw_bw (List.mem_of_getElem? (i := 705) (by decide +kernel)) rfl
theorem mw_706 : Cond.selects RX9 yX9_fillUntil yX9_fillUntil ∈ pw_BW := pw_bw (List.mem_of_getElem? (i := 706) (by decide +kernel)) rfl
set_option maxRecDepth 40000 in
theorem mw_707 : Cond.code yX9_fillUntil cX9_fillUntil 8 (some .long) ∈ pw_BW := pw_bw (List.mem_of_getElem? (i := 707) (by rfl)) rfl
theorem mw_708 : Cond.methodLink RX9 32 yX5_worth ∈ pw_BW := pw_bw (List.mem_of_getElem? (i := 708) (by decide +kernel)) rfl
theorem mw_709 : Cond.methodLink RL 151 yX10_say ∈ pw_BW := pw_bw (List.mem_of_getElem? (i := 709) (by decide +kernel)) rfl
theorem mw_710 : Cond.instanceMethod yX10_say ∈ pw_BW := pw_bw (List.mem_of_getElem? (i := 710) (by decide +kernel)) rfl
theorem mw_711 : Cond.selects RX10 yX10_say yX10_say ∈ pw_BW := pw_bw (List.mem_of_getElem? (i := 711) (by decide +kernel)) rfl
set_option maxRecDepth 40000 in
theorem mw_712 : Cond.code yX10_say cX10_say 2 (some .int) ∈ pw_BW := pw_bw (List.mem_of_getElem? (i := 712) (by rfl)) rfl
theorem mw_713 : Cond.methodLink RX10 272 yX8_append ∈ pw_BW := pw_bw (List.mem_of_getElem? (i := 713) (by decide +kernel)) rfl
theorem mw_714 : Cond.instanceMethod yX8_append ∈ pw_BW := pw_bw (List.mem_of_getElem? (i := 714) (by decide +kernel)) rfl
theorem mw_715 : Cond.selects RX8 yX8_append yX8_append ∈ pw_BW := pw_bw (List.mem_of_getElem? (i := 715) (by decide +kernel)) rfl
set_option maxRecDepth 40000 in
theorem mw_716 : Cond.code yX8_append cX8_append 2 (some .int) ∈ pw_BW := pw_bw (List.mem_of_getElem? (i := 716) (by rfl)) rfl
theorem mw_717 : Cond.methodLink RL 155 yX10_check ∈ pw_BW := pw_bw (List.mem_of_getElem? (i := 717) (by decide +kernel)) rfl
theorem mw_718 : Cond.instanceMethod yX10_check ∈ pw_BW := pw_bw (List.mem_of_getElem? (i := 718) (by decide +kernel)) rfl
theorem mw_719 : Cond.selects RX10 yX10_check yX10_check ∈ pw_BW := pw_bw (List.mem_of_getElem? (i := 719) (by decide +kernel)) rfl
set_option maxRecDepth 40000 in
theorem mw_720 : Cond.code yX10_check cX10_check 3 (some .int) ∈ pw_BW := pw_bw (List.mem_of_getElem? (i := 720) (by rfl)) rfl
theorem mw_721 : Cond.methodLink RX10 275 yX8_rightPlaces ∈ pw_BW := pw_bw (List.mem_of_getElem? (i := 721) (by decide +kernel)) rfl
theorem mw_722 : Cond.instanceMethod yX8_rightPlaces ∈ pw_BW := pw_bw (List.mem_of_getElem? (i := 722) (by decide +kernel)) rfl
theorem mw_723 : Cond.selects RX8 yX8_rightPlaces yX8_rightPlaces ∈ pw_BW := pw_bw (List.mem_of_getElem? (i := 723) (by decide +kernel)) rfl
set_option maxRecDepth 40000 in
theorem mw_724 : Cond.code yX8_rightPlaces cX8_rightPlaces 4 (some .int) ∈ pw_BW := pw_bw (List.mem_of_getElem? (i := 724) (by rfl)) rfl
theorem mw_725 : Cond.methodLink RX8 19 yX6_up ∈ pw_BW := pw_bw (List.mem_of_getElem? (i := 725) (by decide +kernel)) rfl
theorem mw_726 : Cond.methodLink RL 159 yX10_passes ∈ pw_BW := pw_bw (List.mem_of_getElem? (i := 726) (by decide +kernel)) rfl
theorem mw_727 : Cond.instanceMethod yX10_passes ∈ pw_BW := pw_bw (List.mem_of_getElem? (i := 727) (by decide +kernel)) rfl
theorem mw_728 : Cond.selects RX10 yX10_passes yX10_passes ∈ pw_BW := pw_bw (List.mem_of_getElem? (i := 728) (by decide +kernel)) rfl
set_option maxRecDepth 40000 in
theorem mw_729 : Cond.code yX10_passes cX10_passes 2 (some .int) ∈ pw_BW := pw_bw (List.mem_of_getElem? (i := 729) (by rfl)) rfl
theorem mw_730 : Cond.methodLink RX10 279 yX8_firstAt ∈ pw_BW := pw_bw (List.mem_of_getElem? (i := 730) (by decide +kernel)) rfl
theorem mw_731 : Cond.instanceMethod yX8_firstAt ∈ pw_BW := pw_bw (List.mem_of_getElem? (i := 731) (by decide +kernel)) rfl
theorem mw_732 : Cond.selects RX8 yX8_firstAt yX8_firstAt ∈ pw_BW := pw_bw (List.mem_of_getElem? (i := 732) (by decide +kernel)) rfl
set_option maxRecDepth 40000 in
theorem mw_733 : Cond.code yX8_firstAt cX8_firstAt 5 (some .int) ∈ pw_BW := pw_bw (List.mem_of_getElem? (i := 733) (by rfl)) rfl
theorem mw_734 : Cond.methodLink RX8 25 yX5_worth ∈ pw_BW := pw_bw (List.mem_of_getElem? (i := 734) (by decide +kernel)) rfl
theorem mw_736 : Cond.methodLink RL 163 yX10_count ∈ pw_BW := pw_bw (List.mem_of_getElem? (i := 736) (by decide +kernel)) rfl
theorem mw_737 : Cond.instanceMethod yX10_count ∈ pw_BW := pw_bw (List.mem_of_getElem? (i := 737) (by decide +kernel)) rfl
theorem mw_738 : Cond.selects RX10 yX10_count yX10_count ∈ pw_BW := pw_bw (List.mem_of_getElem? (i := 738) (by decide +kernel)) rfl
set_option maxRecDepth 40000 in
theorem mw_739 : Cond.code yX10_count cX10_count 2 (some .int) ∈ pw_BW := pw_bw (List.mem_of_getElem? (i := 739) (by rfl)) rfl
theorem mw_740 : Cond.methodLink RX10 284 yX3_howManyUntaken ∈ pw_BW := pw_bw (List.mem_of_getElem? (i := 740) (by decide +kernel)) rfl
theorem mw_741 : Cond.instanceMethod yX3_howManyUntaken ∈ pw_BW := pw_bw (List.mem_of_getElem? (i := 741) (by decide +kernel)) rfl
theorem mw_742 : Cond.selects RX3 yX3_howManyUntaken yX3_howManyUntaken ∈ pw_BW := pw_bw (List.mem_of_getElem? (i := 742) (by decide +kernel)) rfl
set_option maxRecDepth 40000 in
theorem mw_743 : Cond.code yX3_howManyUntaken cX3_howManyUntaken 3 (some .int) ∈ pw_BW := pw_bw (List.mem_of_getElem? (i := 743) (by rfl)) rfl
theorem mw_746 : Cond.methodLink RL 12 yX11_init ∈ pw_BW := pw_bw (List.mem_of_getElem? (i := 746) (by decide +kernel)) rfl
theorem mw_747 : Cond.instanceMethod yX11_init ∈ pw_BW := pw_bw (List.mem_of_getElem? (i := 747) (by decide +kernel)) rfl
set_option maxRecDepth 40000 in
theorem mw_748 : Cond.code yX11_init cX11_init 1 none ∈ pw_BW := pw_bw (List.mem_of_getElem? (i := 748) (by rfl)) rfl
theorem mw_750 : Cond.fieldLink RX11 76 "PerhapsWasModel" "processes" "I" ∈ pw_BW := pw_bw (List.mem_of_getElem? (i := 750) (by decide +kernel)) rfl
theorem mw_751 : Cond.fieldLink RX11 7 "PerhapsWasModel" "events" "[I" ∈ pw_BW := pw_bw (List.mem_of_getElem? (i := 751) (by decide +kernel)) rfl
theorem mw_752 : Cond.fieldLink RX11 13 "PerhapsWasModel" "kind" "[I" ∈ pw_BW := pw_bw (List.mem_of_getElem? (i := 752) (by decide +kernel)) rfl
theorem mw_753 : Cond.fieldLink RX11 16 "PerhapsWasModel" "about" "[I" ∈ pw_BW := pw_bw (List.mem_of_getElem? (i := 753) (by decide +kernel)) rfl
theorem mw_754 : Cond.fieldLink RX11 19 "PerhapsWasModel" "worth" "[I" ∈ pw_BW := pw_bw (List.mem_of_getElem? (i := 754) (by decide +kernel)) rfl
theorem mw_755 : Cond.fieldLink RX11 22 "PerhapsWasModel" "came" "[I" ∈ pw_BW := pw_bw (List.mem_of_getElem? (i := 755) (by decide +kernel)) rfl
theorem mw_756 : Cond.fieldLink RX11 25 "PerhapsWasModel" "clock" "[I" ∈ pw_BW := pw_bw (List.mem_of_getElem? (i := 756) (by decide +kernel)) rfl
theorem mw_757 : Cond.fieldLink RX11 87 "PerhapsWasModel" "all" "I" ∈ pw_BW := pw_bw (List.mem_of_getElem? (i := 757) (by decide +kernel)) rfl
theorem mw_758 : Cond.fieldLink RX11 94 "PerhapsWasModel" "letters" "I" ∈ pw_BW := pw_bw (List.mem_of_getElem? (i := 758) (by decide +kernel)) rfl
theorem mw_759 : Cond.fieldLink RX11 28 "PerhapsWasModel" "from" "[I" ∈ pw_BW := pw_bw (List.mem_of_getElem? (i := 759) (by decide +kernel)) rfl
theorem mw_760 : Cond.fieldLink RX11 31 "PerhapsWasModel" "to" "[I" ∈ pw_BW := pw_bw (List.mem_of_getElem? (i := 760) (by decide +kernel)) rfl
theorem mw_761 : Cond.fieldLink RX11 34 "PerhapsWasModel" "sent" "[I" ∈ pw_BW := pw_bw (List.mem_of_getElem? (i := 761) (by decide +kernel)) rfl
theorem mw_762 : Cond.fieldLink RX11 37 "PerhapsWasModel" "took" "[I" ∈ pw_BW := pw_bw (List.mem_of_getElem? (i := 762) (by decide +kernel)) rfl
theorem mw_763 : Cond.fieldLink RX11 40 "PerhapsWasModel" "barred" "[Z" ∈ pw_BW := pw_bw (List.mem_of_getElem? (i := 763) (by decide +kernel)) rfl
theorem mw_764 : Cond.fieldLink RX11 44 "PerhapsWasModel" "ways" "[J" ∈ pw_BW := pw_bw (List.mem_of_getElem? (i := 764) (by decide +kernel)) rfl
theorem mw_765 : Cond.fieldLink RX11 48 "PerhapsWasModel" "what" "[I" ∈ pw_BW := pw_bw (List.mem_of_getElem? (i := 765) (by decide +kernel)) rfl
theorem mw_766 : Cond.fieldLink RX11 51 "PerhapsWasModel" "partA" "[I" ∈ pw_BW := pw_bw (List.mem_of_getElem? (i := 766) (by decide +kernel)) rfl
theorem mw_767 : Cond.fieldLink RX11 54 "PerhapsWasModel" "partB" "[I" ∈ pw_BW := pw_bw (List.mem_of_getElem? (i := 767) (by decide +kernel)) rfl
theorem mw_768 : Cond.fieldLink RX11 57 "PerhapsWasModel" "parts" "[I" ∈ pw_BW := pw_bw (List.mem_of_getElem? (i := 768) (by decide +kernel)) rfl
theorem mw_769 : Cond.fieldLink RX11 152 "PerhapsWasModel" "conditions" "I" ∈ pw_BW := pw_bw (List.mem_of_getElem? (i := 769) (by decide +kernel)) rfl
theorem mw_770 : Cond.fieldLink RX11 142 "PerhapsWasModel" "piled" "I" ∈ pw_BW := pw_bw (List.mem_of_getElem? (i := 770) (by decide +kernel)) rfl
theorem mw_771 : Cond.fieldLink RX11 164 "PerhapsWasModel" "status" "I" ∈ pw_BW := pw_bw (List.mem_of_getElem? (i := 771) (by decide +kernel)) rfl
theorem mw_772 : Cond.fieldLink RX11 60 "PerhapsWasModel" "pile" "[I" ∈ pw_BW := pw_bw (List.mem_of_getElem? (i := 772) (by decide +kernel)) rfl
theorem mw_773 : Cond.fieldLink RX11 63 "PerhapsWasModel" "holds" "[Z" ∈ pw_BW := pw_bw (List.mem_of_getElem? (i := 773) (by decide +kernel)) rfl
theorem mw_774 : Cond.fieldLink RX11 66 "PerhapsWasModel" "come" "[Z" ∈ pw_BW := pw_bw (List.mem_of_getElem? (i := 774) (by decide +kernel)) rfl
theorem mw_775 : Cond.fieldLink RX11 69 "PerhapsWasModel" "said" "[I" ∈ pw_BW := pw_bw (List.mem_of_getElem? (i := 775) (by decide +kernel)) rfl
theorem mw_776 : Cond.fieldLink RX11 190 "PerhapsWasModel" "saids" "I" ∈ pw_BW := pw_bw (List.mem_of_getElem? (i := 776) (by decide +kernel)) rfl
theorem mw_834 : Cond.methodLink RL 17 yX11_process ∈ pw_BW := pw_bw (List.mem_of_getElem? (i := 834) (by decide +kernel)) rfl
theorem mw_835 : Cond.instanceMethod yX11_process ∈ pw_BW := pw_bw (List.mem_of_getElem? (i := 835) (by decide +kernel)) rfl
theorem mw_836 : Cond.selects RX11 yX11_process yX11_process ∈ pw_BW := pw_bw (List.mem_of_getElem? (i := 836) (by decide +kernel)) rfl
set_option maxRecDepth 40000 in
theorem mw_837 : Cond.code yX11_process cX11_process 1 (some .int) ∈ pw_BW := pw_bw (List.mem_of_getElem? (i := 837) (by rfl)) rfl
theorem mw_838 : Cond.methodLink RL 22 yX11_own ∈ pw_BW := pw_bw (List.mem_of_getElem? (i := 838) (by decide +kernel)) rfl
theorem mw_839 : Cond.instanceMethod yX11_own ∈ pw_BW := pw_bw (List.mem_of_getElem? (i := 839) (by decide +kernel)) rfl
theorem mw_840 : Cond.selects RX11 yX11_own yX11_own ∈ pw_BW := pw_bw (List.mem_of_getElem? (i := 840) (by decide +kernel)) rfl
set_option maxRecDepth 40000 in
theorem mw_841 : Cond.code yX11_own cX11_own 6 (some .int) ∈ pw_BW := pw_bw (List.mem_of_getElem? (i := 841) (by rfl)) rfl
theorem mw_842 : Cond.methodLink RX11 83 yX11_isProcess ∈ pw_BW := pw_bw (List.mem_of_getElem? (i := 842) (by decide +kernel)) rfl
theorem mw_844 : Cond.instanceMethod yX11_isProcess ∈ pw_BW := pw_bw (List.mem_of_getElem? (i := 844) (by decide +kernel)) rfl
set_option maxRecDepth 40000 in
theorem mw_845 : Cond.code yX11_isProcess cX11_isProcess 2 (some .boolean) ∈ pw_BW := pw_bw (List.mem_of_getElem? (i := 845) (by rfl)) rfl
theorem mw_846 : Cond.methodLink RX11 79 yX11_in ∈ pw_BW := pw_bw (List.mem_of_getElem? (i := 846) (by decide +kernel)) rfl
theorem mw_847 : Cond.static yX11_in ∈ pw_BW := pw_bw (List.mem_of_getElem? (i := 847) (by decide +kernel)) rfl
set_option maxRecDepth 40000 in
theorem mw_848 : Cond.code yX11_in cX11_in 3 (some .boolean) ∈ pw_BW := pw_bw (List.mem_of_getElem? (i := 848) (by rfl)) rfl
theorem mw_849 : Cond.methodLink RX11 90 yX11_comes ∈ pw_BW := pw_bw (List.mem_of_getElem? (i := 849) (by decide +kernel)) rfl
theorem mw_851 : Cond.instanceMethod yX11_comes ∈ pw_BW := pw_bw (List.mem_of_getElem? (i := 851) (by decide +kernel)) rfl
set_option maxRecDepth 40000 in
theorem mw_852 : Cond.code yX11_comes cX11_comes 7 (some .int) ∈ pw_BW := pw_bw (List.mem_of_getElem? (i := 852) (by rfl)) rfl
theorem mw_853 : Cond.methodLink RL 27 yX11_send ∈ pw_BW := pw_bw (List.mem_of_getElem? (i := 853) (by decide +kernel)) rfl
theorem mw_854 : Cond.instanceMethod yX11_send ∈ pw_BW := pw_bw (List.mem_of_getElem? (i := 854) (by decide +kernel)) rfl
theorem mw_855 : Cond.selects RX11 yX11_send yX11_send ∈ pw_BW := pw_bw (List.mem_of_getElem? (i := 855) (by decide +kernel)) rfl
set_option maxRecDepth 40000 in
theorem mw_856 : Cond.code yX11_send cX11_send 4 (some .int) ∈ pw_BW := pw_bw (List.mem_of_getElem? (i := 856) (by rfl)) rfl
theorem mw_857 : Cond.methodLink RL 32 yX11_take ∈ pw_BW := pw_bw (List.mem_of_getElem? (i := 857) (by decide +kernel)) rfl
theorem mw_858 : Cond.instanceMethod yX11_take ∈ pw_BW := pw_bw (List.mem_of_getElem? (i := 858) (by decide +kernel)) rfl
theorem mw_859 : Cond.selects RX11 yX11_take yX11_take ∈ pw_BW := pw_bw (List.mem_of_getElem? (i := 859) (by decide +kernel)) rfl
set_option maxRecDepth 40000 in
theorem mw_860 : Cond.code yX11_take cX11_take 4 (some .int) ∈ pw_BW := pw_bw (List.mem_of_getElem? (i := 860) (by rfl)) rfl
theorem mw_861 : Cond.methodLink RX11 97 yX11_joins ∈ pw_BW := pw_bw (List.mem_of_getElem? (i := 861) (by decide +kernel)) rfl
theorem mw_863 : Cond.instanceMethod yX11_joins ∈ pw_BW := pw_bw (List.mem_of_getElem? (i := 863) (by decide +kernel)) rfl
set_option maxRecDepth 40000 in
theorem mw_864 : Cond.code yX11_joins cX11_joins 4 none ∈ pw_BW := pw_bw (List.mem_of_getElem? (i := 864) (by rfl)) rfl
theorem mw_865 : Cond.methodLink RL 36 yX11_wait ∈ pw_BW := pw_bw (List.mem_of_getElem? (i := 865) (by decide +kernel)) rfl
theorem mw_866 : Cond.instanceMethod yX11_wait ∈ pw_BW := pw_bw (List.mem_of_getElem? (i := 866) (by decide +kernel)) rfl
theorem mw_867 : Cond.selects RX11 yX11_wait yX11_wait ∈ pw_BW := pw_bw (List.mem_of_getElem? (i := 867) (by decide +kernel)) rfl
set_option maxRecDepth 40000 in
theorem mw_868 : Cond.code yX11_wait cX11_wait 4 (some .int) ∈ pw_BW := pw_bw (List.mem_of_getElem? (i := 868) (by rfl)) rfl
theorem mw_869 : Cond.methodLink RL 40 yX11_undo ∈ pw_BW := pw_bw (List.mem_of_getElem? (i := 869) (by decide +kernel)) rfl
theorem mw_870 : Cond.instanceMethod yX11_undo ∈ pw_BW := pw_bw (List.mem_of_getElem? (i := 870) (by decide +kernel)) rfl
theorem mw_871 : Cond.selects RX11 yX11_undo yX11_undo ∈ pw_BW := pw_bw (List.mem_of_getElem? (i := 871) (by decide +kernel)) rfl
set_option maxRecDepth 40000 in
theorem mw_872 : Cond.code yX11_undo cX11_undo 3 (some .int) ∈ pw_BW := pw_bw (List.mem_of_getElem? (i := 872) (by rfl)) rfl
theorem mw_873 : Cond.methodLink RL 45 yX11_event ∈ pw_BW := pw_bw (List.mem_of_getElem? (i := 873) (by decide +kernel)) rfl
theorem mw_874 : Cond.instanceMethod yX11_event ∈ pw_BW := pw_bw (List.mem_of_getElem? (i := 874) (by decide +kernel)) rfl
theorem mw_875 : Cond.selects RX11 yX11_event yX11_event ∈ pw_BW := pw_bw (List.mem_of_getElem? (i := 875) (by decide +kernel)) rfl
set_option maxRecDepth 40000 in
theorem mw_876 : Cond.code yX11_event cX11_event 5 (some .int) ∈ pw_BW := pw_bw (List.mem_of_getElem? (i := 876) (by rfl)) rfl
theorem mw_877 : Cond.methodLink RX11 101 yX11_isEvent ∈ pw_BW := pw_bw (List.mem_of_getElem? (i := 877) (by decide +kernel)) rfl
theorem mw_879 : Cond.instanceMethod yX11_isEvent ∈ pw_BW := pw_bw (List.mem_of_getElem? (i := 879) (by decide +kernel)) rfl
set_option maxRecDepth 40000 in
theorem mw_880 : Cond.code yX11_isEvent cX11_isEvent 3 (some .boolean) ∈ pw_BW := pw_bw (List.mem_of_getElem? (i := 880) (by rfl)) rfl
theorem mw_881 : Cond.methodLink RL 49 yX11_letter ∈ pw_BW := pw_bw (List.mem_of_getElem? (i := 881) (by decide +kernel)) rfl
theorem mw_882 : Cond.instanceMethod yX11_letter ∈ pw_BW := pw_bw (List.mem_of_getElem? (i := 882) (by decide +kernel)) rfl
theorem mw_883 : Cond.selects RX11 yX11_letter yX11_letter ∈ pw_BW := pw_bw (List.mem_of_getElem? (i := 883) (by decide +kernel)) rfl
set_option maxRecDepth 40000 in
theorem mw_884 : Cond.code yX11_letter cX11_letter 3 (some .int) ∈ pw_BW := pw_bw (List.mem_of_getElem? (i := 884) (by rfl)) rfl
theorem mw_885 : Cond.methodLink RL 53 yX11_ahead ∈ pw_BW := pw_bw (List.mem_of_getElem? (i := 885) (by decide +kernel)) rfl
theorem mw_886 : Cond.instanceMethod yX11_ahead ∈ pw_BW := pw_bw (List.mem_of_getElem? (i := 886) (by decide +kernel)) rfl
theorem mw_887 : Cond.selects RX11 yX11_ahead yX11_ahead ∈ pw_BW := pw_bw (List.mem_of_getElem? (i := 887) (by decide +kernel)) rfl
set_option maxRecDepth 40000 in
theorem mw_888 : Cond.code yX11_ahead cX11_ahead 5 (some .int) ∈ pw_BW := pw_bw (List.mem_of_getElem? (i := 888) (by rfl)) rfl
theorem mw_889 : Cond.methodLink RL 57 yX11_clock ∈ pw_BW := pw_bw (List.mem_of_getElem? (i := 889) (by decide +kernel)) rfl
theorem mw_890 : Cond.instanceMethod yX11_clock ∈ pw_BW := pw_bw (List.mem_of_getElem? (i := 890) (by decide +kernel)) rfl
theorem mw_891 : Cond.selects RX11 yX11_clock yX11_clock ∈ pw_BW := pw_bw (List.mem_of_getElem? (i := 891) (by decide +kernel)) rfl
set_option maxRecDepth 40000 in
theorem mw_892 : Cond.code yX11_clock cX11_clock 4 (some .int) ∈ pw_BW := pw_bw (List.mem_of_getElem? (i := 892) (by rfl)) rfl
theorem mw_893 : Cond.methodLink RL 61 yX11_possible ∈ pw_BW := pw_bw (List.mem_of_getElem? (i := 893) (by decide +kernel)) rfl
theorem mw_894 : Cond.instanceMethod yX11_possible ∈ pw_BW := pw_bw (List.mem_of_getElem? (i := 894) (by decide +kernel)) rfl
theorem mw_895 : Cond.selects RX11 yX11_possible yX11_possible ∈ pw_BW := pw_bw (List.mem_of_getElem? (i := 895) (by decide +kernel)) rfl
set_option maxRecDepth 40000 in
theorem mw_896 : Cond.code yX11_possible cX11_possible 2 (some .int) ∈ pw_BW := pw_bw (List.mem_of_getElem? (i := 896) (by rfl)) rfl
theorem mw_897 : Cond.methodLink RX11 113 yX11_isCut ∈ pw_BW := pw_bw (List.mem_of_getElem? (i := 897) (by decide +kernel)) rfl
theorem mw_899 : Cond.instanceMethod yX11_isCut ∈ pw_BW := pw_bw (List.mem_of_getElem? (i := 899) (by decide +kernel)) rfl
set_option maxRecDepth 40000 in
theorem mw_900 : Cond.code yX11_isCut cX11_isCut 3 (some .boolean) ∈ pw_BW := pw_bw (List.mem_of_getElem? (i := 900) (by rfl)) rfl
theorem mw_901 : Cond.methodLink RX11 109 yX11_part ∈ pw_BW := pw_bw (List.mem_of_getElem? (i := 901) (by decide +kernel)) rfl
theorem mw_902 : Cond.static yX11_part ∈ pw_BW := pw_bw (List.mem_of_getElem? (i := 902) (by decide +kernel)) rfl
set_option maxRecDepth 40000 in
theorem mw_903 : Cond.code yX11_part cX11_part 2 (some .int) ∈ pw_BW := pw_bw (List.mem_of_getElem? (i := 903) (by rfl)) rfl
theorem mw_904 : Cond.methodLink RX11 105 yX11_unit ∈ pw_BW := pw_bw (List.mem_of_getElem? (i := 904) (by decide +kernel)) rfl
theorem mw_905 : Cond.static yX11_unit ∈ pw_BW := pw_bw (List.mem_of_getElem? (i := 905) (by decide +kernel)) rfl
set_option maxRecDepth 40000 in
theorem mw_906 : Cond.code yX11_unit cX11_unit 1 (some .int) ∈ pw_BW := pw_bw (List.mem_of_getElem? (i := 906) (by rfl)) rfl
theorem mw_907 : Cond.methodLink RX11 116 yX11_isPossible ∈ pw_BW := pw_bw (List.mem_of_getElem? (i := 907) (by decide +kernel)) rfl
theorem mw_909 : Cond.instanceMethod yX11_isPossible ∈ pw_BW := pw_bw (List.mem_of_getElem? (i := 909) (by decide +kernel)) rfl
set_option maxRecDepth 40000 in
theorem mw_910 : Cond.code yX11_isPossible cX11_isPossible 5 (some .boolean) ∈ pw_BW := pw_bw (List.mem_of_getElem? (i := 910) (by rfl)) rfl
theorem mw_911 : Cond.methodLink RL 65 yX11_cuts ∈ pw_BW := pw_bw (List.mem_of_getElem? (i := 911) (by decide +kernel)) rfl
theorem mw_912 : Cond.instanceMethod yX11_cuts ∈ pw_BW := pw_bw (List.mem_of_getElem? (i := 912) (by decide +kernel)) rfl
theorem mw_913 : Cond.selects RX11 yX11_cuts yX11_cuts ∈ pw_BW := pw_bw (List.mem_of_getElem? (i := 913) (by decide +kernel)) rfl
set_option maxRecDepth 40000 in
theorem mw_914 : Cond.code yX11_cuts cX11_cuts 4 (some .int) ∈ pw_BW := pw_bw (List.mem_of_getElem? (i := 914) (by rfl)) rfl
theorem mw_915 : Cond.methodLink RX11 119 yX11_sizeOf ∈ pw_BW := pw_bw (List.mem_of_getElem? (i := 915) (by decide +kernel)) rfl
theorem mw_916 : Cond.static yX11_sizeOf ∈ pw_BW := pw_bw (List.mem_of_getElem? (i := 916) (by decide +kernel)) rfl
set_option maxRecDepth 40000 in
theorem mw_917 : Cond.code yX11_sizeOf cX11_sizeOf 3 (some .int) ∈ pw_BW := pw_bw (List.mem_of_getElem? (i := 917) (by rfl)) rfl
theorem mw_918 : Cond.methodLink RL 69 yX11_next ∈ pw_BW := pw_bw (List.mem_of_getElem? (i := 918) (by decide +kernel)) rfl
theorem mw_919 : Cond.instanceMethod yX11_next ∈ pw_BW := pw_bw (List.mem_of_getElem? (i := 919) (by decide +kernel)) rfl
theorem mw_920 : Cond.selects RX11 yX11_next yX11_next ∈ pw_BW := pw_bw (List.mem_of_getElem? (i := 920) (by decide +kernel)) rfl
set_option maxRecDepth 40000 in
theorem mw_921 : Cond.code yX11_next cX11_next 6 (some .int) ∈ pw_BW := pw_bw (List.mem_of_getElem? (i := 921) (by rfl)) rfl
theorem mw_922 : Cond.methodLink RL 73 yX11_join ∈ pw_BW := pw_bw (List.mem_of_getElem? (i := 922) (by decide +kernel)) rfl
theorem mw_923 : Cond.instanceMethod yX11_join ∈ pw_BW := pw_bw (List.mem_of_getElem? (i := 923) (by decide +kernel)) rfl
theorem mw_924 : Cond.selects RX11 yX11_join yX11_join ∈ pw_BW := pw_bw (List.mem_of_getElem? (i := 924) (by decide +kernel)) rfl
set_option maxRecDepth 40000 in
theorem mw_925 : Cond.code yX11_join cX11_join 4 (some .int) ∈ pw_BW := pw_bw (List.mem_of_getElem? (i := 925) (by rfl)) rfl
theorem mw_926 : Cond.methodLink RX11 122 yX11_joined ∈ pw_BW := pw_bw (List.mem_of_getElem? (i := 926) (by decide +kernel)) rfl
theorem mw_927 : Cond.static yX11_joined ∈ pw_BW := pw_bw (List.mem_of_getElem? (i := 927) (by decide +kernel)) rfl
set_option maxRecDepth 40000 in
theorem mw_928 : Cond.code yX11_joined cX11_joined 7 (some .int) ∈ pw_BW := pw_bw (List.mem_of_getElem? (i := 928) (by rfl)) rfl
theorem mw_929 : Cond.methodLink RL 77 yX11_least ∈ pw_BW := pw_bw (List.mem_of_getElem? (i := 929) (by decide +kernel)) rfl
theorem mw_930 : Cond.instanceMethod yX11_least ∈ pw_BW := pw_bw (List.mem_of_getElem? (i := 930) (by decide +kernel)) rfl
theorem mw_931 : Cond.selects RX11 yX11_least yX11_least ∈ pw_BW := pw_bw (List.mem_of_getElem? (i := 931) (by decide +kernel)) rfl
set_option maxRecDepth 40000 in
theorem mw_932 : Cond.code yX11_least cX11_least 5 (some .int) ∈ pw_BW := pw_bw (List.mem_of_getElem? (i := 932) (by rfl)) rfl
theorem mw_933 : Cond.methodLink RL 82 yX11_orders ∈ pw_BW := pw_bw (List.mem_of_getElem? (i := 933) (by decide +kernel)) rfl
theorem mw_934 : Cond.instanceMethod yX11_orders ∈ pw_BW := pw_bw (List.mem_of_getElem? (i := 934) (by decide +kernel)) rfl
theorem mw_935 : Cond.selects RX11 yX11_orders yX11_orders ∈ pw_BW := pw_bw (List.mem_of_getElem? (i := 935) (by decide +kernel)) rfl
set_option maxRecDepth 40000 in
theorem mw_936 : Cond.code yX11_orders cX11_orders 1 (some .long) ∈ pw_BW := pw_bw (List.mem_of_getElem? (i := 936) (by rfl)) rfl
theorem mw_937 : Cond.methodLink RX11 132 yX11_open ∈ pw_BW := pw_bw (List.mem_of_getElem? (i := 937) (by decide +kernel)) rfl
theorem mw_939 : Cond.instanceMethod yX11_open ∈ pw_BW := pw_bw (List.mem_of_getElem? (i := 939) (by decide +kernel)) rfl
set_option maxRecDepth 40000 in
theorem mw_940 : Cond.code yX11_open cX11_open 2 none ∈ pw_BW := pw_bw (List.mem_of_getElem? (i := 940) (by rfl)) rfl
theorem mw_941 : Cond.methodLink RX11 135 yX11_count ∈ pw_BW := pw_bw (List.mem_of_getElem? (i := 941) (by decide +kernel)) rfl
theorem mw_943 : Cond.instanceMethod yX11_count ∈ pw_BW := pw_bw (List.mem_of_getElem? (i := 943) (by decide +kernel)) rfl
set_option maxRecDepth 40000 in
theorem mw_944 : Cond.code yX11_count cX11_count 4 none ∈ pw_BW := pw_bw (List.mem_of_getElem? (i := 944) (by rfl)) rfl
theorem mw_945 : Cond.methodLink RX11 126 yX11_whole ∈ pw_BW := pw_bw (List.mem_of_getElem? (i := 945) (by decide +kernel)) rfl
theorem mw_947 : Cond.instanceMethod yX11_whole ∈ pw_BW := pw_bw (List.mem_of_getElem? (i := 947) (by decide +kernel)) rfl
set_option maxRecDepth 40000 in
theorem mw_948 : Cond.code yX11_whole cX11_whole 3 (some .int) ∈ pw_BW := pw_bw (List.mem_of_getElem? (i := 948) (by rfl)) rfl
theorem mw_949 : Cond.constantLong RX11 130 (1000000000000000000 : Int64) ∈ pw_BW := pw_bw (List.mem_of_getElem? (i := 949) (by decide +kernel)) rfl
theorem mw_950 : Cond.methodLink RL 89 yX11_order ∈ pw_BW := pw_bw (List.mem_of_getElem? (i := 950) (by decide +kernel)) rfl
theorem mw_951 : Cond.instanceMethod yX11_order ∈ pw_BW := pw_bw (List.mem_of_getElem? (i := 951) (by decide +kernel)) rfl
theorem mw_952 : Cond.selects RX11 yX11_order yX11_order ∈ pw_BW := pw_bw (List.mem_of_getElem? (i := 952) (by decide +kernel)) rfl
set_option maxRecDepth 40000 in
theorem mw_953 : Cond.code yX11_order cX11_order 4 (some .int) ∈ pw_BW := pw_bw (List.mem_of_getElem? (i := 953) (by rfl)) rfl
theorem mw_954 : Cond.methodLink RX11 138 yX11_walk ∈ pw_BW := pw_bw (List.mem_of_getElem? (i := 954) (by decide +kernel)) rfl
theorem mw_956 : Cond.instanceMethod yX11_walk ∈ pw_BW := pw_bw (List.mem_of_getElem? (i := 956) (by decide +kernel)) rfl
set_option maxRecDepth 40000 in
theorem mw_957 : Cond.code yX11_walk cX11_walk 9 (some .int) ∈ pw_BW := pw_bw (List.mem_of_getElem? (i := 957) (by rfl)) rfl
theorem mw_958 : Cond.methodLink RL 93 yX11_number ∈ pw_BW := pw_bw (List.mem_of_getElem? (i := 958) (by decide +kernel)) rfl
theorem mw_959 : Cond.instanceMethod yX11_number ∈ pw_BW := pw_bw (List.mem_of_getElem? (i := 959) (by decide +kernel)) rfl
theorem mw_960 : Cond.selects RX11 yX11_number yX11_number ∈ pw_BW := pw_bw (List.mem_of_getElem? (i := 960) (by decide +kernel)) rfl
set_option maxRecDepth 40000 in
theorem mw_961 : Cond.code yX11_number cX11_number 2 (some .int) ∈ pw_BW := pw_bw (List.mem_of_getElem? (i := 961) (by rfl)) rfl
theorem mw_962 : Cond.methodLink RX11 145 yX11_push ∈ pw_BW := pw_bw (List.mem_of_getElem? (i := 962) (by decide +kernel)) rfl
theorem mw_964 : Cond.instanceMethod yX11_push ∈ pw_BW := pw_bw (List.mem_of_getElem? (i := 964) (by decide +kernel)) rfl
set_option maxRecDepth 40000 in
theorem mw_965 : Cond.code yX11_push cX11_push 5 (some .int) ∈ pw_BW := pw_bw (List.mem_of_getElem? (i := 965) (by rfl)) rfl
theorem mw_966 : Cond.methodLink RL 97 yX11_part_ ∈ pw_BW := pw_bw (List.mem_of_getElem? (i := 966) (by decide +kernel)) rfl
theorem mw_967 : Cond.instanceMethod yX11_part_ ∈ pw_BW := pw_bw (List.mem_of_getElem? (i := 967) (by decide +kernel)) rfl
theorem mw_968 : Cond.selects RX11 yX11_part_ yX11_part_ ∈ pw_BW := pw_bw (List.mem_of_getElem? (i := 968) (by decide +kernel)) rfl
set_option maxRecDepth 40000 in
theorem mw_969 : Cond.code yX11_part_ cX11_part_ 4 (some .int) ∈ pw_BW := pw_bw (List.mem_of_getElem? (i := 969) (by rfl)) rfl
theorem mw_970 : Cond.methodLink RL 101 yX11_op ∈ pw_BW := pw_bw (List.mem_of_getElem? (i := 970) (by decide +kernel)) rfl
theorem mw_971 : Cond.instanceMethod yX11_op ∈ pw_BW := pw_bw (List.mem_of_getElem? (i := 971) (by decide +kernel)) rfl
theorem mw_972 : Cond.selects RX11 yX11_op yX11_op ∈ pw_BW := pw_bw (List.mem_of_getElem? (i := 972) (by decide +kernel)) rfl
set_option maxRecDepth 40000 in
theorem mw_973 : Cond.code yX11_op cX11_op 7 (some .int) ∈ pw_BW := pw_bw (List.mem_of_getElem? (i := 973) (by rfl)) rfl
theorem mw_974 : Cond.methodLink RX11 149 yX11_copy ∈ pw_BW := pw_bw (List.mem_of_getElem? (i := 974) (by decide +kernel)) rfl
theorem mw_976 : Cond.instanceMethod yX11_copy ∈ pw_BW := pw_bw (List.mem_of_getElem? (i := 976) (by decide +kernel)) rfl
set_option maxRecDepth 40000 in
theorem mw_977 : Cond.code yX11_copy cX11_copy 5 none ∈ pw_BW := pw_bw (List.mem_of_getElem? (i := 977) (by rfl)) rfl
theorem mw_978 : Cond.methodLink RL 105 yX11_condition ∈ pw_BW := pw_bw (List.mem_of_getElem? (i := 978) (by decide +kernel)) rfl
theorem mw_979 : Cond.instanceMethod yX11_condition ∈ pw_BW := pw_bw (List.mem_of_getElem? (i := 979) (by decide +kernel)) rfl
theorem mw_980 : Cond.selects RX11 yX11_condition yX11_condition ∈ pw_BW := pw_bw (List.mem_of_getElem? (i := 980) (by decide +kernel)) rfl
set_option maxRecDepth 40000 in
theorem mw_981 : Cond.code yX11_condition cX11_condition 1 (some .int) ∈ pw_BW := pw_bw (List.mem_of_getElem? (i := 981) (by rfl)) rfl
theorem mw_982 : Cond.methodLink RL 109 yX11_clear ∈ pw_BW := pw_bw (List.mem_of_getElem? (i := 982) (by decide +kernel)) rfl
theorem mw_983 : Cond.instanceMethod yX11_clear ∈ pw_BW := pw_bw (List.mem_of_getElem? (i := 983) (by decide +kernel)) rfl
theorem mw_984 : Cond.selects RX11 yX11_clear yX11_clear ∈ pw_BW := pw_bw (List.mem_of_getElem? (i := 984) (by decide +kernel)) rfl
set_option maxRecDepth 40000 in
theorem mw_985 : Cond.code yX11_clear cX11_clear 3 (some .int) ∈ pw_BW := pw_bw (List.mem_of_getElem? (i := 985) (by rfl)) rfl
theorem mw_986 : Cond.methodLink RL 113 yX11_value ∈ pw_BW := pw_bw (List.mem_of_getElem? (i := 986) (by decide +kernel)) rfl
theorem mw_987 : Cond.instanceMethod yX11_value ∈ pw_BW := pw_bw (List.mem_of_getElem? (i := 987) (by decide +kernel)) rfl
theorem mw_988 : Cond.selects RX11 yX11_value yX11_value ∈ pw_BW := pw_bw (List.mem_of_getElem? (i := 988) (by decide +kernel)) rfl
set_option maxRecDepth 40000 in
theorem mw_989 : Cond.code yX11_value cX11_value 3 (some .int) ∈ pw_BW := pw_bw (List.mem_of_getElem? (i := 989) (by rfl)) rfl
theorem mw_990 : Cond.methodLink RX11 167 yX11_worthOf ∈ pw_BW := pw_bw (List.mem_of_getElem? (i := 990) (by decide +kernel)) rfl
theorem mw_992 : Cond.instanceMethod yX11_worthOf ∈ pw_BW := pw_bw (List.mem_of_getElem? (i := 992) (by decide +kernel)) rfl
set_option maxRecDepth 40000 in
theorem mw_993 : Cond.code yX11_worthOf cX11_worthOf 6 (some .int) ∈ pw_BW := pw_bw (List.mem_of_getElem? (i := 993) (by rfl)) rfl
theorem mw_994 : Cond.methodLink RX11 155 yX11_give ∈ pw_BW := pw_bw (List.mem_of_getElem? (i := 994) (by decide +kernel)) rfl
theorem mw_995 : Cond.static yX11_give ∈ pw_BW := pw_bw (List.mem_of_getElem? (i := 995) (by decide +kernel)) rfl
set_option maxRecDepth 40000 in
theorem mw_996 : Cond.code yX11_give cX11_give 3 (some .int) ∈ pw_BW := pw_bw (List.mem_of_getElem? (i := 996) (by rfl)) rfl
theorem mw_997 : Cond.methodLink RX11 158 yX11_nameAt ∈ pw_BW := pw_bw (List.mem_of_getElem? (i := 997) (by decide +kernel)) rfl
theorem mw_999 : Cond.instanceMethod yX11_nameAt ∈ pw_BW := pw_bw (List.mem_of_getElem? (i := 999) (by decide +kernel)) rfl
set_option maxRecDepth 40000 in
theorem mw_1000 : Cond.code yX11_nameAt cX11_nameAt 7 (some .int) ∈ pw_BW := pw_bw (List.mem_of_getElem? (i := 1000) (by rfl)) rfl
theorem mw_1001 : Cond.methodLink RX11 161 yX11_underWay ∈ pw_BW := pw_bw (List.mem_of_getElem? (i := 1001) (by decide +kernel)) rfl
theorem mw_1003 : Cond.instanceMethod yX11_underWay ∈ pw_BW := pw_bw (List.mem_of_getElem? (i := 1003) (by decide +kernel)) rfl
set_option maxRecDepth 40000 in
theorem mw_1004 : Cond.code yX11_underWay cX11_underWay 6 (some .int) ∈ pw_BW := pw_bw (List.mem_of_getElem? (i := 1004) (by rfl)) rfl
theorem mw_1005 : Cond.methodLink RL 117 yX11_status ∈ pw_BW := pw_bw (List.mem_of_getElem? (i := 1005) (by decide +kernel)) rfl
theorem mw_1006 : Cond.instanceMethod yX11_status ∈ pw_BW := pw_bw (List.mem_of_getElem? (i := 1006) (by decide +kernel)) rfl
theorem mw_1007 : Cond.selects RX11 yX11_status yX11_status ∈ pw_BW := pw_bw (List.mem_of_getElem? (i := 1007) (by decide +kernel)) rfl
set_option maxRecDepth 40000 in
theorem mw_1008 : Cond.code yX11_status cX11_status 1 (some .int) ∈ pw_BW := pw_bw (List.mem_of_getElem? (i := 1008) (by rfl)) rfl
theorem mw_1009 : Cond.methodLink RL 121 yX11_may ∈ pw_BW := pw_bw (List.mem_of_getElem? (i := 1009) (by decide +kernel)) rfl
theorem mw_1010 : Cond.instanceMethod yX11_may ∈ pw_BW := pw_bw (List.mem_of_getElem? (i := 1010) (by decide +kernel)) rfl
theorem mw_1011 : Cond.selects RX11 yX11_may yX11_may ∈ pw_BW := pw_bw (List.mem_of_getElem? (i := 1011) (by decide +kernel)) rfl
set_option maxRecDepth 40000 in
theorem mw_1012 : Cond.code yX11_may cX11_may 2 (some .int) ∈ pw_BW := pw_bw (List.mem_of_getElem? (i := 1012) (by rfl)) rfl
theorem mw_1013 : Cond.methodLink RX11 173 yX11_extreme ∈ pw_BW := pw_bw (List.mem_of_getElem? (i := 1013) (by decide +kernel)) rfl
theorem mw_1015 : Cond.instanceMethod yX11_extreme ∈ pw_BW := pw_bw (List.mem_of_getElem? (i := 1015) (by decide +kernel)) rfl
set_option maxRecDepth 40000 in
theorem mw_1016 : Cond.code yX11_extreme cX11_extreme 6 (some .int) ∈ pw_BW := pw_bw (List.mem_of_getElem? (i := 1016) (by rfl)) rfl
theorem mw_1017 : Cond.methodLink RX11 170 yX11_study ∈ pw_BW := pw_bw (List.mem_of_getElem? (i := 1017) (by decide +kernel)) rfl
theorem mw_1019 : Cond.instanceMethod yX11_study ∈ pw_BW := pw_bw (List.mem_of_getElem? (i := 1019) (by decide +kernel)) rfl
set_option maxRecDepth 40000 in
theorem mw_1020 : Cond.code yX11_study cX11_study 3 (some .boolean) ∈ pw_BW := pw_bw (List.mem_of_getElem? (i := 1020) (by rfl)) rfl
theorem mw_1021 : Cond.methodLink RL 125 yX11_last ∈ pw_BW := pw_bw (List.mem_of_getElem? (i := 1021) (by decide +kernel)) rfl
theorem mw_1022 : Cond.instanceMethod yX11_last ∈ pw_BW := pw_bw (List.mem_of_getElem? (i := 1022) (by decide +kernel)) rfl
theorem mw_1023 : Cond.selects RX11 yX11_last yX11_last ∈ pw_BW := pw_bw (List.mem_of_getElem? (i := 1023) (by decide +kernel)) rfl
set_option maxRecDepth 40000 in
theorem mw_1024 : Cond.code yX11_last cX11_last 2 (some .int) ∈ pw_BW := pw_bw (List.mem_of_getElem? (i := 1024) (by rfl)) rfl
theorem mw_1025 : Cond.methodLink RL 129 yX11_many ∈ pw_BW := pw_bw (List.mem_of_getElem? (i := 1025) (by decide +kernel)) rfl
theorem mw_1026 : Cond.instanceMethod yX11_many ∈ pw_BW := pw_bw (List.mem_of_getElem? (i := 1026) (by decide +kernel)) rfl
theorem mw_1027 : Cond.selects RX11 yX11_many yX11_many ∈ pw_BW := pw_bw (List.mem_of_getElem? (i := 1027) (by decide +kernel)) rfl
set_option maxRecDepth 40000 in
theorem mw_1028 : Cond.code yX11_many cX11_many 4 (some .int) ∈ pw_BW := pw_bw (List.mem_of_getElem? (i := 1028) (by rfl)) rfl
theorem mw_1029 : Cond.methodLink RL 133 yX11_sure ∈ pw_BW := pw_bw (List.mem_of_getElem? (i := 1029) (by decide +kernel)) rfl
theorem mw_1030 : Cond.instanceMethod yX11_sure ∈ pw_BW := pw_bw (List.mem_of_getElem? (i := 1030) (by decide +kernel)) rfl
theorem mw_1031 : Cond.selects RX11 yX11_sure yX11_sure ∈ pw_BW := pw_bw (List.mem_of_getElem? (i := 1031) (by decide +kernel)) rfl
set_option maxRecDepth 40000 in
theorem mw_1032 : Cond.code yX11_sure cX11_sure 2 (some .int) ∈ pw_BW := pw_bw (List.mem_of_getElem? (i := 1032) (by rfl)) rfl
theorem mw_1033 : Cond.methodLink RX11 177 yX11_bars ∈ pw_BW := pw_bw (List.mem_of_getElem? (i := 1033) (by decide +kernel)) rfl
theorem mw_1035 : Cond.instanceMethod yX11_bars ∈ pw_BW := pw_bw (List.mem_of_getElem? (i := 1035) (by decide +kernel)) rfl
set_option maxRecDepth 40000 in
theorem mw_1036 : Cond.code yX11_bars cX11_bars 3 (some .boolean) ∈ pw_BW := pw_bw (List.mem_of_getElem? (i := 1036) (by rfl)) rfl
theorem mw_1037 : Cond.methodLink RL 137 yX11_avoid ∈ pw_BW := pw_bw (List.mem_of_getElem? (i := 1037) (by decide +kernel)) rfl
theorem mw_1038 : Cond.instanceMethod yX11_avoid ∈ pw_BW := pw_bw (List.mem_of_getElem? (i := 1038) (by decide +kernel)) rfl
theorem mw_1039 : Cond.selects RX11 yX11_avoid yX11_avoid ∈ pw_BW := pw_bw (List.mem_of_getElem? (i := 1039) (by decide +kernel)) rfl
set_option maxRecDepth 40000 in
theorem mw_1040 : Cond.code yX11_avoid cX11_avoid 3 (some .int) ∈ pw_BW := pw_bw (List.mem_of_getElem? (i := 1040) (by rfl)) rfl
theorem mw_1041 : Cond.methodLink RL 142 yX11_avoids ∈ pw_BW := pw_bw (List.mem_of_getElem? (i := 1041) (by decide +kernel)) rfl
theorem mw_1042 : Cond.instanceMethod yX11_avoids ∈ pw_BW := pw_bw (List.mem_of_getElem? (i := 1042) (by decide +kernel)) rfl
theorem mw_1043 : Cond.selects RX11 yX11_avoids yX11_avoids ∈ pw_BW := pw_bw (List.mem_of_getElem? (i := 1043) (by decide +kernel)) rfl
set_option maxRecDepth 40000 in
theorem mw_1044 : Cond.code yX11_avoids cX11_avoids 2 (some .long) ∈ pw_BW := pw_bw (List.mem_of_getElem? (i := 1044) (by rfl)) rfl
theorem mw_1045 : Cond.constantLong RX11 180 (-1 : Int64) ∈ pw_BW := pw_bw (List.mem_of_getElem? (i := 1045) (by decide +kernel)) rfl
theorem mw_1046 : Cond.methodLink RL 146 yX11_is ∈ pw_BW := pw_bw (List.mem_of_getElem? (i := 1046) (by decide +kernel)) rfl
theorem mw_1047 : Cond.instanceMethod yX11_is ∈ pw_BW := pw_bw (List.mem_of_getElem? (i := 1047) (by decide +kernel)) rfl
theorem mw_1048 : Cond.selects RX11 yX11_is yX11_is ∈ pw_BW := pw_bw (List.mem_of_getElem? (i := 1048) (by decide +kernel)) rfl
set_option maxRecDepth 40000 in
theorem mw_1049 : Cond.code yX11_is cX11_is 3 (some .int) ∈ pw_BW := pw_bw (List.mem_of_getElem? (i := 1049) (by rfl)) rfl
theorem mw_1050 : Cond.methodLink RX11 182 yX11_isKept ∈ pw_BW := pw_bw (List.mem_of_getElem? (i := 1050) (by decide +kernel)) rfl
theorem mw_1052 : Cond.instanceMethod yX11_isKept ∈ pw_BW := pw_bw (List.mem_of_getElem? (i := 1052) (by decide +kernel)) rfl
set_option maxRecDepth 40000 in
theorem mw_1053 : Cond.code yX11_isKept cX11_isKept 3 (some .boolean) ∈ pw_BW := pw_bw (List.mem_of_getElem? (i := 1053) (by rfl)) rfl
theorem mw_1054 : Cond.methodLink RX11 186 yX11_isClosed ∈ pw_BW := pw_bw (List.mem_of_getElem? (i := 1054) (by decide +kernel)) rfl
theorem mw_1056 : Cond.instanceMethod yX11_isClosed ∈ pw_BW := pw_bw (List.mem_of_getElem? (i := 1056) (by decide +kernel)) rfl
set_option maxRecDepth 40000 in
theorem mw_1057 : Cond.code yX11_isClosed cX11_isClosed 4 (some .boolean) ∈ pw_BW := pw_bw (List.mem_of_getElem? (i := 1057) (by rfl)) rfl
theorem mw_1058 : Cond.methodLink RL 150 yX11_before ∈ pw_BW := pw_bw (List.mem_of_getElem? (i := 1058) (by decide +kernel)) rfl
theorem mw_1059 : Cond.instanceMethod yX11_before ∈ pw_BW := pw_bw (List.mem_of_getElem? (i := 1059) (by decide +kernel)) rfl
theorem mw_1060 : Cond.selects RX11 yX11_before yX11_before ∈ pw_BW := pw_bw (List.mem_of_getElem? (i := 1060) (by decide +kernel)) rfl
set_option maxRecDepth 40000 in
theorem mw_1061 : Cond.code yX11_before cX11_before 5 (some .int) ∈ pw_BW := pw_bw (List.mem_of_getElem? (i := 1061) (by rfl)) rfl
theorem mw_1062 : Cond.methodLink RL 154 yX11_say ∈ pw_BW := pw_bw (List.mem_of_getElem? (i := 1062) (by decide +kernel)) rfl
theorem mw_1063 : Cond.instanceMethod yX11_say ∈ pw_BW := pw_bw (List.mem_of_getElem? (i := 1063) (by decide +kernel)) rfl
theorem mw_1064 : Cond.selects RX11 yX11_say yX11_say ∈ pw_BW := pw_bw (List.mem_of_getElem? (i := 1064) (by decide +kernel)) rfl
set_option maxRecDepth 40000 in
theorem mw_1065 : Cond.code yX11_say cX11_say 2 (some .int) ∈ pw_BW := pw_bw (List.mem_of_getElem? (i := 1065) (by rfl)) rfl
theorem mw_1066 : Cond.methodLink RL 158 yX11_check ∈ pw_BW := pw_bw (List.mem_of_getElem? (i := 1066) (by decide +kernel)) rfl
theorem mw_1067 : Cond.instanceMethod yX11_check ∈ pw_BW := pw_bw (List.mem_of_getElem? (i := 1067) (by decide +kernel)) rfl
theorem mw_1068 : Cond.selects RX11 yX11_check yX11_check ∈ pw_BW := pw_bw (List.mem_of_getElem? (i := 1068) (by decide +kernel)) rfl
set_option maxRecDepth 40000 in
theorem mw_1069 : Cond.code yX11_check cX11_check 3 (some .int) ∈ pw_BW := pw_bw (List.mem_of_getElem? (i := 1069) (by rfl)) rfl
theorem mw_1070 : Cond.methodLink RX11 193 yX11_firstWrong ∈ pw_BW := pw_bw (List.mem_of_getElem? (i := 1070) (by decide +kernel)) rfl
theorem mw_1072 : Cond.instanceMethod yX11_firstWrong ∈ pw_BW := pw_bw (List.mem_of_getElem? (i := 1072) (by decide +kernel)) rfl
set_option maxRecDepth 40000 in
theorem mw_1073 : Cond.code yX11_firstWrong cX11_firstWrong 4 (some .int) ∈ pw_BW := pw_bw (List.mem_of_getElem? (i := 1073) (by rfl)) rfl
theorem mw_1074 : Cond.methodLink RL 162 yX11_passes ∈ pw_BW := pw_bw (List.mem_of_getElem? (i := 1074) (by decide +kernel)) rfl
theorem mw_1075 : Cond.instanceMethod yX11_passes ∈ pw_BW := pw_bw (List.mem_of_getElem? (i := 1075) (by decide +kernel)) rfl
theorem mw_1076 : Cond.selects RX11 yX11_passes yX11_passes ∈ pw_BW := pw_bw (List.mem_of_getElem? (i := 1076) (by decide +kernel)) rfl
set_option maxRecDepth 40000 in
theorem mw_1077 : Cond.code yX11_passes cX11_passes 4 (some .int) ∈ pw_BW := pw_bw (List.mem_of_getElem? (i := 1077) (by rfl)) rfl
theorem mw_1078 : Cond.methodLink RL 166 yX11_count_ ∈ pw_BW := pw_bw (List.mem_of_getElem? (i := 1078) (by decide +kernel)) rfl
theorem mw_1079 : Cond.instanceMethod yX11_count_ ∈ pw_BW := pw_bw (List.mem_of_getElem? (i := 1079) (by decide +kernel)) rfl
theorem mw_1080 : Cond.selects RX11 yX11_count_ yX11_count_ ∈ pw_BW := pw_bw (List.mem_of_getElem? (i := 1080) (by decide +kernel)) rfl
set_option maxRecDepth 40000 in
theorem mw_1081 : Cond.code yX11_count_ cX11_count_ 4 (some .int) ∈ pw_BW := pw_bw (List.mem_of_getElem? (i := 1081) (by rfl)) rfl
theorem mw_1082 : Cond.constantLong RL 83 (4294967295 : Int64) ∈ pw_BW := pw_bw (List.mem_of_getElem? (i := 1082) (by decide +kernel)) rfl
theorem wm_X0_has : Cond.instanceMethod yX0_has ∈ pw_BW ∧ Cond.selects yX0_has.cls yX0_has yX0_has ∈ pw_BW ∧ Cond.initialized yX0_has.cls ∈ pw_BW ∧ Cond.code yX0_has cX0_has 2 (some .boolean) ∈ pw_BW ∧ (yX0_has.cls ≠ "java/lang/invoke/MethodHandle" ∧ yX0_has.cls ≠ "java/lang/invoke/VarHandle" ∧ (parseMethodDescriptor yX0_has.desc).map (fun d => d.parameters.length) = some 1) := ⟨mw_602, mw_603, mw_40, mw_604, by decide +kernel⟩
theorem wm_X0_keep : Cond.instanceMethod yX0_keep ∈ pw_BW ∧ Cond.selects yX0_keep.cls yX0_keep yX0_keep ∈ pw_BW ∧ Cond.initialized yX0_keep.cls ∈ pw_BW ∧ Cond.code yX0_keep cX0_keep 2 (some .int) ∈ pw_BW ∧ (yX0_keep.cls ≠ "java/lang/invoke/MethodHandle" ∧ yX0_keep.cls ≠ "java/lang/invoke/VarHandle" ∧ (parseMethodDescriptor yX0_keep.desc).map (fun d => d.parameters.length) = some 1) := ⟨mw_589, mw_590, mw_40, mw_591, by decide +kernel⟩
theorem wm_X1_sidesOf : Cond.static yX1_sidesOf ∈ pw_BW ∧ Cond.initialized yX1_sidesOf.cls ∈ pw_BW ∧ Cond.code yX1_sidesOf cX1_sidesOf 1 (some .int) ∈ pw_BW ∧ (yX1_sidesOf.cls ≠ "java/lang/invoke/MethodHandle" ∧ yX1_sidesOf.cls ≠ "java/lang/invoke/VarHandle" ∧ (parseMethodDescriptor yX1_sidesOf.desc).map (fun d => d.parameters.length) = some 1) := ⟨mw_568, mw_39, mw_569, by decide +kernel⟩
theorem wm_X1_append : Cond.instanceMethod yX1_append ∈ pw_BW ∧ Cond.selects yX1_append.cls yX1_append yX1_append ∈ pw_BW ∧ Cond.initialized yX1_append.cls ∈ pw_BW ∧ Cond.code yX1_append cX1_append 4 none ∈ pw_BW ∧ (yX1_append.cls ≠ "java/lang/invoke/MethodHandle" ∧ yX1_append.cls ≠ "java/lang/invoke/VarHandle" ∧ (parseMethodDescriptor yX1_append.desc).map (fun d => d.parameters.length) = some 3) := ⟨mw_553, mw_554, mw_39, mw_555, by decide +kernel⟩
theorem wm_X1_appendAll : Cond.instanceMethod yX1_appendAll ∈ pw_BW ∧ Cond.selects yX1_appendAll.cls yX1_appendAll yX1_appendAll ∈ pw_BW ∧ Cond.initialized yX1_appendAll.cls ∈ pw_BW ∧ Cond.code yX1_appendAll cX1_appendAll 3 none ∈ pw_BW ∧ (yX1_appendAll.cls ≠ "java/lang/invoke/MethodHandle" ∧ yX1_appendAll.cls ≠ "java/lang/invoke/VarHandle" ∧ (parseMethodDescriptor yX1_appendAll.desc).map (fun d => d.parameters.length) = some 1) := ⟨mw_580, mw_581, mw_39, mw_582, by decide +kernel⟩
theorem wm_X2_place : Cond.static yX2_place ∈ pw_BW ∧ Cond.initialized yX2_place.cls ∈ pw_BW ∧ Cond.code yX2_place cX2_place 2 (some .int) ∈ pw_BW ∧ (yX2_place.cls ≠ "java/lang/invoke/MethodHandle" ∧ yX2_place.cls ≠ "java/lang/invoke/VarHandle" ∧ (parseMethodDescriptor yX2_place.desc).map (fun d => d.parameters.length) = some 2) := ⟨mw_354, mw_35, mw_355, by decide +kernel⟩
theorem wm_X2_valuePlace : Cond.static yX2_valuePlace ∈ pw_BW ∧ Cond.initialized yX2_valuePlace.cls ∈ pw_BW ∧ Cond.code yX2_valuePlace cX2_valuePlace 3 (some .int) ∈ pw_BW ∧ (yX2_valuePlace.cls ≠ "java/lang/invoke/MethodHandle" ∧ yX2_valuePlace.cls ≠ "java/lang/invoke/VarHandle" ∧ (parseMethodDescriptor yX2_valuePlace.desc).map (fun d => d.parameters.length) = some 3) := ⟨mw_361, mw_35, mw_362, by decide +kernel⟩
theorem wm_X2_hasProcess : Cond.instanceMethod yX2_hasProcess ∈ pw_BW ∧ Cond.selects yX2_hasProcess.cls yX2_hasProcess yX2_hasProcess ∈ pw_BW ∧ Cond.initialized yX2_hasProcess.cls ∈ pw_BW ∧ Cond.code yX2_hasProcess cX2_hasProcess 2 (some .boolean) ∈ pw_BW ∧ (yX2_hasProcess.cls ≠ "java/lang/invoke/MethodHandle" ∧ yX2_hasProcess.cls ≠ "java/lang/invoke/VarHandle" ∧ (parseMethodDescriptor yX2_hasProcess.desc).map (fun d => d.parameters.length) = some 1) := ⟨mw_338, mw_339, mw_35, mw_340, by decide +kernel⟩
theorem wm_X2_hasEvent : Cond.instanceMethod yX2_hasEvent ∈ pw_BW ∧ Cond.selects yX2_hasEvent.cls yX2_hasEvent yX2_hasEvent ∈ pw_BW ∧ Cond.initialized yX2_hasEvent.cls ∈ pw_BW ∧ Cond.code yX2_hasEvent cX2_hasEvent 3 (some .boolean) ∈ pw_BW ∧ (yX2_hasEvent.cls ≠ "java/lang/invoke/MethodHandle" ∧ yX2_hasEvent.cls ≠ "java/lang/invoke/VarHandle" ∧ (parseMethodDescriptor yX2_hasEvent.desc).map (fun d => d.parameters.length) = some 2) := ⟨mw_419, mw_420, mw_35, mw_421, by decide +kernel⟩
theorem wm_X2_hasCut : Cond.instanceMethod yX2_hasCut ∈ pw_BW ∧ Cond.selects yX2_hasCut.cls yX2_hasCut yX2_hasCut ∈ pw_BW ∧ Cond.initialized yX2_hasCut.cls ∈ pw_BW ∧ Cond.code yX2_hasCut cX2_hasCut 4 (some .boolean) ∈ pw_BW ∧ (yX2_hasCut.cls ≠ "java/lang/invoke/MethodHandle" ∧ yX2_hasCut.cls ≠ "java/lang/invoke/VarHandle" ∧ (parseMethodDescriptor yX2_hasCut.desc).map (fun d => d.parameters.length) = some 1) := ⟨mw_442, mw_443, mw_35, mw_444, by decide +kernel⟩
theorem wm_X2_isFull : Cond.instanceMethod yX2_isFull ∈ pw_BW ∧ Cond.selects yX2_isFull.cls yX2_isFull yX2_isFull ∈ pw_BW ∧ Cond.initialized yX2_isFull.cls ∈ pw_BW ∧ Cond.code yX2_isFull cX2_isFull 2 (some .boolean) ∈ pw_BW ∧ (yX2_isFull.cls ≠ "java/lang/invoke/MethodHandle" ∧ yX2_isFull.cls ≠ "java/lang/invoke/VarHandle" ∧ (parseMethodDescriptor yX2_isFull.desc).map (fun d => d.parameters.length) = some 1) := ⟨mw_342, mw_343, mw_35, mw_344, by decide +kernel⟩
theorem wm_X2_clockOf : Cond.instanceMethod yX2_clockOf ∈ pw_BW ∧ Cond.selects yX2_clockOf.cls yX2_clockOf yX2_clockOf ∈ pw_BW ∧ Cond.initialized yX2_clockOf.cls ∈ pw_BW ∧ Cond.code yX2_clockOf cX2_clockOf 4 (some .int) ∈ pw_BW ∧ (yX2_clockOf.cls ≠ "java/lang/invoke/MethodHandle" ∧ yX2_clockOf.cls ≠ "java/lang/invoke/VarHandle" ∧ (parseMethodDescriptor yX2_clockOf.desc).map (fun d => d.parameters.length) = some 3) := ⟨mw_357, mw_358, mw_35, mw_359, by decide +kernel⟩
theorem wm_X2_leastWith : Cond.instanceMethod yX2_leastWith ∈ pw_BW ∧ Cond.selects yX2_leastWith.cls yX2_leastWith yX2_leastWith ∈ pw_BW ∧ Cond.initialized yX2_leastWith.cls ∈ pw_BW ∧ Cond.code yX2_leastWith cX2_leastWith 5 (some .int) ∈ pw_BW ∧ (yX2_leastWith.cls ≠ "java/lang/invoke/MethodHandle" ∧ yX2_leastWith.cls ≠ "java/lang/invoke/VarHandle" ∧ (parseMethodDescriptor yX2_leastWith.desc).map (fun d => d.parameters.length) = some 2) := ⟨mw_506, mw_507, mw_35, mw_508, by decide +kernel⟩
theorem wm_X2_change : Cond.instanceMethod yX2_change ∈ pw_BW ∧ Cond.selects yX2_change.cls yX2_change yX2_change ∈ pw_BW ∧ Cond.initialized yX2_change.cls ∈ pw_BW ∧ Cond.code yX2_change cX2_change 7 (some .int) ∈ pw_BW ∧ (yX2_change.cls ≠ "java/lang/invoke/MethodHandle" ∧ yX2_change.cls ≠ "java/lang/invoke/VarHandle" ∧ (parseMethodDescriptor yX2_change.desc).map (fun d => d.parameters.length) = some 4) := ⟨mw_346, mw_347, mw_35, mw_348, by decide +kernel⟩
theorem wm_X2_sendOut : Cond.instanceMethod yX2_sendOut ∈ pw_BW ∧ Cond.selects yX2_sendOut.cls yX2_sendOut yX2_sendOut ∈ pw_BW ∧ Cond.initialized yX2_sendOut.cls ∈ pw_BW ∧ Cond.code yX2_sendOut cX2_sendOut 4 (some .int) ∈ pw_BW ∧ (yX2_sendOut.cls ≠ "java/lang/invoke/MethodHandle" ∧ yX2_sendOut.cls ≠ "java/lang/invoke/VarHandle" ∧ (parseMethodDescriptor yX2_sendOut.desc).map (fun d => d.parameters.length) = some 2) := ⟨mw_372, mw_373, mw_35, mw_374, by decide +kernel⟩
theorem wm_X2_takeIn : Cond.instanceMethod yX2_takeIn ∈ pw_BW ∧ Cond.selects yX2_takeIn.cls yX2_takeIn yX2_takeIn ∈ pw_BW ∧ Cond.initialized yX2_takeIn.cls ∈ pw_BW ∧ Cond.code yX2_takeIn cX2_takeIn 4 (some .int) ∈ pw_BW ∧ (yX2_takeIn.cls ≠ "java/lang/invoke/MethodHandle" ∧ yX2_takeIn.cls ≠ "java/lang/invoke/VarHandle" ∧ (parseMethodDescriptor yX2_takeIn.desc).map (fun d => d.parameters.length) = some 1) := ⟨mw_388, mw_389, mw_35, mw_390, by decide +kernel⟩
theorem wm_X2_awaitAll : Cond.instanceMethod yX2_awaitAll ∈ pw_BW ∧ Cond.selects yX2_awaitAll.cls yX2_awaitAll yX2_awaitAll ∈ pw_BW ∧ Cond.initialized yX2_awaitAll.cls ∈ pw_BW ∧ Cond.code yX2_awaitAll cX2_awaitAll 4 (some .int) ∈ pw_BW ∧ (yX2_awaitAll.cls ≠ "java/lang/invoke/MethodHandle" ∧ yX2_awaitAll.cls ≠ "java/lang/invoke/VarHandle" ∧ (parseMethodDescriptor yX2_awaitAll.desc).map (fun d => d.parameters.length) = some 2) := ⟨mw_403, mw_404, mw_35, mw_405, by decide +kernel⟩
theorem wm_X2_append : Cond.instanceMethod yX2_append ∈ pw_BW ∧ Cond.selects yX2_append.cls yX2_append yX2_append ∈ pw_BW ∧ Cond.initialized yX2_append.cls ∈ pw_BW ∧ Cond.code yX2_append cX2_append 7 (some .int) ∈ pw_BW ∧ (yX2_append.cls ≠ "java/lang/invoke/MethodHandle" ∧ yX2_append.cls ≠ "java/lang/invoke/VarHandle" ∧ (parseMethodDescriptor yX2_append.desc).map (fun d => d.parameters.length) = some 3) := ⟨mw_351, mw_0, mw_35, mw_352, by decide +kernel⟩
theorem wm_X2_follow : Cond.instanceMethod yX2_follow ∈ pw_BW ∧ Cond.selects yX2_follow.cls yX2_follow yX2_follow ∈ pw_BW ∧ Cond.initialized yX2_follow.cls ∈ pw_BW ∧ Cond.code yX2_follow cX2_follow 6 none ∈ pw_BW ∧ (yX2_follow.cls ≠ "java/lang/invoke/MethodHandle" ∧ yX2_follow.cls ≠ "java/lang/invoke/VarHandle" ∧ (parseMethodDescriptor yX2_follow.desc).map (fun d => d.parameters.length) = some 3) := ⟨mw_393, mw_2, mw_35, mw_394, by decide +kernel⟩
theorem wm_X2_takeBack : Cond.instanceMethod yX2_takeBack ∈ pw_BW ∧ Cond.selects yX2_takeBack.cls yX2_takeBack yX2_takeBack ∈ pw_BW ∧ Cond.initialized yX2_takeBack.cls ∈ pw_BW ∧ Cond.code yX2_takeBack cX2_takeBack 3 (some .int) ∈ pw_BW ∧ (yX2_takeBack.cls ≠ "java/lang/invoke/MethodHandle" ∧ yX2_takeBack.cls ≠ "java/lang/invoke/VarHandle" ∧ (parseMethodDescriptor yX2_takeBack.desc).map (fun d => d.parameters.length) = some 0) := ⟨mw_411, mw_412, mw_35, mw_413, by decide +kernel⟩
theorem wm_X3_has : Cond.instanceMethod yX3_has ∈ pw_BW ∧ Cond.selects yX3_has.cls yX3_has yX3_has ∈ pw_BW ∧ Cond.initialized yX3_has.cls ∈ pw_BW ∧ Cond.code yX3_has cX3_has 2 (some .boolean) ∈ pw_BW ∧ (yX3_has.cls ≠ "java/lang/invoke/MethodHandle" ∧ yX3_has.cls ≠ "java/lang/invoke/VarHandle" ∧ (parseMethodDescriptor yX3_has.desc).map (fun d => d.parameters.length) = some 1) := ⟨mw_384, mw_385, mw_36, mw_386, by decide +kernel⟩
theorem wm_X3_write : Cond.instanceMethod yX3_write ∈ pw_BW ∧ Cond.selects yX3_write.cls yX3_write yX3_write ∈ pw_BW ∧ Cond.initialized yX3_write.cls ∈ pw_BW ∧ Cond.code yX3_write cX3_write 5 (some .int) ∈ pw_BW ∧ (yX3_write.cls ≠ "java/lang/invoke/MethodHandle" ∧ yX3_write.cls ≠ "java/lang/invoke/VarHandle" ∧ (parseMethodDescriptor yX3_write.desc).map (fun d => d.parameters.length) = some 3) := ⟨mw_376, mw_377, mw_36, mw_378, by decide +kernel⟩
theorem wm_X3_howManyUntaken : Cond.instanceMethod yX3_howManyUntaken ∈ pw_BW ∧ Cond.selects yX3_howManyUntaken.cls yX3_howManyUntaken yX3_howManyUntaken ∈ pw_BW ∧ Cond.initialized yX3_howManyUntaken.cls ∈ pw_BW ∧ Cond.code yX3_howManyUntaken cX3_howManyUntaken 3 (some .int) ∈ pw_BW ∧ (yX3_howManyUntaken.cls ≠ "java/lang/invoke/MethodHandle" ∧ yX3_howManyUntaken.cls ≠ "java/lang/invoke/VarHandle" ∧ (parseMethodDescriptor yX3_howManyUntaken.desc).map (fun d => d.parameters.length) = some 0) := ⟨mw_741, mw_742, mw_36, mw_743, by decide +kernel⟩
theorem wm_X4_wipe : Cond.instanceMethod yX4_wipe ∈ pw_BW ∧ Cond.selects yX4_wipe.cls yX4_wipe yX4_wipe ∈ pw_BW ∧ Cond.initialized yX4_wipe.cls ∈ pw_BW ∧ Cond.code yX4_wipe cX4_wipe 3 none ∈ pw_BW ∧ (yX4_wipe.cls ≠ "java/lang/invoke/MethodHandle" ∧ yX4_wipe.cls ≠ "java/lang/invoke/VarHandle" ∧ (parseMethodDescriptor yX4_wipe.desc).map (fun d => d.parameters.length) = some 1) := ⟨mw_515, mw_516, mw_42, mw_517, by decide +kernel⟩
theorem wm_X4_set : Cond.instanceMethod yX4_set ∈ pw_BW ∧ Cond.selects yX4_set.cls yX4_set yX4_set ∈ pw_BW ∧ Cond.initialized yX4_set.cls ∈ pw_BW ∧ Cond.code yX4_set cX4_set 5 none ∈ pw_BW ∧ (yX4_set.cls ≠ "java/lang/invoke/MethodHandle" ∧ yX4_set.cls ≠ "java/lang/invoke/VarHandle" ∧ (parseMethodDescriptor yX4_set.desc).map (fun d => d.parameters.length) = some 2) := ⟨mw_636, mw_637, mw_42, mw_638, by decide +kernel⟩
theorem wm_X4_areKept : Cond.instanceMethod yX4_areKept ∈ pw_BW ∧ Cond.selects yX4_areKept.cls yX4_areKept yX4_areKept ∈ pw_BW ∧ Cond.initialized yX4_areKept.cls ∈ pw_BW ∧ Cond.code yX4_areKept cX4_areKept 6 (some .boolean) ∈ pw_BW ∧ (yX4_areKept.cls ≠ "java/lang/invoke/MethodHandle" ∧ yX4_areKept.cls ≠ "java/lang/invoke/VarHandle" ∧ (parseMethodDescriptor yX4_areKept.desc).map (fun d => d.parameters.length) = some 1) := ⟨mw_679, mw_680, mw_42, mw_681, by decide +kernel⟩
theorem wm_X4_areMet : Cond.instanceMethod yX4_areMet ∈ pw_BW ∧ Cond.selects yX4_areMet.cls yX4_areMet yX4_areMet ∈ pw_BW ∧ Cond.initialized yX4_areMet.cls ∈ pw_BW ∧ Cond.code yX4_areMet cX4_areMet 4 (some .boolean) ∈ pw_BW ∧ (yX4_areMet.cls ≠ "java/lang/invoke/MethodHandle" ∧ yX4_areMet.cls ≠ "java/lang/invoke/VarHandle" ∧ (parseMethodDescriptor yX4_areMet.desc).map (fun d => d.parameters.length) = some 1) := ⟨mw_684, mw_685, mw_42, mw_686, by decide +kernel⟩
theorem wm_X4_areJoined : Cond.instanceMethod yX4_areJoined ∈ pw_BW ∧ Cond.selects yX4_areJoined.cls yX4_areJoined yX4_areJoined ∈ pw_BW ∧ Cond.initialized yX4_areJoined.cls ∈ pw_BW ∧ Cond.code yX4_areJoined cX4_areJoined 4 (some .boolean) ∈ pw_BW ∧ (yX4_areJoined.cls ≠ "java/lang/invoke/MethodHandle" ∧ yX4_areJoined.cls ≠ "java/lang/invoke/VarHandle" ∧ (parseMethodDescriptor yX4_areJoined.desc).map (fun d => d.parameters.length) = some 1) := ⟨mw_697, mw_698, mw_42, mw_699, by decide +kernel⟩
theorem wm_X4_nearestBeyond : Cond.instanceMethod yX4_nearestBeyond ∈ pw_BW ∧ Cond.selects yX4_nearestBeyond.cls yX4_nearestBeyond yX4_nearestBeyond ∈ pw_BW ∧ Cond.initialized yX4_nearestBeyond.cls ∈ pw_BW ∧ Cond.code yX4_nearestBeyond cX4_nearestBeyond 8 (some .int) ∈ pw_BW ∧ (yX4_nearestBeyond.cls ≠ "java/lang/invoke/MethodHandle" ∧ yX4_nearestBeyond.cls ≠ "java/lang/invoke/VarHandle" ∧ (parseMethodDescriptor yX4_nearestBeyond.desc).map (fun d => d.parameters.length) = some 3) := ⟨mw_689, mw_11, mw_42, mw_690, by decide +kernel⟩
theorem wm_X5_worth : Cond.instanceMethod yX5_worth ∈ pw_BW ∧ Cond.selects yX5_worth.cls yX5_worth yX5_worth ∈ pw_BW ∧ Cond.initialized yX5_worth.cls ∈ pw_BW ∧ Cond.code yX5_worth cX5_worth 7 (some .int) ∈ pw_BW ∧ (yX5_worth.cls ≠ "java/lang/invoke/MethodHandle" ∧ yX5_worth.cls ≠ "java/lang/invoke/VarHandle" ∧ (parseMethodDescriptor yX5_worth.desc).map (fun d => d.parameters.length) = some 2) := ⟨mw_606, mw_607, mw_41, mw_608, by decide +kernel⟩
theorem wm_X5_seen : Cond.instanceMethod yX5_seen ∈ pw_BW ∧ Cond.selects yX5_seen.cls yX5_seen yX5_seen ∈ pw_BW ∧ Cond.initialized yX5_seen.cls ∈ pw_BW ∧ Cond.code yX5_seen cX5_seen 4 (some .int) ∈ pw_BW ∧ (yX5_seen.cls ≠ "java/lang/invoke/MethodHandle" ∧ yX5_seen.cls ≠ "java/lang/invoke/VarHandle" ∧ (parseMethodDescriptor yX5_seen.desc).map (fun d => d.parameters.length) = some 3) := ⟨mw_613, mw_8, mw_41, mw_614, by decide +kernel⟩
theorem wm_X5_howManyUnderWay : Cond.instanceMethod yX5_howManyUnderWay ∈ pw_BW ∧ Cond.selects yX5_howManyUnderWay.cls yX5_howManyUnderWay yX5_howManyUnderWay ∈ pw_BW ∧ Cond.initialized yX5_howManyUnderWay.cls ∈ pw_BW ∧ Cond.code yX5_howManyUnderWay cX5_howManyUnderWay 9 (some .int) ∈ pw_BW ∧ (yX5_howManyUnderWay.cls ≠ "java/lang/invoke/MethodHandle" ∧ yX5_howManyUnderWay.cls ≠ "java/lang/invoke/VarHandle" ∧ (parseMethodDescriptor yX5_howManyUnderWay.desc).map (fun d => d.parameters.length) = some 2) := ⟨mw_618, mw_9, mw_41, mw_619, by decide +kernel⟩
theorem wm_X5_reckoned : Cond.static yX5_reckoned ∈ pw_BW ∧ Cond.initialized yX5_reckoned.cls ∈ pw_BW ∧ Cond.code yX5_reckoned cX5_reckoned 3 (some .int) ∈ pw_BW ∧ (yX5_reckoned.cls ≠ "java/lang/invoke/MethodHandle" ∧ yX5_reckoned.cls ≠ "java/lang/invoke/VarHandle" ∧ (parseMethodDescriptor yX5_reckoned.desc).map (fun d => d.parameters.length) = some 3) := ⟨mw_621, mw_41, mw_622, by decide +kernel⟩
theorem wm_X6_shareOf : Cond.static yX6_shareOf ∈ pw_BW ∧ Cond.initialized yX6_shareOf.cls ∈ pw_BW ∧ Cond.code yX6_shareOf cX6_shareOf 4 (some .int) ∈ pw_BW ∧ (yX6_shareOf.cls ≠ "java/lang/invoke/MethodHandle" ∧ yX6_shareOf.cls ≠ "java/lang/invoke/VarHandle" ∧ (parseMethodDescriptor yX6_shareOf.desc).map (fun d => d.parameters.length) = some 2) := ⟨mw_495, mw_37, mw_496, by decide +kernel⟩
theorem wm_X6_sizeOf : Cond.static yX6_sizeOf ∈ pw_BW ∧ Cond.initialized yX6_sizeOf.cls ∈ pw_BW ∧ Cond.code yX6_sizeOf cX6_sizeOf 4 (some .int) ∈ pw_BW ∧ (yX6_sizeOf.cls ≠ "java/lang/invoke/MethodHandle" ∧ yX6_sizeOf.cls ≠ "java/lang/invoke/VarHandle" ∧ (parseMethodDescriptor yX6_sizeOf.desc).map (fun d => d.parameters.length) = some 1) := ⟨mw_469, mw_37, mw_470, by decide +kernel⟩
theorem wm_X6_combine : Cond.static yX6_combine ∈ pw_BW ∧ Cond.initialized yX6_combine.cls ∈ pw_BW ∧ Cond.code yX6_combine cX6_combine 7 (some .int) ∈ pw_BW ∧ (yX6_combine.cls ≠ "java/lang/invoke/MethodHandle" ∧ yX6_combine.cls ≠ "java/lang/invoke/VarHandle" ∧ (parseMethodDescriptor yX6_combine.desc).map (fun d => d.parameters.length) = some 3) := ⟨mw_492, mw_37, mw_493, by decide +kernel⟩
theorem wm_X6_refresh : Cond.instanceMethod yX6_refresh ∈ pw_BW ∧ Cond.selects yX6_refresh.cls yX6_refresh yX6_refresh ∈ pw_BW ∧ Cond.initialized yX6_refresh.cls ∈ pw_BW ∧ Cond.code yX6_refresh cX6_refresh 2 none ∈ pw_BW ∧ (yX6_refresh.cls ≠ "java/lang/invoke/MethodHandle" ∧ yX6_refresh.cls ≠ "java/lang/invoke/VarHandle" ∧ (parseMethodDescriptor yX6_refresh.desc).map (fun d => d.parameters.length) = some 0) := ⟨mw_450, mw_451, mw_37, mw_452, by decide +kernel⟩
theorem wm_X6_isClosed : Cond.instanceMethod yX6_isClosed ∈ pw_BW ∧ Cond.selects yX6_isClosed.cls yX6_isClosed yX6_isClosed ∈ pw_BW ∧ Cond.initialized yX6_isClosed.cls ∈ pw_BW ∧ Cond.code yX6_isClosed cX6_isClosed 5 (some .boolean) ∈ pw_BW ∧ (yX6_isClosed.cls ≠ "java/lang/invoke/MethodHandle" ∧ yX6_isClosed.cls ≠ "java/lang/invoke/VarHandle" ∧ (parseMethodDescriptor yX6_isClosed.desc).map (fun d => d.parameters.length) = some 1) := ⟨mw_458, mw_4, mw_37, mw_459, by decide +kernel⟩
theorem wm_X6_sortBySize : Cond.instanceMethod yX6_sortBySize ∈ pw_BW ∧ Cond.selects yX6_sortBySize.cls yX6_sortBySize yX6_sortBySize ∈ pw_BW ∧ Cond.initialized yX6_sortBySize.cls ∈ pw_BW ∧ Cond.code yX6_sortBySize cX6_sortBySize 3 none ∈ pw_BW ∧ (yX6_sortBySize.cls ≠ "java/lang/invoke/MethodHandle" ∧ yX6_sortBySize.cls ≠ "java/lang/invoke/VarHandle" ∧ (parseMethodDescriptor yX6_sortBySize.desc).map (fun d => d.parameters.length) = some 0) := ⟨mw_463, mw_5, mw_37, mw_464, by decide +kernel⟩
theorem wm_X6_howManyOf : Cond.instanceMethod yX6_howManyOf ∈ pw_BW ∧ Cond.selects yX6_howManyOf.cls yX6_howManyOf yX6_howManyOf ∈ pw_BW ∧ Cond.initialized yX6_howManyOf.cls ∈ pw_BW ∧ Cond.code yX6_howManyOf cX6_howManyOf 2 (some .int) ∈ pw_BW ∧ (yX6_howManyOf.cls ≠ "java/lang/invoke/MethodHandle" ∧ yX6_howManyOf.cls ≠ "java/lang/invoke/VarHandle" ∧ (parseMethodDescriptor yX6_howManyOf.desc).map (fun d => d.parameters.length) = some 1) := ⟨mw_476, mw_477, mw_37, mw_478, by decide +kernel⟩
theorem wm_X6_firstBehind : Cond.instanceMethod yX6_firstBehind ∈ pw_BW ∧ Cond.selects yX6_firstBehind.cls yX6_firstBehind yX6_firstBehind ∈ pw_BW ∧ Cond.initialized yX6_firstBehind.cls ∈ pw_BW ∧ Cond.code yX6_firstBehind cX6_firstBehind 4 (some .int) ∈ pw_BW ∧ (yX6_firstBehind.cls ≠ "java/lang/invoke/MethodHandle" ∧ yX6_firstBehind.cls ≠ "java/lang/invoke/VarHandle" ∧ (parseMethodDescriptor yX6_firstBehind.desc).map (fun d => d.parameters.length) = some 1) := ⟨mw_484, mw_485, mw_37, mw_486, by decide +kernel⟩
theorem wm_X6_up : Cond.instanceMethod yX6_up ∈ pw_BW ∧ Cond.selects yX6_up.cls yX6_up yX6_up ∈ pw_BW ∧ Cond.initialized yX6_up.cls ∈ pw_BW ∧ Cond.code yX6_up cX6_up 4 (some .int) ∈ pw_BW ∧ (yX6_up.cls ≠ "java/lang/invoke/MethodHandle" ∧ yX6_up.cls ≠ "java/lang/invoke/VarHandle" ∧ (parseMethodDescriptor yX6_up.desc).map (fun d => d.parameters.length) = some 2) := ⟨mw_531, mw_532, mw_37, mw_533, by decide +kernel⟩
theorem wm_X6_down : Cond.instanceMethod yX6_down ∈ pw_BW ∧ Cond.selects yX6_down.cls yX6_down yX6_down ∈ pw_BW ∧ Cond.initialized yX6_down.cls ∈ pw_BW ∧ Cond.code yX6_down cX6_down 4 (some .int) ∈ pw_BW ∧ (yX6_down.cls ≠ "java/lang/invoke/MethodHandle" ∧ yX6_down.cls ≠ "java/lang/invoke/VarHandle" ∧ (parseMethodDescriptor yX6_down.desc).map (fun d => d.parameters.length) = some 2) := ⟨mw_692, mw_693, mw_37, mw_694, by decide +kernel⟩
theorem wm_X6_firstOf : Cond.instanceMethod yX6_firstOf ∈ pw_BW ∧ Cond.selects yX6_firstOf.cls yX6_firstOf yX6_firstOf ∈ pw_BW ∧ Cond.initialized yX6_firstOf.cls ∈ pw_BW ∧ Cond.code yX6_firstOf cX6_firstOf 3 (some .int) ∈ pw_BW ∧ (yX6_firstOf.cls ≠ "java/lang/invoke/MethodHandle" ∧ yX6_firstOf.cls ≠ "java/lang/invoke/VarHandle" ∧ (parseMethodDescriptor yX6_firstOf.desc).map (fun d => d.parameters.length) = some 1) := ⟨mw_641, mw_642, mw_37, mw_643, by decide +kernel⟩
theorem wm_X6_lastOf : Cond.instanceMethod yX6_lastOf ∈ pw_BW ∧ Cond.selects yX6_lastOf.cls yX6_lastOf yX6_lastOf ∈ pw_BW ∧ Cond.initialized yX6_lastOf.cls ∈ pw_BW ∧ Cond.code yX6_lastOf cX6_lastOf 3 (some .int) ∈ pw_BW ∧ (yX6_lastOf.cls ≠ "java/lang/invoke/MethodHandle" ∧ yX6_lastOf.cls ≠ "java/lang/invoke/VarHandle" ∧ (parseMethodDescriptor yX6_lastOf.desc).map (fun d => d.parameters.length) = some 1) := ⟨mw_649, mw_650, mw_37, mw_651, by decide +kernel⟩
theorem wm_X6_howManyIn : Cond.instanceMethod yX6_howManyIn ∈ pw_BW ∧ Cond.selects yX6_howManyIn.cls yX6_howManyIn yX6_howManyIn ∈ pw_BW ∧ Cond.initialized yX6_howManyIn.cls ∈ pw_BW ∧ Cond.code yX6_howManyIn cX6_howManyIn 4 (some .int) ∈ pw_BW ∧ (yX6_howManyIn.cls ≠ "java/lang/invoke/MethodHandle" ∧ yX6_howManyIn.cls ≠ "java/lang/invoke/VarHandle" ∧ (parseMethodDescriptor yX6_howManyIn.desc).map (fun d => d.parameters.length) = some 1) := ⟨mw_657, mw_658, mw_37, mw_659, by decide +kernel⟩
theorem wm_X7_push : Cond.instanceMethod yX7_push ∈ pw_BW ∧ Cond.selects yX7_push.cls yX7_push yX7_push ∈ pw_BW ∧ Cond.initialized yX7_push.cls ∈ pw_BW ∧ Cond.code yX7_push cX7_push 4 (some .int) ∈ pw_BW ∧ (yX7_push.cls ≠ "java/lang/invoke/MethodHandle" ∧ yX7_push.cls ≠ "java/lang/invoke/VarHandle" ∧ (parseMethodDescriptor yX7_push.desc).map (fun d => d.parameters.length) = some 3) := ⟨mw_549, mw_550, mw_38, mw_551, by decide +kernel⟩
theorem wm_X7_partsBehind : Cond.instanceMethod yX7_partsBehind ∈ pw_BW ∧ Cond.selects yX7_partsBehind.cls yX7_partsBehind yX7_partsBehind ∈ pw_BW ∧ Cond.initialized yX7_partsBehind.cls ∈ pw_BW ∧ Cond.code yX7_partsBehind cX7_partsBehind 4 (some .int) ∈ pw_BW ∧ (yX7_partsBehind.cls ≠ "java/lang/invoke/MethodHandle" ∧ yX7_partsBehind.cls ≠ "java/lang/invoke/VarHandle" ∧ (parseMethodDescriptor yX7_partsBehind.desc).map (fun d => d.parameters.length) = some 1) := ⟨mw_571, mw_572, mw_38, mw_573, by decide +kernel⟩
theorem wm_X7_unite : Cond.instanceMethod yX7_unite ∈ pw_BW ∧ Cond.selects yX7_unite.cls yX7_unite yX7_unite ∈ pw_BW ∧ Cond.initialized yX7_unite.cls ∈ pw_BW ∧ Cond.code yX7_unite cX7_unite 2 (some .int) ∈ pw_BW ∧ (yX7_unite.cls ≠ "java/lang/invoke/MethodHandle" ∧ yX7_unite.cls ≠ "java/lang/invoke/VarHandle" ∧ (parseMethodDescriptor yX7_unite.desc).map (fun d => d.parameters.length) = some 1) := ⟨mw_576, mw_577, mw_38, mw_578, by decide +kernel⟩
theorem wm_X8_append : Cond.instanceMethod yX8_append ∈ pw_BW ∧ Cond.selects yX8_append.cls yX8_append yX8_append ∈ pw_BW ∧ Cond.initialized yX8_append.cls ∈ pw_BW ∧ Cond.code yX8_append cX8_append 2 (some .int) ∈ pw_BW ∧ (yX8_append.cls ≠ "java/lang/invoke/MethodHandle" ∧ yX8_append.cls ≠ "java/lang/invoke/VarHandle" ∧ (parseMethodDescriptor yX8_append.desc).map (fun d => d.parameters.length) = some 1) := ⟨mw_714, mw_715, mw_44, mw_716, by decide +kernel⟩
theorem wm_X8_rightPlaces : Cond.instanceMethod yX8_rightPlaces ∈ pw_BW ∧ Cond.selects yX8_rightPlaces.cls yX8_rightPlaces yX8_rightPlaces ∈ pw_BW ∧ Cond.initialized yX8_rightPlaces.cls ∈ pw_BW ∧ Cond.code yX8_rightPlaces cX8_rightPlaces 4 (some .int) ∈ pw_BW ∧ (yX8_rightPlaces.cls ≠ "java/lang/invoke/MethodHandle" ∧ yX8_rightPlaces.cls ≠ "java/lang/invoke/VarHandle" ∧ (parseMethodDescriptor yX8_rightPlaces.desc).map (fun d => d.parameters.length) = some 1) := ⟨mw_722, mw_723, mw_44, mw_724, by decide +kernel⟩
theorem wm_X8_firstAt : Cond.instanceMethod yX8_firstAt ∈ pw_BW ∧ Cond.selects yX8_firstAt.cls yX8_firstAt yX8_firstAt ∈ pw_BW ∧ Cond.initialized yX8_firstAt.cls ∈ pw_BW ∧ Cond.code yX8_firstAt cX8_firstAt 5 (some .int) ∈ pw_BW ∧ (yX8_firstAt.cls ≠ "java/lang/invoke/MethodHandle" ∧ yX8_firstAt.cls ≠ "java/lang/invoke/VarHandle" ∧ (parseMethodDescriptor yX8_firstAt.desc).map (fun d => d.parameters.length) = some 2) := ⟨mw_731, mw_732, mw_44, mw_733, by decide +kernel⟩
theorem wm_X9_fill : Cond.instanceMethod yX9_fill ∈ pw_BW ∧ Cond.selects yX9_fill.cls yX9_fill yX9_fill ∈ pw_BW ∧ Cond.initialized yX9_fill.cls ∈ pw_BW ∧ Cond.code yX9_fill cX9_fill 5 (some .long) ∈ pw_BW ∧ (yX9_fill.cls ≠ "java/lang/invoke/MethodHandle" ∧ yX9_fill.cls ≠ "java/lang/invoke/VarHandle" ∧ (parseMethodDescriptor yX9_fill.desc).map (fun d => d.parameters.length) = some 2) := ⟨mw_519, mw_520, mw_43, mw_521, by decide +kernel⟩
theorem wm_X9_fillUntil : Cond.instanceMethod yX9_fillUntil ∈ pw_BW ∧ Cond.selects yX9_fillUntil.cls yX9_fillUntil yX9_fillUntil ∈ pw_BW ∧ Cond.initialized yX9_fillUntil.cls ∈ pw_BW ∧ Cond.code yX9_fillUntil cX9_fillUntil 8 (some .long) ∈ pw_BW ∧ (yX9_fillUntil.cls ≠ "java/lang/invoke/MethodHandle" ∧ yX9_fillUntil.cls ≠ "java/lang/invoke/VarHandle" ∧ (parseMethodDescriptor yX9_fillUntil.desc).map (fun d => d.parameters.length) = some 4) := ⟨mw_705, mw_706, mw_43, mw_707, by decide +kernel⟩
theorem wm_X9_sumOver : Cond.instanceMethod yX9_sumOver ∈ pw_BW ∧ Cond.selects yX9_sumOver.cls yX9_sumOver yX9_sumOver ∈ pw_BW ∧ Cond.initialized yX9_sumOver.cls ∈ pw_BW ∧ Cond.code yX9_sumOver cX9_sumOver 6 (some .long) ∈ pw_BW ∧ (yX9_sumOver.cls ≠ "java/lang/invoke/MethodHandle" ∧ yX9_sumOver.cls ≠ "java/lang/invoke/VarHandle" ∧ (parseMethodDescriptor yX9_sumOver.desc).map (fun d => d.parameters.length) = some 2) := ⟨mw_524, mw_6, mw_43, mw_525, by decide +kernel⟩
theorem wm_X9_over : Cond.instanceMethod yX9_over ∈ pw_BW ∧ Cond.selects yX9_over.cls yX9_over yX9_over ∈ pw_BW ∧ Cond.initialized yX9_over.cls ∈ pw_BW ∧ Cond.code yX9_over cX9_over 5 (some .long) ∈ pw_BW ∧ (yX9_over.cls ≠ "java/lang/invoke/MethodHandle" ∧ yX9_over.cls ≠ "java/lang/invoke/VarHandle" ∧ (parseMethodDescriptor yX9_over.desc).map (fun d => d.parameters.length) = some 3) := ⟨mw_528, mw_7, mw_43, mw_529, by decide +kernel⟩
theorem wm_X9_processAt : Cond.instanceMethod yX9_processAt ∈ pw_BW ∧ Cond.selects yX9_processAt.cls yX9_processAt yX9_processAt ∈ pw_BW ∧ Cond.initialized yX9_processAt.cls ∈ pw_BW ∧ Cond.code yX9_processAt cX9_processAt 10 (some .int) ∈ pw_BW ∧ (yX9_processAt.cls ≠ "java/lang/invoke/MethodHandle" ∧ yX9_processAt.cls ≠ "java/lang/invoke/VarHandle" ∧ (parseMethodDescriptor yX9_processAt.desc).map (fun d => d.parameters.length) = some 3) := ⟨mw_540, mw_541, mw_43, mw_542, by decide +kernel⟩
theorem wm_X10_process : Cond.instanceMethod yX10_process ∈ pw_BW ∧ Cond.selects yX10_process.cls yX10_process yX10_process ∈ pw_BW ∧ Cond.initialized yX10_process.cls ∈ pw_BW ∧ Cond.code yX10_process cX10_process 1 (some .int) ∈ pw_BW ∧ (yX10_process.cls ≠ "java/lang/invoke/MethodHandle" ∧ yX10_process.cls ≠ "java/lang/invoke/VarHandle" ∧ (parseMethodDescriptor yX10_process.desc).map (fun d => d.parameters.length) = some 0) := ⟨mw_330, mw_331, mw_34, mw_332, by decide +kernel⟩
theorem wm_X10_own : Cond.instanceMethod yX10_own ∈ pw_BW ∧ Cond.selects yX10_own.cls yX10_own yX10_own ∈ pw_BW ∧ Cond.initialized yX10_own.cls ∈ pw_BW ∧ Cond.code yX10_own cX10_own 5 (some .int) ∈ pw_BW ∧ (yX10_own.cls ≠ "java/lang/invoke/MethodHandle" ∧ yX10_own.cls ≠ "java/lang/invoke/VarHandle" ∧ (parseMethodDescriptor yX10_own.desc).map (fun d => d.parameters.length) = some 4) := ⟨mw_334, mw_335, mw_34, mw_336, by decide +kernel⟩
theorem wm_X10_send : Cond.instanceMethod yX10_send ∈ pw_BW ∧ Cond.selects yX10_send.cls yX10_send yX10_send ∈ pw_BW ∧ Cond.initialized yX10_send.cls ∈ pw_BW ∧ Cond.code yX10_send cX10_send 4 (some .int) ∈ pw_BW ∧ (yX10_send.cls ≠ "java/lang/invoke/MethodHandle" ∧ yX10_send.cls ≠ "java/lang/invoke/VarHandle" ∧ (parseMethodDescriptor yX10_send.desc).map (fun d => d.parameters.length) = some 2) := ⟨mw_364, mw_365, mw_34, mw_366, by decide +kernel⟩
theorem wm_X10_take : Cond.instanceMethod yX10_take ∈ pw_BW ∧ Cond.selects yX10_take.cls yX10_take yX10_take ∈ pw_BW ∧ Cond.initialized yX10_take.cls ∈ pw_BW ∧ Cond.code yX10_take cX10_take 3 (some .int) ∈ pw_BW ∧ (yX10_take.cls ≠ "java/lang/invoke/MethodHandle" ∧ yX10_take.cls ≠ "java/lang/invoke/VarHandle" ∧ (parseMethodDescriptor yX10_take.desc).map (fun d => d.parameters.length) = some 1) := ⟨mw_380, mw_381, mw_34, mw_382, by decide +kernel⟩
theorem wm_X10_wait : Cond.instanceMethod yX10_wait ∈ pw_BW ∧ Cond.selects yX10_wait.cls yX10_wait yX10_wait ∈ pw_BW ∧ Cond.initialized yX10_wait.cls ∈ pw_BW ∧ Cond.code yX10_wait cX10_wait 4 (some .int) ∈ pw_BW ∧ (yX10_wait.cls ≠ "java/lang/invoke/MethodHandle" ∧ yX10_wait.cls ≠ "java/lang/invoke/VarHandle" ∧ (parseMethodDescriptor yX10_wait.desc).map (fun d => d.parameters.length) = some 2) := ⟨mw_399, mw_400, mw_34, mw_401, by decide +kernel⟩
theorem wm_X10_refusalOfPair : Cond.instanceMethod yX10_refusalOfPair ∈ pw_BW ∧ Cond.selects yX10_refusalOfPair.cls yX10_refusalOfPair yX10_refusalOfPair ∈ pw_BW ∧ Cond.initialized yX10_refusalOfPair.cls ∈ pw_BW ∧ Cond.code yX10_refusalOfPair cX10_refusalOfPair 3 (some .int) ∈ pw_BW ∧ (yX10_refusalOfPair.cls ≠ "java/lang/invoke/MethodHandle" ∧ yX10_refusalOfPair.cls ≠ "java/lang/invoke/VarHandle" ∧ (parseMethodDescriptor yX10_refusalOfPair.desc).map (fun d => d.parameters.length) = some 2) := ⟨mw_369, mw_1, mw_34, mw_370, by decide +kernel⟩
theorem wm_X10_undo : Cond.instanceMethod yX10_undo ∈ pw_BW ∧ Cond.selects yX10_undo.cls yX10_undo yX10_undo ∈ pw_BW ∧ Cond.initialized yX10_undo.cls ∈ pw_BW ∧ Cond.code yX10_undo cX10_undo 1 (some .int) ∈ pw_BW ∧ (yX10_undo.cls ≠ "java/lang/invoke/MethodHandle" ∧ yX10_undo.cls ≠ "java/lang/invoke/VarHandle" ∧ (parseMethodDescriptor yX10_undo.desc).map (fun d => d.parameters.length) = some 0) := ⟨mw_407, mw_408, mw_34, mw_409, by decide +kernel⟩
theorem wm_X10_event : Cond.instanceMethod yX10_event ∈ pw_BW ∧ Cond.selects yX10_event.cls yX10_event yX10_event ∈ pw_BW ∧ Cond.initialized yX10_event.cls ∈ pw_BW ∧ Cond.code yX10_event cX10_event 5 (some .int) ∈ pw_BW ∧ (yX10_event.cls ≠ "java/lang/invoke/MethodHandle" ∧ yX10_event.cls ≠ "java/lang/invoke/VarHandle" ∧ (parseMethodDescriptor yX10_event.desc).map (fun d => d.parameters.length) = some 3) := ⟨mw_415, mw_416, mw_34, mw_417, by decide +kernel⟩
theorem wm_X10_letter : Cond.instanceMethod yX10_letter ∈ pw_BW ∧ Cond.selects yX10_letter.cls yX10_letter yX10_letter ∈ pw_BW ∧ Cond.initialized yX10_letter.cls ∈ pw_BW ∧ Cond.code yX10_letter cX10_letter 4 (some .int) ∈ pw_BW ∧ (yX10_letter.cls ≠ "java/lang/invoke/MethodHandle" ∧ yX10_letter.cls ≠ "java/lang/invoke/VarHandle" ∧ (parseMethodDescriptor yX10_letter.desc).map (fun d => d.parameters.length) = some 2) := ⟨mw_425, mw_426, mw_34, mw_427, by decide +kernel⟩
theorem wm_X10_ahead : Cond.instanceMethod yX10_ahead ∈ pw_BW ∧ Cond.selects yX10_ahead.cls yX10_ahead yX10_ahead ∈ pw_BW ∧ Cond.initialized yX10_ahead.cls ∈ pw_BW ∧ Cond.code yX10_ahead cX10_ahead 5 (some .int) ∈ pw_BW ∧ (yX10_ahead.cls ≠ "java/lang/invoke/MethodHandle" ∧ yX10_ahead.cls ≠ "java/lang/invoke/VarHandle" ∧ (parseMethodDescriptor yX10_ahead.desc).map (fun d => d.parameters.length) = some 4) := ⟨mw_429, mw_430, mw_34, mw_431, by decide +kernel⟩
theorem wm_X10_clock : Cond.instanceMethod yX10_clock ∈ pw_BW ∧ Cond.selects yX10_clock.cls yX10_clock yX10_clock ∈ pw_BW ∧ Cond.initialized yX10_clock.cls ∈ pw_BW ∧ Cond.code yX10_clock cX10_clock 4 (some .int) ∈ pw_BW ∧ (yX10_clock.cls ≠ "java/lang/invoke/MethodHandle" ∧ yX10_clock.cls ≠ "java/lang/invoke/VarHandle" ∧ (parseMethodDescriptor yX10_clock.desc).map (fun d => d.parameters.length) = some 3) := ⟨mw_434, mw_435, mw_34, mw_436, by decide +kernel⟩
theorem wm_X10_possible : Cond.instanceMethod yX10_possible ∈ pw_BW ∧ Cond.selects yX10_possible.cls yX10_possible yX10_possible ∈ pw_BW ∧ Cond.initialized yX10_possible.cls ∈ pw_BW ∧ Cond.code yX10_possible cX10_possible 2 (some .int) ∈ pw_BW ∧ (yX10_possible.cls ≠ "java/lang/invoke/MethodHandle" ∧ yX10_possible.cls ≠ "java/lang/invoke/VarHandle" ∧ (parseMethodDescriptor yX10_possible.desc).map (fun d => d.parameters.length) = some 1) := ⟨mw_438, mw_439, mw_34, mw_440, by decide +kernel⟩
theorem wm_X10_cuts : Cond.instanceMethod yX10_cuts ∈ pw_BW ∧ Cond.selects yX10_cuts.cls yX10_cuts yX10_cuts ∈ pw_BW ∧ Cond.initialized yX10_cuts.cls ∈ pw_BW ∧ Cond.code yX10_cuts cX10_cuts 3 (some .int) ∈ pw_BW ∧ (yX10_cuts.cls ≠ "java/lang/invoke/MethodHandle" ∧ yX10_cuts.cls ≠ "java/lang/invoke/VarHandle" ∧ (parseMethodDescriptor yX10_cuts.desc).map (fun d => d.parameters.length) = some 1) := ⟨mw_472, mw_473, mw_34, mw_474, by decide +kernel⟩
theorem wm_X10_next : Cond.instanceMethod yX10_next ∈ pw_BW ∧ Cond.selects yX10_next.cls yX10_next yX10_next ∈ pw_BW ∧ Cond.initialized yX10_next.cls ∈ pw_BW ∧ Cond.code yX10_next cX10_next 2 (some .int) ∈ pw_BW ∧ (yX10_next.cls ≠ "java/lang/invoke/MethodHandle" ∧ yX10_next.cls ≠ "java/lang/invoke/VarHandle" ∧ (parseMethodDescriptor yX10_next.desc).map (fun d => d.parameters.length) = some 1) := ⟨mw_480, mw_481, mw_34, mw_482, by decide +kernel⟩
theorem wm_X10_join : Cond.instanceMethod yX10_join ∈ pw_BW ∧ Cond.selects yX10_join.cls yX10_join yX10_join ∈ pw_BW ∧ Cond.initialized yX10_join.cls ∈ pw_BW ∧ Cond.code yX10_join cX10_join 4 (some .int) ∈ pw_BW ∧ (yX10_join.cls ≠ "java/lang/invoke/MethodHandle" ∧ yX10_join.cls ≠ "java/lang/invoke/VarHandle" ∧ (parseMethodDescriptor yX10_join.desc).map (fun d => d.parameters.length) = some 3) := ⟨mw_488, mw_489, mw_34, mw_490, by decide +kernel⟩
theorem wm_X10_least : Cond.instanceMethod yX10_least ∈ pw_BW ∧ Cond.selects yX10_least.cls yX10_least yX10_least ∈ pw_BW ∧ Cond.initialized yX10_least.cls ∈ pw_BW ∧ Cond.code yX10_least cX10_least 3 (some .int) ∈ pw_BW ∧ (yX10_least.cls ≠ "java/lang/invoke/MethodHandle" ∧ yX10_least.cls ≠ "java/lang/invoke/VarHandle" ∧ (parseMethodDescriptor yX10_least.desc).map (fun d => d.parameters.length) = some 2) := ⟨mw_502, mw_503, mw_34, mw_504, by decide +kernel⟩
theorem wm_X10_orders : Cond.instanceMethod yX10_orders ∈ pw_BW ∧ Cond.selects yX10_orders.cls yX10_orders yX10_orders ∈ pw_BW ∧ Cond.initialized yX10_orders.cls ∈ pw_BW ∧ Cond.code yX10_orders cX10_orders 2 (some .long) ∈ pw_BW ∧ (yX10_orders.cls ≠ "java/lang/invoke/MethodHandle" ∧ yX10_orders.cls ≠ "java/lang/invoke/VarHandle" ∧ (parseMethodDescriptor yX10_orders.desc).map (fun d => d.parameters.length) = some 0) := ⟨mw_511, mw_512, mw_34, mw_513, by decide +kernel⟩
theorem wm_X10_order : Cond.instanceMethod yX10_order ∈ pw_BW ∧ Cond.selects yX10_order.cls yX10_order yX10_order ∈ pw_BW ∧ Cond.initialized yX10_order.cls ∈ pw_BW ∧ Cond.code yX10_order cX10_order 4 (some .int) ∈ pw_BW ∧ (yX10_order.cls ≠ "java/lang/invoke/MethodHandle" ∧ yX10_order.cls ≠ "java/lang/invoke/VarHandle" ∧ (parseMethodDescriptor yX10_order.desc).map (fun d => d.parameters.length) = some 2) := ⟨mw_535, mw_536, mw_34, mw_537, by decide +kernel⟩
theorem wm_X10_number : Cond.instanceMethod yX10_number ∈ pw_BW ∧ Cond.selects yX10_number.cls yX10_number yX10_number ∈ pw_BW ∧ Cond.initialized yX10_number.cls ∈ pw_BW ∧ Cond.code yX10_number cX10_number 2 (some .int) ∈ pw_BW ∧ (yX10_number.cls ≠ "java/lang/invoke/MethodHandle" ∧ yX10_number.cls ≠ "java/lang/invoke/VarHandle" ∧ (parseMethodDescriptor yX10_number.desc).map (fun d => d.parameters.length) = some 1) := ⟨mw_545, mw_546, mw_34, mw_547, by decide +kernel⟩
theorem wm_X10_part : Cond.instanceMethod yX10_part ∈ pw_BW ∧ Cond.selects yX10_part.cls yX10_part yX10_part ∈ pw_BW ∧ Cond.initialized yX10_part.cls ∈ pw_BW ∧ Cond.code yX10_part cX10_part 4 (some .int) ∈ pw_BW ∧ (yX10_part.cls ≠ "java/lang/invoke/MethodHandle" ∧ yX10_part.cls ≠ "java/lang/invoke/VarHandle" ∧ (parseMethodDescriptor yX10_part.desc).map (fun d => d.parameters.length) = some 3) := ⟨mw_557, mw_558, mw_34, mw_559, by decide +kernel⟩
theorem wm_X10_mayBeProcess : Cond.static yX10_mayBeProcess ∈ pw_BW ∧ Cond.initialized yX10_mayBeProcess.cls ∈ pw_BW ∧ Cond.code yX10_mayBeProcess cX10_mayBeProcess 1 (some .boolean) ∈ pw_BW ∧ (yX10_mayBeProcess.cls ≠ "java/lang/invoke/MethodHandle" ∧ yX10_mayBeProcess.cls ≠ "java/lang/invoke/VarHandle" ∧ (parseMethodDescriptor yX10_mayBeProcess.desc).map (fun d => d.parameters.length) = some 1) := ⟨mw_561, mw_34, mw_562, by decide +kernel⟩
theorem wm_X10_op : Cond.instanceMethod yX10_op ∈ pw_BW ∧ Cond.selects yX10_op.cls yX10_op yX10_op ∈ pw_BW ∧ Cond.initialized yX10_op.cls ∈ pw_BW ∧ Cond.code yX10_op cX10_op 2 (some .int) ∈ pw_BW ∧ (yX10_op.cls ≠ "java/lang/invoke/MethodHandle" ∧ yX10_op.cls ≠ "java/lang/invoke/VarHandle" ∧ (parseMethodDescriptor yX10_op.desc).map (fun d => d.parameters.length) = some 1) := ⟨mw_564, mw_565, mw_34, mw_566, by decide +kernel⟩
theorem wm_X10_condition : Cond.instanceMethod yX10_condition ∈ pw_BW ∧ Cond.selects yX10_condition.cls yX10_condition yX10_condition ∈ pw_BW ∧ Cond.initialized yX10_condition.cls ∈ pw_BW ∧ Cond.code yX10_condition cX10_condition 1 (some .int) ∈ pw_BW ∧ (yX10_condition.cls ≠ "java/lang/invoke/MethodHandle" ∧ yX10_condition.cls ≠ "java/lang/invoke/VarHandle" ∧ (parseMethodDescriptor yX10_condition.desc).map (fun d => d.parameters.length) = some 0) := ⟨mw_585, mw_586, mw_34, mw_587, by decide +kernel⟩
theorem wm_X10_clear : Cond.instanceMethod yX10_clear ∈ pw_BW ∧ Cond.selects yX10_clear.cls yX10_clear yX10_clear ∈ pw_BW ∧ Cond.initialized yX10_clear.cls ∈ pw_BW ∧ Cond.code yX10_clear cX10_clear 3 (some .int) ∈ pw_BW ∧ (yX10_clear.cls ≠ "java/lang/invoke/MethodHandle" ∧ yX10_clear.cls ≠ "java/lang/invoke/VarHandle" ∧ (parseMethodDescriptor yX10_clear.desc).map (fun d => d.parameters.length) = some 1) := ⟨mw_594, mw_595, mw_34, mw_596, by decide +kernel⟩
theorem wm_X10_value : Cond.instanceMethod yX10_value ∈ pw_BW ∧ Cond.selects yX10_value.cls yX10_value yX10_value ∈ pw_BW ∧ Cond.initialized yX10_value.cls ∈ pw_BW ∧ Cond.code yX10_value cX10_value 3 (some .int) ∈ pw_BW ∧ (yX10_value.cls ≠ "java/lang/invoke/MethodHandle" ∧ yX10_value.cls ≠ "java/lang/invoke/VarHandle" ∧ (parseMethodDescriptor yX10_value.desc).map (fun d => d.parameters.length) = some 2) := ⟨mw_598, mw_599, mw_34, mw_600, by decide +kernel⟩
theorem wm_X10_status : Cond.instanceMethod yX10_status ∈ pw_BW ∧ Cond.selects yX10_status.cls yX10_status yX10_status ∈ pw_BW ∧ Cond.initialized yX10_status.cls ∈ pw_BW ∧ Cond.code yX10_status cX10_status 1 (some .int) ∈ pw_BW ∧ (yX10_status.cls ≠ "java/lang/invoke/MethodHandle" ∧ yX10_status.cls ≠ "java/lang/invoke/VarHandle" ∧ (parseMethodDescriptor yX10_status.desc).map (fun d => d.parameters.length) = some 0) := ⟨mw_624, mw_625, mw_34, mw_626, by decide +kernel⟩
theorem wm_X10_may : Cond.instanceMethod yX10_may ∈ pw_BW ∧ Cond.selects yX10_may.cls yX10_may yX10_may ∈ pw_BW ∧ Cond.initialized yX10_may.cls ∈ pw_BW ∧ Cond.code yX10_may cX10_may 2 (some .int) ∈ pw_BW ∧ (yX10_may.cls ≠ "java/lang/invoke/MethodHandle" ∧ yX10_may.cls ≠ "java/lang/invoke/VarHandle" ∧ (parseMethodDescriptor yX10_may.desc).map (fun d => d.parameters.length) = some 1) := ⟨mw_628, mw_629, mw_34, mw_630, by decide +kernel⟩
theorem wm_X10_last : Cond.instanceMethod yX10_last ∈ pw_BW ∧ Cond.selects yX10_last.cls yX10_last yX10_last ∈ pw_BW ∧ Cond.initialized yX10_last.cls ∈ pw_BW ∧ Cond.code yX10_last cX10_last 2 (some .int) ∈ pw_BW ∧ (yX10_last.cls ≠ "java/lang/invoke/MethodHandle" ∧ yX10_last.cls ≠ "java/lang/invoke/VarHandle" ∧ (parseMethodDescriptor yX10_last.desc).map (fun d => d.parameters.length) = some 1) := ⟨mw_645, mw_646, mw_34, mw_647, by decide +kernel⟩
theorem wm_X10_many : Cond.instanceMethod yX10_many ∈ pw_BW ∧ Cond.selects yX10_many.cls yX10_many yX10_many ∈ pw_BW ∧ Cond.initialized yX10_many.cls ∈ pw_BW ∧ Cond.code yX10_many cX10_many 2 (some .int) ∈ pw_BW ∧ (yX10_many.cls ≠ "java/lang/invoke/MethodHandle" ∧ yX10_many.cls ≠ "java/lang/invoke/VarHandle" ∧ (parseMethodDescriptor yX10_many.desc).map (fun d => d.parameters.length) = some 1) := ⟨mw_653, mw_654, mw_34, mw_655, by decide +kernel⟩
theorem wm_X10_sure : Cond.instanceMethod yX10_sure ∈ pw_BW ∧ Cond.selects yX10_sure.cls yX10_sure yX10_sure ∈ pw_BW ∧ Cond.initialized yX10_sure.cls ∈ pw_BW ∧ Cond.code yX10_sure cX10_sure 2 (some .int) ∈ pw_BW ∧ (yX10_sure.cls ≠ "java/lang/invoke/MethodHandle" ∧ yX10_sure.cls ≠ "java/lang/invoke/VarHandle" ∧ (parseMethodDescriptor yX10_sure.desc).map (fun d => d.parameters.length) = some 1) := ⟨mw_661, mw_662, mw_34, mw_663, by decide +kernel⟩
theorem wm_X10_avoid : Cond.instanceMethod yX10_avoid ∈ pw_BW ∧ Cond.selects yX10_avoid.cls yX10_avoid yX10_avoid ∈ pw_BW ∧ Cond.initialized yX10_avoid.cls ∈ pw_BW ∧ Cond.code yX10_avoid cX10_avoid 3 (some .int) ∈ pw_BW ∧ (yX10_avoid.cls ≠ "java/lang/invoke/MethodHandle" ∧ yX10_avoid.cls ≠ "java/lang/invoke/VarHandle" ∧ (parseMethodDescriptor yX10_avoid.desc).map (fun d => d.parameters.length) = some 2) := ⟨mw_670, mw_671, mw_34, mw_672, by decide +kernel⟩
theorem wm_X10_avoids : Cond.instanceMethod yX10_avoids ∈ pw_BW ∧ Cond.selects yX10_avoids.cls yX10_avoids yX10_avoids ∈ pw_BW ∧ Cond.initialized yX10_avoids.cls ∈ pw_BW ∧ Cond.code yX10_avoids cX10_avoids 2 (some .long) ∈ pw_BW ∧ (yX10_avoids.cls ≠ "java/lang/invoke/MethodHandle" ∧ yX10_avoids.cls ≠ "java/lang/invoke/VarHandle" ∧ (parseMethodDescriptor yX10_avoids.desc).map (fun d => d.parameters.length) = some 1) := ⟨mw_665, mw_666, mw_34, mw_667, by decide +kernel⟩
theorem wm_X10_is : Cond.instanceMethod yX10_is ∈ pw_BW ∧ Cond.selects yX10_is.cls yX10_is yX10_is ∈ pw_BW ∧ Cond.initialized yX10_is.cls ∈ pw_BW ∧ Cond.code yX10_is cX10_is 5 (some .int) ∈ pw_BW ∧ (yX10_is.cls ≠ "java/lang/invoke/MethodHandle" ∧ yX10_is.cls ≠ "java/lang/invoke/VarHandle" ∧ (parseMethodDescriptor yX10_is.desc).map (fun d => d.parameters.length) = some 2) := ⟨mw_675, mw_676, mw_34, mw_677, by decide +kernel⟩
theorem wm_X10_before : Cond.instanceMethod yX10_before ∈ pw_BW ∧ Cond.selects yX10_before.cls yX10_before yX10_before ∈ pw_BW ∧ Cond.initialized yX10_before.cls ∈ pw_BW ∧ Cond.code yX10_before cX10_before 5 (some .int) ∈ pw_BW ∧ (yX10_before.cls ≠ "java/lang/invoke/MethodHandle" ∧ yX10_before.cls ≠ "java/lang/invoke/VarHandle" ∧ (parseMethodDescriptor yX10_before.desc).map (fun d => d.parameters.length) = some 2) := ⟨mw_701, mw_702, mw_34, mw_703, by decide +kernel⟩
theorem wm_X10_say : Cond.instanceMethod yX10_say ∈ pw_BW ∧ Cond.selects yX10_say.cls yX10_say yX10_say ∈ pw_BW ∧ Cond.initialized yX10_say.cls ∈ pw_BW ∧ Cond.code yX10_say cX10_say 2 (some .int) ∈ pw_BW ∧ (yX10_say.cls ≠ "java/lang/invoke/MethodHandle" ∧ yX10_say.cls ≠ "java/lang/invoke/VarHandle" ∧ (parseMethodDescriptor yX10_say.desc).map (fun d => d.parameters.length) = some 1) := ⟨mw_710, mw_711, mw_34, mw_712, by decide +kernel⟩
theorem wm_X10_check : Cond.instanceMethod yX10_check ∈ pw_BW ∧ Cond.selects yX10_check.cls yX10_check yX10_check ∈ pw_BW ∧ Cond.initialized yX10_check.cls ∈ pw_BW ∧ Cond.code yX10_check cX10_check 3 (some .int) ∈ pw_BW ∧ (yX10_check.cls ≠ "java/lang/invoke/MethodHandle" ∧ yX10_check.cls ≠ "java/lang/invoke/VarHandle" ∧ (parseMethodDescriptor yX10_check.desc).map (fun d => d.parameters.length) = some 0) := ⟨mw_718, mw_719, mw_34, mw_720, by decide +kernel⟩
theorem wm_X10_passes : Cond.instanceMethod yX10_passes ∈ pw_BW ∧ Cond.selects yX10_passes.cls yX10_passes yX10_passes ∈ pw_BW ∧ Cond.initialized yX10_passes.cls ∈ pw_BW ∧ Cond.code yX10_passes cX10_passes 2 (some .int) ∈ pw_BW ∧ (yX10_passes.cls ≠ "java/lang/invoke/MethodHandle" ∧ yX10_passes.cls ≠ "java/lang/invoke/VarHandle" ∧ (parseMethodDescriptor yX10_passes.desc).map (fun d => d.parameters.length) = some 1) := ⟨mw_727, mw_728, mw_34, mw_729, by decide +kernel⟩
theorem wm_X10_count : Cond.instanceMethod yX10_count ∈ pw_BW ∧ Cond.selects yX10_count.cls yX10_count yX10_count ∈ pw_BW ∧ Cond.initialized yX10_count.cls ∈ pw_BW ∧ Cond.code yX10_count cX10_count 2 (some .int) ∈ pw_BW ∧ (yX10_count.cls ≠ "java/lang/invoke/MethodHandle" ∧ yX10_count.cls ≠ "java/lang/invoke/VarHandle" ∧ (parseMethodDescriptor yX10_count.desc).map (fun d => d.parameters.length) = some 1) := ⟨mw_737, mw_738, mw_34, mw_739, by decide +kernel⟩
theorem wm_X10_freshNet : Cond.instanceMethod yX10_freshNet ∈ pw_BW ∧ Cond.selects yX10_freshNet.cls yX10_freshNet yX10_freshNet ∈ pw_BW ∧ Cond.initialized yX10_freshNet.cls ∈ pw_BW ∧ Cond.code yX10_freshNet cX10_freshNet 1 (some (.object RX6)) ∈ pw_BW ∧ (yX10_freshNet.cls ≠ "java/lang/invoke/MethodHandle" ∧ yX10_freshNet.cls ≠ "java/lang/invoke/VarHandle" ∧ (parseMethodDescriptor yX10_freshNet.desc).map (fun d => d.parameters.length) = some 0) := ⟨mw_447, mw_3, mw_34, mw_448, by decide +kernel⟩
theorem wm_X10_markedNet : Cond.instanceMethod yX10_markedNet ∈ pw_BW ∧ Cond.selects yX10_markedNet.cls yX10_markedNet yX10_markedNet ∈ pw_BW ∧ Cond.initialized yX10_markedNet.cls ∈ pw_BW ∧ Cond.code yX10_markedNet cX10_markedNet 3 (some (.object RX6)) ∈ pw_BW ∧ (yX10_markedNet.cls ≠ "java/lang/invoke/MethodHandle" ∧ yX10_markedNet.cls ≠ "java/lang/invoke/VarHandle" ∧ (parseMethodDescriptor yX10_markedNet.desc).map (fun d => d.parameters.length) = some 1) := ⟨mw_633, mw_10, mw_34, mw_634, by decide +kernel⟩
theorem wm_X11_in : Cond.static yX11_in ∈ pw_BW ∧ Cond.initialized yX11_in.cls ∈ pw_BW ∧ Cond.code yX11_in cX11_in 3 (some .boolean) ∈ pw_BW ∧ (yX11_in.cls ≠ "java/lang/invoke/MethodHandle" ∧ yX11_in.cls ≠ "java/lang/invoke/VarHandle" ∧ (parseMethodDescriptor yX11_in.desc).map (fun d => d.parameters.length) = some 3) := ⟨mw_847, mw_45, mw_848, by decide +kernel⟩
theorem wm_X11_isProcess : Cond.instanceMethod yX11_isProcess ∈ pw_BW ∧ Cond.selects yX11_isProcess.cls yX11_isProcess yX11_isProcess ∈ pw_BW ∧ Cond.initialized yX11_isProcess.cls ∈ pw_BW ∧ Cond.code yX11_isProcess cX11_isProcess 2 (some .boolean) ∈ pw_BW ∧ (yX11_isProcess.cls ≠ "java/lang/invoke/MethodHandle" ∧ yX11_isProcess.cls ≠ "java/lang/invoke/VarHandle" ∧ (parseMethodDescriptor yX11_isProcess.desc).map (fun d => d.parameters.length) = some 1) := ⟨mw_844, mw_12, mw_45, mw_845, by decide +kernel⟩
theorem wm_X11_isEvent : Cond.instanceMethod yX11_isEvent ∈ pw_BW ∧ Cond.selects yX11_isEvent.cls yX11_isEvent yX11_isEvent ∈ pw_BW ∧ Cond.initialized yX11_isEvent.cls ∈ pw_BW ∧ Cond.code yX11_isEvent cX11_isEvent 3 (some .boolean) ∈ pw_BW ∧ (yX11_isEvent.cls ≠ "java/lang/invoke/MethodHandle" ∧ yX11_isEvent.cls ≠ "java/lang/invoke/VarHandle" ∧ (parseMethodDescriptor yX11_isEvent.desc).map (fun d => d.parameters.length) = some 2) := ⟨mw_879, mw_15, mw_45, mw_880, by decide +kernel⟩
theorem wm_X11_process : Cond.instanceMethod yX11_process ∈ pw_BW ∧ Cond.selects yX11_process.cls yX11_process yX11_process ∈ pw_BW ∧ Cond.initialized yX11_process.cls ∈ pw_BW ∧ Cond.code yX11_process cX11_process 1 (some .int) ∈ pw_BW ∧ (yX11_process.cls ≠ "java/lang/invoke/MethodHandle" ∧ yX11_process.cls ≠ "java/lang/invoke/VarHandle" ∧ (parseMethodDescriptor yX11_process.desc).map (fun d => d.parameters.length) = some 0) := ⟨mw_835, mw_836, mw_45, mw_837, by decide +kernel⟩
theorem wm_X11_comes : Cond.instanceMethod yX11_comes ∈ pw_BW ∧ Cond.selects yX11_comes.cls yX11_comes yX11_comes ∈ pw_BW ∧ Cond.initialized yX11_comes.cls ∈ pw_BW ∧ Cond.code yX11_comes cX11_comes 7 (some .int) ∈ pw_BW ∧ (yX11_comes.cls ≠ "java/lang/invoke/MethodHandle" ∧ yX11_comes.cls ≠ "java/lang/invoke/VarHandle" ∧ (parseMethodDescriptor yX11_comes.desc).map (fun d => d.parameters.length) = some 4) := ⟨mw_851, mw_13, mw_45, mw_852, by decide +kernel⟩
theorem wm_X11_joins : Cond.instanceMethod yX11_joins ∈ pw_BW ∧ Cond.selects yX11_joins.cls yX11_joins yX11_joins ∈ pw_BW ∧ Cond.initialized yX11_joins.cls ∈ pw_BW ∧ Cond.code yX11_joins cX11_joins 4 none ∈ pw_BW ∧ (yX11_joins.cls ≠ "java/lang/invoke/MethodHandle" ∧ yX11_joins.cls ≠ "java/lang/invoke/VarHandle" ∧ (parseMethodDescriptor yX11_joins.desc).map (fun d => d.parameters.length) = some 2) := ⟨mw_863, mw_14, mw_45, mw_864, by decide +kernel⟩
theorem wm_X11_own : Cond.instanceMethod yX11_own ∈ pw_BW ∧ Cond.selects yX11_own.cls yX11_own yX11_own ∈ pw_BW ∧ Cond.initialized yX11_own.cls ∈ pw_BW ∧ Cond.code yX11_own cX11_own 6 (some .int) ∈ pw_BW ∧ (yX11_own.cls ≠ "java/lang/invoke/MethodHandle" ∧ yX11_own.cls ≠ "java/lang/invoke/VarHandle" ∧ (parseMethodDescriptor yX11_own.desc).map (fun d => d.parameters.length) = some 4) := ⟨mw_839, mw_840, mw_45, mw_841, by decide +kernel⟩
theorem wm_X11_send : Cond.instanceMethod yX11_send ∈ pw_BW ∧ Cond.selects yX11_send.cls yX11_send yX11_send ∈ pw_BW ∧ Cond.initialized yX11_send.cls ∈ pw_BW ∧ Cond.code yX11_send cX11_send 4 (some .int) ∈ pw_BW ∧ (yX11_send.cls ≠ "java/lang/invoke/MethodHandle" ∧ yX11_send.cls ≠ "java/lang/invoke/VarHandle" ∧ (parseMethodDescriptor yX11_send.desc).map (fun d => d.parameters.length) = some 2) := ⟨mw_854, mw_855, mw_45, mw_856, by decide +kernel⟩
theorem wm_X11_take : Cond.instanceMethod yX11_take ∈ pw_BW ∧ Cond.selects yX11_take.cls yX11_take yX11_take ∈ pw_BW ∧ Cond.initialized yX11_take.cls ∈ pw_BW ∧ Cond.code yX11_take cX11_take 4 (some .int) ∈ pw_BW ∧ (yX11_take.cls ≠ "java/lang/invoke/MethodHandle" ∧ yX11_take.cls ≠ "java/lang/invoke/VarHandle" ∧ (parseMethodDescriptor yX11_take.desc).map (fun d => d.parameters.length) = some 1) := ⟨mw_858, mw_859, mw_45, mw_860, by decide +kernel⟩
theorem wm_X11_wait : Cond.instanceMethod yX11_wait ∈ pw_BW ∧ Cond.selects yX11_wait.cls yX11_wait yX11_wait ∈ pw_BW ∧ Cond.initialized yX11_wait.cls ∈ pw_BW ∧ Cond.code yX11_wait cX11_wait 4 (some .int) ∈ pw_BW ∧ (yX11_wait.cls ≠ "java/lang/invoke/MethodHandle" ∧ yX11_wait.cls ≠ "java/lang/invoke/VarHandle" ∧ (parseMethodDescriptor yX11_wait.desc).map (fun d => d.parameters.length) = some 2) := ⟨mw_866, mw_867, mw_45, mw_868, by decide +kernel⟩
theorem wm_X11_undo : Cond.instanceMethod yX11_undo ∈ pw_BW ∧ Cond.selects yX11_undo.cls yX11_undo yX11_undo ∈ pw_BW ∧ Cond.initialized yX11_undo.cls ∈ pw_BW ∧ Cond.code yX11_undo cX11_undo 3 (some .int) ∈ pw_BW ∧ (yX11_undo.cls ≠ "java/lang/invoke/MethodHandle" ∧ yX11_undo.cls ≠ "java/lang/invoke/VarHandle" ∧ (parseMethodDescriptor yX11_undo.desc).map (fun d => d.parameters.length) = some 0) := ⟨mw_870, mw_871, mw_45, mw_872, by decide +kernel⟩
theorem wm_X11_event : Cond.instanceMethod yX11_event ∈ pw_BW ∧ Cond.selects yX11_event.cls yX11_event yX11_event ∈ pw_BW ∧ Cond.initialized yX11_event.cls ∈ pw_BW ∧ Cond.code yX11_event cX11_event 5 (some .int) ∈ pw_BW ∧ (yX11_event.cls ≠ "java/lang/invoke/MethodHandle" ∧ yX11_event.cls ≠ "java/lang/invoke/VarHandle" ∧ (parseMethodDescriptor yX11_event.desc).map (fun d => d.parameters.length) = some 3) := ⟨mw_874, mw_875, mw_45, mw_876, by decide +kernel⟩
theorem wm_X11_letter : Cond.instanceMethod yX11_letter ∈ pw_BW ∧ Cond.selects yX11_letter.cls yX11_letter yX11_letter ∈ pw_BW ∧ Cond.initialized yX11_letter.cls ∈ pw_BW ∧ Cond.code yX11_letter cX11_letter 3 (some .int) ∈ pw_BW ∧ (yX11_letter.cls ≠ "java/lang/invoke/MethodHandle" ∧ yX11_letter.cls ≠ "java/lang/invoke/VarHandle" ∧ (parseMethodDescriptor yX11_letter.desc).map (fun d => d.parameters.length) = some 2) := ⟨mw_882, mw_883, mw_45, mw_884, by decide +kernel⟩
theorem wm_X11_ahead : Cond.instanceMethod yX11_ahead ∈ pw_BW ∧ Cond.selects yX11_ahead.cls yX11_ahead yX11_ahead ∈ pw_BW ∧ Cond.initialized yX11_ahead.cls ∈ pw_BW ∧ Cond.code yX11_ahead cX11_ahead 5 (some .int) ∈ pw_BW ∧ (yX11_ahead.cls ≠ "java/lang/invoke/MethodHandle" ∧ yX11_ahead.cls ≠ "java/lang/invoke/VarHandle" ∧ (parseMethodDescriptor yX11_ahead.desc).map (fun d => d.parameters.length) = some 4) := ⟨mw_886, mw_887, mw_45, mw_888, by decide +kernel⟩
theorem wm_X11_clock : Cond.instanceMethod yX11_clock ∈ pw_BW ∧ Cond.selects yX11_clock.cls yX11_clock yX11_clock ∈ pw_BW ∧ Cond.initialized yX11_clock.cls ∈ pw_BW ∧ Cond.code yX11_clock cX11_clock 4 (some .int) ∈ pw_BW ∧ (yX11_clock.cls ≠ "java/lang/invoke/MethodHandle" ∧ yX11_clock.cls ≠ "java/lang/invoke/VarHandle" ∧ (parseMethodDescriptor yX11_clock.desc).map (fun d => d.parameters.length) = some 3) := ⟨mw_890, mw_891, mw_45, mw_892, by decide +kernel⟩
theorem wm_X11_unit : Cond.static yX11_unit ∈ pw_BW ∧ Cond.initialized yX11_unit.cls ∈ pw_BW ∧ Cond.code yX11_unit cX11_unit 1 (some .int) ∈ pw_BW ∧ (yX11_unit.cls ≠ "java/lang/invoke/MethodHandle" ∧ yX11_unit.cls ≠ "java/lang/invoke/VarHandle" ∧ (parseMethodDescriptor yX11_unit.desc).map (fun d => d.parameters.length) = some 1) := ⟨mw_905, mw_45, mw_906, by decide +kernel⟩
theorem wm_X11_part : Cond.static yX11_part ∈ pw_BW ∧ Cond.initialized yX11_part.cls ∈ pw_BW ∧ Cond.code yX11_part cX11_part 2 (some .int) ∈ pw_BW ∧ (yX11_part.cls ≠ "java/lang/invoke/MethodHandle" ∧ yX11_part.cls ≠ "java/lang/invoke/VarHandle" ∧ (parseMethodDescriptor yX11_part.desc).map (fun d => d.parameters.length) = some 2) := ⟨mw_902, mw_45, mw_903, by decide +kernel⟩
theorem wm_X11_isCut : Cond.instanceMethod yX11_isCut ∈ pw_BW ∧ Cond.selects yX11_isCut.cls yX11_isCut yX11_isCut ∈ pw_BW ∧ Cond.initialized yX11_isCut.cls ∈ pw_BW ∧ Cond.code yX11_isCut cX11_isCut 3 (some .boolean) ∈ pw_BW ∧ (yX11_isCut.cls ≠ "java/lang/invoke/MethodHandle" ∧ yX11_isCut.cls ≠ "java/lang/invoke/VarHandle" ∧ (parseMethodDescriptor yX11_isCut.desc).map (fun d => d.parameters.length) = some 1) := ⟨mw_899, mw_16, mw_45, mw_900, by decide +kernel⟩
theorem wm_X11_sizeOf : Cond.static yX11_sizeOf ∈ pw_BW ∧ Cond.initialized yX11_sizeOf.cls ∈ pw_BW ∧ Cond.code yX11_sizeOf cX11_sizeOf 3 (some .int) ∈ pw_BW ∧ (yX11_sizeOf.cls ≠ "java/lang/invoke/MethodHandle" ∧ yX11_sizeOf.cls ≠ "java/lang/invoke/VarHandle" ∧ (parseMethodDescriptor yX11_sizeOf.desc).map (fun d => d.parameters.length) = some 1) := ⟨mw_916, mw_45, mw_917, by decide +kernel⟩
theorem wm_X11_isPossible : Cond.instanceMethod yX11_isPossible ∈ pw_BW ∧ Cond.selects yX11_isPossible.cls yX11_isPossible yX11_isPossible ∈ pw_BW ∧ Cond.initialized yX11_isPossible.cls ∈ pw_BW ∧ Cond.code yX11_isPossible cX11_isPossible 5 (some .boolean) ∈ pw_BW ∧ (yX11_isPossible.cls ≠ "java/lang/invoke/MethodHandle" ∧ yX11_isPossible.cls ≠ "java/lang/invoke/VarHandle" ∧ (parseMethodDescriptor yX11_isPossible.desc).map (fun d => d.parameters.length) = some 1) := ⟨mw_909, mw_17, mw_45, mw_910, by decide +kernel⟩
theorem wm_X11_whole : Cond.instanceMethod yX11_whole ∈ pw_BW ∧ Cond.selects yX11_whole.cls yX11_whole yX11_whole ∈ pw_BW ∧ Cond.initialized yX11_whole.cls ∈ pw_BW ∧ Cond.code yX11_whole cX11_whole 3 (some .int) ∈ pw_BW ∧ (yX11_whole.cls ≠ "java/lang/invoke/MethodHandle" ∧ yX11_whole.cls ≠ "java/lang/invoke/VarHandle" ∧ (parseMethodDescriptor yX11_whole.desc).map (fun d => d.parameters.length) = some 0) := ⟨mw_947, mw_20, mw_45, mw_948, by decide +kernel⟩
theorem wm_X11_possible : Cond.instanceMethod yX11_possible ∈ pw_BW ∧ Cond.selects yX11_possible.cls yX11_possible yX11_possible ∈ pw_BW ∧ Cond.initialized yX11_possible.cls ∈ pw_BW ∧ Cond.code yX11_possible cX11_possible 2 (some .int) ∈ pw_BW ∧ (yX11_possible.cls ≠ "java/lang/invoke/MethodHandle" ∧ yX11_possible.cls ≠ "java/lang/invoke/VarHandle" ∧ (parseMethodDescriptor yX11_possible.desc).map (fun d => d.parameters.length) = some 1) := ⟨mw_894, mw_895, mw_45, mw_896, by decide +kernel⟩
theorem wm_X11_cuts : Cond.instanceMethod yX11_cuts ∈ pw_BW ∧ Cond.selects yX11_cuts.cls yX11_cuts yX11_cuts ∈ pw_BW ∧ Cond.initialized yX11_cuts.cls ∈ pw_BW ∧ Cond.code yX11_cuts cX11_cuts 4 (some .int) ∈ pw_BW ∧ (yX11_cuts.cls ≠ "java/lang/invoke/MethodHandle" ∧ yX11_cuts.cls ≠ "java/lang/invoke/VarHandle" ∧ (parseMethodDescriptor yX11_cuts.desc).map (fun d => d.parameters.length) = some 1) := ⟨mw_912, mw_913, mw_45, mw_914, by decide +kernel⟩
theorem wm_X11_next : Cond.instanceMethod yX11_next ∈ pw_BW ∧ Cond.selects yX11_next.cls yX11_next yX11_next ∈ pw_BW ∧ Cond.initialized yX11_next.cls ∈ pw_BW ∧ Cond.code yX11_next cX11_next 6 (some .int) ∈ pw_BW ∧ (yX11_next.cls ≠ "java/lang/invoke/MethodHandle" ∧ yX11_next.cls ≠ "java/lang/invoke/VarHandle" ∧ (parseMethodDescriptor yX11_next.desc).map (fun d => d.parameters.length) = some 1) := ⟨mw_919, mw_920, mw_45, mw_921, by decide +kernel⟩
theorem wm_X11_joined : Cond.static yX11_joined ∈ pw_BW ∧ Cond.initialized yX11_joined.cls ∈ pw_BW ∧ Cond.code yX11_joined cX11_joined 7 (some .int) ∈ pw_BW ∧ (yX11_joined.cls ≠ "java/lang/invoke/MethodHandle" ∧ yX11_joined.cls ≠ "java/lang/invoke/VarHandle" ∧ (parseMethodDescriptor yX11_joined.desc).map (fun d => d.parameters.length) = some 3) := ⟨mw_927, mw_45, mw_928, by decide +kernel⟩
theorem wm_X11_join : Cond.instanceMethod yX11_join ∈ pw_BW ∧ Cond.selects yX11_join.cls yX11_join yX11_join ∈ pw_BW ∧ Cond.initialized yX11_join.cls ∈ pw_BW ∧ Cond.code yX11_join cX11_join 4 (some .int) ∈ pw_BW ∧ (yX11_join.cls ≠ "java/lang/invoke/MethodHandle" ∧ yX11_join.cls ≠ "java/lang/invoke/VarHandle" ∧ (parseMethodDescriptor yX11_join.desc).map (fun d => d.parameters.length) = some 3) := ⟨mw_923, mw_924, mw_45, mw_925, by decide +kernel⟩
theorem wm_X11_least : Cond.instanceMethod yX11_least ∈ pw_BW ∧ Cond.selects yX11_least.cls yX11_least yX11_least ∈ pw_BW ∧ Cond.initialized yX11_least.cls ∈ pw_BW ∧ Cond.code yX11_least cX11_least 5 (some .int) ∈ pw_BW ∧ (yX11_least.cls ≠ "java/lang/invoke/MethodHandle" ∧ yX11_least.cls ≠ "java/lang/invoke/VarHandle" ∧ (parseMethodDescriptor yX11_least.desc).map (fun d => d.parameters.length) = some 2) := ⟨mw_930, mw_931, mw_45, mw_932, by decide +kernel⟩
theorem wm_X11_open : Cond.instanceMethod yX11_open ∈ pw_BW ∧ Cond.selects yX11_open.cls yX11_open yX11_open ∈ pw_BW ∧ Cond.initialized yX11_open.cls ∈ pw_BW ∧ Cond.code yX11_open cX11_open 2 none ∈ pw_BW ∧ (yX11_open.cls ≠ "java/lang/invoke/MethodHandle" ∧ yX11_open.cls ≠ "java/lang/invoke/VarHandle" ∧ (parseMethodDescriptor yX11_open.desc).map (fun d => d.parameters.length) = some 0) := ⟨mw_939, mw_18, mw_45, mw_940, by decide +kernel⟩
theorem wm_X11_count : Cond.instanceMethod yX11_count ∈ pw_BW ∧ Cond.selects yX11_count.cls yX11_count yX11_count ∈ pw_BW ∧ Cond.initialized yX11_count.cls ∈ pw_BW ∧ Cond.code yX11_count cX11_count 4 none ∈ pw_BW ∧ (yX11_count.cls ≠ "java/lang/invoke/MethodHandle" ∧ yX11_count.cls ≠ "java/lang/invoke/VarHandle" ∧ (parseMethodDescriptor yX11_count.desc).map (fun d => d.parameters.length) = some 0) := ⟨mw_943, mw_19, mw_45, mw_944, by decide +kernel⟩
theorem wm_X11_orders : Cond.instanceMethod yX11_orders ∈ pw_BW ∧ Cond.selects yX11_orders.cls yX11_orders yX11_orders ∈ pw_BW ∧ Cond.initialized yX11_orders.cls ∈ pw_BW ∧ Cond.code yX11_orders cX11_orders 1 (some .long) ∈ pw_BW ∧ (yX11_orders.cls ≠ "java/lang/invoke/MethodHandle" ∧ yX11_orders.cls ≠ "java/lang/invoke/VarHandle" ∧ (parseMethodDescriptor yX11_orders.desc).map (fun d => d.parameters.length) = some 0) := ⟨mw_934, mw_935, mw_45, mw_936, by decide +kernel⟩
theorem wm_X11_walk : Cond.instanceMethod yX11_walk ∈ pw_BW ∧ Cond.selects yX11_walk.cls yX11_walk yX11_walk ∈ pw_BW ∧ Cond.initialized yX11_walk.cls ∈ pw_BW ∧ Cond.code yX11_walk cX11_walk 9 (some .int) ∈ pw_BW ∧ (yX11_walk.cls ≠ "java/lang/invoke/MethodHandle" ∧ yX11_walk.cls ≠ "java/lang/invoke/VarHandle" ∧ (parseMethodDescriptor yX11_walk.desc).map (fun d => d.parameters.length) = some 2) := ⟨mw_956, mw_21, mw_45, mw_957, by decide +kernel⟩
theorem wm_X11_order : Cond.instanceMethod yX11_order ∈ pw_BW ∧ Cond.selects yX11_order.cls yX11_order yX11_order ∈ pw_BW ∧ Cond.initialized yX11_order.cls ∈ pw_BW ∧ Cond.code yX11_order cX11_order 4 (some .int) ∈ pw_BW ∧ (yX11_order.cls ≠ "java/lang/invoke/MethodHandle" ∧ yX11_order.cls ≠ "java/lang/invoke/VarHandle" ∧ (parseMethodDescriptor yX11_order.desc).map (fun d => d.parameters.length) = some 2) := ⟨mw_951, mw_952, mw_45, mw_953, by decide +kernel⟩
theorem wm_X11_push : Cond.instanceMethod yX11_push ∈ pw_BW ∧ Cond.selects yX11_push.cls yX11_push yX11_push ∈ pw_BW ∧ Cond.initialized yX11_push.cls ∈ pw_BW ∧ Cond.code yX11_push cX11_push 5 (some .int) ∈ pw_BW ∧ (yX11_push.cls ≠ "java/lang/invoke/MethodHandle" ∧ yX11_push.cls ≠ "java/lang/invoke/VarHandle" ∧ (parseMethodDescriptor yX11_push.desc).map (fun d => d.parameters.length) = some 3) := ⟨mw_964, mw_22, mw_45, mw_965, by decide +kernel⟩
theorem wm_X11_number : Cond.instanceMethod yX11_number ∈ pw_BW ∧ Cond.selects yX11_number.cls yX11_number yX11_number ∈ pw_BW ∧ Cond.initialized yX11_number.cls ∈ pw_BW ∧ Cond.code yX11_number cX11_number 2 (some .int) ∈ pw_BW ∧ (yX11_number.cls ≠ "java/lang/invoke/MethodHandle" ∧ yX11_number.cls ≠ "java/lang/invoke/VarHandle" ∧ (parseMethodDescriptor yX11_number.desc).map (fun d => d.parameters.length) = some 1) := ⟨mw_959, mw_960, mw_45, mw_961, by decide +kernel⟩
theorem wm_X11_part_ : Cond.instanceMethod yX11_part_ ∈ pw_BW ∧ Cond.selects yX11_part_.cls yX11_part_ yX11_part_ ∈ pw_BW ∧ Cond.initialized yX11_part_.cls ∈ pw_BW ∧ Cond.code yX11_part_ cX11_part_ 4 (some .int) ∈ pw_BW ∧ (yX11_part_.cls ≠ "java/lang/invoke/MethodHandle" ∧ yX11_part_.cls ≠ "java/lang/invoke/VarHandle" ∧ (parseMethodDescriptor yX11_part_.desc).map (fun d => d.parameters.length) = some 3) := ⟨mw_967, mw_968, mw_45, mw_969, by decide +kernel⟩
theorem wm_X11_copy : Cond.instanceMethod yX11_copy ∈ pw_BW ∧ Cond.selects yX11_copy.cls yX11_copy yX11_copy ∈ pw_BW ∧ Cond.initialized yX11_copy.cls ∈ pw_BW ∧ Cond.code yX11_copy cX11_copy 5 none ∈ pw_BW ∧ (yX11_copy.cls ≠ "java/lang/invoke/MethodHandle" ∧ yX11_copy.cls ≠ "java/lang/invoke/VarHandle" ∧ (parseMethodDescriptor yX11_copy.desc).map (fun d => d.parameters.length) = some 2) := ⟨mw_976, mw_23, mw_45, mw_977, by decide +kernel⟩
theorem wm_X11_op : Cond.instanceMethod yX11_op ∈ pw_BW ∧ Cond.selects yX11_op.cls yX11_op yX11_op ∈ pw_BW ∧ Cond.initialized yX11_op.cls ∈ pw_BW ∧ Cond.code yX11_op cX11_op 7 (some .int) ∈ pw_BW ∧ (yX11_op.cls ≠ "java/lang/invoke/MethodHandle" ∧ yX11_op.cls ≠ "java/lang/invoke/VarHandle" ∧ (parseMethodDescriptor yX11_op.desc).map (fun d => d.parameters.length) = some 1) := ⟨mw_971, mw_972, mw_45, mw_973, by decide +kernel⟩
theorem wm_X11_condition : Cond.instanceMethod yX11_condition ∈ pw_BW ∧ Cond.selects yX11_condition.cls yX11_condition yX11_condition ∈ pw_BW ∧ Cond.initialized yX11_condition.cls ∈ pw_BW ∧ Cond.code yX11_condition cX11_condition 1 (some .int) ∈ pw_BW ∧ (yX11_condition.cls ≠ "java/lang/invoke/MethodHandle" ∧ yX11_condition.cls ≠ "java/lang/invoke/VarHandle" ∧ (parseMethodDescriptor yX11_condition.desc).map (fun d => d.parameters.length) = some 0) := ⟨mw_979, mw_980, mw_45, mw_981, by decide +kernel⟩
theorem wm_X11_clear : Cond.instanceMethod yX11_clear ∈ pw_BW ∧ Cond.selects yX11_clear.cls yX11_clear yX11_clear ∈ pw_BW ∧ Cond.initialized yX11_clear.cls ∈ pw_BW ∧ Cond.code yX11_clear cX11_clear 3 (some .int) ∈ pw_BW ∧ (yX11_clear.cls ≠ "java/lang/invoke/MethodHandle" ∧ yX11_clear.cls ≠ "java/lang/invoke/VarHandle" ∧ (parseMethodDescriptor yX11_clear.desc).map (fun d => d.parameters.length) = some 1) := ⟨mw_983, mw_984, mw_45, mw_985, by decide +kernel⟩
theorem wm_X11_nameAt : Cond.instanceMethod yX11_nameAt ∈ pw_BW ∧ Cond.selects yX11_nameAt.cls yX11_nameAt yX11_nameAt ∈ pw_BW ∧ Cond.initialized yX11_nameAt.cls ∈ pw_BW ∧ Cond.code yX11_nameAt cX11_nameAt 7 (some .int) ∈ pw_BW ∧ (yX11_nameAt.cls ≠ "java/lang/invoke/MethodHandle" ∧ yX11_nameAt.cls ≠ "java/lang/invoke/VarHandle" ∧ (parseMethodDescriptor yX11_nameAt.desc).map (fun d => d.parameters.length) = some 3) := ⟨mw_999, mw_25, mw_45, mw_1000, by decide +kernel⟩
theorem wm_X11_underWay : Cond.instanceMethod yX11_underWay ∈ pw_BW ∧ Cond.selects yX11_underWay.cls yX11_underWay yX11_underWay ∈ pw_BW ∧ Cond.initialized yX11_underWay.cls ∈ pw_BW ∧ Cond.code yX11_underWay cX11_underWay 6 (some .int) ∈ pw_BW ∧ (yX11_underWay.cls ≠ "java/lang/invoke/MethodHandle" ∧ yX11_underWay.cls ≠ "java/lang/invoke/VarHandle" ∧ (parseMethodDescriptor yX11_underWay.desc).map (fun d => d.parameters.length) = some 3) := ⟨mw_1003, mw_26, mw_45, mw_1004, by decide +kernel⟩
theorem wm_X11_give : Cond.static yX11_give ∈ pw_BW ∧ Cond.initialized yX11_give.cls ∈ pw_BW ∧ Cond.code yX11_give cX11_give 3 (some .int) ∈ pw_BW ∧ (yX11_give.cls ≠ "java/lang/invoke/MethodHandle" ∧ yX11_give.cls ≠ "java/lang/invoke/VarHandle" ∧ (parseMethodDescriptor yX11_give.desc).map (fun d => d.parameters.length) = some 3) := ⟨mw_995, mw_45, mw_996, by decide +kernel⟩
theorem wm_X11_worthOf : Cond.instanceMethod yX11_worthOf ∈ pw_BW ∧ Cond.selects yX11_worthOf.cls yX11_worthOf yX11_worthOf ∈ pw_BW ∧ Cond.initialized yX11_worthOf.cls ∈ pw_BW ∧ Cond.code yX11_worthOf cX11_worthOf 6 (some .int) ∈ pw_BW ∧ (yX11_worthOf.cls ≠ "java/lang/invoke/MethodHandle" ∧ yX11_worthOf.cls ≠ "java/lang/invoke/VarHandle" ∧ (parseMethodDescriptor yX11_worthOf.desc).map (fun d => d.parameters.length) = some 2) := ⟨mw_992, mw_24, mw_45, mw_993, by decide +kernel⟩
theorem wm_X11_value : Cond.instanceMethod yX11_value ∈ pw_BW ∧ Cond.selects yX11_value.cls yX11_value yX11_value ∈ pw_BW ∧ Cond.initialized yX11_value.cls ∈ pw_BW ∧ Cond.code yX11_value cX11_value 3 (some .int) ∈ pw_BW ∧ (yX11_value.cls ≠ "java/lang/invoke/MethodHandle" ∧ yX11_value.cls ≠ "java/lang/invoke/VarHandle" ∧ (parseMethodDescriptor yX11_value.desc).map (fun d => d.parameters.length) = some 2) := ⟨mw_987, mw_988, mw_45, mw_989, by decide +kernel⟩
theorem wm_X11_status : Cond.instanceMethod yX11_status ∈ pw_BW ∧ Cond.selects yX11_status.cls yX11_status yX11_status ∈ pw_BW ∧ Cond.initialized yX11_status.cls ∈ pw_BW ∧ Cond.code yX11_status cX11_status 1 (some .int) ∈ pw_BW ∧ (yX11_status.cls ≠ "java/lang/invoke/MethodHandle" ∧ yX11_status.cls ≠ "java/lang/invoke/VarHandle" ∧ (parseMethodDescriptor yX11_status.desc).map (fun d => d.parameters.length) = some 0) := ⟨mw_1006, mw_1007, mw_45, mw_1008, by decide +kernel⟩
theorem wm_X11_study : Cond.instanceMethod yX11_study ∈ pw_BW ∧ Cond.selects yX11_study.cls yX11_study yX11_study ∈ pw_BW ∧ Cond.initialized yX11_study.cls ∈ pw_BW ∧ Cond.code yX11_study cX11_study 3 (some .boolean) ∈ pw_BW ∧ (yX11_study.cls ≠ "java/lang/invoke/MethodHandle" ∧ yX11_study.cls ≠ "java/lang/invoke/VarHandle" ∧ (parseMethodDescriptor yX11_study.desc).map (fun d => d.parameters.length) = some 1) := ⟨mw_1019, mw_28, mw_45, mw_1020, by decide +kernel⟩
theorem wm_X11_extreme : Cond.instanceMethod yX11_extreme ∈ pw_BW ∧ Cond.selects yX11_extreme.cls yX11_extreme yX11_extreme ∈ pw_BW ∧ Cond.initialized yX11_extreme.cls ∈ pw_BW ∧ Cond.code yX11_extreme cX11_extreme 6 (some .int) ∈ pw_BW ∧ (yX11_extreme.cls ≠ "java/lang/invoke/MethodHandle" ∧ yX11_extreme.cls ≠ "java/lang/invoke/VarHandle" ∧ (parseMethodDescriptor yX11_extreme.desc).map (fun d => d.parameters.length) = some 2) := ⟨mw_1015, mw_27, mw_45, mw_1016, by decide +kernel⟩
theorem wm_X11_may : Cond.instanceMethod yX11_may ∈ pw_BW ∧ Cond.selects yX11_may.cls yX11_may yX11_may ∈ pw_BW ∧ Cond.initialized yX11_may.cls ∈ pw_BW ∧ Cond.code yX11_may cX11_may 2 (some .int) ∈ pw_BW ∧ (yX11_may.cls ≠ "java/lang/invoke/MethodHandle" ∧ yX11_may.cls ≠ "java/lang/invoke/VarHandle" ∧ (parseMethodDescriptor yX11_may.desc).map (fun d => d.parameters.length) = some 1) := ⟨mw_1010, mw_1011, mw_45, mw_1012, by decide +kernel⟩
theorem wm_X11_last : Cond.instanceMethod yX11_last ∈ pw_BW ∧ Cond.selects yX11_last.cls yX11_last yX11_last ∈ pw_BW ∧ Cond.initialized yX11_last.cls ∈ pw_BW ∧ Cond.code yX11_last cX11_last 2 (some .int) ∈ pw_BW ∧ (yX11_last.cls ≠ "java/lang/invoke/MethodHandle" ∧ yX11_last.cls ≠ "java/lang/invoke/VarHandle" ∧ (parseMethodDescriptor yX11_last.desc).map (fun d => d.parameters.length) = some 1) := ⟨mw_1022, mw_1023, mw_45, mw_1024, by decide +kernel⟩
theorem wm_X11_many : Cond.instanceMethod yX11_many ∈ pw_BW ∧ Cond.selects yX11_many.cls yX11_many yX11_many ∈ pw_BW ∧ Cond.initialized yX11_many.cls ∈ pw_BW ∧ Cond.code yX11_many cX11_many 4 (some .int) ∈ pw_BW ∧ (yX11_many.cls ≠ "java/lang/invoke/MethodHandle" ∧ yX11_many.cls ≠ "java/lang/invoke/VarHandle" ∧ (parseMethodDescriptor yX11_many.desc).map (fun d => d.parameters.length) = some 1) := ⟨mw_1026, mw_1027, mw_45, mw_1028, by decide +kernel⟩
theorem wm_X11_bars : Cond.instanceMethod yX11_bars ∈ pw_BW ∧ Cond.selects yX11_bars.cls yX11_bars yX11_bars ∈ pw_BW ∧ Cond.initialized yX11_bars.cls ∈ pw_BW ∧ Cond.code yX11_bars cX11_bars 3 (some .boolean) ∈ pw_BW ∧ (yX11_bars.cls ≠ "java/lang/invoke/MethodHandle" ∧ yX11_bars.cls ≠ "java/lang/invoke/VarHandle" ∧ (parseMethodDescriptor yX11_bars.desc).map (fun d => d.parameters.length) = some 1) := ⟨mw_1035, mw_29, mw_45, mw_1036, by decide +kernel⟩
theorem wm_X11_sure : Cond.instanceMethod yX11_sure ∈ pw_BW ∧ Cond.selects yX11_sure.cls yX11_sure yX11_sure ∈ pw_BW ∧ Cond.initialized yX11_sure.cls ∈ pw_BW ∧ Cond.code yX11_sure cX11_sure 2 (some .int) ∈ pw_BW ∧ (yX11_sure.cls ≠ "java/lang/invoke/MethodHandle" ∧ yX11_sure.cls ≠ "java/lang/invoke/VarHandle" ∧ (parseMethodDescriptor yX11_sure.desc).map (fun d => d.parameters.length) = some 1) := ⟨mw_1030, mw_1031, mw_45, mw_1032, by decide +kernel⟩
theorem wm_X11_avoid : Cond.instanceMethod yX11_avoid ∈ pw_BW ∧ Cond.selects yX11_avoid.cls yX11_avoid yX11_avoid ∈ pw_BW ∧ Cond.initialized yX11_avoid.cls ∈ pw_BW ∧ Cond.code yX11_avoid cX11_avoid 3 (some .int) ∈ pw_BW ∧ (yX11_avoid.cls ≠ "java/lang/invoke/MethodHandle" ∧ yX11_avoid.cls ≠ "java/lang/invoke/VarHandle" ∧ (parseMethodDescriptor yX11_avoid.desc).map (fun d => d.parameters.length) = some 2) := ⟨mw_1038, mw_1039, mw_45, mw_1040, by decide +kernel⟩
theorem wm_X11_avoids : Cond.instanceMethod yX11_avoids ∈ pw_BW ∧ Cond.selects yX11_avoids.cls yX11_avoids yX11_avoids ∈ pw_BW ∧ Cond.initialized yX11_avoids.cls ∈ pw_BW ∧ Cond.code yX11_avoids cX11_avoids 2 (some .long) ∈ pw_BW ∧ (yX11_avoids.cls ≠ "java/lang/invoke/MethodHandle" ∧ yX11_avoids.cls ≠ "java/lang/invoke/VarHandle" ∧ (parseMethodDescriptor yX11_avoids.desc).map (fun d => d.parameters.length) = some 1) := ⟨mw_1042, mw_1043, mw_45, mw_1044, by decide +kernel⟩
theorem wm_X11_isKept : Cond.instanceMethod yX11_isKept ∈ pw_BW ∧ Cond.selects yX11_isKept.cls yX11_isKept yX11_isKept ∈ pw_BW ∧ Cond.initialized yX11_isKept.cls ∈ pw_BW ∧ Cond.code yX11_isKept cX11_isKept 3 (some .boolean) ∈ pw_BW ∧ (yX11_isKept.cls ≠ "java/lang/invoke/MethodHandle" ∧ yX11_isKept.cls ≠ "java/lang/invoke/VarHandle" ∧ (parseMethodDescriptor yX11_isKept.desc).map (fun d => d.parameters.length) = some 0) := ⟨mw_1052, mw_30, mw_45, mw_1053, by decide +kernel⟩
theorem wm_X11_isClosed : Cond.instanceMethod yX11_isClosed ∈ pw_BW ∧ Cond.selects yX11_isClosed.cls yX11_isClosed yX11_isClosed ∈ pw_BW ∧ Cond.initialized yX11_isClosed.cls ∈ pw_BW ∧ Cond.code yX11_isClosed cX11_isClosed 4 (some .boolean) ∈ pw_BW ∧ (yX11_isClosed.cls ≠ "java/lang/invoke/MethodHandle" ∧ yX11_isClosed.cls ≠ "java/lang/invoke/VarHandle" ∧ (parseMethodDescriptor yX11_isClosed.desc).map (fun d => d.parameters.length) = some 1) := ⟨mw_1056, mw_31, mw_45, mw_1057, by decide +kernel⟩
theorem wm_X11_is : Cond.instanceMethod yX11_is ∈ pw_BW ∧ Cond.selects yX11_is.cls yX11_is yX11_is ∈ pw_BW ∧ Cond.initialized yX11_is.cls ∈ pw_BW ∧ Cond.code yX11_is cX11_is 3 (some .int) ∈ pw_BW ∧ (yX11_is.cls ≠ "java/lang/invoke/MethodHandle" ∧ yX11_is.cls ≠ "java/lang/invoke/VarHandle" ∧ (parseMethodDescriptor yX11_is.desc).map (fun d => d.parameters.length) = some 2) := ⟨mw_1047, mw_1048, mw_45, mw_1049, by decide +kernel⟩
theorem wm_X11_before : Cond.instanceMethod yX11_before ∈ pw_BW ∧ Cond.selects yX11_before.cls yX11_before yX11_before ∈ pw_BW ∧ Cond.initialized yX11_before.cls ∈ pw_BW ∧ Cond.code yX11_before cX11_before 5 (some .int) ∈ pw_BW ∧ (yX11_before.cls ≠ "java/lang/invoke/MethodHandle" ∧ yX11_before.cls ≠ "java/lang/invoke/VarHandle" ∧ (parseMethodDescriptor yX11_before.desc).map (fun d => d.parameters.length) = some 2) := ⟨mw_1059, mw_1060, mw_45, mw_1061, by decide +kernel⟩
theorem wm_X11_say : Cond.instanceMethod yX11_say ∈ pw_BW ∧ Cond.selects yX11_say.cls yX11_say yX11_say ∈ pw_BW ∧ Cond.initialized yX11_say.cls ∈ pw_BW ∧ Cond.code yX11_say cX11_say 2 (some .int) ∈ pw_BW ∧ (yX11_say.cls ≠ "java/lang/invoke/MethodHandle" ∧ yX11_say.cls ≠ "java/lang/invoke/VarHandle" ∧ (parseMethodDescriptor yX11_say.desc).map (fun d => d.parameters.length) = some 1) := ⟨mw_1063, mw_1064, mw_45, mw_1065, by decide +kernel⟩
theorem wm_X11_firstWrong : Cond.instanceMethod yX11_firstWrong ∈ pw_BW ∧ Cond.selects yX11_firstWrong.cls yX11_firstWrong yX11_firstWrong ∈ pw_BW ∧ Cond.initialized yX11_firstWrong.cls ∈ pw_BW ∧ Cond.code yX11_firstWrong cX11_firstWrong 4 (some .int) ∈ pw_BW ∧ (yX11_firstWrong.cls ≠ "java/lang/invoke/MethodHandle" ∧ yX11_firstWrong.cls ≠ "java/lang/invoke/VarHandle" ∧ (parseMethodDescriptor yX11_firstWrong.desc).map (fun d => d.parameters.length) = some 0) := ⟨mw_1072, mw_32, mw_45, mw_1073, by decide +kernel⟩
theorem wm_X11_check : Cond.instanceMethod yX11_check ∈ pw_BW ∧ Cond.selects yX11_check.cls yX11_check yX11_check ∈ pw_BW ∧ Cond.initialized yX11_check.cls ∈ pw_BW ∧ Cond.code yX11_check cX11_check 3 (some .int) ∈ pw_BW ∧ (yX11_check.cls ≠ "java/lang/invoke/MethodHandle" ∧ yX11_check.cls ≠ "java/lang/invoke/VarHandle" ∧ (parseMethodDescriptor yX11_check.desc).map (fun d => d.parameters.length) = some 0) := ⟨mw_1067, mw_1068, mw_45, mw_1069, by decide +kernel⟩
theorem wm_X11_passes : Cond.instanceMethod yX11_passes ∈ pw_BW ∧ Cond.selects yX11_passes.cls yX11_passes yX11_passes ∈ pw_BW ∧ Cond.initialized yX11_passes.cls ∈ pw_BW ∧ Cond.code yX11_passes cX11_passes 4 (some .int) ∈ pw_BW ∧ (yX11_passes.cls ≠ "java/lang/invoke/MethodHandle" ∧ yX11_passes.cls ≠ "java/lang/invoke/VarHandle" ∧ (parseMethodDescriptor yX11_passes.desc).map (fun d => d.parameters.length) = some 1) := ⟨mw_1075, mw_1076, mw_45, mw_1077, by decide +kernel⟩
theorem wm_X11_count_ : Cond.instanceMethod yX11_count_ ∈ pw_BW ∧ Cond.selects yX11_count_.cls yX11_count_ yX11_count_ ∈ pw_BW ∧ Cond.initialized yX11_count_.cls ∈ pw_BW ∧ Cond.code yX11_count_ cX11_count_ 4 (some .int) ∈ pw_BW ∧ (yX11_count_.cls ≠ "java/lang/invoke/MethodHandle" ∧ yX11_count_.cls ≠ "java/lang/invoke/VarHandle" ∧ (parseMethodDescriptor yX11_count_.desc).map (fun d => d.parameters.length) = some 1) := ⟨mw_1079, mw_1080, mw_45, mw_1081, by decide +kernel⟩
theorem wm_J9_max_7cf53 : Cond.static yJ9_max_7cf53 ∈ pw_BW ∧ Cond.initialized yJ9_max_7cf53.cls ∈ pw_BW ∧ Cond.code yJ9_max_7cf53 cJ9_max_7cf53 2 (some .int) ∈ pw_BW ∧ (yJ9_max_7cf53.cls ≠ "java/lang/invoke/MethodHandle" ∧ yJ9_max_7cf53.cls ≠ "java/lang/invoke/VarHandle" ∧ (parseMethodDescriptor yJ9_max_7cf53.desc).map (fun d => d.parameters.length) = some 2) := ⟨mw_396, mw_46, mw_397, by decide +kernel⟩
theorem wm_J9_min_7cf53 : Cond.static yJ9_min_7cf53 ∈ pw_BW ∧ Cond.initialized yJ9_min_7cf53.cls ∈ pw_BW ∧ Cond.code yJ9_min_7cf53 cJ9_min_7cf53 2 (some .int) ∈ pw_BW ∧ (yJ9_min_7cf53.cls ≠ "java/lang/invoke/MethodHandle" ∧ yJ9_min_7cf53.cls ≠ "java/lang/invoke/VarHandle" ∧ (parseMethodDescriptor yJ9_min_7cf53.desc).map (fun d => d.parameters.length) = some 2) := ⟨mw_498, mw_46, mw_499, by decide +kernel⟩
theorem wm_J7_fill_53178 : Cond.static yJ7_fill_53178 ∈ pw_BW ∧ Cond.initialized yJ7_fill_53178.cls ∈ pw_BW ∧ Cond.code yJ7_fill_53178 cJ7_fill_53178 4 none ∈ pw_BW ∧ (yJ7_fill_53178.cls ≠ "java/lang/invoke/MethodHandle" ∧ yJ7_fill_53178.cls ≠ "java/lang/invoke/VarHandle" ∧ (parseMethodDescriptor yJ7_fill_53178.desc).map (fun d => d.parameters.length) = some 2) := ⟨mw_466, mw_47, mw_467, by decide +kernel⟩
