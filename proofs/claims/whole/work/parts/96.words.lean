/-! THE LAW: the words and the bytes of its own body -/
def R_law : String := "ClockWiresLaw"
theorem lx_in1 {w : Cond} (h : w ∈ tables_1_1) : w ∈ lw_tbl := List.mem_append_right _ (show w ∈ tables_1_1 ++ (tables_1_2 ++ (tables_1_3 ++ (tables_1_4 ++ (tables_1_5 ++ tables_1_6)))) from List.mem_append_left _ h)
theorem lx_in2 {w : Cond} (h : w ∈ tables_1_2) : w ∈ lw_tbl := List.mem_append_right _ (show w ∈ tables_1_1 ++ (tables_1_2 ++ (tables_1_3 ++ (tables_1_4 ++ (tables_1_5 ++ tables_1_6)))) from List.mem_append_right _ (List.mem_append_left _ h))
theorem lx_in3 {w : Cond} (h : w ∈ tables_1_3) : w ∈ lw_tbl := List.mem_append_right _ (show w ∈ tables_1_1 ++ (tables_1_2 ++ (tables_1_3 ++ (tables_1_4 ++ (tables_1_5 ++ tables_1_6)))) from List.mem_append_right _ (List.mem_append_right _ (List.mem_append_left _ h)))
def lw_lk (idx M : Nat) : Prop := Cond.methodLink R_law idx (cw_y M) ∈ cw_t ∧ Cond.instanceMethod (cw_y M) ∈ cw_t ∧ Cond.selects (cw_y M).cls (cw_y M) (cw_y M) ∈ cw_t
def lw_li (idx M : Nat) : Prop := Cond.methodLink R_law idx (cw_y M) ∈ cw_t ∧ Cond.instanceMethod (cw_y M) ∈ cw_t
set_option maxRecDepth 20000 in
theorem lk_CW_sink : lw_lk 13 m_CW_sink := ⟨cw_in3 (List.mem_of_getElem? (i := 14) rfl) rfl, cw_in3 (List.mem_of_getElem? (i := 15) rfl) rfl, cw_in3 (List.mem_of_getElem? (i := 16) rfl) rfl⟩
set_option maxRecDepth 20000 in
theorem lk_Mo_sink : lw_lk 17 m_Mo_sink := ⟨cw_in5 (List.mem_of_getElem? (i := 10) rfl) rfl, cw_in5 (List.mem_of_getElem? (i := 11) rfl) rfl, cw_in5 (List.mem_of_getElem? (i := 12) rfl) rfl⟩
set_option maxRecDepth 20000 in
theorem lk_CW_moves : lw_lk 18 m_CW_moves := ⟨cw_in3 (List.mem_of_getElem? (i := 49) rfl) rfl, cw_in3 (List.mem_of_getElem? (i := 50) rfl) rfl, cw_in3 (List.mem_of_getElem? (i := 51) rfl) rfl⟩
set_option maxRecDepth 20000 in
theorem lk_Mo_moves : lw_lk 22 m_Mo_moves := ⟨cw_in5 (List.mem_of_getElem? (i := 40) rfl) rfl, cw_in5 (List.mem_of_getElem? (i := 41) rfl) rfl, cw_in5 (List.mem_of_getElem? (i := 42) rfl) rfl⟩
set_option maxRecDepth 20000 in
theorem lk_CW_sets : lw_lk 23 m_CW_sets := ⟨cw_in3 (List.mem_of_getElem? (i := 64) rfl) rfl, cw_in3 (List.mem_of_getElem? (i := 65) rfl) rfl, cw_in3 (List.mem_of_getElem? (i := 66) rfl) rfl⟩
set_option maxRecDepth 20000 in
theorem lk_Mo_sets : lw_lk 26 m_Mo_sets := ⟨cw_in5 (List.mem_of_getElem? (i := 58) rfl) rfl, cw_in5 (List.mem_of_getElem? (i := 59) rfl) rfl, cw_in5 (List.mem_of_getElem? (i := 60) rfl) rfl⟩
set_option maxRecDepth 20000 in
theorem lk_CW_skew : lw_lk 27 m_CW_skew := ⟨cw_in3 (List.mem_of_getElem? (i := 72) rfl) rfl, cw_in3 (List.mem_of_getElem? (i := 73) rfl) rfl, cw_in3 (List.mem_of_getElem? (i := 74) rfl) rfl⟩
set_option maxRecDepth 20000 in
theorem lk_Mo_skew : lw_lk 31 m_Mo_skew := ⟨cw_in5 (List.mem_of_getElem? (i := 62) rfl) rfl, cw_in5 (List.mem_of_getElem? (i := 63) rfl) rfl, cw_in5 (List.mem_of_getElem? (i := 64) rfl) rfl⟩
set_option maxRecDepth 20000 in
theorem lk_CW_source : lw_lk 32 m_CW_source := ⟨cw_in3 (List.mem_of_getElem? (i := 76) rfl) rfl, cw_in3 (List.mem_of_getElem? (i := 77) rfl) rfl, cw_in3 (List.mem_of_getElem? (i := 78) rfl) rfl⟩
set_option maxRecDepth 20000 in
theorem lk_Mo_source : lw_lk 35 m_Mo_source := ⟨cw_in5 (List.mem_of_getElem? (i := 66) rfl) rfl, cw_in5 (List.mem_of_getElem? (i := 67) rfl) rfl, cw_in5 (List.mem_of_getElem? (i := 68) rfl) rfl⟩
set_option maxRecDepth 20000 in
theorem lk_CW_end : lw_lk 36 m_CW_end := ⟨cw_in3 (List.mem_of_getElem? (i := 80) rfl) rfl, cw_in3 (List.mem_of_getElem? (i := 81) rfl) rfl, cw_in3 (List.mem_of_getElem? (i := 82) rfl) rfl⟩
set_option maxRecDepth 20000 in
theorem lk_Mo_end : lw_lk 39 m_Mo_end := ⟨cw_in5 (List.mem_of_getElem? (i := 70) rfl) rfl, cw_in5 (List.mem_of_getElem? (i := 71) rfl) rfl, cw_in5 (List.mem_of_getElem? (i := 72) rfl) rfl⟩
set_option maxRecDepth 20000 in
theorem lk_CW_touched : lw_lk 40 m_CW_touched := ⟨cw_in3 (List.mem_of_getElem? (i := 88) rfl) rfl, cw_in3 (List.mem_of_getElem? (i := 89) rfl) rfl, cw_in3 (List.mem_of_getElem? (i := 90) rfl) rfl⟩
set_option maxRecDepth 20000 in
theorem lk_Mo_touched : lw_lk 43 m_Mo_touched := ⟨cw_in5 (List.mem_of_getElem? (i := 74) rfl) rfl, cw_in5 (List.mem_of_getElem? (i := 75) rfl) rfl, cw_in5 (List.mem_of_getElem? (i := 76) rfl) rfl⟩
set_option maxRecDepth 20000 in
theorem lk_CW_at : lw_lk 44 m_CW_at := ⟨cw_in3 (List.mem_of_getElem? (i := 96) rfl) rfl, cw_in3 (List.mem_of_getElem? (i := 97) rfl) rfl, cw_in3 (List.mem_of_getElem? (i := 98) rfl) rfl⟩
set_option maxRecDepth 20000 in
theorem lk_Mo_at : lw_lk 47 m_Mo_at := ⟨cw_in5 (List.mem_of_getElem? (i := 78) rfl) rfl, cw_in5 (List.mem_of_getElem? (i := 79) rfl) rfl, cw_in5 (List.mem_of_getElem? (i := 80) rfl) rfl⟩
set_option maxRecDepth 20000 in
theorem lk_CW_joins : lw_lk 48 m_CW_joins := ⟨cw_in3 (List.mem_of_getElem? (i := 100) rfl) rfl, cw_in3 (List.mem_of_getElem? (i := 101) rfl) rfl, cw_in3 (List.mem_of_getElem? (i := 102) rfl) rfl⟩
set_option maxRecDepth 20000 in
theorem lk_Mo_joins : lw_lk 51 m_Mo_joins := ⟨cw_in5 (List.mem_of_getElem? (i := 82) rfl) rfl, cw_in5 (List.mem_of_getElem? (i := 83) rfl) rfl, cw_in5 (List.mem_of_getElem? (i := 84) rfl) rfl⟩
set_option maxRecDepth 20000 in
theorem lk_CW_pairs : lw_lk 52 m_CW_pairs := ⟨cw_in3 (List.mem_of_getElem? (i := 115) rfl) rfl, cw_in3 (List.mem_of_getElem? (i := 116) rfl) rfl, cw_in3 (List.mem_of_getElem? (i := 117) rfl) rfl⟩
set_option maxRecDepth 20000 in
theorem lk_Mo_pairs : lw_lk 56 m_Mo_pairs := ⟨cw_in5 (List.mem_of_getElem? (i := 106) rfl) rfl, cw_in5 (List.mem_of_getElem? (i := 107) rfl) rfl, cw_in5 (List.mem_of_getElem? (i := 108) rfl) rfl⟩
set_option maxRecDepth 20000 in
theorem lk_CW_frees : lw_lk 57 m_CW_frees := ⟨cw_in3 (List.mem_of_getElem? (i := 123) rfl) rfl, cw_in3 (List.mem_of_getElem? (i := 124) rfl) rfl, cw_in3 (List.mem_of_getElem? (i := 125) rfl) rfl⟩
set_option maxRecDepth 20000 in
theorem lk_Mo_frees : lw_lk 60 m_Mo_frees := ⟨cw_in5 (List.mem_of_getElem? (i := 133) rfl) rfl, cw_in5 (List.mem_of_getElem? (i := 134) rfl) rfl, cw_in5 (List.mem_of_getElem? (i := 135) rfl) rfl⟩
set_option maxRecDepth 20000 in
theorem lk_CW_cuts : lw_lk 61 m_CW_cuts := ⟨cw_in3 (List.mem_of_getElem? (i := 132) rfl) rfl, cw_in3 (List.mem_of_getElem? (i := 133) rfl) rfl, cw_in3 (List.mem_of_getElem? (i := 134) rfl) rfl⟩
set_option maxRecDepth 20000 in
theorem lk_Mo_cuts : lw_lk 64 m_Mo_cuts := ⟨cw_in5 (List.mem_of_getElem? (i := 145) rfl) rfl, cw_in5 (List.mem_of_getElem? (i := 146) rfl) rfl, cw_in5 (List.mem_of_getElem? (i := 147) rfl) rfl⟩
set_option maxRecDepth 20000 in
theorem lk_CW_grafts : lw_lk 65 m_CW_grafts := ⟨cw_in3 (List.mem_of_getElem? (i := 145) rfl) rfl, cw_in3 (List.mem_of_getElem? (i := 146) rfl) rfl, cw_in3 (List.mem_of_getElem? (i := 147) rfl) rfl⟩
set_option maxRecDepth 20000 in
theorem lk_Mo_grafts : lw_lk 68 m_Mo_grafts := ⟨cw_in5 (List.mem_of_getElem? (i := 153) rfl) rfl, cw_in5 (List.mem_of_getElem? (i := 154) rfl) rfl, cw_in5 (List.mem_of_getElem? (i := 155) rfl) rfl⟩
set_option maxRecDepth 20000 in
theorem lk_CW_exchanges : lw_lk 69 m_CW_exchanges := ⟨cw_in3 (List.mem_of_getElem? (i := 172) rfl) rfl, cw_in3 (List.mem_of_getElem? (i := 173) rfl) rfl, cw_in3 (List.mem_of_getElem? (i := 174) rfl) rfl⟩
set_option maxRecDepth 20000 in
theorem lk_Mo_exchanges : lw_lk 72 m_Mo_exchanges := ⟨cw_in5 (List.mem_of_getElem? (i := 177) rfl) rfl, cw_in5 (List.mem_of_getElem? (i := 178) rfl) rfl, cw_in5 (List.mem_of_getElem? (i := 179) rfl) rfl⟩
set_option maxRecDepth 20000 in
theorem lk_CW_betters : lw_lk 73 m_CW_betters := ⟨cw_in3 (List.mem_of_getElem? (i := 188) rfl) rfl, cw_in3 (List.mem_of_getElem? (i := 189) rfl) rfl, cw_in3 (List.mem_of_getElem? (i := 190) rfl) rfl⟩
set_option maxRecDepth 20000 in
theorem lk_Mo_betters : lw_lk 76 m_Mo_betters := ⟨cw_in5 (List.mem_of_getElem? (i := 189) rfl) rfl, cw_in5 (List.mem_of_getElem? (i := 190) rfl) rfl, cw_in5 (List.mem_of_getElem? (i := 191) rfl) rfl⟩
set_option maxRecDepth 20000 in
theorem lk_CW_node : lw_lk 77 m_CW_node := ⟨cw_in3 (List.mem_of_getElem? (i := 198) rfl) rfl, cw_in3 (List.mem_of_getElem? (i := 199) rfl) rfl, cw_in3 (List.mem_of_getElem? (i := 200) rfl) rfl⟩
set_option maxRecDepth 20000 in
theorem lk_Mo_node : lw_lk 80 m_Mo_node := ⟨cw_in5 (List.mem_of_getElem? (i := 193) rfl) rfl, cw_in5 (List.mem_of_getElem? (i := 194) rfl) rfl, cw_in5 (List.mem_of_getElem? (i := 195) rfl) rfl⟩
set_option maxRecDepth 20000 in
theorem lk_CW_would : lw_lk 81 m_CW_would := ⟨cw_in3 (List.mem_of_getElem? (i := 210) rfl) rfl, cw_in3 (List.mem_of_getElem? (i := 211) rfl) rfl, cw_in3 (List.mem_of_getElem? (i := 212) rfl) rfl⟩
set_option maxRecDepth 20000 in
theorem lk_Mo_would : lw_lk 84 m_Mo_would := ⟨cw_in5 (List.mem_of_getElem? (i := 201) rfl) rfl, cw_in5 (List.mem_of_getElem? (i := 202) rfl) rfl, cw_in5 (List.mem_of_getElem? (i := 203) rfl) rfl⟩
set_option maxRecDepth 20000 in
theorem lk_CW_nearest : lw_lk 85 m_CW_nearest := ⟨cw_in3 (List.mem_of_getElem? (i := 215) rfl) rfl, cw_in3 (List.mem_of_getElem? (i := 216) rfl) rfl, cw_in3 (List.mem_of_getElem? (i := 217) rfl) rfl⟩
set_option maxRecDepth 20000 in
theorem lk_Mo_nearest : lw_lk 88 m_Mo_nearest := ⟨cw_in5 (List.mem_of_getElem? (i := 205) rfl) rfl, cw_in5 (List.mem_of_getElem? (i := 206) rfl) rfl, cw_in5 (List.mem_of_getElem? (i := 207) rfl) rfl⟩
set_option maxRecDepth 20000 in
theorem lk_CW_tops : lw_lk 89 m_CW_tops := ⟨cw_in3 (List.mem_of_getElem? (i := 219) rfl) rfl, cw_in3 (List.mem_of_getElem? (i := 220) rfl) rfl, cw_in3 (List.mem_of_getElem? (i := 221) rfl) rfl⟩
set_option maxRecDepth 20000 in
theorem lk_Mo_tops : lw_lk 92 m_Mo_tops := ⟨cw_in5 (List.mem_of_getElem? (i := 209) rfl) rfl, cw_in5 (List.mem_of_getElem? (i := 210) rfl) rfl, cw_in5 (List.mem_of_getElem? (i := 211) rfl) rfl⟩
set_option maxRecDepth 20000 in
theorem lk_CW_least : lw_lk 93 m_CW_least := ⟨cw_in3 (List.mem_of_getElem? (i := 223) rfl) rfl, cw_in3 (List.mem_of_getElem? (i := 224) rfl) rfl, cw_in3 (List.mem_of_getElem? (i := 225) rfl) rfl⟩
set_option maxRecDepth 20000 in
theorem lk_Mo_least : lw_lk 96 m_Mo_least := ⟨cw_in5 (List.mem_of_getElem? (i := 217) rfl) rfl, cw_in5 (List.mem_of_getElem? (i := 218) rfl) rfl, cw_in5 (List.mem_of_getElem? (i := 219) rfl) rfl⟩
set_option maxRecDepth 20000 in
theorem lk_CW_place : lw_lk 97 m_CW_place := ⟨cw_in4 (List.mem_of_getElem? (i := 1) rfl) rfl, cw_in4 (List.mem_of_getElem? (i := 2) rfl) rfl, cw_in4 (List.mem_of_getElem? (i := 3) rfl) rfl⟩
set_option maxRecDepth 20000 in
theorem lk_Mo_place : lw_lk 100 m_Mo_place := ⟨cw_in5 (List.mem_of_getElem? (i := 225) rfl) rfl, cw_in5 (List.mem_of_getElem? (i := 226) rfl) rfl, cw_in5 (List.mem_of_getElem? (i := 227) rfl) rfl⟩
set_option maxRecDepth 20000 in
theorem lk_CW_arrival : lw_lk 101 m_CW_arrival := ⟨cw_in4 (List.mem_of_getElem? (i := 5) rfl) rfl, cw_in4 (List.mem_of_getElem? (i := 6) rfl) rfl, cw_in4 (List.mem_of_getElem? (i := 7) rfl) rfl⟩
set_option maxRecDepth 20000 in
theorem lk_Mo_arrival : lw_lk 104 m_Mo_arrival := ⟨cw_in6 (List.mem_of_getElem? (i := 4) rfl) rfl, cw_in6 (List.mem_of_getElem? (i := 5) rfl) rfl, cw_in6 (List.mem_of_getElem? (i := 6) rfl) rfl⟩
set_option maxRecDepth 20000 in
theorem lk_CW_slow : lw_lk 105 m_CW_slow := ⟨cw_in4 (List.mem_of_getElem? (i := 10) rfl) rfl, cw_in4 (List.mem_of_getElem? (i := 11) rfl) rfl, cw_in4 (List.mem_of_getElem? (i := 12) rfl) rfl⟩
set_option maxRecDepth 20000 in
theorem lk_Mo_slow : lw_lk 109 m_Mo_slow := ⟨cw_in6 (List.mem_of_getElem? (i := 16) rfl) rfl, cw_in6 (List.mem_of_getElem? (i := 17) rfl) rfl, cw_in6 (List.mem_of_getElem? (i := 18) rfl) rfl⟩
set_option maxRecDepth 20000 in
theorem lk_CW_total : lw_lk 110 m_CW_total := ⟨cw_in4 (List.mem_of_getElem? (i := 14) rfl) rfl, cw_in4 (List.mem_of_getElem? (i := 15) rfl) rfl, cw_in4 (List.mem_of_getElem? (i := 16) rfl) rfl⟩
set_option maxRecDepth 20000 in
theorem lk_Mo_total : lw_lk 113 m_Mo_total := ⟨cw_in6 (List.mem_of_getElem? (i := 26) rfl) rfl, cw_in6 (List.mem_of_getElem? (i := 27) rfl) rfl, cw_in6 (List.mem_of_getElem? (i := 28) rfl) rfl⟩
set_option maxRecDepth 20000 in
theorem lk_CW_type : lw_lk 114 m_CW_type := ⟨cw_in4 (List.mem_of_getElem? (i := 22) rfl) rfl, cw_in4 (List.mem_of_getElem? (i := 23) rfl) rfl, cw_in4 (List.mem_of_getElem? (i := 24) rfl) rfl⟩
set_option maxRecDepth 20000 in
theorem lk_Mo_type : lw_lk 117 m_Mo_type := ⟨cw_in6 (List.mem_of_getElem? (i := 42) rfl) rfl, cw_in6 (List.mem_of_getElem? (i := 43) rfl) rfl, cw_in6 (List.mem_of_getElem? (i := 44) rfl) rfl⟩
set_option maxRecDepth 20000 in
theorem lk_CW_clear : lw_lk 118 m_CW_clear := ⟨cw_in4 (List.mem_of_getElem? (i := 30) rfl) rfl, cw_in4 (List.mem_of_getElem? (i := 31) rfl) rfl, cw_in4 (List.mem_of_getElem? (i := 32) rfl) rfl⟩
set_option maxRecDepth 20000 in
theorem lk_Mo_clear : lw_lk 121 m_Mo_clear := ⟨cw_in6 (List.mem_of_getElem? (i := 46) rfl) rfl, cw_in6 (List.mem_of_getElem? (i := 47) rfl) rfl, cw_in6 (List.mem_of_getElem? (i := 48) rfl) rfl⟩
set_option maxRecDepth 20000 in
theorem lk_CW_builds : lw_lk 122 m_CW_builds := ⟨cw_in4 (List.mem_of_getElem? (i := 34) rfl) rfl, cw_in4 (List.mem_of_getElem? (i := 35) rfl) rfl, cw_in4 (List.mem_of_getElem? (i := 36) rfl) rfl⟩
set_option maxRecDepth 20000 in
theorem lk_Mo_builds : lw_lk 125 m_Mo_builds := ⟨cw_in6 (List.mem_of_getElem? (i := 50) rfl) rfl, cw_in6 (List.mem_of_getElem? (i := 51) rfl) rfl, cw_in6 (List.mem_of_getElem? (i := 52) rfl) rfl⟩
set_option maxRecDepth 20000 in
theorem lk_CW_shown : lw_lk 126 m_CW_shown := ⟨cw_in4 (List.mem_of_getElem? (i := 66) rfl) rfl, cw_in4 (List.mem_of_getElem? (i := 67) rfl) rfl, cw_in4 (List.mem_of_getElem? (i := 68) rfl) rfl⟩
set_option maxRecDepth 20000 in
theorem lk_Mo_shown : lw_lk 129 m_Mo_shown := ⟨cw_in6 (List.mem_of_getElem? (i := 70) rfl) rfl, cw_in6 (List.mem_of_getElem? (i := 71) rfl) rfl, cw_in6 (List.mem_of_getElem? (i := 72) rfl) rfl⟩
set_option maxRecDepth 20000 in
theorem lk_CW_back : lw_lk 130 m_CW_back := ⟨cw_in4 (List.mem_of_getElem? (i := 78) rfl) rfl, cw_in4 (List.mem_of_getElem? (i := 79) rfl) rfl, cw_in4 (List.mem_of_getElem? (i := 80) rfl) rfl⟩
set_option maxRecDepth 20000 in
theorem lk_Mo_back : lw_lk 133 m_Mo_back := ⟨cw_in5 (List.mem_of_getElem? (i := 2) rfl) rfl, cw_in5 (List.mem_of_getElem? (i := 3) rfl) rfl, cw_in5 (List.mem_of_getElem? (i := 4) rfl) rfl⟩
set_option maxRecDepth 20000 in
theorem lk_CW_told : lw_lk 134 m_CW_told := ⟨cw_in4 (List.mem_of_getElem? (i := 86) rfl) rfl, cw_in4 (List.mem_of_getElem? (i := 87) rfl) rfl, cw_in4 (List.mem_of_getElem? (i := 88) rfl) rfl⟩
set_option maxRecDepth 20000 in
theorem lk_Mo_told : lw_lk 137 m_Mo_told := ⟨cw_in6 (List.mem_of_getElem? (i := 78) rfl) rfl, cw_in6 (List.mem_of_getElem? (i := 79) rfl) rfl, cw_in6 (List.mem_of_getElem? (i := 80) rfl) rfl⟩
set_option maxRecDepth 20000 in
theorem lk_CW_digest : lw_lk 138 m_CW_digest := ⟨cw_in4 (List.mem_of_getElem? (i := 94) rfl) rfl, cw_in4 (List.mem_of_getElem? (i := 95) rfl) rfl, cw_in4 (List.mem_of_getElem? (i := 96) rfl) rfl⟩
set_option maxRecDepth 20000 in
theorem lk_Mo_digest : lw_lk 142 m_Mo_digest := ⟨cw_in6 (List.mem_of_getElem? (i := 90) rfl) rfl, cw_in6 (List.mem_of_getElem? (i := 91) rfl) rfl, cw_in6 (List.mem_of_getElem? (i := 92) rfl) rfl⟩
set_option maxRecDepth 20000 in
theorem lk_CW_init : lw_li 9 m_CW_init := ⟨cw_in1 (List.mem_of_getElem? (i := 15) rfl) rfl, cw_in1 (List.mem_of_getElem? (i := 16) rfl) rfl⟩
set_option maxRecDepth 20000 in
theorem lk_Mo_init : lw_li 12 m_Mo_init := ⟨cw_in4 (List.mem_of_getElem? (i := 102) rfl) rfl, cw_in4 (List.mem_of_getElem? (i := 103) rfl) rfl⟩
set_option maxRecDepth 20000 in
theorem lx_ins0 : Cond.instantiable RX0 3 ∈ cw_t := cw_in2 (List.mem_of_getElem? (i := 46) rfl) rfl
set_option maxRecDepth 20000 in
theorem lx_ins1 : Cond.instantiable RX1 4 ∈ cw_t := cw_in1 (List.mem_of_getElem? (i := 157) rfl) rfl
set_option maxRecDepth 20000 in
theorem lx_ins2 : Cond.instantiable RX2 10 ∈ cw_t := cw_in1 (List.mem_of_getElem? (i := 95) rfl) rfl
set_option maxRecDepth 20000 in
theorem lx_ins3 : Cond.instantiable RX3 10 ∈ cw_t := cw_in1 (List.mem_of_getElem? (i := 210) rfl) rfl
set_option maxRecDepth 20000 in
theorem lx_ins4 : Cond.instantiable RX4 5 ∈ cw_t := cw_in2 (List.mem_of_getElem? (i := 17) rfl) rfl
set_option maxRecDepth 20000 in
theorem lx_ins5 : Cond.instantiable RX5 9 ∈ cw_t := cw_in2 (List.mem_of_getElem? (i := 66) rfl) rfl
set_option maxRecDepth 20000 in
theorem lx_ins6 : Cond.instantiable RX6 12 ∈ cw_t := cw_in1 (List.mem_of_getElem? (i := 22) rfl) rfl
set_option maxRecDepth 20000 in
theorem lx_ins7 : Cond.instantiable RX7 7 ∈ cw_t := cw_in1 (List.mem_of_getElem? (i := 88) rfl) rfl
set_option maxRecDepth 20000 in
theorem lx_ins8 : Cond.instantiable RX8 9 ∈ cw_t := cw_in1 (List.mem_of_getElem? (i := 14) rfl) rfl
set_option maxRecDepth 20000 in
theorem lx_ins9 : Cond.instantiable RX9 45 ∈ cw_t := cw_in4 (List.mem_of_getElem? (i := 101) rfl) rfl
set_option maxRecDepth 20000 in
theorem lx_ini8 : Cond.initialized RX8 ∈ cw_t := cw_in1 (List.mem_of_getElem? (i := 1) rfl) rfl
set_option maxRecDepth 20000 in
theorem lx_ini9 : Cond.initialized RX9 ∈ cw_t := cw_in1 (List.mem_of_getElem? (i := 11) rfl) rfl
set_option maxRecDepth 20000 in
theorem lx_cl8 : Cond.classLink R_law 7 RX8 ∈ cw_t := cw_in1 (List.mem_of_getElem? (i := 13) rfl) rfl
set_option maxRecDepth 20000 in
theorem lx_cl9 : Cond.classLink R_law 10 RX9 ∈ cw_t := cw_in4 (List.mem_of_getElem? (i := 100) rfl) rfl
set_option maxRecDepth 20000 in
theorem lx_ne0 : Cond.methodLinkNest RX7 17 ⟨RX2, "<init>", "()V"⟩ RX8 ∈ lw_tbl := lx_in1 (List.mem_of_getElem? (i := 96) rfl)
set_option maxRecDepth 20000 in
theorem lx_ne1 : Cond.methodLinkNest RX7 24 ⟨RX1, "<init>", "()V"⟩ RX8 ∈ lw_tbl := lx_in1 (List.mem_of_getElem? (i := 158) rfl)
set_option maxRecDepth 20000 in
theorem lx_ne2 : Cond.methodLinkNest RX8 25 ⟨RX3, "<init>", "()V"⟩ RX8 ∈ lw_tbl := lx_in1 (List.mem_of_getElem? (i := 211) rfl)
set_option maxRecDepth 20000 in
theorem lx_ne3 : Cond.methodLinkNest RX8 32 ⟨RX4, "<init>", "()V"⟩ RX8 ∈ lw_tbl := lx_in2 (List.mem_of_getElem? (i := 18) rfl)
set_option maxRecDepth 20000 in
theorem lx_ne4 : Cond.methodLinkNest RX8 46 ⟨RX5, "<init>", "()V"⟩ RX8 ∈ lw_tbl := lx_in2 (List.mem_of_getElem? (i := 67) rfl)
set_option maxRecDepth 20000 in
theorem lx_ne5 : Cond.methodLinkNest RX3 101 ⟨RX8, "distance", "(IIII)I"⟩ RX8 ∈ lw_tbl := lx_in2 (List.mem_of_getElem? (i := 195) rfl)
set_option maxRecDepth 20000 in
theorem lx_ao6 : Cond.arrayOver (.object RX6) ∈ lw_tbl := lx_in2 (List.mem_of_getElem? (i := 52) rfl)
set_option maxRecDepth 20000 in
theorem lx_ao2 : Cond.arrayOver (.object RX2) ∈ lw_tbl := lx_in1 (List.mem_of_getElem? (i := 94) rfl)
set_option maxRecDepth 20000 in
theorem lx_ac_int : Cond.arrayClass .int ∈ lw_tbl := lx_in1 (List.mem_of_getElem? (i := 86) rfl)
set_option maxRecDepth 20000 in
theorem lx_ac_long : Cond.arrayClass .long ∈ lw_tbl := lx_in2 (List.mem_of_getElem? (i := 15) rfl)
def lw_dA (pc k : Nat) : Bool := decide (decode code pc = .ok (.aload_n 0, 1)) && (decide (decode code (pc + 1) = .ok (.iload_n 3, 1)) && (decide (decode code (pc + 1 + 1) = .ok (.iconst (k : Int), 1)) && (decide (decode code (pc + 1 + 1 + 1) = .ok (.iadd, 1)) && (decide (decode code (pc + 1 + 1 + 1 + 1) = .ok (.iaload, 1)) && (decide (Int32.ofInt (k : Int) = nI k) && Nat.ble k 3)))))
def lw_dS (pc : Nat) : List Nat → Bool
  | [] => true
  | k :: ks => lw_dA pc k && lw_dS (pc + 5) ks
def lw_dH (ks : List Nat) (p0 i1 i2 q1 q2 : Nat) : Bool := decide (decode code p0 = .ok (.aload_n 1, 1)) && (lw_dS (p0 + 1) ks && (decide (decode code q1 = .ok (.invokevirtual i1, 3)) && (decide (decode code (q1 + 3) = .ok (.aload_n 2, 1)) && (lw_dS (q1 + 3 + 1) ks && decide (decode code q2 = .ok (.invokevirtual i2, 3))))))
def lw_dC (ks : List Nat) (p0 i1 i2 : Nat) (off : Int) (q1 q2 : Nat) : Bool := lw_dH ks p0 i1 i2 q1 q2 && (Nat.beq (p0 + 1 + 5 * ks.length) q1 && (Nat.beq (q1 + 3 + 1 + 5 * ks.length) q2 && (decide (decode code (q2 + 3) = .ok (.if_icmp .eq off, 3)) && decide (((q2 + 3 : Nat) : Int) + off = ((957 : Nat) : Int)))))
def lw_dL (ks : List Nat) (p0 i1 i2 : Nat) (off : Int) (q1 q2 : Nat) : Bool := lw_dH ks p0 i1 i2 q1 q2 && (Nat.beq (p0 + 1 + 5 * ks.length) q1 && (Nat.beq (q1 + 3 + 1 + 5 * ks.length) q2 && (decide (decode code (q2 + 3) = .ok (.lcmp, 1)) && (decide (decode code (q2 + 3 + 1) = .ok (.ifCond .eq off, 3)) && decide (((q2 + 3 + 1 : Nat) : Int) + off = ((957 : Nat) : Int))))))
theorem lc_sink : lw_dC [1, 2] 172 13 17 757 183 197 = true := by decide +kernel
theorem lc_moves : lw_dC [1, 2, 3] 205 18 22 714 221 240 = true := by decide +kernel
theorem lc_sets : lw_dC [1, 2, 3] 248 23 26 671 264 283 = true := by decide +kernel
theorem lc_skew : lw_dC [1] 291 27 31 648 297 306 = true := by decide +kernel
theorem lc_source : lw_dC [1, 2] 314 32 35 615 325 339 = true := by decide +kernel
theorem lc_end : lw_dC [1, 2] 347 36 39 582 358 372 = true := by decide +kernel
theorem lc_touched : lw_dC [1] 380 40 43 559 386 395 = true := by decide +kernel
theorem lc_at : lw_dC [1, 2] 403 44 47 526 414 428 = true := by decide +kernel
theorem lc_joins : lw_dC [1, 2] 436 48 51 493 447 461 = true := by decide +kernel
theorem lc_pairs : lw_dC [] 469 52 56 480 470 474 = true := by decide +kernel
theorem lc_frees : lw_dC [] 482 57 60 467 483 487 = true := by decide +kernel
theorem lc_cuts : lw_dC [1] 495 61 64 444 501 510 = true := by decide +kernel
theorem lc_grafts : lw_dC [1, 2] 518 65 68 411 529 543 = true := by decide +kernel
theorem lc_exchanges : lw_dC [1, 2] 551 69 72 378 562 576 = true := by decide +kernel
theorem lc_betters : lw_dC [] 584 73 76 365 585 589 = true := by decide +kernel
theorem lc_node : lw_dC [1, 2] 597 77 80 332 608 622 = true := by decide +kernel
theorem lc_would : lw_dC [1, 2, 3] 630 81 84 289 646 665 = true := by decide +kernel
theorem lc_nearest : lw_dC [] 673 85 88 276 674 678 = true := by decide +kernel
theorem lc_tops : lw_dC [] 686 89 92 263 687 691 = true := by decide +kernel
theorem lc_least : lw_dC [1] 699 93 96 240 705 714 = true := by decide +kernel
theorem lc_place : lw_dC [1, 2] 722 97 100 207 733 747 = true := by decide +kernel
theorem lc_arrival : lw_dC [1] 755 101 104 184 761 770 = true := by decide +kernel
theorem lc_slow : lw_dL [1] 778 105 109 160 784 793 = true := by decide +kernel
theorem lc_total : lw_dC [1] 802 110 113 137 808 817 = true := by decide +kernel
theorem lc_type : lw_dC [1] 825 114 117 114 831 840 = true := by decide +kernel
theorem lc_clear : lw_dC [] 848 118 121 101 849 853 = true := by decide +kernel
theorem lc_builds : lw_dC [] 861 122 125 88 862 866 = true := by decide +kernel
theorem lc_shown : lw_dC [1, 2] 874 126 129 55 885 899 = true := by decide +kernel
theorem lc_back : lw_dC [] 907 130 133 42 908 912 = true := by decide +kernel
theorem lc_told : lw_dC [1] 920 134 137 19 926 935 = true := by decide +kernel
theorem lc_digest : lw_dL [] 943 138 142 5 944 948 = true := by decide +kernel
theorem ld_0 : decode code 0 = .ok (.new 7, 3) := by decide +kernel
theorem ld_3 : decode code 3 = .ok (.dup, 1) := by decide +kernel
theorem ld_4 : decode code 4 = .ok (.invokespecial 9, 3) := by decide +kernel
theorem ld_7 : decode code 7 = .ok (.astore_n 1, 1) := by decide +kernel
theorem ld_8 : decode code 8 = .ok (.new 10, 3) := by decide +kernel
theorem ld_11 : decode code 11 = .ok (.dup, 1) := by decide +kernel
theorem ld_12 : decode code 12 = .ok (.invokespecial 12, 3) := by decide +kernel
theorem ld_15 : decode code 15 = .ok (.astore_n 2, 1) := by decide +kernel
theorem ld_16 : decode code 16 = .ok (.iconst 0, 1) := by decide +kernel
theorem ld_17 : decode code 17 = .ok (.istore_n 3, 1) := by decide +kernel
theorem ld_18 : decode code 18 = .ok (.iload_n 3, 1) := by decide +kernel
theorem ld_19 : decode code 19 = .ok (.aload_n 0, 1) := by decide +kernel
theorem ld_20 : decode code 20 = .ok (.arraylength, 1) := by decide +kernel
theorem ld_21 : decode code 21 = .ok (.iconst 4, 1) := by decide +kernel
theorem ld_22 : decode code 22 = .ok (.isub, 1) := by decide +kernel
theorem ld_23 : decode code 23 = .ok (.if_icmp .gt 940, 3) := by decide +kernel
theorem ld_26 : decode code 26 = .ok (.aload_n 0, 1) := by decide +kernel
theorem ld_27 : decode code 27 = .ok (.iload_n 3, 1) := by decide +kernel
theorem ld_28 : decode code 28 = .ok (.iaload, 1) := by decide +kernel
theorem ld_29 : decode code 29 = .ok (.bipush 31, 2) := by decide +kernel
theorem ld_31 : decode code 31 = .ok (.iand, 1) := by decide +kernel
theorem ld_32 : decode code 32 = .ok (.tableswitch 925 0 30 #[140, 173, 216, 259, 282, 315, 348, 371, 404, 437, 450, 463, 486, 519, 552, 565, 598, 641, 654, 667, 690, 723, 746, 770, 793, 816, 829, 842, 875, 888, 911], 140) := by decide +kernel
theorem ld_957 : decode code 957 = .ok (.iinc 3 4, 3) := by decide +kernel
theorem ld_960 : decode code 960 = .ok (.goto (-942), 3) := by decide +kernel
theorem ld_963 : decode code 963 = .ok (.iconst 1, 1) := by decide +kernel
theorem ld_964 : decode code 964 = .ok (.ireturn, 1) := by decide +kernel
