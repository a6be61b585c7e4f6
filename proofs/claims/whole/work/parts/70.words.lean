theorem cw_in0 {w : Cond} (h : w ∈ k2_sels lw_privs) (g : goodWord w = true) : w ∈ cw_t := cw_t_in (List.mem_append_left _ h) g
theorem cw_in1 {w : Cond} (h : w ∈ tables_1_1) (g : goodWord w = true) : w ∈ cw_t := cw_t_in (List.mem_append_right _ (show w ∈ tables_1_1 ++ (tables_1_2 ++ (tables_1_3 ++ (tables_1_4 ++ (tables_1_5 ++ tables_1_6)))) from List.mem_append_left _ h)) g
theorem cw_in2 {w : Cond} (h : w ∈ tables_1_2) (g : goodWord w = true) : w ∈ cw_t := cw_t_in (List.mem_append_right _ (show w ∈ tables_1_1 ++ (tables_1_2 ++ (tables_1_3 ++ (tables_1_4 ++ (tables_1_5 ++ tables_1_6)))) from List.mem_append_right _ (List.mem_append_left _ h))) g
theorem cw_in3 {w : Cond} (h : w ∈ tables_1_3) (g : goodWord w = true) : w ∈ cw_t := cw_t_in (List.mem_append_right _ (show w ∈ tables_1_1 ++ (tables_1_2 ++ (tables_1_3 ++ (tables_1_4 ++ (tables_1_5 ++ tables_1_6)))) from List.mem_append_right _ (List.mem_append_right _ (List.mem_append_left _ h)))) g
theorem cw_in4 {w : Cond} (h : w ∈ tables_1_4) (g : goodWord w = true) : w ∈ cw_t := cw_t_in (List.mem_append_right _ (show w ∈ tables_1_1 ++ (tables_1_2 ++ (tables_1_3 ++ (tables_1_4 ++ (tables_1_5 ++ tables_1_6)))) from List.mem_append_right _ (List.mem_append_right _ (List.mem_append_right _ (List.mem_append_left _ h))))) g
theorem cw_in5 {w : Cond} (h : w ∈ tables_1_5) (g : goodWord w = true) : w ∈ cw_t := cw_t_in (List.mem_append_right _ (show w ∈ tables_1_1 ++ (tables_1_2 ++ (tables_1_3 ++ (tables_1_4 ++ (tables_1_5 ++ tables_1_6)))) from List.mem_append_right _ (List.mem_append_right _ (List.mem_append_right _ (List.mem_append_right _ (List.mem_append_left _ h)))))) g
theorem cw_in6 {w : Cond} (h : w ∈ tables_1_6) (g : goodWord w = true) : w ∈ cw_t := cw_t_in (List.mem_append_right _ (show w ∈ tables_1_1 ++ (tables_1_2 ++ (tables_1_3 ++ (tables_1_4 ++ (tables_1_5 ++ tables_1_6)))) from List.mem_append_right _ (List.mem_append_right _ (List.mem_append_right _ (List.mem_append_right _ (List.mem_append_right _ (h))))))) g
set_option maxRecDepth 20000 in
theorem cw_w0 : Cond.selects "ClockWires" ⟨"ClockWires", "refresh", "()V"⟩ ⟨"ClockWires", "refresh", "()V"⟩ ∈ cw_t := cw_in0 (List.mem_of_getElem? (i := 0) rfl) rfl
set_option maxRecDepth 20000 in
theorem cw_w1 : Cond.selects "ClockWires$Wires" ⟨"ClockWires$Wires", "listDownward", "(LClockWires$Tree;)V"⟩ ⟨"ClockWires$Wires", "listDownward", "(LClockWires$Tree;)V"⟩ ∈ cw_t := cw_in0 (List.mem_of_getElem? (i := 1) rfl) rfl
set_option maxRecDepth 20000 in
theorem cw_w2 : Cond.selects "ClockWires$Wires" ⟨"ClockWires$Wires", "list", "(I)V"⟩ ⟨"ClockWires$Wires", "list", "(I)V"⟩ ∈ cw_t := cw_in0 (List.mem_of_getElem? (i := 2) rfl) rfl
set_option maxRecDepth 20000 in
theorem cw_w3 : Cond.selects "ClockWires$Merge" ⟨"ClockWires$Merge", "gapBetween", "(LClockWires$Part;LClockWires$Part;)I"⟩ ⟨"ClockWires$Merge", "gapBetween", "(LClockWires$Part;LClockWires$Part;)I"⟩ ∈ cw_t := cw_in0 (List.mem_of_getElem? (i := 3) rfl) rfl
set_option maxRecDepth 20000 in
theorem cw_w4 : Cond.selects "ClockWires$Merge" ⟨"ClockWires$Merge", "leadOf", "(LClockWires$Part;LClockWires$Part;I)I"⟩ ⟨"ClockWires$Merge", "leadOf", "(LClockWires$Part;LClockWires$Part;I)I"⟩ ∈ cw_t := cw_in0 (List.mem_of_getElem? (i := 4) rfl) rfl
set_option maxRecDepth 20000 in
theorem cw_w5 : Cond.selects "ClockWires$Places" ⟨"ClockWires$Places", "setTop", "(LClockWires$Tree;LClockWires$Wires;I)V"⟩ ⟨"ClockWires$Places", "setTop", "(LClockWires$Tree;LClockWires$Wires;I)V"⟩ ∈ cw_t := cw_in0 (List.mem_of_getElem? (i := 5) rfl) rfl
set_option maxRecDepth 20000 in
theorem cw_w6 : Cond.selects "ClockWires$Places" ⟨"ClockWires$Places", "setChild", "(LClockWires$Part;II)V"⟩ ⟨"ClockWires$Places", "setChild", "(LClockWires$Part;II)V"⟩ ∈ cw_t := cw_in0 (List.mem_of_getElem? (i := 6) rfl) rfl
set_option maxRecDepth 20000 in
theorem cw_w7 : Cond.selects "ClockWires$Places" ⟨"ClockWires$Places", "setSpread", "(LClockWires$Tree;)V"⟩ ⟨"ClockWires$Places", "setSpread", "(LClockWires$Tree;)V"⟩ ∈ cw_t := cw_in0 (List.mem_of_getElem? (i := 7) rfl) rfl
set_option maxRecDepth 20000 in
theorem cw_w8 : Cond.selects "ClockWires" ⟨"ClockWires", "refuse", "(I)I"⟩ ⟨"ClockWires", "refuse", "(I)I"⟩ ∈ cw_t := cw_in0 (List.mem_of_getElem? (i := 8) rfl) rfl
set_option maxRecDepth 20000 in
theorem cw_w9 : Cond.selects "ClockWires" ⟨"ClockWires", "exchangeAndCompare", "(II)I"⟩ ⟨"ClockWires", "exchangeAndCompare", "(II)I"⟩ ∈ cw_t := cw_in0 (List.mem_of_getElem? (i := 9) rfl) rfl
set_option maxRecDepth 20000 in
theorem cw_w10 : Cond.selects "ClockWires" ⟨"ClockWires", "nodeValue", "(II)I"⟩ ⟨"ClockWires", "nodeValue", "(II)I"⟩ ∈ cw_t := cw_in0 (List.mem_of_getElem? (i := 10) rfl) rfl
set_option maxRecDepth 20000 in
theorem cw_w11 : Cond.selects "ClockWires$Search" ⟨"ClockWires$Search", "growTrees", "(I)V"⟩ ⟨"ClockWires$Search", "growTrees", "(I)V"⟩ ∈ cw_t := cw_in0 (List.mem_of_getElem? (i := 11) rfl) rfl
set_option maxRecDepth 20000 in
theorem cw_w12 : Cond.selects "ClockWires$Search" ⟨"ClockWires$Search", "countTree", "(I)V"⟩ ⟨"ClockWires$Search", "countTree", "(I)V"⟩ ∈ cw_t := cw_in0 (List.mem_of_getElem? (i := 12) rfl) rfl
set_option maxRecDepth 20000 in
theorem cw_w13 : Cond.selects "ClockWires" ⟨"ClockWires", "totalValue", "(I)I"⟩ ⟨"ClockWires", "totalValue", "(I)I"⟩ ∈ cw_t := cw_in0 (List.mem_of_getElem? (i := 13) rfl) rfl
set_option maxRecDepth 20000 in
theorem cw_w14 : Cond.selects "ClockWires$Text" ⟨"ClockWires$Text", "accepts", "(II)Z"⟩ ⟨"ClockWires$Text", "accepts", "(II)Z"⟩ ∈ cw_t := cw_in0 (List.mem_of_getElem? (i := 14) rfl) rfl
set_option maxRecDepth 20000 in
theorem cw_w15 : Cond.selects "ClockWires$Text" ⟨"ClockWires$Text", "opens", "()Z"⟩ ⟨"ClockWires$Text", "opens", "()Z"⟩ ∈ cw_t := cw_in0 (List.mem_of_getElem? (i := 15) rfl) rfl
set_option maxRecDepth 20000 in
theorem cw_w16 : Cond.selects "ClockWires$Text" ⟨"ClockWires$Text", "wantsPart", "()Z"⟩ ⟨"ClockWires$Text", "wantsPart", "()Z"⟩ ∈ cw_t := cw_in0 (List.mem_of_getElem? (i := 16) rfl) rfl
set_option maxRecDepth 20000 in
theorem cw_w17 : Cond.selects "ClockWires$Text" ⟨"ClockWires$Text", "closes", "()Z"⟩ ⟨"ClockWires$Text", "closes", "()Z"⟩ ∈ cw_t := cw_in0 (List.mem_of_getElem? (i := 17) rfl) rfl
set_option maxRecDepth 20000 in
theorem cw_w18 : Cond.selects "ClockWires$Text" ⟨"ClockWires$Text", "addPart", "(I)V"⟩ ⟨"ClockWires$Text", "addPart", "(I)V"⟩ ∈ cw_t := cw_in0 (List.mem_of_getElem? (i := 18) rfl) rfl
set_option maxRecDepth 20000 in
theorem cw_w19 : Cond.selects "ClockWires$Text" ⟨"ClockWires$Text", "takesSink", "(II)Z"⟩ ⟨"ClockWires$Text", "takesSink", "(II)Z"⟩ ∈ cw_t := cw_in0 (List.mem_of_getElem? (i := 19) rfl) rfl
set_option maxRecDepth 20000 in
theorem cw_w20 : Cond.selects "ClockWires" ⟨"ClockWires", "shownByte", "(II)I"⟩ ⟨"ClockWires", "shownByte", "(II)I"⟩ ∈ cw_t := cw_in0 (List.mem_of_getElem? (i := 20) rfl) rfl
set_option maxRecDepth 20000 in
theorem cw_w21 : Cond.selects "ClockWires" ⟨"ClockWires", "shownLength", "(I)I"⟩ ⟨"ClockWires", "shownLength", "(I)I"⟩ ∈ cw_t := cw_in0 (List.mem_of_getElem? (i := 21) rfl) rfl
set_option maxRecDepth 20000 in
theorem cw_w22 : Cond.selects "ClockWires" ⟨"ClockWires", "toldValue", "(I)I"⟩ ⟨"ClockWires", "toldValue", "(I)I"⟩ ∈ cw_t := cw_in0 (List.mem_of_getElem? (i := 22) rfl) rfl
set_option maxRecDepth 20000 in
theorem cw_w23 : Cond.selects "ClockWiresModel" ⟨"ClockWiresModel", "no", "()I"⟩ ⟨"ClockWiresModel", "no", "()I"⟩ ∈ cw_t := cw_in0 (List.mem_of_getElem? (i := 23) rfl) rfl
set_option maxRecDepth 20000 in
theorem cw_w24 : Cond.selects "ClockWiresModel" ⟨"ClockWiresModel", "bad", "()I"⟩ ⟨"ClockWiresModel", "bad", "()I"⟩ ∈ cw_t := cw_in0 (List.mem_of_getElem? (i := 24) rfl) rfl
set_option maxRecDepth 20000 in
theorem cw_w25 : Cond.selects "ClockWiresModel" ⟨"ClockWiresModel", "isAt", "(II)I"⟩ ⟨"ClockWiresModel", "isAt", "(II)I"⟩ ∈ cw_t := cw_in0 (List.mem_of_getElem? (i := 25) rfl) rfl
set_option maxRecDepth 20000 in
theorem cw_w26 : Cond.selects "ClockWiresModel" ⟨"ClockWiresModel", "full", "()I"⟩ ⟨"ClockWiresModel", "full", "()I"⟩ ∈ cw_t := cw_in0 (List.mem_of_getElem? (i := 26) rfl) rfl
set_option maxRecDepth 20000 in
theorem cw_w27 : Cond.selects "ClockWiresModel" ⟨"ClockWiresModel", "leavesState", "()V"⟩ ⟨"ClockWiresModel", "leavesState", "()V"⟩ ∈ cw_t := cw_in0 (List.mem_of_getElem? (i := 27) rfl) rfl
set_option maxRecDepth 20000 in
theorem cw_w28 : Cond.selects "ClockWiresModel" ⟨"ClockWiresModel", "touches", "(I)V"⟩ ⟨"ClockWiresModel", "touches", "(I)V"⟩ ∈ cw_t := cw_in0 (List.mem_of_getElem? (i := 28) rfl) rfl
set_option maxRecDepth 20000 in
theorem cw_w29 : Cond.selects "ClockWiresModel" ⟨"ClockWiresModel", "isSink", "(I)Z"⟩ ⟨"ClockWiresModel", "isSink", "(I)Z"⟩ ∈ cw_t := cw_in0 (List.mem_of_getElem? (i := 29) rfl) rfl
set_option maxRecDepth 20000 in
theorem cw_w30 : Cond.selects "ClockWiresModel" ⟨"ClockWiresModel", "isNode", "(I)Z"⟩ ⟨"ClockWiresModel", "isNode", "(I)Z"⟩ ∈ cw_t := cw_in0 (List.mem_of_getElem? (i := 30) rfl) rfl
set_option maxRecDepth 20000 in
theorem cw_w31 : Cond.selects "ClockWiresModel" ⟨"ClockWiresModel", "isTop", "(I)Z"⟩ ⟨"ClockWiresModel", "isTop", "(I)Z"⟩ ∈ cw_t := cw_in0 (List.mem_of_getElem? (i := 31) rfl) rfl
set_option maxRecDepth 20000 in
theorem cw_w32 : Cond.selects "ClockWiresModel" ⟨"ClockWiresModel", "lays", "(II)I"⟩ ⟨"ClockWiresModel", "lays", "(II)I"⟩ ∈ cw_t := cw_in0 (List.mem_of_getElem? (i := 32) rfl) rfl
set_option maxRecDepth 20000 in
theorem cw_w33 : Cond.selects "ClockWiresModel" ⟨"ClockWiresModel", "comes", "()I"⟩ ⟨"ClockWiresModel", "comes", "()I"⟩ ∈ cw_t := cw_in0 (List.mem_of_getElem? (i := 33) rfl) rfl
set_option maxRecDepth 20000 in
theorem cw_w34 : Cond.selects "ClockWiresModel" ⟨"ClockWiresModel", "replaces", "(II)V"⟩ ⟨"ClockWiresModel", "replaces", "(II)V"⟩ ∈ cw_t := cw_in0 (List.mem_of_getElem? (i := 34) rfl) rfl
set_option maxRecDepth 20000 in
theorem cw_w35 : Cond.selects "ClockWiresModel" ⟨"ClockWiresModel", "findsPair", "()I"⟩ ⟨"ClockWiresModel", "findsPair", "()I"⟩ ∈ cw_t := cw_in0 (List.mem_of_getElem? (i := 35) rfl) rfl
set_option maxRecDepth 20000 in
theorem cw_w36 : Cond.selects "ClockWiresModel" ⟨"ClockWiresModel", "tellsAll", "()V"⟩ ⟨"ClockWiresModel", "tellsAll", "()V"⟩ ∈ cw_t := cw_in0 (List.mem_of_getElem? (i := 36) rfl) rfl
set_option maxRecDepth 20000 in
theorem cw_w37 : Cond.selects "ClockWiresModel" ⟨"ClockWiresModel", "tellsSink", "(I)V"⟩ ⟨"ClockWiresModel", "tellsSink", "(I)V"⟩ ∈ cw_t := cw_in0 (List.mem_of_getElem? (i := 37) rfl) rfl
set_option maxRecDepth 20000 in
theorem cw_w38 : Cond.selects "ClockWiresModel" ⟨"ClockWiresModel", "tellsJoint", "(I)V"⟩ ⟨"ClockWiresModel", "tellsJoint", "(I)V"⟩ ∈ cw_t := cw_in0 (List.mem_of_getElem? (i := 38) rfl) rfl
set_option maxRecDepth 20000 in
theorem cw_w39 : Cond.selects "ClockWiresModel" ⟨"ClockWiresModel", "reckons", "(II)V"⟩ ⟨"ClockWiresModel", "reckons", "(II)V"⟩ ∈ cw_t := cw_in0 (List.mem_of_getElem? (i := 39) rfl) rfl
set_option maxRecDepth 20000 in
theorem cw_w40 : Cond.selects "ClockWiresModel" ⟨"ClockWiresModel", "noJoints", "()I"⟩ ⟨"ClockWiresModel", "noJoints", "()I"⟩ ∈ cw_t := cw_in0 (List.mem_of_getElem? (i := 40) rfl) rfl
set_option maxRecDepth 20000 in
theorem cw_w41 : Cond.selects "ClockWiresModel" ⟨"ClockWiresModel", "goes", "(I)V"⟩ ⟨"ClockWiresModel", "goes", "(I)V"⟩ ∈ cw_t := cw_in0 (List.mem_of_getElem? (i := 41) rfl) rfl
set_option maxRecDepth 20000 in
theorem cw_w42 : Cond.selects "ClockWiresModel" ⟨"ClockWiresModel", "takesOff", "(I)I"⟩ ⟨"ClockWiresModel", "takesOff", "(I)I"⟩ ∈ cw_t := cw_in0 (List.mem_of_getElem? (i := 42) rfl) rfl
set_option maxRecDepth 20000 in
theorem cw_w43 : Cond.selects "ClockWiresModel" ⟨"ClockWiresModel", "isWithin", "(II)Z"⟩ ⟨"ClockWiresModel", "isWithin", "(II)Z"⟩ ∈ cw_t := cw_in0 (List.mem_of_getElem? (i := 43) rfl) rfl
set_option maxRecDepth 20000 in
theorem cw_w44 : Cond.selects "ClockWiresModel" ⟨"ClockWiresModel", "bestFor", "(I)I"⟩ ⟨"ClockWiresModel", "bestFor", "(I)I"⟩ ∈ cw_t := cw_in0 (List.mem_of_getElem? (i := 44) rfl) rfl
set_option maxRecDepth 20000 in
theorem cw_w45 : Cond.selects "ClockWiresModel" ⟨"ClockWiresModel", "laysAside", "()V"⟩ ⟨"ClockWiresModel", "laysAside", "()V"⟩ ∈ cw_t := cw_in0 (List.mem_of_getElem? (i := 45) rfl) rfl
set_option maxRecDepth 20000 in
theorem cw_w46 : Cond.selects "ClockWiresModel" ⟨"ClockWiresModel", "costOfAll", "()I"⟩ ⟨"ClockWiresModel", "costOfAll", "()I"⟩ ∈ cw_t := cw_in0 (List.mem_of_getElem? (i := 46) rfl) rfl
set_option maxRecDepth 20000 in
theorem cw_w47 : Cond.selects "ClockWiresModel" ⟨"ClockWiresModel", "takesBack", "()V"⟩ ⟨"ClockWiresModel", "takesBack", "()V"⟩ ∈ cw_t := cw_in0 (List.mem_of_getElem? (i := 47) rfl) rfl
set_option maxRecDepth 20000 in
theorem cw_w48 : Cond.selects "ClockWiresModel" ⟨"ClockWiresModel", "canExchange", "(II)Z"⟩ ⟨"ClockWiresModel", "canExchange", "(II)Z"⟩ ∈ cw_t := cw_in0 (List.mem_of_getElem? (i := 48) rfl) rfl
set_option maxRecDepth 20000 in
theorem cw_w49 : Cond.selects "ClockWiresModel" ⟨"ClockWiresModel", "swaps", "(II)V"⟩ ⟨"ClockWiresModel", "swaps", "(II)V"⟩ ∈ cw_t := cw_in0 (List.mem_of_getElem? (i := 49) rfl) rfl
set_option maxRecDepth 20000 in
theorem cw_w50 : Cond.selects "ClockWiresModel" ⟨"ClockWiresModel", "about", "(II)I"⟩ ⟨"ClockWiresModel", "about", "(II)I"⟩ ∈ cw_t := cw_in0 (List.mem_of_getElem? (i := 50) rfl) rfl
set_option maxRecDepth 20000 in
theorem cw_w51 : Cond.selects "ClockWiresModel" ⟨"ClockWiresModel", "topMany", "()I"⟩ ⟨"ClockWiresModel", "topMany", "()I"⟩ ∈ cw_t := cw_in0 (List.mem_of_getElem? (i := 51) rfl) rfl
set_option maxRecDepth 20000 in
theorem cw_w52 : Cond.selects "ClockWiresModel" ⟨"ClockWiresModel", "growsBy", "(I)V"⟩ ⟨"ClockWiresModel", "growsBy", "(I)V"⟩ ∈ cw_t := cw_in0 (List.mem_of_getElem? (i := 52) rfl) rfl
set_option maxRecDepth 20000 in
theorem cw_w53 : Cond.selects "ClockWiresModel" ⟨"ClockWiresModel", "areLaid", "()Z"⟩ ⟨"ClockWiresModel", "areLaid", "()Z"⟩ ∈ cw_t := cw_in0 (List.mem_of_getElem? (i := 53) rfl) rfl
set_option maxRecDepth 20000 in
theorem cw_w54 : Cond.selects "ClockWiresModel" ⟨"ClockWiresModel", "settles", "(III)V"⟩ ⟨"ClockWiresModel", "settles", "(III)V"⟩ ∈ cw_t := cw_in0 (List.mem_of_getElem? (i := 54) rfl) rfl
set_option maxRecDepth 20000 in
theorem cw_w55 : Cond.selects "ClockWiresModel" ⟨"ClockWiresModel", "loop", "(I)I"⟩ ⟨"ClockWiresModel", "loop", "(I)I"⟩ ∈ cw_t := cw_in0 (List.mem_of_getElem? (i := 55) rfl) rfl
set_option maxRecDepth 20000 in
theorem cw_w56 : Cond.selects "ClockWiresModel" ⟨"ClockWiresModel", "arrives", "(I)I"⟩ ⟨"ClockWiresModel", "arrives", "(I)I"⟩ ∈ cw_t := cw_in0 (List.mem_of_getElem? (i := 56) rfl) rfl
set_option maxRecDepth 20000 in
theorem cw_w57 : Cond.selects "ClockWiresModel" ⟨"ClockWiresModel", "trunk", "()I"⟩ ⟨"ClockWiresModel", "trunk", "()I"⟩ ∈ cw_t := cw_in0 (List.mem_of_getElem? (i := 57) rfl) rfl
set_option maxRecDepth 20000 in
theorem cw_w58 : Cond.selects "ClockWiresModel" ⟨"ClockWiresModel", "below", "(I)J"⟩ ⟨"ClockWiresModel", "below", "(I)J"⟩ ∈ cw_t := cw_in0 (List.mem_of_getElem? (i := 58) rfl) rfl
set_option maxRecDepth 20000 in
theorem cw_w59 : Cond.selects "ClockWiresModel" ⟨"ClockWiresModel", "totalBy", "(I)I"⟩ ⟨"ClockWiresModel", "totalBy", "(I)I"⟩ ∈ cw_t := cw_in0 (List.mem_of_getElem? (i := 59) rfl) rfl
set_option maxRecDepth 20000 in
theorem cw_w60 : Cond.selects "ClockWiresModel" ⟨"ClockWiresModel", "spread", "()I"⟩ ⟨"ClockWiresModel", "spread", "()I"⟩ ∈ cw_t := cw_in0 (List.mem_of_getElem? (i := 60) rfl) rfl
set_option maxRecDepth 20000 in
theorem cw_w61 : Cond.selects "ClockWiresModel" ⟨"ClockWiresModel", "loops", "(Z)I"⟩ ⟨"ClockWiresModel", "loops", "(Z)I"⟩ ∈ cw_t := cw_in0 (List.mem_of_getElem? (i := 61) rfl) rfl
set_option maxRecDepth 20000 in
theorem cw_w62 : Cond.selects "ClockWiresModel" ⟨"ClockWiresModel", "readsAll", "(Z)Z"⟩ ⟨"ClockWiresModel", "readsAll", "(Z)Z"⟩ ∈ cw_t := cw_in0 (List.mem_of_getElem? (i := 62) rfl) rfl
set_option maxRecDepth 20000 in
theorem cw_w63 : Cond.selects "ClockWiresModel" ⟨"ClockWiresModel", "reads", "(Z)Z"⟩ ⟨"ClockWiresModel", "reads", "(Z)Z"⟩ ∈ cw_t := cw_in0 (List.mem_of_getElem? (i := 63) rfl) rfl
set_option maxRecDepth 20000 in
theorem cw_w64 : Cond.selects "ClockWiresModel" ⟨"ClockWiresModel", "here", "()I"⟩ ⟨"ClockWiresModel", "here", "()I"⟩ ∈ cw_t := cw_in0 (List.mem_of_getElem? (i := 64) rfl) rfl
set_option maxRecDepth 20000 in
theorem cw_w65 : Cond.selects "ClockWiresModel" ⟨"ClockWiresModel", "tells", "(I)V"⟩ ⟨"ClockWiresModel", "tells", "(I)V"⟩ ∈ cw_t := cw_in0 (List.mem_of_getElem? (i := 65) rfl) rfl
set_option maxRecDepth 20000 in
theorem cw_w66 : Cond.selects "ClockWiresModel" ⟨"ClockWiresModel", "byteOf", "(II)I"⟩ ⟨"ClockWiresModel", "byteOf", "(II)I"⟩ ∈ cw_t := cw_in0 (List.mem_of_getElem? (i := 66) rfl) rfl
set_option maxRecDepth 20000 in
theorem cw_w67 : Cond.selects "ClockWiresModel" ⟨"ClockWiresModel", "toldBy", "(I)I"⟩ ⟨"ClockWiresModel", "toldBy", "(I)I"⟩ ∈ cw_t := cw_in0 (List.mem_of_getElem? (i := 67) rfl) rfl
set_option maxRecDepth 20000 in
theorem cw_w68 : Cond.selects "ClockWiresModel" ⟨"ClockWiresModel", "jointMany", "()I"⟩ ⟨"ClockWiresModel", "jointMany", "()I"⟩ ∈ cw_t := cw_in0 (List.mem_of_getElem? (i := 68) rfl) rfl
set_option maxRecDepth 20000 in
theorem cw_w71 : Cond.initialized "ClockWires$Tree" ∈ cw_t := cw_in1 (List.mem_of_getElem? (i := 2) rfl) rfl
set_option maxRecDepth 20000 in
theorem cw_w72 : Cond.initialized "ClockWires$Wires" ∈ cw_t := cw_in1 (List.mem_of_getElem? (i := 3) rfl) rfl
set_option maxRecDepth 20000 in
theorem cw_w73 : Cond.initialized "ClockWires$Part" ∈ cw_t := cw_in1 (List.mem_of_getElem? (i := 4) rfl) rfl
set_option maxRecDepth 20000 in
theorem cw_w74 : Cond.initialized "ClockWires$Merge" ∈ cw_t := cw_in1 (List.mem_of_getElem? (i := 5) rfl) rfl
set_option maxRecDepth 20000 in
theorem cw_w75 : Cond.initialized "ClockWires$Places" ∈ cw_t := cw_in1 (List.mem_of_getElem? (i := 6) rfl) rfl
set_option maxRecDepth 20000 in
theorem cw_w76 : Cond.initialized "ClockWires$Search" ∈ cw_t := cw_in1 (List.mem_of_getElem? (i := 7) rfl) rfl
set_option maxRecDepth 20000 in
theorem cw_w77 : Cond.initialized "ClockWires$History" ∈ cw_t := cw_in1 (List.mem_of_getElem? (i := 8) rfl) rfl
set_option maxRecDepth 20000 in
theorem cw_w78 : Cond.initialized "ClockWires$Text" ∈ cw_t := cw_in1 (List.mem_of_getElem? (i := 9) rfl) rfl
set_option maxRecDepth 20000 in
theorem cw_w79 : Cond.initialized "java/lang/Math" ∈ cw_t := cw_in1 (List.mem_of_getElem? (i := 10) rfl) rfl
set_option maxRecDepth 20000 in
theorem cw_w81 : Cond.initialized "java/lang/System" ∈ cw_t := cw_in1 (List.mem_of_getElem? (i := 12) rfl) rfl
set_option maxRecDepth 20000 in
theorem cw_w87 : Cond.methodLink "ClockWires" (1) ⟨"java/lang/Object", "<init>", "()V"⟩ ∈ cw_t := cw_in1 (List.mem_of_getElem? (i := 18) rfl) rfl
set_option maxRecDepth 20000 in
theorem cw_w88 : Cond.instanceMethod ⟨"java/lang/Object", "<init>", "()V"⟩ ∈ cw_t := cw_in1 (List.mem_of_getElem? (i := 19) rfl) rfl
set_option maxRecDepth 20000 in
theorem cw_w90 : Cond.classLink "ClockWires" (7) "ClockWires$Tree" ∈ cw_t := cw_in1 (List.mem_of_getElem? (i := 21) rfl) rfl
set_option maxRecDepth 20000 in
theorem cw_w91 : Cond.instantiable "ClockWires$Tree" (12) ∈ cw_t := cw_in1 (List.mem_of_getElem? (i := 22) rfl) rfl
set_option maxRecDepth 20000 in
theorem cw_w92 : Cond.methodLink "ClockWires" (9) ⟨"ClockWires$Tree", "<init>", "()V"⟩ ∈ cw_t := cw_in1 (List.mem_of_getElem? (i := 23) rfl) rfl
set_option maxRecDepth 20000 in
theorem cw_w93 : Cond.instanceMethod ⟨"ClockWires$Tree", "<init>", "()V"⟩ ∈ cw_t := cw_in1 (List.mem_of_getElem? (i := 24) rfl) rfl
set_option maxRecDepth 20000 in
theorem cw_w95 : Cond.methodLink "ClockWires$Tree" (3) ⟨"java/lang/Object", "<init>", "()V"⟩ ∈ cw_t := cw_in1 (List.mem_of_getElem? (i := 26) rfl) rfl
set_option maxRecDepth 20000 in
theorem cw_w96 : Cond.methodLink "ClockWires$Tree" (36) ⟨"ClockWires$Tree", "removeJoints", "()V"⟩ ∈ cw_t := cw_in1 (List.mem_of_getElem? (i := 27) rfl) rfl
set_option maxRecDepth 20000 in
theorem cw_w97 : Cond.instanceMethod ⟨"ClockWires$Tree", "removeJoints", "()V"⟩ ∈ cw_t := cw_in1 (List.mem_of_getElem? (i := 28) rfl) rfl
set_option maxRecDepth 20000 in
theorem cw_w98 : Cond.selects "ClockWires$Tree" ⟨"ClockWires$Tree", "removeJoints", "()V"⟩ ⟨"ClockWires$Tree", "removeJoints", "()V"⟩ ∈ cw_t := cw_in1 (List.mem_of_getElem? (i := 29) rfl) rfl
set_option maxRecDepth 20000 in
theorem cw_w100 : Cond.fieldLink "ClockWires$Tree" (9) "ClockWires$Tree" "x" "[I" ∈ cw_t := cw_in1 (List.mem_of_getElem? (i := 31) rfl) rfl
set_option maxRecDepth 20000 in
theorem cw_w101 : Cond.fieldLink "ClockWires$Part" (15) "ClockWires$Tree" "x" "[I" ∈ cw_t := cw_in1 (List.mem_of_getElem? (i := 32) rfl) rfl
set_option maxRecDepth 20000 in
theorem cw_w102 : Cond.fieldLink "ClockWires" (81) "ClockWires$Tree" "x" "[I" ∈ cw_t := cw_in1 (List.mem_of_getElem? (i := 33) rfl) rfl
set_option maxRecDepth 20000 in
theorem cw_w103 : Cond.fieldLink "ClockWires$Tree" (15) "ClockWires$Tree" "y" "[I" ∈ cw_t := cw_in1 (List.mem_of_getElem? (i := 34) rfl) rfl
set_option maxRecDepth 20000 in
theorem cw_w104 : Cond.fieldLink "ClockWires$Part" (19) "ClockWires$Tree" "y" "[I" ∈ cw_t := cw_in1 (List.mem_of_getElem? (i := 35) rfl) rfl
set_option maxRecDepth 20000 in
theorem cw_w105 : Cond.fieldLink "ClockWires" (85) "ClockWires$Tree" "y" "[I" ∈ cw_t := cw_in1 (List.mem_of_getElem? (i := 36) rfl) rfl
set_option maxRecDepth 20000 in
theorem cw_w106 : Cond.fieldLink "ClockWires$Tree" (18) "ClockWires$Tree" "offset" "[I" ∈ cw_t := cw_in1 (List.mem_of_getElem? (i := 37) rfl) rfl
set_option maxRecDepth 20000 in
theorem cw_w107 : Cond.fieldLink "ClockWires$Part" (38) "ClockWires$Tree" "offset" "[I" ∈ cw_t := cw_in1 (List.mem_of_getElem? (i := 38) rfl) rfl
set_option maxRecDepth 20000 in
theorem cw_w108 : Cond.fieldLink "ClockWires" (99) "ClockWires$Tree" "offset" "[I" ∈ cw_t := cw_in1 (List.mem_of_getElem? (i := 39) rfl) rfl
set_option maxRecDepth 20000 in
theorem cw_w109 : Cond.fieldLink "ClockWires$Places" (137) "ClockWires$Tree" "offset" "[I" ∈ cw_t := cw_in1 (List.mem_of_getElem? (i := 40) rfl) rfl
set_option maxRecDepth 20000 in
theorem cw_w110 : Cond.fieldLink "ClockWires$Tree" (21) "ClockWires$Tree" "load" "[I" ∈ cw_t := cw_in1 (List.mem_of_getElem? (i := 41) rfl) rfl
set_option maxRecDepth 20000 in
theorem cw_w111 : Cond.fieldLink "ClockWires$Part" (53) "ClockWires$Tree" "load" "[I" ∈ cw_t := cw_in1 (List.mem_of_getElem? (i := 42) rfl) rfl
set_option maxRecDepth 20000 in
theorem cw_w112 : Cond.fieldLink "ClockWires" (102) "ClockWires$Tree" "load" "[I" ∈ cw_t := cw_in1 (List.mem_of_getElem? (i := 43) rfl) rfl
set_option maxRecDepth 20000 in
theorem cw_w113 : Cond.fieldLink "ClockWires$Tree" (24) "ClockWires$Tree" "lastTouched" "[I" ∈ cw_t := cw_in1 (List.mem_of_getElem? (i := 44) rfl) rfl
set_option maxRecDepth 20000 in
theorem cw_w114 : Cond.fieldLink "ClockWires$Tree" (27) "ClockWires$Tree" "left" "[I" ∈ cw_t := cw_in1 (List.mem_of_getElem? (i := 45) rfl) rfl
set_option maxRecDepth 20000 in
theorem cw_w115 : Cond.fieldLink "ClockWires$Tree" (30) "ClockWires$Tree" "right" "[I" ∈ cw_t := cw_in1 (List.mem_of_getElem? (i := 46) rfl) rfl
set_option maxRecDepth 20000 in
theorem cw_w116 : Cond.fieldLink "ClockWires$Tree" (33) "ClockWires$Tree" "parent" "[I" ∈ cw_t := cw_in1 (List.mem_of_getElem? (i := 47) rfl) rfl
set_option maxRecDepth 20000 in
theorem cw_w117 : Cond.fieldLink "ClockWires" (66) "ClockWires$Tree" "sinkCount" "I" ∈ cw_t := cw_in1 (List.mem_of_getElem? (i := 48) rfl) rfl
set_option maxRecDepth 20000 in
theorem cw_w118 : Cond.fieldLink "ClockWires$Tree" (45) "ClockWires$Tree" "sinkCount" "I" ∈ cw_t := cw_in1 (List.mem_of_getElem? (i := 49) rfl) rfl
set_option maxRecDepth 20000 in
theorem cw_w119 : Cond.fieldLink "ClockWires$Search" (69) "ClockWires$Tree" "sinkCount" "I" ∈ cw_t := cw_in1 (List.mem_of_getElem? (i := 50) rfl) rfl
set_option maxRecDepth 20000 in
theorem cw_w120 : Cond.fieldLink "ClockWires$Places" (119) "ClockWires$Tree" "sinkCount" "I" ∈ cw_t := cw_in1 (List.mem_of_getElem? (i := 51) rfl) rfl
set_option maxRecDepth 20000 in
theorem cw_w121 : Cond.fieldLink "ClockWires$Tree" (49) "ClockWires$Tree" "skewLimit" "I" ∈ cw_t := cw_in1 (List.mem_of_getElem? (i := 52) rfl) rfl
set_option maxRecDepth 20000 in
theorem cw_w122 : Cond.fieldLink "ClockWires$Wires" (37) "ClockWires$Tree" "skewLimit" "I" ∈ cw_t := cw_in1 (List.mem_of_getElem? (i := 53) rfl) rfl
set_option maxRecDepth 20000 in
theorem cw_w123 : Cond.fieldLink "ClockWires" (109) "ClockWires$Tree" "skewLimit" "I" ∈ cw_t := cw_in1 (List.mem_of_getElem? (i := 54) rfl) rfl
set_option maxRecDepth 20000 in
theorem cw_w124 : Cond.fieldLink "ClockWires$Tree" (52) "ClockWires$Tree" "sourceX" "I" ∈ cw_t := cw_in1 (List.mem_of_getElem? (i := 55) rfl) rfl
set_option maxRecDepth 20000 in
theorem cw_w125 : Cond.fieldLink "ClockWires$Places" (76) "ClockWires$Tree" "sourceX" "I" ∈ cw_t := cw_in1 (List.mem_of_getElem? (i := 56) rfl) rfl
set_option maxRecDepth 20000 in
theorem cw_w126 : Cond.fieldLink "ClockWires" (112) "ClockWires$Tree" "sourceX" "I" ∈ cw_t := cw_in1 (List.mem_of_getElem? (i := 57) rfl) rfl
set_option maxRecDepth 20000 in
theorem cw_w127 : Cond.fieldLink "ClockWires$Tree" (55) "ClockWires$Tree" "sourceY" "I" ∈ cw_t := cw_in1 (List.mem_of_getElem? (i := 58) rfl) rfl
set_option maxRecDepth 20000 in
theorem cw_w128 : Cond.fieldLink "ClockWires$Places" (79) "ClockWires$Tree" "sourceY" "I" ∈ cw_t := cw_in1 (List.mem_of_getElem? (i := 59) rfl) rfl
set_option maxRecDepth 20000 in
theorem cw_w129 : Cond.fieldLink "ClockWires" (115) "ClockWires$Tree" "sourceY" "I" ∈ cw_t := cw_in1 (List.mem_of_getElem? (i := 60) rfl) rfl
set_option maxRecDepth 20000 in
theorem cw_w155 : Cond.arrayClass .int ∈ cw_t := cw_in1 (List.mem_of_getElem? (i := 86) rfl) rfl
set_option maxRecDepth 20000 in
theorem cw_w156 : Cond.classLink "ClockWires" (16) "ClockWires$Wires" ∈ cw_t := cw_in1 (List.mem_of_getElem? (i := 87) rfl) rfl
set_option maxRecDepth 20000 in
theorem cw_w157 : Cond.instantiable "ClockWires$Wires" (7) ∈ cw_t := cw_in1 (List.mem_of_getElem? (i := 88) rfl) rfl
set_option maxRecDepth 20000 in
theorem cw_w158 : Cond.methodLink "ClockWires" (18) ⟨"ClockWires$Wires", "<init>", "()V"⟩ ∈ cw_t := cw_in1 (List.mem_of_getElem? (i := 89) rfl) rfl
set_option maxRecDepth 20000 in
theorem cw_w159 : Cond.instanceMethod ⟨"ClockWires$Wires", "<init>", "()V"⟩ ∈ cw_t := cw_in1 (List.mem_of_getElem? (i := 90) rfl) rfl
set_option maxRecDepth 20000 in
theorem cw_w161 : Cond.methodLink "ClockWires$Wires" (3) ⟨"java/lang/Object", "<init>", "()V"⟩ ∈ cw_t := cw_in1 (List.mem_of_getElem? (i := 92) rfl) rfl
set_option maxRecDepth 20000 in
theorem cw_w162 : Cond.classLink "ClockWires$Wires" (9) "ClockWires$Part" ∈ cw_t := cw_in1 (List.mem_of_getElem? (i := 93) rfl) rfl
set_option maxRecDepth 20000 in
theorem cw_w164 : Cond.instantiable "ClockWires$Part" (10) ∈ cw_t := cw_in1 (List.mem_of_getElem? (i := 95) rfl) rfl
set_option maxRecDepth 20000 in
theorem cw_w166 : Cond.instanceMethod ⟨"ClockWires$Part", "<init>", "()V"⟩ ∈ cw_t := cw_in1 (List.mem_of_getElem? (i := 97) rfl) rfl
set_option maxRecDepth 20000 in
theorem cw_w168 : Cond.methodLink "ClockWires$Part" (3) ⟨"java/lang/Object", "<init>", "()V"⟩ ∈ cw_t := cw_in1 (List.mem_of_getElem? (i := 99) rfl) rfl
set_option maxRecDepth 20000 in
theorem cw_w169 : Cond.fieldLink "ClockWires$Part" (23) "ClockWires$Part" "u1" "I" ∈ cw_t := cw_in1 (List.mem_of_getElem? (i := 100) rfl) rfl
set_option maxRecDepth 20000 in
theorem cw_w170 : Cond.fieldLink "ClockWires$Merge" (40) "ClockWires$Part" "u1" "I" ∈ cw_t := cw_in1 (List.mem_of_getElem? (i := 101) rfl) rfl
set_option maxRecDepth 20000 in
theorem cw_w171 : Cond.fieldLink "ClockWires$Places" (83) "ClockWires$Part" "u1" "I" ∈ cw_t := cw_in1 (List.mem_of_getElem? (i := 102) rfl) rfl
set_option maxRecDepth 20000 in
theorem cw_w172 : Cond.fieldLink "ClockWires" (299) "ClockWires$Part" "u1" "I" ∈ cw_t := cw_in1 (List.mem_of_getElem? (i := 103) rfl) rfl
set_option maxRecDepth 20000 in
theorem cw_w173 : Cond.fieldLink "ClockWires$Part" (29) "ClockWires$Part" "u2" "I" ∈ cw_t := cw_in1 (List.mem_of_getElem? (i := 104) rfl) rfl
set_option maxRecDepth 20000 in
theorem cw_w174 : Cond.fieldLink "ClockWires$Merge" (45) "ClockWires$Part" "u2" "I" ∈ cw_t := cw_in1 (List.mem_of_getElem? (i := 105) rfl) rfl
set_option maxRecDepth 20000 in
theorem cw_w175 : Cond.fieldLink "ClockWires$Places" (88) "ClockWires$Part" "u2" "I" ∈ cw_t := cw_in1 (List.mem_of_getElem? (i := 106) rfl) rfl
set_option maxRecDepth 20000 in
theorem cw_w176 : Cond.fieldLink "ClockWires" (304) "ClockWires$Part" "u2" "I" ∈ cw_t := cw_in1 (List.mem_of_getElem? (i := 107) rfl) rfl
set_option maxRecDepth 20000 in
theorem cw_w177 : Cond.fieldLink "ClockWires$Part" (32) "ClockWires$Part" "v1" "I" ∈ cw_t := cw_in1 (List.mem_of_getElem? (i := 108) rfl) rfl
set_option maxRecDepth 20000 in
theorem cw_w178 : Cond.fieldLink "ClockWires$Merge" (48) "ClockWires$Part" "v1" "I" ∈ cw_t := cw_in1 (List.mem_of_getElem? (i := 109) rfl) rfl
set_option maxRecDepth 20000 in
theorem cw_w179 : Cond.fieldLink "ClockWires$Places" (95) "ClockWires$Part" "v1" "I" ∈ cw_t := cw_in1 (List.mem_of_getElem? (i := 110) rfl) rfl
set_option maxRecDepth 20000 in
theorem cw_w180 : Cond.fieldLink "ClockWires" (307) "ClockWires$Part" "v1" "I" ∈ cw_t := cw_in1 (List.mem_of_getElem? (i := 111) rfl) rfl
set_option maxRecDepth 20000 in
theorem cw_w181 : Cond.fieldLink "ClockWires$Part" (35) "ClockWires$Part" "v2" "I" ∈ cw_t := cw_in1 (List.mem_of_getElem? (i := 112) rfl) rfl
set_option maxRecDepth 20000 in
theorem cw_w182 : Cond.fieldLink "ClockWires$Merge" (51) "ClockWires$Part" "v2" "I" ∈ cw_t := cw_in1 (List.mem_of_getElem? (i := 113) rfl) rfl
set_option maxRecDepth 20000 in
theorem cw_w183 : Cond.fieldLink "ClockWires$Places" (98) "ClockWires$Part" "v2" "I" ∈ cw_t := cw_in1 (List.mem_of_getElem? (i := 114) rfl) rfl
set_option maxRecDepth 20000 in
theorem cw_w184 : Cond.fieldLink "ClockWires" (310) "ClockWires$Part" "v2" "I" ∈ cw_t := cw_in1 (List.mem_of_getElem? (i := 115) rfl) rfl
set_option maxRecDepth 20000 in
theorem cw_w185 : Cond.fieldLink "ClockWires$Part" (41) "ClockWires$Part" "early" "I" ∈ cw_t := cw_in1 (List.mem_of_getElem? (i := 116) rfl) rfl
set_option maxRecDepth 20000 in
theorem cw_w186 : Cond.fieldLink "ClockWires$Merge" (54) "ClockWires$Part" "early" "I" ∈ cw_t := cw_in1 (List.mem_of_getElem? (i := 117) rfl) rfl
set_option maxRecDepth 20000 in
theorem cw_w187 : Cond.fieldLink "ClockWires" (313) "ClockWires$Part" "early" "I" ∈ cw_t := cw_in1 (List.mem_of_getElem? (i := 118) rfl) rfl
set_option maxRecDepth 20000 in
theorem cw_w188 : Cond.fieldLink "ClockWires$Part" (44) "ClockWires$Part" "late" "I" ∈ cw_t := cw_in1 (List.mem_of_getElem? (i := 119) rfl) rfl
set_option maxRecDepth 20000 in
theorem cw_w189 : Cond.fieldLink "ClockWires$Merge" (57) "ClockWires$Part" "late" "I" ∈ cw_t := cw_in1 (List.mem_of_getElem? (i := 120) rfl) rfl
set_option maxRecDepth 20000 in
theorem cw_w190 : Cond.fieldLink "ClockWires" (316) "ClockWires$Part" "late" "I" ∈ cw_t := cw_in1 (List.mem_of_getElem? (i := 121) rfl) rfl
set_option maxRecDepth 20000 in
theorem cw_w191 : Cond.fieldLink "ClockWires$Wires" (86) "ClockWires$Part" "wire" "I" ∈ cw_t := cw_in1 (List.mem_of_getElem? (i := 122) rfl) rfl
set_option maxRecDepth 20000 in
theorem cw_w192 : Cond.fieldLink "ClockWires$Places" (112) "ClockWires$Part" "wire" "I" ∈ cw_t := cw_in1 (List.mem_of_getElem? (i := 123) rfl) rfl
set_option maxRecDepth 20000 in
theorem cw_w193 : Cond.fieldLink "ClockWires$Merge" (63) "ClockWires$Part" "wire" "I" ∈ cw_t := cw_in1 (List.mem_of_getElem? (i := 124) rfl) rfl
set_option maxRecDepth 20000 in
theorem cw_w194 : Cond.fieldLink "ClockWires" (319) "ClockWires$Part" "wire" "I" ∈ cw_t := cw_in1 (List.mem_of_getElem? (i := 125) rfl) rfl
set_option maxRecDepth 20000 in
theorem cw_w195 : Cond.fieldLink "ClockWires$Part" (47) "ClockWires$Part" "cost" "I" ∈ cw_t := cw_in1 (List.mem_of_getElem? (i := 126) rfl) rfl
set_option maxRecDepth 20000 in
theorem cw_w196 : Cond.fieldLink "ClockWires$Wires" (89) "ClockWires$Part" "cost" "I" ∈ cw_t := cw_in1 (List.mem_of_getElem? (i := 127) rfl) rfl
set_option maxRecDepth 20000 in
theorem cw_w197 : Cond.fieldLink "ClockWires$Merge" (66) "ClockWires$Part" "cost" "I" ∈ cw_t := cw_in1 (List.mem_of_getElem? (i := 128) rfl) rfl
set_option maxRecDepth 20000 in
theorem cw_w198 : Cond.fieldLink "ClockWires" (322) "ClockWires$Part" "cost" "I" ∈ cw_t := cw_in1 (List.mem_of_getElem? (i := 129) rfl) rfl
set_option maxRecDepth 20000 in
theorem cw_w199 : Cond.fieldLink "ClockWires$Part" (50) "ClockWires$Part" "sinks" "I" ∈ cw_t := cw_in1 (List.mem_of_getElem? (i := 130) rfl) rfl
set_option maxRecDepth 20000 in
theorem cw_w200 : Cond.fieldLink "ClockWires$Merge" (69) "ClockWires$Part" "sinks" "I" ∈ cw_t := cw_in1 (List.mem_of_getElem? (i := 131) rfl) rfl
set_option maxRecDepth 20000 in
theorem cw_w201 : Cond.fieldLink "ClockWires" (325) "ClockWires$Part" "sinks" "I" ∈ cw_t := cw_in1 (List.mem_of_getElem? (i := 132) rfl) rfl
set_option maxRecDepth 20000 in
theorem cw_w202 : Cond.fieldLink "ClockWires$Part" (56) "ClockWires$Part" "loads" "I" ∈ cw_t := cw_in1 (List.mem_of_getElem? (i := 133) rfl) rfl
set_option maxRecDepth 20000 in
theorem cw_w203 : Cond.fieldLink "ClockWires$Merge" (72) "ClockWires$Part" "loads" "I" ∈ cw_t := cw_in1 (List.mem_of_getElem? (i := 134) rfl) rfl
set_option maxRecDepth 20000 in
theorem cw_w225 : Cond.classLink "ClockWires$Wires" (22) "ClockWires$Merge" ∈ cw_t := cw_in1 (List.mem_of_getElem? (i := 156) rfl) rfl
set_option maxRecDepth 20000 in
theorem cw_w226 : Cond.instantiable "ClockWires$Merge" (4) ∈ cw_t := cw_in1 (List.mem_of_getElem? (i := 157) rfl) rfl
set_option maxRecDepth 20000 in
theorem cw_w228 : Cond.instanceMethod ⟨"ClockWires$Merge", "<init>", "()V"⟩ ∈ cw_t := cw_in1 (List.mem_of_getElem? (i := 159) rfl) rfl
set_option maxRecDepth 20000 in
theorem cw_w230 : Cond.methodLink "ClockWires$Merge" (1) ⟨"java/lang/Object", "<init>", "()V"⟩ ∈ cw_t := cw_in1 (List.mem_of_getElem? (i := 161) rfl) rfl
set_option maxRecDepth 20000 in
theorem cw_w231 : Cond.fieldLink "ClockWires$Merge" (13) "ClockWires$Merge" "gap" "I" ∈ cw_t := cw_in1 (List.mem_of_getElem? (i := 162) rfl) rfl
set_option maxRecDepth 20000 in
theorem cw_w232 : Cond.fieldLink "ClockWires" (193) "ClockWires$Merge" "gap" "I" ∈ cw_t := cw_in1 (List.mem_of_getElem? (i := 163) rfl) rfl
set_option maxRecDepth 20000 in
theorem cw_w233 : Cond.fieldLink "ClockWires$Merge" (31) "ClockWires$Merge" "span" "I" ∈ cw_t := cw_in1 (List.mem_of_getElem? (i := 164) rfl) rfl
set_option maxRecDepth 20000 in
theorem cw_w234 : Cond.fieldLink "ClockWires$Wires" (99) "ClockWires$Merge" "span" "I" ∈ cw_t := cw_in1 (List.mem_of_getElem? (i := 165) rfl) rfl
set_option maxRecDepth 20000 in
theorem cw_w235 : Cond.fieldLink "ClockWires" (190) "ClockWires$Merge" "span" "I" ∈ cw_t := cw_in1 (List.mem_of_getElem? (i := 166) rfl) rfl
set_option maxRecDepth 20000 in
theorem cw_w236 : Cond.fieldLink "ClockWires$Merge" (34) "ClockWires$Merge" "leftWire" "I" ∈ cw_t := cw_in1 (List.mem_of_getElem? (i := 167) rfl) rfl
set_option maxRecDepth 20000 in
theorem cw_w237 : Cond.fieldLink "ClockWires" (196) "ClockWires$Merge" "leftWire" "I" ∈ cw_t := cw_in1 (List.mem_of_getElem? (i := 168) rfl) rfl
set_option maxRecDepth 20000 in
theorem cw_w238 : Cond.fieldLink "ClockWires$Merge" (37) "ClockWires$Merge" "rightWire" "I" ∈ cw_t := cw_in1 (List.mem_of_getElem? (i := 169) rfl) rfl
set_option maxRecDepth 20000 in
theorem cw_w239 : Cond.fieldLink "ClockWires" (199) "ClockWires$Merge" "rightWire" "I" ∈ cw_t := cw_in1 (List.mem_of_getElem? (i := 170) rfl) rfl
set_option maxRecDepth 20000 in
theorem cw_w249 : Cond.fieldLink "ClockWires$Wires" (11) "ClockWires$Wires" "parts" "[LClockWires$Part;" ∈ cw_t := cw_in1 (List.mem_of_getElem? (i := 180) rfl) rfl
set_option maxRecDepth 20000 in
theorem cw_w250 : Cond.fieldLink "ClockWires$Wires" (18) "ClockWires$Wires" "nowhere" "LClockWires$Part;" ∈ cw_t := cw_in1 (List.mem_of_getElem? (i := 181) rfl) rfl
set_option maxRecDepth 20000 in
theorem cw_w251 : Cond.fieldLink "ClockWires$Wires" (25) "ClockWires$Wires" "merge" "LClockWires$Merge;" ∈ cw_t := cw_in1 (List.mem_of_getElem? (i := 182) rfl) rfl
set_option maxRecDepth 20000 in
theorem cw_w252 : Cond.fieldLink "ClockWires" (175) "ClockWires$Wires" "merge" "LClockWires$Merge;" ∈ cw_t := cw_in1 (List.mem_of_getElem? (i := 183) rfl) rfl
set_option maxRecDepth 20000 in
theorem cw_w253 : Cond.fieldLink "ClockWires$Wires" (29) "ClockWires$Wires" "downward" "[I" ∈ cw_t := cw_in1 (List.mem_of_getElem? (i := 184) rfl) rfl
set_option maxRecDepth 20000 in
theorem cw_w254 : Cond.fieldLink "ClockWires$Places" (44) "ClockWires$Wires" "downward" "[I" ∈ cw_t := cw_in1 (List.mem_of_getElem? (i := 185) rfl) rfl
set_option maxRecDepth 20000 in
theorem cw_w255 : Cond.fieldLink "ClockWires$Places" (51) "ClockWires$Wires" "nodeCount" "I" ∈ cw_t := cw_in1 (List.mem_of_getElem? (i := 186) rfl) rfl
set_option maxRecDepth 20000 in
theorem cw_w256 : Cond.fieldLink "ClockWires$Wires" (44) "ClockWires$Wires" "nodeCount" "I" ∈ cw_t := cw_in1 (List.mem_of_getElem? (i := 187) rfl) rfl
set_option maxRecDepth 20000 in
theorem cw_w257 : Cond.fieldLink "ClockWires$Places" (28) "ClockWires$Wires" "topCount" "I" ∈ cw_t := cw_in1 (List.mem_of_getElem? (i := 188) rfl) rfl
set_option maxRecDepth 20000 in
theorem cw_w258 : Cond.fieldLink "ClockWires$Wires" (83) "ClockWires$Wires" "topCount" "I" ∈ cw_t := cw_in1 (List.mem_of_getElem? (i := 189) rfl) rfl
set_option maxRecDepth 20000 in
theorem cw_w259 : Cond.fieldLink "ClockWires" (202) "ClockWires$Wires" "topCount" "I" ∈ cw_t := cw_in1 (List.mem_of_getElem? (i := 190) rfl) rfl
set_option maxRecDepth 20000 in
theorem cw_w260 : Cond.fieldLink "ClockWires$Search" (44) "ClockWires$Wires" "totalCost" "I" ∈ cw_t := cw_in1 (List.mem_of_getElem? (i := 191) rfl) rfl
set_option maxRecDepth 20000 in
theorem cw_w261 : Cond.fieldLink "ClockWires$Wires" (80) "ClockWires$Wires" "totalCost" "I" ∈ cw_t := cw_in1 (List.mem_of_getElem? (i := 192) rfl) rfl
set_option maxRecDepth 20000 in
theorem cw_w262 : Cond.fieldLink "ClockWires" (166) "ClockWires$Wires" "totalCost" "I" ∈ cw_t := cw_in1 (List.mem_of_getElem? (i := 193) rfl) rfl
set_option maxRecDepth 20000 in
theorem cw_w278 : Cond.classLink "ClockWires" (23) "ClockWires$Places" ∈ cw_t := cw_in1 (List.mem_of_getElem? (i := 209) rfl) rfl
set_option maxRecDepth 20000 in
theorem cw_w279 : Cond.instantiable "ClockWires$Places" (10) ∈ cw_t := cw_in1 (List.mem_of_getElem? (i := 210) rfl) rfl
set_option maxRecDepth 20000 in
theorem cw_w281 : Cond.instanceMethod ⟨"ClockWires$Places", "<init>", "()V"⟩ ∈ cw_t := cw_in1 (List.mem_of_getElem? (i := 212) rfl) rfl
set_option maxRecDepth 20000 in
theorem cw_w283 : Cond.methodLink "ClockWires$Places" (3) ⟨"java/lang/Object", "<init>", "()V"⟩ ∈ cw_t := cw_in1 (List.mem_of_getElem? (i := 214) rfl) rfl
set_option maxRecDepth 20000 in
theorem cw_w284 : Cond.fieldLink "ClockWires$Places" (9) "ClockWires$Places" "u" "[I" ∈ cw_t := cw_in1 (List.mem_of_getElem? (i := 215) rfl) rfl
set_option maxRecDepth 20000 in
theorem cw_w285 : Cond.fieldLink "ClockWires" (218) "ClockWires$Places" "u" "[I" ∈ cw_t := cw_in1 (List.mem_of_getElem? (i := 216) rfl) rfl
set_option maxRecDepth 20000 in
theorem cw_w286 : Cond.fieldLink "ClockWires$Places" (15) "ClockWires$Places" "v" "[I" ∈ cw_t := cw_in1 (List.mem_of_getElem? (i := 217) rfl) rfl
set_option maxRecDepth 20000 in
theorem cw_w287 : Cond.fieldLink "ClockWires" (221) "ClockWires$Places" "v" "[I" ∈ cw_t := cw_in1 (List.mem_of_getElem? (i := 218) rfl) rfl
set_option maxRecDepth 20000 in
theorem cw_w288 : Cond.fieldLink "ClockWires$Places" (18) "ClockWires$Places" "loop" "[I" ∈ cw_t := cw_in1 (List.mem_of_getElem? (i := 219) rfl) rfl
set_option maxRecDepth 20000 in
theorem cw_w289 : Cond.fieldLink "ClockWires" (224) "ClockWires$Places" "loop" "[I" ∈ cw_t := cw_in1 (List.mem_of_getElem? (i := 220) rfl) rfl
set_option maxRecDepth 20000 in
theorem cw_w290 : Cond.fieldLink "ClockWires$Places" (21) "ClockWires$Places" "path" "[I" ∈ cw_t := cw_in1 (List.mem_of_getElem? (i := 221) rfl) rfl
set_option maxRecDepth 20000 in
theorem cw_w291 : Cond.fieldLink "ClockWires$Places" (24) "ClockWires$Places" "delay" "[J" ∈ cw_t := cw_in1 (List.mem_of_getElem? (i := 222) rfl) rfl
set_option maxRecDepth 20000 in
theorem cw_w292 : Cond.fieldLink "ClockWires" (230) "ClockWires$Places" "delay" "[J" ∈ cw_t := cw_in1 (List.mem_of_getElem? (i := 223) rfl) rfl
set_option maxRecDepth 20000 in
theorem cw_w293 : Cond.fieldLink "ClockWires$Places" (34) "ClockWires$Places" "whole" "Z" ∈ cw_t := cw_in1 (List.mem_of_getElem? (i := 224) rfl) rfl
set_option maxRecDepth 20000 in
theorem cw_w294 : Cond.fieldLink "ClockWires" (214) "ClockWires$Places" "whole" "Z" ∈ cw_t := cw_in1 (List.mem_of_getElem? (i := 225) rfl) rfl
set_option maxRecDepth 20000 in
theorem cw_w295 : Cond.fieldLink "ClockWires$Places" (105) "ClockWires$Places" "trunk" "I" ∈ cw_t := cw_in1 (List.mem_of_getElem? (i := 226) rfl) rfl
set_option maxRecDepth 20000 in
theorem cw_w296 : Cond.fieldLink "ClockWires" (328) "ClockWires$Places" "trunk" "I" ∈ cw_t := cw_in1 (List.mem_of_getElem? (i := 227) rfl) rfl
set_option maxRecDepth 20000 in
theorem cw_w297 : Cond.fieldLink "ClockWires$Places" (38) "ClockWires$Places" "loopSum" "I" ∈ cw_t := cw_in1 (List.mem_of_getElem? (i := 228) rfl) rfl
set_option maxRecDepth 20000 in
theorem cw_w298 : Cond.fieldLink "ClockWires" (331) "ClockWires$Places" "loopSum" "I" ∈ cw_t := cw_in1 (List.mem_of_getElem? (i := 229) rfl) rfl
set_option maxRecDepth 20000 in
theorem cw_w299 : Cond.fieldLink "ClockWires$Places" (41) "ClockWires$Places" "loopCount" "I" ∈ cw_t := cw_in1 (List.mem_of_getElem? (i := 230) rfl) rfl
set_option maxRecDepth 20000 in
theorem cw_w300 : Cond.fieldLink "ClockWires" (337) "ClockWires$Places" "loopCount" "I" ∈ cw_t := cw_in1 (List.mem_of_getElem? (i := 231) rfl) rfl
set_option maxRecDepth 20000 in
theorem cw_w301 : Cond.fieldLink "ClockWires$Places" (131) "ClockWires$Places" "spread" "I" ∈ cw_t := cw_in1 (List.mem_of_getElem? (i := 232) rfl) rfl
set_option maxRecDepth 20000 in
theorem cw_w302 : Cond.fieldLink "ClockWires" (334) "ClockWires$Places" "spread" "I" ∈ cw_t := cw_in1 (List.mem_of_getElem? (i := 233) rfl) rfl
set_option maxRecDepth 20000 in
theorem cw_w324 : Cond.arrayClass .long ∈ cw_t := cw_in2 (List.mem_of_getElem? (i := 15) rfl) rfl
set_option maxRecDepth 20000 in
theorem cw_w325 : Cond.classLink "ClockWires" (30) "ClockWires$Search" ∈ cw_t := cw_in2 (List.mem_of_getElem? (i := 16) rfl) rfl
set_option maxRecDepth 20000 in
theorem cw_w326 : Cond.instantiable "ClockWires$Search" (5) ∈ cw_t := cw_in2 (List.mem_of_getElem? (i := 17) rfl) rfl
set_option maxRecDepth 20000 in
theorem cw_w328 : Cond.instanceMethod ⟨"ClockWires$Search", "<init>", "()V"⟩ ∈ cw_t := cw_in2 (List.mem_of_getElem? (i := 19) rfl) rfl
set_option maxRecDepth 20000 in
theorem cw_w330 : Cond.methodLink "ClockWires$Search" (3) ⟨"java/lang/Object", "<init>", "()V"⟩ ∈ cw_t := cw_in2 (List.mem_of_getElem? (i := 21) rfl) rfl
set_option maxRecDepth 20000 in
theorem cw_w331 : Cond.classLink "ClockWires$Search" (9) "ClockWires$Tree" ∈ cw_t := cw_in2 (List.mem_of_getElem? (i := 22) rfl) rfl
set_option maxRecDepth 20000 in
theorem cw_w332 : Cond.methodLink "ClockWires$Search" (11) ⟨"ClockWires$Tree", "<init>", "()V"⟩ ∈ cw_t := cw_in2 (List.mem_of_getElem? (i := 23) rfl) rfl
set_option maxRecDepth 20000 in
theorem cw_w333 : Cond.classLink "ClockWires$Search" (18) "ClockWires$Wires" ∈ cw_t := cw_in2 (List.mem_of_getElem? (i := 24) rfl) rfl
set_option maxRecDepth 20000 in
theorem cw_w334 : Cond.methodLink "ClockWires$Search" (20) ⟨"ClockWires$Wires", "<init>", "()V"⟩ ∈ cw_t := cw_in2 (List.mem_of_getElem? (i := 25) rfl) rfl
set_option maxRecDepth 20000 in
theorem cw_w335 : Cond.fieldLink "ClockWires$Search" (12) "ClockWires$Search" "trial" "LClockWires$Tree;" ∈ cw_t := cw_in2 (List.mem_of_getElem? (i := 26) rfl) rfl
set_option maxRecDepth 20000 in
theorem cw_w336 : Cond.fieldLink "ClockWires$Search" (21) "ClockWires$Search" "wires" "LClockWires$Wires;" ∈ cw_t := cw_in2 (List.mem_of_getElem? (i := 27) rfl) rfl
set_option maxRecDepth 20000 in
theorem cw_w337 : Cond.fieldLink "ClockWires$Search" (55) "ClockWires$Search" "leastKnown" "Z" ∈ cw_t := cw_in2 (List.mem_of_getElem? (i := 28) rfl) rfl
set_option maxRecDepth 20000 in
theorem cw_w338 : Cond.fieldLink "ClockWires" (283) "ClockWires$Search" "leastKnown" "Z" ∈ cw_t := cw_in2 (List.mem_of_getElem? (i := 29) rfl) rfl
set_option maxRecDepth 20000 in
theorem cw_w339 : Cond.fieldLink "ClockWires$Search" (79) "ClockWires$Search" "leastCost" "I" ∈ cw_t := cw_in2 (List.mem_of_getElem? (i := 30) rfl) rfl
set_option maxRecDepth 20000 in
theorem cw_w340 : Cond.fieldLink "ClockWires" (208) "ClockWires$Search" "leastCost" "I" ∈ cw_t := cw_in2 (List.mem_of_getElem? (i := 31) rfl) rfl
set_option maxRecDepth 20000 in
theorem cw_w341 : Cond.fieldLink "ClockWires$Search" (62) "ClockWires$Search" "leastTrees" "I" ∈ cw_t := cw_in2 (List.mem_of_getElem? (i := 32) rfl) rfl
set_option maxRecDepth 20000 in
theorem cw_w342 : Cond.fieldLink "ClockWires" (211) "ClockWires$Search" "leastTrees" "I" ∈ cw_t := cw_in2 (List.mem_of_getElem? (i := 33) rfl) rfl
set_option maxRecDepth 20000 in
theorem cw_w354 : Cond.classLink "ClockWires" (37) "ClockWires$History" ∈ cw_t := cw_in2 (List.mem_of_getElem? (i := 45) rfl) rfl
set_option maxRecDepth 20000 in
theorem cw_w355 : Cond.instantiable "ClockWires$History" (3) ∈ cw_t := cw_in2 (List.mem_of_getElem? (i := 46) rfl) rfl
set_option maxRecDepth 20000 in
theorem cw_w356 : Cond.methodLink "ClockWires" (39) ⟨"ClockWires$History", "<init>", "()V"⟩ ∈ cw_t := cw_in2 (List.mem_of_getElem? (i := 47) rfl) rfl
set_option maxRecDepth 20000 in
theorem cw_w357 : Cond.instanceMethod ⟨"ClockWires$History", "<init>", "()V"⟩ ∈ cw_t := cw_in2 (List.mem_of_getElem? (i := 48) rfl) rfl
set_option maxRecDepth 20000 in
theorem cw_w359 : Cond.methodLink "ClockWires$History" (3) ⟨"java/lang/Object", "<init>", "()V"⟩ ∈ cw_t := cw_in2 (List.mem_of_getElem? (i := 50) rfl) rfl
set_option maxRecDepth 20000 in
theorem cw_w360 : Cond.classLink "ClockWires$History" (9) "ClockWires$Tree" ∈ cw_t := cw_in2 (List.mem_of_getElem? (i := 51) rfl) rfl
set_option maxRecDepth 20000 in
theorem cw_w362 : Cond.methodLink "ClockWires$History" (17) ⟨"ClockWires$Tree", "<init>", "()V"⟩ ∈ cw_t := cw_in2 (List.mem_of_getElem? (i := 53) rfl) rfl
set_option maxRecDepth 20000 in
theorem cw_w363 : Cond.fieldLink "ClockWires$History" (11) "ClockWires$History" "saved" "[LClockWires$Tree;" ∈ cw_t := cw_in2 (List.mem_of_getElem? (i := 54) rfl) rfl
set_option maxRecDepth 20000 in
theorem cw_w364 : Cond.fieldLink "ClockWires$History" (18) "ClockWires$History" "next" "I" ∈ cw_t := cw_in2 (List.mem_of_getElem? (i := 55) rfl) rfl
set_option maxRecDepth 20000 in
theorem cw_w365 : Cond.fieldLink "ClockWires$History" (26) "ClockWires$History" "count" "I" ∈ cw_t := cw_in2 (List.mem_of_getElem? (i := 56) rfl) rfl
set_option maxRecDepth 20000 in
theorem cw_w366 : Cond.fieldLink "ClockWires" (257) "ClockWires$History" "count" "I" ∈ cw_t := cw_in2 (List.mem_of_getElem? (i := 57) rfl) rfl
set_option maxRecDepth 20000 in
theorem cw_w374 : Cond.classLink "ClockWires" (44) "ClockWires$Text" ∈ cw_t := cw_in2 (List.mem_of_getElem? (i := 65) rfl) rfl
set_option maxRecDepth 20000 in
theorem cw_w375 : Cond.instantiable "ClockWires$Text" (9) ∈ cw_t := cw_in2 (List.mem_of_getElem? (i := 66) rfl) rfl
set_option maxRecDepth 20000 in
theorem cw_w377 : Cond.instanceMethod ⟨"ClockWires$Text", "<init>", "()V"⟩ ∈ cw_t := cw_in2 (List.mem_of_getElem? (i := 68) rfl) rfl
set_option maxRecDepth 20000 in
theorem cw_w379 : Cond.methodLink "ClockWires$Text" (3) ⟨"java/lang/Object", "<init>", "()V"⟩ ∈ cw_t := cw_in2 (List.mem_of_getElem? (i := 70) rfl) rfl
set_option maxRecDepth 20000 in
theorem cw_w380 : Cond.fieldLink "ClockWires$Text" (9) "ClockWires$Text" "bytes" "[I" ∈ cw_t := cw_in2 (List.mem_of_getElem? (i := 71) rfl) rfl
set_option maxRecDepth 20000 in
theorem cw_w381 : Cond.fieldLink "ClockWires$Text" (15) "ClockWires$Text" "first" "[I" ∈ cw_t := cw_in2 (List.mem_of_getElem? (i := 72) rfl) rfl
set_option maxRecDepth 20000 in
theorem cw_w382 : Cond.fieldLink "ClockWires$Text" (18) "ClockWires$Text" "second" "[I" ∈ cw_t := cw_in2 (List.mem_of_getElem? (i := 73) rfl) rfl
set_option maxRecDepth 20000 in
theorem cw_w383 : Cond.fieldLink "ClockWires$Text" (21) "ClockWires$Text" "jointLeft" "[I" ∈ cw_t := cw_in2 (List.mem_of_getElem? (i := 74) rfl) rfl
set_option maxRecDepth 20000 in
theorem cw_w384 : Cond.fieldLink "ClockWires" (248) "ClockWires$Text" "jointLeft" "[I" ∈ cw_t := cw_in2 (List.mem_of_getElem? (i := 75) rfl) rfl
set_option maxRecDepth 20000 in
theorem cw_w385 : Cond.fieldLink "ClockWires$Text" (24) "ClockWires$Text" "jointRight" "[I" ∈ cw_t := cw_in2 (List.mem_of_getElem? (i := 76) rfl) rfl
set_option maxRecDepth 20000 in
theorem cw_w386 : Cond.fieldLink "ClockWires" (251) "ClockWires$Text" "jointRight" "[I" ∈ cw_t := cw_in2 (List.mem_of_getElem? (i := 77) rfl) rfl
set_option maxRecDepth 20000 in
theorem cw_w387 : Cond.fieldLink "ClockWires$Text" (27) "ClockWires$Text" "length" "I" ∈ cw_t := cw_in2 (List.mem_of_getElem? (i := 78) rfl) rfl
set_option maxRecDepth 20000 in
theorem cw_w388 : Cond.fieldLink "ClockWires" (237) "ClockWires$Text" "length" "I" ∈ cw_t := cw_in2 (List.mem_of_getElem? (i := 79) rfl) rfl
set_option maxRecDepth 20000 in
theorem cw_w389 : Cond.fieldLink "ClockWires$Text" (31) "ClockWires$Text" "jointCount" "I" ∈ cw_t := cw_in2 (List.mem_of_getElem? (i := 80) rfl) rfl
set_option maxRecDepth 20000 in
theorem cw_w390 : Cond.fieldLink "ClockWires" (246) "ClockWires$Text" "jointCount" "I" ∈ cw_t := cw_in2 (List.mem_of_getElem? (i := 81) rfl) rfl
set_option maxRecDepth 20000 in
theorem cw_w391 : Cond.fieldLink "ClockWires$Text" (37) "ClockWires$Text" "depth" "I" ∈ cw_t := cw_in2 (List.mem_of_getElem? (i := 82) rfl) rfl
set_option maxRecDepth 20000 in
theorem cw_w392 : Cond.fieldLink "ClockWires$Text" (34) "ClockWires$Text" "usedSinks" "I" ∈ cw_t := cw_in2 (List.mem_of_getElem? (i := 83) rfl) rfl
set_option maxRecDepth 20000 in
theorem cw_w412 : Cond.methodLink "ClockWires" (51) ⟨"ClockWires", "refresh", "()V"⟩ ∈ cw_t := cw_in2 (List.mem_of_getElem? (i := 103) rfl) rfl
set_option maxRecDepth 20000 in
theorem cw_w414 : Cond.instanceMethod ⟨"ClockWires", "refresh", "()V"⟩ ∈ cw_t := cw_in2 (List.mem_of_getElem? (i := 105) rfl) rfl
set_option maxRecDepth 20000 in
theorem cw_w416 : Cond.methodLink "ClockWires" (137) ⟨"ClockWires$Wires", "measure", "(LClockWires$Tree;)V"⟩ ∈ cw_t := cw_in2 (List.mem_of_getElem? (i := 107) rfl) rfl
set_option maxRecDepth 20000 in
theorem cw_w417 : Cond.instanceMethod ⟨"ClockWires$Wires", "measure", "(LClockWires$Tree;)V"⟩ ∈ cw_t := cw_in2 (List.mem_of_getElem? (i := 108) rfl) rfl
set_option maxRecDepth 20000 in
theorem cw_w418 : Cond.selects "ClockWires$Wires" ⟨"ClockWires$Wires", "measure", "(LClockWires$Tree;)V"⟩ ⟨"ClockWires$Wires", "measure", "(LClockWires$Tree;)V"⟩ ∈ cw_t := cw_in2 (List.mem_of_getElem? (i := 109) rfl) rfl
set_option maxRecDepth 20000 in
theorem cw_w420 : Cond.methodLink "ClockWires$Wires" (33) ⟨"ClockWires$Wires", "listDownward", "(LClockWires$Tree;)V"⟩ ∈ cw_t := cw_in2 (List.mem_of_getElem? (i := 111) rfl) rfl
set_option maxRecDepth 20000 in
theorem cw_w422 : Cond.instanceMethod ⟨"ClockWires$Wires", "listDownward", "(LClockWires$Tree;)V"⟩ ∈ cw_t := cw_in2 (List.mem_of_getElem? (i := 113) rfl) rfl
set_option maxRecDepth 20000 in
theorem cw_w424 : Cond.methodLink "ClockWires$Wires" (92) ⟨"ClockWires$Tree", "isTop", "(I)Z"⟩ ∈ cw_t := cw_in2 (List.mem_of_getElem? (i := 115) rfl) rfl
set_option maxRecDepth 20000 in
theorem cw_w425 : Cond.instanceMethod ⟨"ClockWires$Tree", "isTop", "(I)Z"⟩ ∈ cw_t := cw_in2 (List.mem_of_getElem? (i := 116) rfl) rfl
set_option maxRecDepth 20000 in
theorem cw_w426 : Cond.selects "ClockWires$Tree" ⟨"ClockWires$Tree", "isTop", "(I)Z"⟩ ⟨"ClockWires$Tree", "isTop", "(I)Z"⟩ ∈ cw_t := cw_in2 (List.mem_of_getElem? (i := 117) rfl) rfl
set_option maxRecDepth 20000 in
theorem cw_w428 : Cond.methodLink "ClockWires$Tree" (58) ⟨"ClockWires$Tree", "hasNode", "(I)Z"⟩ ∈ cw_t := cw_in2 (List.mem_of_getElem? (i := 119) rfl) rfl
set_option maxRecDepth 20000 in
theorem cw_w429 : Cond.instanceMethod ⟨"ClockWires$Tree", "hasNode", "(I)Z"⟩ ∈ cw_t := cw_in2 (List.mem_of_getElem? (i := 120) rfl) rfl
set_option maxRecDepth 20000 in
theorem cw_w430 : Cond.selects "ClockWires$Tree" ⟨"ClockWires$Tree", "hasNode", "(I)Z"⟩ ⟨"ClockWires$Tree", "hasNode", "(I)Z"⟩ ∈ cw_t := cw_in2 (List.mem_of_getElem? (i := 121) rfl) rfl
set_option maxRecDepth 20000 in
theorem cw_w432 : Cond.methodLink "ClockWires$Wires" (95) ⟨"ClockWires$Wires", "list", "(I)V"⟩ ∈ cw_t := cw_in2 (List.mem_of_getElem? (i := 123) rfl) rfl
set_option maxRecDepth 20000 in
theorem cw_w434 : Cond.instanceMethod ⟨"ClockWires$Wires", "list", "(I)V"⟩ ∈ cw_t := cw_in2 (List.mem_of_getElem? (i := 125) rfl) rfl
set_option maxRecDepth 20000 in
theorem cw_w436 : Cond.methodLink "ClockWires$Wires" (53) ⟨"ClockWires$Tree", "isJoint", "(I)Z"⟩ ∈ cw_t := cw_in2 (List.mem_of_getElem? (i := 127) rfl) rfl
set_option maxRecDepth 20000 in
theorem cw_w437 : Cond.instanceMethod ⟨"ClockWires$Tree", "isJoint", "(I)Z"⟩ ∈ cw_t := cw_in2 (List.mem_of_getElem? (i := 128) rfl) rfl
set_option maxRecDepth 20000 in
theorem cw_w438 : Cond.selects "ClockWires$Tree" ⟨"ClockWires$Tree", "isJoint", "(I)Z"⟩ ⟨"ClockWires$Tree", "isJoint", "(I)Z"⟩ ∈ cw_t := cw_in2 (List.mem_of_getElem? (i := 129) rfl) rfl
set_option maxRecDepth 20000 in
theorem cw_w440 : Cond.methodLink "ClockWires$Wires" (57) ⟨"ClockWires$Tree", "leftOf", "(I)I"⟩ ∈ cw_t := cw_in2 (List.mem_of_getElem? (i := 131) rfl) rfl
set_option maxRecDepth 20000 in
theorem cw_w441 : Cond.instanceMethod ⟨"ClockWires$Tree", "leftOf", "(I)I"⟩ ∈ cw_t := cw_in2 (List.mem_of_getElem? (i := 132) rfl) rfl
set_option maxRecDepth 20000 in
theorem cw_w442 : Cond.selects "ClockWires$Tree" ⟨"ClockWires$Tree", "leftOf", "(I)I"⟩ ⟨"ClockWires$Tree", "leftOf", "(I)I"⟩ ∈ cw_t := cw_in2 (List.mem_of_getElem? (i := 133) rfl) rfl
set_option maxRecDepth 20000 in
theorem cw_w444 : Cond.methodLink "ClockWires$Wires" (65) ⟨"ClockWires$Tree", "rightOf", "(I)I"⟩ ∈ cw_t := cw_in2 (List.mem_of_getElem? (i := 135) rfl) rfl
set_option maxRecDepth 20000 in
theorem cw_w445 : Cond.instanceMethod ⟨"ClockWires$Tree", "rightOf", "(I)I"⟩ ∈ cw_t := cw_in2 (List.mem_of_getElem? (i := 136) rfl) rfl
set_option maxRecDepth 20000 in
theorem cw_w446 : Cond.selects "ClockWires$Tree" ⟨"ClockWires$Tree", "rightOf", "(I)I"⟩ ⟨"ClockWires$Tree", "rightOf", "(I)I"⟩ ∈ cw_t := cw_in2 (List.mem_of_getElem? (i := 137) rfl) rfl
set_option maxRecDepth 20000 in
theorem cw_w448 : Cond.constant "ClockWires$Wires" (43) (65536 : Int32) ∈ cw_t := cw_in2 (List.mem_of_getElem? (i := 139) rfl) rfl
set_option maxRecDepth 20000 in
theorem cw_w449 : Cond.methodLink "ClockWires$Wires" (47) ⟨"java/lang/Math", "min", "(II)I"⟩ ∈ cw_t := cw_in2 (List.mem_of_getElem? (i := 140) rfl) rfl
set_option maxRecDepth 20000 in
theorem cw_w450 : Cond.static ⟨"java/lang/Math", "min", "(II)I"⟩ ∈ cw_t := cw_in2 (List.mem_of_getElem? (i := 141) rfl) rfl
set_option maxRecDepth 20000 in
theorem cw_w452 : Cond.methodLink "ClockWires$Wires" (61) ⟨"ClockWires$Wires", "part", "(I)LClockWires$Part;"⟩ ∈ cw_t := cw_in2 (List.mem_of_getElem? (i := 143) rfl) rfl
set_option maxRecDepth 20000 in
theorem cw_w453 : Cond.instanceMethod ⟨"ClockWires$Wires", "part", "(I)LClockWires$Part;"⟩ ∈ cw_t := cw_in2 (List.mem_of_getElem? (i := 144) rfl) rfl
set_option maxRecDepth 20000 in
theorem cw_w454 : Cond.selects "ClockWires$Wires" ⟨"ClockWires$Wires", "part", "(I)LClockWires$Part;"⟩ ⟨"ClockWires$Wires", "part", "(I)LClockWires$Part;"⟩ ∈ cw_t := cw_in2 (List.mem_of_getElem? (i := 145) rfl) rfl
set_option maxRecDepth 20000 in
theorem cw_w456 : Cond.methodLink "ClockWires$Wires" (68) ⟨"ClockWires$Merge", "weigh", "(LClockWires$Part;LClockWires$Part;I)V"⟩ ∈ cw_t := cw_in2 (List.mem_of_getElem? (i := 147) rfl) rfl
set_option maxRecDepth 20000 in
theorem cw_w457 : Cond.instanceMethod ⟨"ClockWires$Merge", "weigh", "(LClockWires$Part;LClockWires$Part;I)V"⟩ ∈ cw_t := cw_in2 (List.mem_of_getElem? (i := 148) rfl) rfl
set_option maxRecDepth 20000 in
theorem cw_w458 : Cond.selects "ClockWires$Merge" ⟨"ClockWires$Merge", "weigh", "(LClockWires$Part;LClockWires$Part;I)V"⟩ ⟨"ClockWires$Merge", "weigh", "(LClockWires$Part;LClockWires$Part;I)V"⟩ ∈ cw_t := cw_in2 (List.mem_of_getElem? (i := 149) rfl) rfl
set_option maxRecDepth 20000 in
theorem cw_w460 : Cond.methodLink "ClockWires$Merge" (7) ⟨"ClockWires$Merge", "gapBetween", "(LClockWires$Part;LClockWires$Part;)I"⟩ ∈ cw_t := cw_in2 (List.mem_of_getElem? (i := 151) rfl) rfl
set_option maxRecDepth 20000 in
theorem cw_w462 : Cond.instanceMethod ⟨"ClockWires$Merge", "gapBetween", "(LClockWires$Part;LClockWires$Part;)I"⟩ ∈ cw_t := cw_in2 (List.mem_of_getElem? (i := 153) rfl) rfl
set_option maxRecDepth 20000 in
theorem cw_w464 : Cond.methodLink "ClockWires$Merge" (27) ⟨"java/lang/Math", "max", "(II)I"⟩ ∈ cw_t := cw_in2 (List.mem_of_getElem? (i := 155) rfl) rfl
set_option maxRecDepth 20000 in
theorem cw_w465 : Cond.static ⟨"java/lang/Math", "max", "(II)I"⟩ ∈ cw_t := cw_in2 (List.mem_of_getElem? (i := 156) rfl) rfl
set_option maxRecDepth 20000 in
theorem cw_w467 : Cond.methodLink "ClockWires$Merge" (17) ⟨"ClockWires$Merge", "leadOf", "(LClockWires$Part;LClockWires$Part;I)I"⟩ ∈ cw_t := cw_in2 (List.mem_of_getElem? (i := 158) rfl) rfl
set_option maxRecDepth 20000 in
theorem cw_w469 : Cond.instanceMethod ⟨"ClockWires$Merge", "leadOf", "(LClockWires$Part;LClockWires$Part;I)I"⟩ ∈ cw_t := cw_in2 (List.mem_of_getElem? (i := 160) rfl) rfl
set_option maxRecDepth 20000 in
theorem cw_w471 : Cond.methodLink "ClockWires$Merge" (60) ⟨"java/lang/Math", "min", "(II)I"⟩ ∈ cw_t := cw_in2 (List.mem_of_getElem? (i := 162) rfl) rfl
set_option maxRecDepth 20000 in
theorem cw_w472 : Cond.methodLink "ClockWires$Merge" (21) ⟨"java/lang/Math", "abs", "(I)I"⟩ ∈ cw_t := cw_in2 (List.mem_of_getElem? (i := 163) rfl) rfl
set_option maxRecDepth 20000 in
theorem cw_w473 : Cond.static ⟨"java/lang/Math", "abs", "(I)I"⟩ ∈ cw_t := cw_in2 (List.mem_of_getElem? (i := 164) rfl) rfl
set_option maxRecDepth 20000 in
theorem cw_w475 : Cond.methodLink "ClockWires$Wires" (72) ⟨"ClockWires$Merge", "join", "(LClockWires$Part;LClockWires$Part;LClockWires$Part;)V"⟩ ∈ cw_t := cw_in2 (List.mem_of_getElem? (i := 166) rfl) rfl
set_option maxRecDepth 20000 in
theorem cw_w476 : Cond.instanceMethod ⟨"ClockWires$Merge", "join", "(LClockWires$Part;LClockWires$Part;LClockWires$Part;)V"⟩ ∈ cw_t := cw_in2 (List.mem_of_getElem? (i := 167) rfl) rfl
set_option maxRecDepth 20000 in
theorem cw_w477 : Cond.selects "ClockWires$Merge" ⟨"ClockWires$Merge", "join", "(LClockWires$Part;LClockWires$Part;LClockWires$Part;)V"⟩ ⟨"ClockWires$Merge", "join", "(LClockWires$Part;LClockWires$Part;LClockWires$Part;)V"⟩ ∈ cw_t := cw_in2 (List.mem_of_getElem? (i := 168) rfl) rfl
set_option maxRecDepth 20000 in
theorem cw_w479 : Cond.methodLink "ClockWires$Wires" (76) ⟨"ClockWires$Part", "setSink", "(LClockWires$Tree;I)V"⟩ ∈ cw_t := cw_in2 (List.mem_of_getElem? (i := 170) rfl) rfl
set_option maxRecDepth 20000 in
theorem cw_w480 : Cond.instanceMethod ⟨"ClockWires$Part", "setSink", "(LClockWires$Tree;I)V"⟩ ∈ cw_t := cw_in2 (List.mem_of_getElem? (i := 171) rfl) rfl
set_option maxRecDepth 20000 in
theorem cw_w481 : Cond.selects "ClockWires$Part" ⟨"ClockWires$Part", "setSink", "(LClockWires$Tree;I)V"⟩ ⟨"ClockWires$Part", "setSink", "(LClockWires$Tree;I)V"⟩ ∈ cw_t := cw_in2 (List.mem_of_getElem? (i := 172) rfl) rfl
set_option maxRecDepth 20000 in
theorem cw_w483 : Cond.methodLink "ClockWires$Part" (9) ⟨"ClockWires$Tree", "hasSink", "(I)Z"⟩ ∈ cw_t := cw_in2 (List.mem_of_getElem? (i := 174) rfl) rfl
set_option maxRecDepth 20000 in
theorem cw_w484 : Cond.instanceMethod ⟨"ClockWires$Tree", "hasSink", "(I)Z"⟩ ∈ cw_t := cw_in2 (List.mem_of_getElem? (i := 175) rfl) rfl
set_option maxRecDepth 20000 in
theorem cw_w485 : Cond.selects "ClockWires$Tree" ⟨"ClockWires$Tree", "hasSink", "(I)Z"⟩ ⟨"ClockWires$Tree", "hasSink", "(I)Z"⟩ ∈ cw_t := cw_in2 (List.mem_of_getElem? (i := 176) rfl) rfl
set_option maxRecDepth 20000 in
theorem cw_w487 : Cond.constant "ClockWires$Part" (22) (65536 : Int32) ∈ cw_t := cw_in2 (List.mem_of_getElem? (i := 178) rfl) rfl
set_option maxRecDepth 20000 in
theorem cw_w488 : Cond.methodLink "ClockWires" (279) ⟨"ClockWires$Places", "embed", "(LClockWires$Tree;LClockWires$Wires;)V"⟩ ∈ cw_t := cw_in2 (List.mem_of_getElem? (i := 179) rfl) rfl
set_option maxRecDepth 20000 in
theorem cw_w489 : Cond.instanceMethod ⟨"ClockWires$Places", "embed", "(LClockWires$Tree;LClockWires$Wires;)V"⟩ ∈ cw_t := cw_in2 (List.mem_of_getElem? (i := 180) rfl) rfl
set_option maxRecDepth 20000 in
theorem cw_w490 : Cond.selects "ClockWires$Places" ⟨"ClockWires$Places", "embed", "(LClockWires$Tree;LClockWires$Wires;)V"⟩ ⟨"ClockWires$Places", "embed", "(LClockWires$Tree;LClockWires$Wires;)V"⟩ ∈ cw_t := cw_in2 (List.mem_of_getElem? (i := 181) rfl) rfl
set_option maxRecDepth 20000 in
theorem cw_w492 : Cond.methodLink "ClockWires$Places" (47) ⟨"ClockWires$Places", "setTop", "(LClockWires$Tree;LClockWires$Wires;I)V"⟩ ∈ cw_t := cw_in2 (List.mem_of_getElem? (i := 183) rfl) rfl
set_option maxRecDepth 20000 in
theorem cw_w494 : Cond.instanceMethod ⟨"ClockWires$Places", "setTop", "(LClockWires$Tree;LClockWires$Wires;I)V"⟩ ∈ cw_t := cw_in2 (List.mem_of_getElem? (i := 185) rfl) rfl
set_option maxRecDepth 20000 in
theorem cw_w496 : Cond.methodLink "ClockWires$Places" (72) ⟨"ClockWires$Tree", "hasNode", "(I)Z"⟩ ∈ cw_t := cw_in2 (List.mem_of_getElem? (i := 187) rfl) rfl
set_option maxRecDepth 20000 in
theorem cw_w497 : Cond.methodLink "ClockWires$Places" (54) ⟨"ClockWires$Wires", "part", "(I)LClockWires$Part;"⟩ ∈ cw_t := cw_in2 (List.mem_of_getElem? (i := 188) rfl) rfl
set_option maxRecDepth 20000 in
theorem cw_w498 : Cond.constant "ClockWires$Places" (82) (65536 : Int32) ∈ cw_t := cw_in2 (List.mem_of_getElem? (i := 189) rfl) rfl
set_option maxRecDepth 20000 in
theorem cw_w499 : Cond.methodLink "ClockWires$Places" (91) ⟨"ClockWires$Places", "movedInto", "(III)I"⟩ ∈ cw_t := cw_in2 (List.mem_of_getElem? (i := 190) rfl) rfl
set_option maxRecDepth 20000 in
theorem cw_w500 : Cond.static ⟨"ClockWires$Places", "movedInto", "(III)I"⟩ ∈ cw_t := cw_in2 (List.mem_of_getElem? (i := 191) rfl) rfl
set_option maxRecDepth 20000 in
theorem cw_w502 : Cond.methodLink "ClockWires$Places" (122) ⟨"java/lang/Math", "min", "(II)I"⟩ ∈ cw_t := cw_in2 (List.mem_of_getElem? (i := 193) rfl) rfl
set_option maxRecDepth 20000 in
theorem cw_w503 : Cond.methodLink "ClockWires$Places" (128) ⟨"java/lang/Math", "max", "(II)I"⟩ ∈ cw_t := cw_in2 (List.mem_of_getElem? (i := 194) rfl) rfl
set_option maxRecDepth 20000 in
theorem cw_w505 : Cond.static ⟨"ClockWires", "distance", "(IIII)I"⟩ ∈ cw_t := cw_in2 (List.mem_of_getElem? (i := 196) rfl) rfl
set_option maxRecDepth 20000 in
theorem cw_w507 : Cond.methodLink "ClockWires" (346) ⟨"java/lang/Math", "abs", "(I)I"⟩ ∈ cw_t := cw_in2 (List.mem_of_getElem? (i := 198) rfl) rfl
set_option maxRecDepth 20000 in
theorem cw_w508 : Cond.methodLink "ClockWires" (351) ⟨"java/lang/Math", "max", "(II)I"⟩ ∈ cw_t := cw_in2 (List.mem_of_getElem? (i := 199) rfl) rfl
set_option maxRecDepth 20000 in
theorem cw_w509 : Cond.methodLink "ClockWires$Places" (108) ⟨"ClockWires$Places", "delayOf", "(ILClockWires$Part;)J"⟩ ∈ cw_t := cw_in2 (List.mem_of_getElem? (i := 200) rfl) rfl
set_option maxRecDepth 20000 in
theorem cw_w510 : Cond.static ⟨"ClockWires$Places", "delayOf", "(ILClockWires$Part;)J"⟩ ∈ cw_t := cw_in2 (List.mem_of_getElem? (i := 201) rfl) rfl
set_option maxRecDepth 20000 in
theorem cw_w512 : Cond.constantLong "ClockWires$Places" (140) (2 : Int64) ∈ cw_t := cw_in2 (List.mem_of_getElem? (i := 203) rfl) rfl
set_option maxRecDepth 20000 in
theorem cw_w513 : Cond.methodLink "ClockWires$Places" (142) ⟨"ClockWires$Part", "capacity", "()J"⟩ ∈ cw_t := cw_in2 (List.mem_of_getElem? (i := 204) rfl) rfl
set_option maxRecDepth 20000 in
theorem cw_w514 : Cond.instanceMethod ⟨"ClockWires$Part", "capacity", "()J"⟩ ∈ cw_t := cw_in2 (List.mem_of_getElem? (i := 205) rfl) rfl
set_option maxRecDepth 20000 in
theorem cw_w515 : Cond.selects "ClockWires$Part" ⟨"ClockWires$Part", "capacity", "()J"⟩ ⟨"ClockWires$Part", "capacity", "()J"⟩ ∈ cw_t := cw_in2 (List.mem_of_getElem? (i := 206) rfl) rfl
set_option maxRecDepth 20000 in
theorem cw_w517 : Cond.constantLong "ClockWires$Part" (59) (65536 : Int64) ∈ cw_t := cw_in2 (List.mem_of_getElem? (i := 208) rfl) rfl
set_option maxRecDepth 20000 in
theorem cw_w518 : Cond.methodLink "ClockWires$Places" (58) ⟨"ClockWires$Tree", "parentOf", "(I)I"⟩ ∈ cw_t := cw_in2 (List.mem_of_getElem? (i := 209) rfl) rfl
set_option maxRecDepth 20000 in
theorem cw_w519 : Cond.instanceMethod ⟨"ClockWires$Tree", "parentOf", "(I)I"⟩ ∈ cw_t := cw_in2 (List.mem_of_getElem? (i := 210) rfl) rfl
set_option maxRecDepth 20000 in
theorem cw_w520 : Cond.selects "ClockWires$Tree" ⟨"ClockWires$Tree", "parentOf", "(I)I"⟩ ⟨"ClockWires$Tree", "parentOf", "(I)I"⟩ ∈ cw_t := cw_in2 (List.mem_of_getElem? (i := 211) rfl) rfl
set_option maxRecDepth 20000 in
theorem cw_w522 : Cond.methodLink "ClockWires$Places" (64) ⟨"ClockWires$Places", "setChild", "(LClockWires$Part;II)V"⟩ ∈ cw_t := cw_in2 (List.mem_of_getElem? (i := 213) rfl) rfl
set_option maxRecDepth 20000 in
theorem cw_w524 : Cond.instanceMethod ⟨"ClockWires$Places", "setChild", "(LClockWires$Part;II)V"⟩ ∈ cw_t := cw_in2 (List.mem_of_getElem? (i := 215) rfl) rfl
set_option maxRecDepth 20000 in
theorem cw_w526 : Cond.methodLink "ClockWires$Places" (68) ⟨"ClockWires$Places", "setSpread", "(LClockWires$Tree;)V"⟩ ∈ cw_t := cw_in2 (List.mem_of_getElem? (i := 217) rfl) rfl
set_option maxRecDepth 20000 in
theorem cw_w528 : Cond.instanceMethod ⟨"ClockWires$Places", "setSpread", "(LClockWires$Tree;)V"⟩ ∈ cw_t := cw_in2 (List.mem_of_getElem? (i := 219) rfl) rfl
set_option maxRecDepth 20000 in
theorem cw_w530 : Cond.methodLink "ClockWires$Places" (115) ⟨"ClockWires$Places", "arrivalOf", "(LClockWires$Tree;I)I"⟩ ∈ cw_t := cw_in2 (List.mem_of_getElem? (i := 221) rfl) rfl
set_option maxRecDepth 20000 in
theorem cw_w531 : Cond.instanceMethod ⟨"ClockWires$Places", "arrivalOf", "(LClockWires$Tree;I)I"⟩ ∈ cw_t := cw_in2 (List.mem_of_getElem? (i := 222) rfl) rfl
set_option maxRecDepth 20000 in
theorem cw_w532 : Cond.selects "ClockWires$Places" ⟨"ClockWires$Places", "arrivalOf", "(LClockWires$Tree;I)I"⟩ ⟨"ClockWires$Places", "arrivalOf", "(LClockWires$Tree;I)I"⟩ ∈ cw_t := cw_in2 (List.mem_of_getElem? (i := 223) rfl) rfl
set_option maxRecDepth 20000 in
theorem cw_w534 : Cond.methodLink "ClockWires$Places" (134) ⟨"ClockWires$Tree", "hasSink", "(I)Z"⟩ ∈ cw_t := cw_in2 (List.mem_of_getElem? (i := 225) rfl) rfl
set_option maxRecDepth 20000 in
theorem cw_w535 : Cond.fieldLink "ClockWires" (10) "ClockWires" "tree" "LClockWires$Tree;" ∈ cw_t := cw_in2 (List.mem_of_getElem? (i := 226) rfl) rfl
set_option maxRecDepth 20000 in
theorem cw_w536 : Cond.fieldLink "ClockWires" (19) "ClockWires" "wires" "LClockWires$Wires;" ∈ cw_t := cw_in2 (List.mem_of_getElem? (i := 227) rfl) rfl
set_option maxRecDepth 20000 in
theorem cw_w537 : Cond.fieldLink "ClockWires" (26) "ClockWires" "places" "LClockWires$Places;" ∈ cw_t := cw_in2 (List.mem_of_getElem? (i := 228) rfl) rfl
set_option maxRecDepth 20000 in
theorem cw_w538 : Cond.fieldLink "ClockWires" (33) "ClockWires" "search" "LClockWires$Search;" ∈ cw_t := cw_in2 (List.mem_of_getElem? (i := 229) rfl) rfl
set_option maxRecDepth 20000 in
theorem cw_w539 : Cond.fieldLink "ClockWires" (40) "ClockWires" "history" "LClockWires$History;" ∈ cw_t := cw_in2 (List.mem_of_getElem? (i := 230) rfl) rfl
set_option maxRecDepth 20000 in
theorem cw_w540 : Cond.fieldLink "ClockWires" (47) "ClockWires" "text" "LClockWires$Text;" ∈ cw_t := cw_in2 (List.mem_of_getElem? (i := 231) rfl) rfl
set_option maxRecDepth 20000 in
theorem cw_w541 : Cond.fieldLink "ClockWires" (270) "ClockWires" "badCount" "I" ∈ cw_t := cw_in2 (List.mem_of_getElem? (i := 232) rfl) rfl
set_option maxRecDepth 20000 in
theorem cw_w542 : Cond.fieldLink "ClockWires" (273) "ClockWires" "noCount" "I" ∈ cw_t := cw_in2 (List.mem_of_getElem? (i := 233) rfl) rfl
set_option maxRecDepth 20000 in
theorem cw_w543 : Cond.fieldLink "ClockWires" (276) "ClockWires" "fullCount" "I" ∈ cw_t := cw_in2 (List.mem_of_getElem? (i := 234) rfl) rfl
set_option maxRecDepth 20000 in
theorem cw_w567 : Cond.methodLink "ClockWires" (54) ⟨"ClockWires", "isOnGrid", "(II)Z"⟩ ∈ cw_t := cw_in3 (List.mem_of_getElem? (i := 18) rfl) rfl
set_option maxRecDepth 20000 in
theorem cw_w568 : Cond.static ⟨"ClockWires", "isOnGrid", "(II)Z"⟩ ∈ cw_t := cw_in3 (List.mem_of_getElem? (i := 19) rfl) rfl
set_option maxRecDepth 20000 in
theorem cw_w570 : Cond.methodLink "ClockWires" (58) ⟨"ClockWires", "refuse", "(I)I"⟩ ∈ cw_t := cw_in3 (List.mem_of_getElem? (i := 21) rfl) rfl
set_option maxRecDepth 20000 in
theorem cw_w572 : Cond.instanceMethod ⟨"ClockWires", "refuse", "(I)I"⟩ ∈ cw_t := cw_in3 (List.mem_of_getElem? (i := 23) rfl) rfl
set_option maxRecDepth 20000 in
theorem cw_w574 : Cond.methodLink "ClockWires" (62) ⟨"ClockWires$Tree", "sinkAt", "(II)I"⟩ ∈ cw_t := cw_in3 (List.mem_of_getElem? (i := 25) rfl) rfl
set_option maxRecDepth 20000 in
theorem cw_w575 : Cond.instanceMethod ⟨"ClockWires$Tree", "sinkAt", "(II)I"⟩ ∈ cw_t := cw_in3 (List.mem_of_getElem? (i := 26) rfl) rfl
set_option maxRecDepth 20000 in
theorem cw_w576 : Cond.selects "ClockWires$Tree" ⟨"ClockWires$Tree", "sinkAt", "(II)I"⟩ ⟨"ClockWires$Tree", "sinkAt", "(II)I"⟩ ∈ cw_t := cw_in3 (List.mem_of_getElem? (i := 27) rfl) rfl
set_option maxRecDepth 20000 in
theorem cw_w578 : Cond.methodLink "ClockWires" (70) ⟨"ClockWires$History", "save", "(LClockWires$Tree;)V"⟩ ∈ cw_t := cw_in3 (List.mem_of_getElem? (i := 29) rfl) rfl
set_option maxRecDepth 20000 in
theorem cw_w579 : Cond.instanceMethod ⟨"ClockWires$History", "save", "(LClockWires$Tree;)V"⟩ ∈ cw_t := cw_in3 (List.mem_of_getElem? (i := 30) rfl) rfl
set_option maxRecDepth 20000 in
theorem cw_w580 : Cond.selects "ClockWires$History" ⟨"ClockWires$History", "save", "(LClockWires$Tree;)V"⟩ ⟨"ClockWires$History", "save", "(LClockWires$Tree;)V"⟩ ∈ cw_t := cw_in3 (List.mem_of_getElem? (i := 31) rfl) rfl
set_option maxRecDepth 20000 in
theorem cw_w582 : Cond.methodLink "ClockWires$History" (22) ⟨"ClockWires$Tree", "copyFrom", "(LClockWires$Tree;)V"⟩ ∈ cw_t := cw_in3 (List.mem_of_getElem? (i := 33) rfl) rfl
set_option maxRecDepth 20000 in
theorem cw_w583 : Cond.instanceMethod ⟨"ClockWires$Tree", "copyFrom", "(LClockWires$Tree;)V"⟩ ∈ cw_t := cw_in3 (List.mem_of_getElem? (i := 34) rfl) rfl
set_option maxRecDepth 20000 in
theorem cw_w584 : Cond.selects "ClockWires$Tree" ⟨"ClockWires$Tree", "copyFrom", "(LClockWires$Tree;)V"⟩ ⟨"ClockWires$Tree", "copyFrom", "(LClockWires$Tree;)V"⟩ ∈ cw_t := cw_in3 (List.mem_of_getElem? (i := 35) rfl) rfl
set_option maxRecDepth 20000 in
theorem cw_w586 : Cond.methodLink "ClockWires$Tree" (39) ⟨"java/lang/System", "arraycopy", "(Ljava/lang/Object;ILjava/lang/Object;II)V"⟩ ∈ cw_t := cw_in3 (List.mem_of_getElem? (i := 37) rfl) rfl
set_option maxRecDepth 20000 in
theorem cw_w587 : Cond.static ⟨"java/lang/System", "arraycopy", "(Ljava/lang/Object;ILjava/lang/Object;II)V"⟩ ∈ cw_t := cw_in3 (List.mem_of_getElem? (i := 38) rfl) rfl
set_option maxRecDepth 20000 in
theorem cw_w588 : Cond.native ⟨"java/lang/System", "arraycopy", "(Ljava/lang/Object;ILjava/lang/Object;II)V"⟩ ∈ cw_t := cw_in3 (List.mem_of_getElem? (i := 39) rfl) rfl
set_option maxRecDepth 20000 in
theorem cw_w589 : Cond.methodLink "ClockWires$History" (29) ⟨"java/lang/Math", "min", "(II)I"⟩ ∈ cw_t := cw_in3 (List.mem_of_getElem? (i := 40) rfl) rfl
set_option maxRecDepth 20000 in
theorem cw_w590 : Cond.methodLink "ClockWires" (74) ⟨"ClockWires$Tree", "addSink", "(II)I"⟩ ∈ cw_t := cw_in3 (List.mem_of_getElem? (i := 41) rfl) rfl
set_option maxRecDepth 20000 in
theorem cw_w591 : Cond.instanceMethod ⟨"ClockWires$Tree", "addSink", "(II)I"⟩ ∈ cw_t := cw_in3 (List.mem_of_getElem? (i := 42) rfl) rfl
set_option maxRecDepth 20000 in
theorem cw_w592 : Cond.selects "ClockWires$Tree" ⟨"ClockWires$Tree", "addSink", "(II)I"⟩ ⟨"ClockWires$Tree", "addSink", "(II)I"⟩ ∈ cw_t := cw_in3 (List.mem_of_getElem? (i := 43) rfl) rfl
set_option maxRecDepth 20000 in
theorem cw_w594 : Cond.methodLink "ClockWires$Tree" (68) ⟨"ClockWires$Tree", "touch", "(I)V"⟩ ∈ cw_t := cw_in3 (List.mem_of_getElem? (i := 45) rfl) rfl
set_option maxRecDepth 20000 in
theorem cw_w595 : Cond.instanceMethod ⟨"ClockWires$Tree", "touch", "(I)V"⟩ ∈ cw_t := cw_in3 (List.mem_of_getElem? (i := 46) rfl) rfl
set_option maxRecDepth 20000 in
theorem cw_w596 : Cond.selects "ClockWires$Tree" ⟨"ClockWires$Tree", "touch", "(I)V"⟩ ⟨"ClockWires$Tree", "touch", "(I)V"⟩ ∈ cw_t := cw_in3 (List.mem_of_getElem? (i := 47) rfl) rfl
set_option maxRecDepth 20000 in
theorem cw_w602 : Cond.methodLink "ClockWires" (77) ⟨"ClockWires$Tree", "hasSink", "(I)Z"⟩ ∈ cw_t := cw_in3 (List.mem_of_getElem? (i := 53) rfl) rfl
set_option maxRecDepth 20000 in
theorem cw_w603 : Cond.methodLink "ClockWires" (88) ⟨"ClockWires", "gridDistance", "(IIII)I"⟩ ∈ cw_t := cw_in3 (List.mem_of_getElem? (i := 54) rfl) rfl
set_option maxRecDepth 20000 in
theorem cw_w604 : Cond.static ⟨"ClockWires", "gridDistance", "(IIII)I"⟩ ∈ cw_t := cw_in3 (List.mem_of_getElem? (i := 55) rfl) rfl
set_option maxRecDepth 20000 in
theorem cw_w606 : Cond.constant "ClockWires" (183) (65536 : Int32) ∈ cw_t := cw_in3 (List.mem_of_getElem? (i := 57) rfl) rfl
set_option maxRecDepth 20000 in
theorem cw_w607 : Cond.methodLink "ClockWires" (343) ⟨"ClockWires", "distance", "(IIII)I"⟩ ∈ cw_t := cw_in3 (List.mem_of_getElem? (i := 58) rfl) rfl
set_option maxRecDepth 20000 in
theorem cw_w608 : Cond.methodLink "ClockWires" (92) ⟨"ClockWires$Tree", "moveSink", "(III)V"⟩ ∈ cw_t := cw_in3 (List.mem_of_getElem? (i := 59) rfl) rfl
set_option maxRecDepth 20000 in
theorem cw_w609 : Cond.instanceMethod ⟨"ClockWires$Tree", "moveSink", "(III)V"⟩ ∈ cw_t := cw_in3 (List.mem_of_getElem? (i := 60) rfl) rfl
set_option maxRecDepth 20000 in
theorem cw_w610 : Cond.selects "ClockWires$Tree" ⟨"ClockWires$Tree", "moveSink", "(III)V"⟩ ⟨"ClockWires$Tree", "moveSink", "(III)V"⟩ ∈ cw_t := cw_in3 (List.mem_of_getElem? (i := 61) rfl) rfl
set_option maxRecDepth 20000 in
theorem cw_w612 : Cond.methodLink "ClockWires$Tree" (65) ⟨"ClockWires$Tree", "hasSink", "(I)Z"⟩ ∈ cw_t := cw_in3 (List.mem_of_getElem? (i := 63) rfl) rfl
set_option maxRecDepth 20000 in
theorem cw_w617 : Cond.methodLink "ClockWires" (96) ⟨"ClockWires", "isSetting", "(II)Z"⟩ ∈ cw_t := cw_in3 (List.mem_of_getElem? (i := 68) rfl) rfl
set_option maxRecDepth 20000 in
theorem cw_w618 : Cond.static ⟨"ClockWires", "isSetting", "(II)Z"⟩ ∈ cw_t := cw_in3 (List.mem_of_getElem? (i := 69) rfl) rfl
set_option maxRecDepth 20000 in
theorem cw_w620 : Cond.methodLink "ClockWires" (105) ⟨"ClockWires$Tree", "touch", "(I)V"⟩ ∈ cw_t := cw_in3 (List.mem_of_getElem? (i := 71) rfl) rfl
set_option maxRecDepth 20000 in
theorem cw_w633 : Cond.methodLink "ClockWires" (118) ⟨"ClockWires$Tree", "sinkValue", "(II)I"⟩ ∈ cw_t := cw_in3 (List.mem_of_getElem? (i := 84) rfl) rfl
set_option maxRecDepth 20000 in
theorem cw_w634 : Cond.instanceMethod ⟨"ClockWires$Tree", "sinkValue", "(II)I"⟩ ∈ cw_t := cw_in3 (List.mem_of_getElem? (i := 85) rfl) rfl
set_option maxRecDepth 20000 in
theorem cw_w635 : Cond.selects "ClockWires$Tree" ⟨"ClockWires$Tree", "sinkValue", "(II)I"⟩ ⟨"ClockWires$Tree", "sinkValue", "(II)I"⟩ ∈ cw_t := cw_in3 (List.mem_of_getElem? (i := 86) rfl) rfl
set_option maxRecDepth 20000 in
theorem cw_w641 : Cond.methodLink "ClockWires" (121) ⟨"ClockWires$Tree", "touchedBefore", "(I)I"⟩ ∈ cw_t := cw_in3 (List.mem_of_getElem? (i := 92) rfl) rfl
set_option maxRecDepth 20000 in
theorem cw_w642 : Cond.instanceMethod ⟨"ClockWires$Tree", "touchedBefore", "(I)I"⟩ ∈ cw_t := cw_in3 (List.mem_of_getElem? (i := 93) rfl) rfl
set_option maxRecDepth 20000 in
theorem cw_w643 : Cond.selects "ClockWires$Tree" ⟨"ClockWires$Tree", "touchedBefore", "(I)I"⟩ ⟨"ClockWires$Tree", "touchedBefore", "(I)I"⟩ ∈ cw_t := cw_in3 (List.mem_of_getElem? (i := 94) rfl) rfl
set_option maxRecDepth 20000 in
theorem cw_w653 : Cond.methodLink "ClockWires" (124) ⟨"ClockWires$Tree", "hasNode", "(I)Z"⟩ ∈ cw_t := cw_in3 (List.mem_of_getElem? (i := 104) rfl) rfl
set_option maxRecDepth 20000 in
theorem cw_w654 : Cond.methodLink "ClockWires" (127) ⟨"ClockWires$Tree", "isTop", "(I)Z"⟩ ∈ cw_t := cw_in3 (List.mem_of_getElem? (i := 105) rfl) rfl
set_option maxRecDepth 20000 in
theorem cw_w655 : Cond.methodLink "ClockWires" (130) ⟨"ClockWires$Tree", "addJoint", "(II)I"⟩ ∈ cw_t := cw_in3 (List.mem_of_getElem? (i := 106) rfl) rfl
set_option maxRecDepth 20000 in
theorem cw_w656 : Cond.instanceMethod ⟨"ClockWires$Tree", "addJoint", "(II)I"⟩ ∈ cw_t := cw_in3 (List.mem_of_getElem? (i := 107) rfl) rfl
set_option maxRecDepth 20000 in
theorem cw_w657 : Cond.selects "ClockWires$Tree" ⟨"ClockWires$Tree", "addJoint", "(II)I"⟩ ⟨"ClockWires$Tree", "addJoint", "(II)I"⟩ ∈ cw_t := cw_in3 (List.mem_of_getElem? (i := 108) rfl) rfl
set_option maxRecDepth 20000 in
theorem cw_w659 : Cond.methodLink "ClockWires$Tree" (72) ⟨"ClockWires$Tree", "freeJoint", "()I"⟩ ∈ cw_t := cw_in3 (List.mem_of_getElem? (i := 110) rfl) rfl
set_option maxRecDepth 20000 in
theorem cw_w660 : Cond.instanceMethod ⟨"ClockWires$Tree", "freeJoint", "()I"⟩ ∈ cw_t := cw_in3 (List.mem_of_getElem? (i := 111) rfl) rfl
set_option maxRecDepth 20000 in
theorem cw_w661 : Cond.selects "ClockWires$Tree" ⟨"ClockWires$Tree", "freeJoint", "()I"⟩ ⟨"ClockWires$Tree", "freeJoint", "()I"⟩ ∈ cw_t := cw_in3 (List.mem_of_getElem? (i := 112) rfl) rfl
set_option maxRecDepth 20000 in
theorem cw_w663 : Cond.methodLink "ClockWires$Tree" (62) ⟨"ClockWires$Tree", "isJoint", "(I)Z"⟩ ∈ cw_t := cw_in3 (List.mem_of_getElem? (i := 114) rfl) rfl
set_option maxRecDepth 20000 in
theorem cw_w668 : Cond.methodLink "ClockWires" (133) ⟨"ClockWires$Wires", "nearestPair", "(LClockWires$Tree;)I"⟩ ∈ cw_t := cw_in3 (List.mem_of_getElem? (i := 119) rfl) rfl
set_option maxRecDepth 20000 in
theorem cw_w669 : Cond.instanceMethod ⟨"ClockWires$Wires", "nearestPair", "(LClockWires$Tree;)I"⟩ ∈ cw_t := cw_in3 (List.mem_of_getElem? (i := 120) rfl) rfl
set_option maxRecDepth 20000 in
theorem cw_w670 : Cond.selects "ClockWires$Wires" ⟨"ClockWires$Wires", "nearestPair", "(LClockWires$Tree;)I"⟩ ⟨"ClockWires$Wires", "nearestPair", "(LClockWires$Tree;)I"⟩ ∈ cw_t := cw_in3 (List.mem_of_getElem? (i := 121) rfl) rfl
set_option maxRecDepth 20000 in
theorem cw_w676 : Cond.methodLink "ClockWires" (140) ⟨"ClockWires$Tree", "jointCount", "()I"⟩ ∈ cw_t := cw_in3 (List.mem_of_getElem? (i := 127) rfl) rfl
set_option maxRecDepth 20000 in
theorem cw_w677 : Cond.instanceMethod ⟨"ClockWires$Tree", "jointCount", "()I"⟩ ∈ cw_t := cw_in3 (List.mem_of_getElem? (i := 128) rfl) rfl
set_option maxRecDepth 20000 in
theorem cw_w678 : Cond.selects "ClockWires$Tree" ⟨"ClockWires$Tree", "jointCount", "()I"⟩ ⟨"ClockWires$Tree", "jointCount", "()I"⟩ ∈ cw_t := cw_in3 (List.mem_of_getElem? (i := 129) rfl) rfl
set_option maxRecDepth 20000 in
theorem cw_w680 : Cond.methodLink "ClockWires" (144) ⟨"ClockWires$Tree", "removeJoints", "()V"⟩ ∈ cw_t := cw_in3 (List.mem_of_getElem? (i := 131) rfl) rfl
set_option maxRecDepth 20000 in
theorem cw_w685 : Cond.methodLink "ClockWires" (147) ⟨"ClockWires$Tree", "cut", "(I)I"⟩ ∈ cw_t := cw_in3 (List.mem_of_getElem? (i := 136) rfl) rfl
set_option maxRecDepth 20000 in
theorem cw_w686 : Cond.instanceMethod ⟨"ClockWires$Tree", "cut", "(I)I"⟩ ∈ cw_t := cw_in3 (List.mem_of_getElem? (i := 137) rfl) rfl
set_option maxRecDepth 20000 in
theorem cw_w687 : Cond.selects "ClockWires$Tree" ⟨"ClockWires$Tree", "cut", "(I)I"⟩ ⟨"ClockWires$Tree", "cut", "(I)I"⟩ ∈ cw_t := cw_in3 (List.mem_of_getElem? (i := 138) rfl) rfl
set_option maxRecDepth 20000 in
theorem cw_w689 : Cond.methodLink "ClockWires$Tree" (76) ⟨"ClockWires$Tree", "parentOf", "(I)I"⟩ ∈ cw_t := cw_in3 (List.mem_of_getElem? (i := 140) rfl) rfl
set_option maxRecDepth 20000 in
theorem cw_w690 : Cond.methodLink "ClockWires$Tree" (91) ⟨"ClockWires$Tree", "replaceChild", "(III)V"⟩ ∈ cw_t := cw_in3 (List.mem_of_getElem? (i := 141) rfl) rfl
set_option maxRecDepth 20000 in
theorem cw_w691 : Cond.instanceMethod ⟨"ClockWires$Tree", "replaceChild", "(III)V"⟩ ∈ cw_t := cw_in3 (List.mem_of_getElem? (i := 142) rfl) rfl
set_option maxRecDepth 20000 in
theorem cw_w692 : Cond.selects "ClockWires$Tree" ⟨"ClockWires$Tree", "replaceChild", "(III)V"⟩ ⟨"ClockWires$Tree", "replaceChild", "(III)V"⟩ ∈ cw_t := cw_in3 (List.mem_of_getElem? (i := 143) rfl) rfl
set_option maxRecDepth 20000 in
theorem cw_w698 : Cond.methodLink "ClockWires" (150) ⟨"ClockWires$Search", "bestGraft", "(LClockWires$Tree;I)I"⟩ ∈ cw_t := cw_in3 (List.mem_of_getElem? (i := 149) rfl) rfl
set_option maxRecDepth 20000 in
theorem cw_w699 : Cond.instanceMethod ⟨"ClockWires$Search", "bestGraft", "(LClockWires$Tree;I)I"⟩ ∈ cw_t := cw_in3 (List.mem_of_getElem? (i := 150) rfl) rfl
set_option maxRecDepth 20000 in
theorem cw_w700 : Cond.selects "ClockWires$Search" ⟨"ClockWires$Search", "bestGraft", "(LClockWires$Tree;I)I"⟩ ⟨"ClockWires$Search", "bestGraft", "(LClockWires$Tree;I)I"⟩ ∈ cw_t := cw_in3 (List.mem_of_getElem? (i := 151) rfl) rfl
set_option maxRecDepth 20000 in
theorem cw_w702 : Cond.methodLink "ClockWires$Search" (25) ⟨"ClockWires$Tree", "copyFrom", "(LClockWires$Tree;)V"⟩ ∈ cw_t := cw_in3 (List.mem_of_getElem? (i := 153) rfl) rfl
set_option maxRecDepth 20000 in
theorem cw_w703 : Cond.methodLink "ClockWires$Search" (29) ⟨"ClockWires$Tree", "canGraft", "(II)Z"⟩ ∈ cw_t := cw_in3 (List.mem_of_getElem? (i := 154) rfl) rfl
set_option maxRecDepth 20000 in
theorem cw_w704 : Cond.instanceMethod ⟨"ClockWires$Tree", "canGraft", "(II)Z"⟩ ∈ cw_t := cw_in3 (List.mem_of_getElem? (i := 155) rfl) rfl
set_option maxRecDepth 20000 in
theorem cw_w705 : Cond.selects "ClockWires$Tree" ⟨"ClockWires$Tree", "canGraft", "(II)Z"⟩ ⟨"ClockWires$Tree", "canGraft", "(II)Z"⟩ ∈ cw_t := cw_in3 (List.mem_of_getElem? (i := 156) rfl) rfl
set_option maxRecDepth 20000 in
theorem cw_w707 : Cond.methodLink "ClockWires$Tree" (80) ⟨"ClockWires$Tree", "isTop", "(I)Z"⟩ ∈ cw_t := cw_in3 (List.mem_of_getElem? (i := 158) rfl) rfl
set_option maxRecDepth 20000 in
theorem cw_w708 : Cond.methodLink "ClockWires$Tree" (83) ⟨"ClockWires$Tree", "isWithin", "(II)Z"⟩ ∈ cw_t := cw_in3 (List.mem_of_getElem? (i := 159) rfl) rfl
set_option maxRecDepth 20000 in
theorem cw_w709 : Cond.instanceMethod ⟨"ClockWires$Tree", "isWithin", "(II)Z"⟩ ∈ cw_t := cw_in3 (List.mem_of_getElem? (i := 160) rfl) rfl
set_option maxRecDepth 20000 in
theorem cw_w710 : Cond.selects "ClockWires$Tree" ⟨"ClockWires$Tree", "isWithin", "(II)Z"⟩ ⟨"ClockWires$Tree", "isWithin", "(II)Z"⟩ ∈ cw_t := cw_in3 (List.mem_of_getElem? (i := 161) rfl) rfl
set_option maxRecDepth 20000 in
theorem cw_w712 : Cond.methodLink "ClockWires$Search" (33) ⟨"ClockWires$Tree", "graft", "(II)I"⟩ ∈ cw_t := cw_in3 (List.mem_of_getElem? (i := 163) rfl) rfl
set_option maxRecDepth 20000 in
theorem cw_w713 : Cond.instanceMethod ⟨"ClockWires$Tree", "graft", "(II)I"⟩ ∈ cw_t := cw_in3 (List.mem_of_getElem? (i := 164) rfl) rfl
set_option maxRecDepth 20000 in
theorem cw_w714 : Cond.selects "ClockWires$Tree" ⟨"ClockWires$Tree", "graft", "(II)I"⟩ ⟨"ClockWires$Tree", "graft", "(II)I"⟩ ∈ cw_t := cw_in3 (List.mem_of_getElem? (i := 165) rfl) rfl
set_option maxRecDepth 20000 in
theorem cw_w716 : Cond.methodLink "ClockWires$Tree" (87) ⟨"ClockWires$Tree", "addJoint", "(II)I"⟩ ∈ cw_t := cw_in3 (List.mem_of_getElem? (i := 167) rfl) rfl
set_option maxRecDepth 20000 in
theorem cw_w717 : Cond.methodLink "ClockWires$Search" (37) ⟨"ClockWires$Wires", "measure", "(LClockWires$Tree;)V"⟩ ∈ cw_t := cw_in3 (List.mem_of_getElem? (i := 168) rfl) rfl
set_option maxRecDepth 20000 in
theorem cw_w718 : Cond.methodLink "ClockWires$Search" (40) ⟨"ClockWires$Tree", "cut", "(I)I"⟩ ∈ cw_t := cw_in3 (List.mem_of_getElem? (i := 169) rfl) rfl
set_option maxRecDepth 20000 in
theorem cw_w719 : Cond.methodLink "ClockWires" (154) ⟨"ClockWires$Tree", "canGraft", "(II)Z"⟩ ∈ cw_t := cw_in3 (List.mem_of_getElem? (i := 170) rfl) rfl
set_option maxRecDepth 20000 in
theorem cw_w720 : Cond.methodLink "ClockWires" (157) ⟨"ClockWires$Tree", "graft", "(II)I"⟩ ∈ cw_t := cw_in3 (List.mem_of_getElem? (i := 171) rfl) rfl
set_option maxRecDepth 20000 in
theorem cw_w725 : Cond.methodLink "ClockWires" (160) ⟨"ClockWires$Tree", "canExchange", "(II)Z"⟩ ∈ cw_t := cw_in3 (List.mem_of_getElem? (i := 176) rfl) rfl
set_option maxRecDepth 20000 in
theorem cw_w726 : Cond.instanceMethod ⟨"ClockWires$Tree", "canExchange", "(II)Z"⟩ ∈ cw_t := cw_in3 (List.mem_of_getElem? (i := 177) rfl) rfl
set_option maxRecDepth 20000 in
theorem cw_w727 : Cond.selects "ClockWires$Tree" ⟨"ClockWires$Tree", "canExchange", "(II)Z"⟩ ⟨"ClockWires$Tree", "canExchange", "(II)Z"⟩ ∈ cw_t := cw_in3 (List.mem_of_getElem? (i := 178) rfl) rfl
set_option maxRecDepth 20000 in
theorem cw_w729 : Cond.methodLink "ClockWires" (163) ⟨"ClockWires", "exchangeAndCompare", "(II)I"⟩ ∈ cw_t := cw_in3 (List.mem_of_getElem? (i := 180) rfl) rfl
set_option maxRecDepth 20000 in
theorem cw_w731 : Cond.instanceMethod ⟨"ClockWires", "exchangeAndCompare", "(II)I"⟩ ∈ cw_t := cw_in3 (List.mem_of_getElem? (i := 182) rfl) rfl
set_option maxRecDepth 20000 in
theorem cw_w733 : Cond.methodLink "ClockWires" (286) ⟨"ClockWires$Tree", "exchange", "(II)V"⟩ ∈ cw_t := cw_in3 (List.mem_of_getElem? (i := 184) rfl) rfl
set_option maxRecDepth 20000 in
theorem cw_w734 : Cond.instanceMethod ⟨"ClockWires$Tree", "exchange", "(II)V"⟩ ∈ cw_t := cw_in3 (List.mem_of_getElem? (i := 185) rfl) rfl
set_option maxRecDepth 20000 in
theorem cw_w735 : Cond.selects "ClockWires$Tree" ⟨"ClockWires$Tree", "exchange", "(II)V"⟩ ⟨"ClockWires$Tree", "exchange", "(II)V"⟩ ∈ cw_t := cw_in3 (List.mem_of_getElem? (i := 186) rfl) rfl
set_option maxRecDepth 20000 in
theorem cw_w741 : Cond.methodLink "ClockWires" (169) ⟨"ClockWires$Search", "bestExchange", "(LClockWires$Tree;I)I"⟩ ∈ cw_t := cw_in3 (List.mem_of_getElem? (i := 192) rfl) rfl
set_option maxRecDepth 20000 in
theorem cw_w742 : Cond.instanceMethod ⟨"ClockWires$Search", "bestExchange", "(LClockWires$Tree;I)I"⟩ ∈ cw_t := cw_in3 (List.mem_of_getElem? (i := 193) rfl) rfl
set_option maxRecDepth 20000 in
theorem cw_w743 : Cond.selects "ClockWires$Search" ⟨"ClockWires$Search", "bestExchange", "(LClockWires$Tree;I)I"⟩ ⟨"ClockWires$Search", "bestExchange", "(LClockWires$Tree;I)I"⟩ ∈ cw_t := cw_in3 (List.mem_of_getElem? (i := 194) rfl) rfl
set_option maxRecDepth 20000 in
theorem cw_w745 : Cond.methodLink "ClockWires$Search" (48) ⟨"ClockWires$Tree", "canExchange", "(II)Z"⟩ ∈ cw_t := cw_in3 (List.mem_of_getElem? (i := 196) rfl) rfl
set_option maxRecDepth 20000 in
theorem cw_w746 : Cond.methodLink "ClockWires$Search" (51) ⟨"ClockWires$Tree", "exchange", "(II)V"⟩ ∈ cw_t := cw_in3 (List.mem_of_getElem? (i := 197) rfl) rfl
set_option maxRecDepth 20000 in
theorem cw_w751 : Cond.methodLink "ClockWires" (172) ⟨"ClockWires", "nodeValue", "(II)I"⟩ ∈ cw_t := cw_in3 (List.mem_of_getElem? (i := 202) rfl) rfl
set_option maxRecDepth 20000 in
theorem cw_w753 : Cond.instanceMethod ⟨"ClockWires", "nodeValue", "(II)I"⟩ ∈ cw_t := cw_in3 (List.mem_of_getElem? (i := 204) rfl) rfl
set_option maxRecDepth 20000 in
theorem cw_w755 : Cond.methodLink "ClockWires" (179) ⟨"ClockWires$Wires", "part", "(I)LClockWires$Part;"⟩ ∈ cw_t := cw_in3 (List.mem_of_getElem? (i := 206) rfl) rfl
set_option maxRecDepth 20000 in
theorem cw_w756 : Cond.methodLink "ClockWires" (290) ⟨"ClockWires$Tree", "leftOf", "(I)I"⟩ ∈ cw_t := cw_in3 (List.mem_of_getElem? (i := 207) rfl) rfl
set_option maxRecDepth 20000 in
theorem cw_w757 : Cond.methodLink "ClockWires" (293) ⟨"ClockWires$Tree", "rightOf", "(I)I"⟩ ∈ cw_t := cw_in3 (List.mem_of_getElem? (i := 208) rfl) rfl
set_option maxRecDepth 20000 in
theorem cw_w758 : Cond.methodLink "ClockWires" (296) ⟨"ClockWires$Tree", "parentOf", "(I)I"⟩ ∈ cw_t := cw_in3 (List.mem_of_getElem? (i := 209) rfl) rfl
set_option maxRecDepth 20000 in
theorem cw_w763 : Cond.methodLink "ClockWires" (184) ⟨"ClockWires$Merge", "weigh", "(LClockWires$Part;LClockWires$Part;I)V"⟩ ∈ cw_t := cw_in3 (List.mem_of_getElem? (i := 214) rfl) rfl
set_option maxRecDepth 20000 in
theorem cw_w776 : Cond.methodLink "ClockWires" (205) ⟨"ClockWires$Search", "findLeast", "(LClockWires$Tree;)V"⟩ ∈ cw_t := cw_in3 (List.mem_of_getElem? (i := 227) rfl) rfl
set_option maxRecDepth 20000 in
theorem cw_w777 : Cond.instanceMethod ⟨"ClockWires$Search", "findLeast", "(LClockWires$Tree;)V"⟩ ∈ cw_t := cw_in3 (List.mem_of_getElem? (i := 228) rfl) rfl
set_option maxRecDepth 20000 in
theorem cw_w778 : Cond.selects "ClockWires$Search" ⟨"ClockWires$Search", "findLeast", "(LClockWires$Tree;)V"⟩ ⟨"ClockWires$Search", "findLeast", "(LClockWires$Tree;)V"⟩ ∈ cw_t := cw_in3 (List.mem_of_getElem? (i := 229) rfl) rfl
set_option maxRecDepth 20000 in
theorem cw_w780 : Cond.methodLink "ClockWires$Search" (59) ⟨"ClockWires$Tree", "removeJoints", "()V"⟩ ∈ cw_t := cw_in3 (List.mem_of_getElem? (i := 231) rfl) rfl
set_option maxRecDepth 20000 in
theorem cw_w781 : Cond.methodLink "ClockWires$Search" (65) ⟨"ClockWires$Search", "growTrees", "(I)V"⟩ ∈ cw_t := cw_in3 (List.mem_of_getElem? (i := 232) rfl) rfl
set_option maxRecDepth 20000 in
theorem cw_w783 : Cond.instanceMethod ⟨"ClockWires$Search", "growTrees", "(I)V"⟩ ∈ cw_t := cw_in3 (List.mem_of_getElem? (i := 234) rfl) rfl
set_option maxRecDepth 20000 in
theorem cw_w785 : Cond.methodLink "ClockWires$Search" (72) ⟨"ClockWires$Search", "countTree", "(I)V"⟩ ∈ cw_t := cw_in3 (List.mem_of_getElem? (i := 236) rfl) rfl
set_option maxRecDepth 20000 in
theorem cw_w787 : Cond.instanceMethod ⟨"ClockWires$Search", "countTree", "(I)V"⟩ ∈ cw_t := cw_in3 (List.mem_of_getElem? (i := 238) rfl) rfl
set_option maxRecDepth 20000 in
theorem cw_w789 : Cond.methodLink "ClockWires$Search" (75) ⟨"ClockWires$Tree", "isJoint", "(I)Z"⟩ ∈ cw_t := cw_in4 (List.mem_of_getElem? (i := 0) rfl) rfl
set_option maxRecDepth 20000 in
theorem cw_w798 : Cond.methodLink "ClockWires" (227) ⟨"ClockWires$Places", "arrivalOf", "(LClockWires$Tree;I)I"⟩ ∈ cw_t := cw_in4 (List.mem_of_getElem? (i := 9) rfl) rfl
set_option maxRecDepth 20000 in
theorem cw_w807 : Cond.methodLink "ClockWires" (234) ⟨"ClockWires", "totalValue", "(I)I"⟩ ∈ cw_t := cw_in4 (List.mem_of_getElem? (i := 18) rfl) rfl
set_option maxRecDepth 20000 in
theorem cw_w809 : Cond.instanceMethod ⟨"ClockWires", "totalValue", "(I)I"⟩ ∈ cw_t := cw_in4 (List.mem_of_getElem? (i := 20) rfl) rfl
set_option maxRecDepth 20000 in
theorem cw_w815 : Cond.methodLink "ClockWires" (240) ⟨"ClockWires$Text", "append", "(I)V"⟩ ∈ cw_t := cw_in4 (List.mem_of_getElem? (i := 26) rfl) rfl
set_option maxRecDepth 20000 in
theorem cw_w816 : Cond.instanceMethod ⟨"ClockWires$Text", "append", "(I)V"⟩ ∈ cw_t := cw_in4 (List.mem_of_getElem? (i := 27) rfl) rfl
set_option maxRecDepth 20000 in
theorem cw_w817 : Cond.selects "ClockWires$Text" ⟨"ClockWires$Text", "append", "(I)V"⟩ ⟨"ClockWires$Text", "append", "(I)V"⟩ ∈ cw_t := cw_in4 (List.mem_of_getElem? (i := 28) rfl) rfl
set_option maxRecDepth 20000 in
theorem cw_w827 : Cond.methodLink "ClockWires" (243) ⟨"ClockWires$Text", "parse", "(I)I"⟩ ∈ cw_t := cw_in4 (List.mem_of_getElem? (i := 38) rfl) rfl
set_option maxRecDepth 20000 in
theorem cw_w828 : Cond.instanceMethod ⟨"ClockWires$Text", "parse", "(I)I"⟩ ∈ cw_t := cw_in4 (List.mem_of_getElem? (i := 39) rfl) rfl
set_option maxRecDepth 20000 in
theorem cw_w829 : Cond.selects "ClockWires$Text" ⟨"ClockWires$Text", "parse", "(I)I"⟩ ⟨"ClockWires$Text", "parse", "(I)I"⟩ ∈ cw_t := cw_in4 (List.mem_of_getElem? (i := 40) rfl) rfl
set_option maxRecDepth 20000 in
theorem cw_w831 : Cond.methodLink "ClockWires$Text" (40) ⟨"ClockWires$Text", "accepts", "(II)Z"⟩ ∈ cw_t := cw_in4 (List.mem_of_getElem? (i := 42) rfl) rfl
set_option maxRecDepth 20000 in
theorem cw_w833 : Cond.instanceMethod ⟨"ClockWires$Text", "accepts", "(II)Z"⟩ ∈ cw_t := cw_in4 (List.mem_of_getElem? (i := 44) rfl) rfl
set_option maxRecDepth 20000 in
theorem cw_w835 : Cond.methodLink "ClockWires$Text" (44) ⟨"ClockWires$Text", "opens", "()Z"⟩ ∈ cw_t := cw_in4 (List.mem_of_getElem? (i := 46) rfl) rfl
set_option maxRecDepth 20000 in
theorem cw_w837 : Cond.instanceMethod ⟨"ClockWires$Text", "opens", "()Z"⟩ ∈ cw_t := cw_in4 (List.mem_of_getElem? (i := 48) rfl) rfl
set_option maxRecDepth 20000 in
theorem cw_w839 : Cond.methodLink "ClockWires$Text" (54) ⟨"ClockWires$Text", "wantsPart", "()Z"⟩ ∈ cw_t := cw_in4 (List.mem_of_getElem? (i := 50) rfl) rfl
set_option maxRecDepth 20000 in
theorem cw_w841 : Cond.instanceMethod ⟨"ClockWires$Text", "wantsPart", "()Z"⟩ ∈ cw_t := cw_in4 (List.mem_of_getElem? (i := 52) rfl) rfl
set_option maxRecDepth 20000 in
theorem cw_w843 : Cond.methodLink "ClockWires$Text" (48) ⟨"ClockWires$Text", "closes", "()Z"⟩ ∈ cw_t := cw_in4 (List.mem_of_getElem? (i := 54) rfl) rfl
set_option maxRecDepth 20000 in
theorem cw_w845 : Cond.instanceMethod ⟨"ClockWires$Text", "closes", "()Z"⟩ ∈ cw_t := cw_in4 (List.mem_of_getElem? (i := 56) rfl) rfl
set_option maxRecDepth 20000 in
theorem cw_w847 : Cond.methodLink "ClockWires$Text" (57) ⟨"ClockWires$Text", "addPart", "(I)V"⟩ ∈ cw_t := cw_in4 (List.mem_of_getElem? (i := 58) rfl) rfl
set_option maxRecDepth 20000 in
theorem cw_w849 : Cond.instanceMethod ⟨"ClockWires$Text", "addPart", "(I)V"⟩ ∈ cw_t := cw_in4 (List.mem_of_getElem? (i := 60) rfl) rfl
set_option maxRecDepth 20000 in
theorem cw_w851 : Cond.methodLink "ClockWires$Text" (51) ⟨"ClockWires$Text", "takesSink", "(II)Z"⟩ ∈ cw_t := cw_in4 (List.mem_of_getElem? (i := 62) rfl) rfl
set_option maxRecDepth 20000 in
theorem cw_w853 : Cond.instanceMethod ⟨"ClockWires$Text", "takesSink", "(II)Z"⟩ ∈ cw_t := cw_in4 (List.mem_of_getElem? (i := 64) rfl) rfl
set_option maxRecDepth 20000 in
theorem cw_w859 : Cond.methodLink "ClockWires" (254) ⟨"ClockWires", "shownByte", "(II)I"⟩ ∈ cw_t := cw_in4 (List.mem_of_getElem? (i := 70) rfl) rfl
set_option maxRecDepth 20000 in
theorem cw_w861 : Cond.instanceMethod ⟨"ClockWires", "shownByte", "(II)I"⟩ ∈ cw_t := cw_in4 (List.mem_of_getElem? (i := 72) rfl) rfl
set_option maxRecDepth 20000 in
theorem cw_w863 : Cond.methodLink "ClockWires" (340) ⟨"ClockWires", "shownLength", "(I)I"⟩ ∈ cw_t := cw_in4 (List.mem_of_getElem? (i := 74) rfl) rfl
set_option maxRecDepth 20000 in
theorem cw_w865 : Cond.instanceMethod ⟨"ClockWires", "shownLength", "(I)I"⟩ ∈ cw_t := cw_in4 (List.mem_of_getElem? (i := 76) rfl) rfl
set_option maxRecDepth 20000 in
theorem cw_w871 : Cond.methodLink "ClockWires" (260) ⟨"ClockWires$History", "restore", "(LClockWires$Tree;)V"⟩ ∈ cw_t := cw_in4 (List.mem_of_getElem? (i := 82) rfl) rfl
set_option maxRecDepth 20000 in
theorem cw_w872 : Cond.instanceMethod ⟨"ClockWires$History", "restore", "(LClockWires$Tree;)V"⟩ ∈ cw_t := cw_in4 (List.mem_of_getElem? (i := 83) rfl) rfl
set_option maxRecDepth 20000 in
theorem cw_w873 : Cond.selects "ClockWires$History" ⟨"ClockWires$History", "restore", "(LClockWires$Tree;)V"⟩ ⟨"ClockWires$History", "restore", "(LClockWires$Tree;)V"⟩ ∈ cw_t := cw_in4 (List.mem_of_getElem? (i := 84) rfl) rfl
set_option maxRecDepth 20000 in
theorem cw_w879 : Cond.methodLink "ClockWires" (263) ⟨"ClockWires", "toldValue", "(I)I"⟩ ∈ cw_t := cw_in4 (List.mem_of_getElem? (i := 90) rfl) rfl
set_option maxRecDepth 20000 in
theorem cw_w881 : Cond.instanceMethod ⟨"ClockWires", "toldValue", "(I)I"⟩ ∈ cw_t := cw_in4 (List.mem_of_getElem? (i := 92) rfl) rfl
set_option maxRecDepth 20000 in
theorem cw_w887 : Cond.constantLong "ClockWires" (266) (1680 : Int64) ∈ cw_t := cw_in4 (List.mem_of_getElem? (i := 98) rfl) rfl
set_option maxRecDepth 20000 in
theorem cw_w888 : Cond.constantLong "ClockWires" (268) (31 : Int64) ∈ cw_t := cw_in4 (List.mem_of_getElem? (i := 99) rfl) rfl
set_option maxRecDepth 20000 in
theorem cw_w894 : Cond.methodLink "ClockWiresModel" (1) ⟨"java/lang/Object", "<init>", "()V"⟩ ∈ cw_t := cw_in4 (List.mem_of_getElem? (i := 105) rfl) rfl
set_option maxRecDepth 20000 in
theorem cw_w895 : Cond.fieldLink "ClockWiresModel" (7) "ClockWiresModel" "refused" "[I" ∈ cw_t := cw_in4 (List.mem_of_getElem? (i := 106) rfl) rfl
set_option maxRecDepth 20000 in
theorem cw_w896 : Cond.fieldLink "ClockWiresModel" (94) "ClockWiresModel" "sinks" "I" ∈ cw_t := cw_in4 (List.mem_of_getElem? (i := 107) rfl) rfl
set_option maxRecDepth 20000 in
theorem cw_w897 : Cond.fieldLink "ClockWiresModel" (13) "ClockWiresModel" "ends" "[I" ∈ cw_t := cw_in4 (List.mem_of_getElem? (i := 108) rfl) rfl
set_option maxRecDepth 20000 in
theorem cw_w898 : Cond.fieldLink "ClockWiresModel" (125) "ClockWiresModel" "skew" "I" ∈ cw_t := cw_in4 (List.mem_of_getElem? (i := 109) rfl) rfl
set_option maxRecDepth 20000 in
theorem cw_w899 : Cond.fieldLink "ClockWiresModel" (128) "ClockWiresModel" "sourceX" "I" ∈ cw_t := cw_in4 (List.mem_of_getElem? (i := 110) rfl) rfl
set_option maxRecDepth 20000 in
theorem cw_w900 : Cond.fieldLink "ClockWiresModel" (131) "ClockWiresModel" "sourceY" "I" ∈ cw_t := cw_in4 (List.mem_of_getElem? (i := 111) rfl) rfl
set_option maxRecDepth 20000 in
theorem cw_w901 : Cond.fieldLink "ClockWiresModel" (134) "ClockWiresModel" "latest" "I" ∈ cw_t := cw_in4 (List.mem_of_getElem? (i := 112) rfl) rfl
set_option maxRecDepth 20000 in
theorem cw_w902 : Cond.fieldLink "ClockWiresModel" (16) "ClockWiresModel" "late" "[I" ∈ cw_t := cw_in4 (List.mem_of_getElem? (i := 113) rfl) rfl
set_option maxRecDepth 20000 in
theorem cw_w903 : Cond.fieldLink "ClockWiresModel" (19) "ClockWiresModel" "isThere" "[I" ∈ cw_t := cw_in4 (List.mem_of_getElem? (i := 114) rfl) rfl
set_option maxRecDepth 20000 in
theorem cw_w904 : Cond.fieldLink "ClockWiresModel" (22) "ClockWiresModel" "left" "[I" ∈ cw_t := cw_in4 (List.mem_of_getElem? (i := 115) rfl) rfl
set_option maxRecDepth 20000 in
theorem cw_w905 : Cond.fieldLink "ClockWiresModel" (25) "ClockWiresModel" "right" "[I" ∈ cw_t := cw_in4 (List.mem_of_getElem? (i := 116) rfl) rfl
set_option maxRecDepth 20000 in
theorem cw_w906 : Cond.fieldLink "ClockWiresModel" (28) "ClockWiresModel" "joint" "[I" ∈ cw_t := cw_in4 (List.mem_of_getElem? (i := 117) rfl) rfl
set_option maxRecDepth 20000 in
theorem cw_w907 : Cond.fieldLink "ClockWiresModel" (31) "ClockWiresModel" "aside" "[I" ∈ cw_t := cw_in4 (List.mem_of_getElem? (i := 118) rfl) rfl
set_option maxRecDepth 20000 in
theorem cw_w908 : Cond.fieldLink "ClockWiresModel" (122) "ClockWiresModel" "states" "I" ∈ cw_t := cw_in4 (List.mem_of_getElem? (i := 119) rfl) rfl
set_option maxRecDepth 20000 in
theorem cw_w909 : Cond.fieldLink "ClockWiresModel" (34) "ClockWiresModel" "kept" "[I" ∈ cw_t := cw_in4 (List.mem_of_getElem? (i := 120) rfl) rfl
set_option maxRecDepth 20000 in
theorem cw_w910 : Cond.fieldLink "ClockWiresModel" (37) "ClockWiresModel" "u1" "[I" ∈ cw_t := cw_in4 (List.mem_of_getElem? (i := 121) rfl) rfl
set_option maxRecDepth 20000 in
theorem cw_w911 : Cond.fieldLink "ClockWiresModel" (40) "ClockWiresModel" "u2" "[I" ∈ cw_t := cw_in4 (List.mem_of_getElem? (i := 122) rfl) rfl
set_option maxRecDepth 20000 in
theorem cw_w912 : Cond.fieldLink "ClockWiresModel" (43) "ClockWiresModel" "v1" "[I" ∈ cw_t := cw_in4 (List.mem_of_getElem? (i := 123) rfl) rfl
set_option maxRecDepth 20000 in
theorem cw_w913 : Cond.fieldLink "ClockWiresModel" (46) "ClockWiresModel" "v2" "[I" ∈ cw_t := cw_in4 (List.mem_of_getElem? (i := 124) rfl) rfl
set_option maxRecDepth 20000 in
theorem cw_w914 : Cond.fieldLink "ClockWiresModel" (49) "ClockWiresModel" "early" "[I" ∈ cw_t := cw_in4 (List.mem_of_getElem? (i := 125) rfl) rfl
set_option maxRecDepth 20000 in
theorem cw_w915 : Cond.fieldLink "ClockWiresModel" (52) "ClockWiresModel" "last" "[I" ∈ cw_t := cw_in4 (List.mem_of_getElem? (i := 126) rfl) rfl
set_option maxRecDepth 20000 in
theorem cw_w916 : Cond.fieldLink "ClockWiresModel" (55) "ClockWiresModel" "wire" "[I" ∈ cw_t := cw_in4 (List.mem_of_getElem? (i := 127) rfl) rfl
set_option maxRecDepth 20000 in
theorem cw_w917 : Cond.fieldLink "ClockWiresModel" (58) "ClockWiresModel" "cost" "[I" ∈ cw_t := cw_in4 (List.mem_of_getElem? (i := 128) rfl) rfl
set_option maxRecDepth 20000 in
theorem cw_w918 : Cond.fieldLink "ClockWiresModel" (61) "ClockWiresModel" "many" "[I" ∈ cw_t := cw_in4 (List.mem_of_getElem? (i := 129) rfl) rfl
set_option maxRecDepth 20000 in
theorem cw_w919 : Cond.fieldLink "ClockWiresModel" (64) "ClockWiresModel" "isDone" "[I" ∈ cw_t := cw_in4 (List.mem_of_getElem? (i := 130) rfl) rfl
set_option maxRecDepth 20000 in
theorem cw_w920 : Cond.fieldLink "ClockWiresModel" (144) "ClockWiresModel" "far" "I" ∈ cw_t := cw_in4 (List.mem_of_getElem? (i := 131) rfl) rfl
set_option maxRecDepth 20000 in
theorem cw_w921 : Cond.fieldLink "ClockWiresModel" (155) "ClockWiresModel" "reach" "I" ∈ cw_t := cw_in4 (List.mem_of_getElem? (i := 132) rfl) rfl
set_option maxRecDepth 20000 in
theorem cw_w922 : Cond.fieldLink "ClockWiresModel" (158) "ClockWiresModel" "first" "I" ∈ cw_t := cw_in4 (List.mem_of_getElem? (i := 133) rfl) rfl
set_option maxRecDepth 20000 in
theorem cw_w923 : Cond.fieldLink "ClockWiresModel" (161) "ClockWiresModel" "second" "I" ∈ cw_t := cw_in4 (List.mem_of_getElem? (i := 134) rfl) rfl
set_option maxRecDepth 20000 in
theorem cw_w924 : Cond.fieldLink "ClockWiresModel" (67) "ClockWiresModel" "placeU" "[I" ∈ cw_t := cw_in4 (List.mem_of_getElem? (i := 135) rfl) rfl
set_option maxRecDepth 20000 in
theorem cw_w925 : Cond.fieldLink "ClockWiresModel" (70) "ClockWiresModel" "placeV" "[I" ∈ cw_t := cw_in4 (List.mem_of_getElem? (i := 136) rfl) rfl
set_option maxRecDepth 20000 in
theorem cw_w926 : Cond.fieldLink "ClockWiresModel" (73) "ClockWiresModel" "isPlaced" "[I" ∈ cw_t := cw_in4 (List.mem_of_getElem? (i := 137) rfl) rfl
set_option maxRecDepth 20000 in
theorem cw_w927 : Cond.fieldLink "ClockWiresModel" (183) "ClockWiresModel" "top" "I" ∈ cw_t := cw_in4 (List.mem_of_getElem? (i := 138) rfl) rfl
set_option maxRecDepth 20000 in
theorem cw_w928 : Cond.fieldLink "ClockWiresModel" (224) "ClockWiresModel" "pair" "I" ∈ cw_t := cw_in4 (List.mem_of_getElem? (i := 139) rfl) rfl
set_option maxRecDepth 20000 in
theorem cw_w929 : Cond.fieldLink "ClockWiresModel" (76) "ClockWiresModel" "row" "[I" ∈ cw_t := cw_in4 (List.mem_of_getElem? (i := 140) rfl) rfl
set_option maxRecDepth 20000 in
theorem cw_w930 : Cond.fieldLink "ClockWiresModel" (79) "ClockWiresModel" "text" "[I" ∈ cw_t := cw_in4 (List.mem_of_getElem? (i := 141) rfl) rfl
set_option maxRecDepth 20000 in
theorem cw_w931 : Cond.fieldLink "ClockWiresModel" (288) "ClockWiresModel" "length" "I" ∈ cw_t := cw_in4 (List.mem_of_getElem? (i := 142) rfl) rfl
set_option maxRecDepth 20000 in
theorem cw_w932 : Cond.fieldLink "ClockWiresModel" (291) "ClockWiresModel" "readAt" "I" ∈ cw_t := cw_in4 (List.mem_of_getElem? (i := 143) rfl) rfl
set_option maxRecDepth 20000 in
theorem cw_w933 : Cond.fieldLink "ClockWiresModel" (82) "ClockWiresModel" "open" "[I" ∈ cw_t := cw_in4 (List.mem_of_getElem? (i := 144) rfl) rfl
set_option maxRecDepth 20000 in
theorem cw_w934 : Cond.fieldLink "ClockWiresModel" (294) "ClockWiresModel" "deep" "I" ∈ cw_t := cw_in4 (List.mem_of_getElem? (i := 145) rfl) rfl
set_option maxRecDepth 20000 in
theorem cw_w935 : Cond.fieldLink "ClockWiresModel" (303) "ClockWiresModel" "faultAt" "I" ∈ cw_t := cw_in4 (List.mem_of_getElem? (i := 146) rfl) rfl
set_option maxRecDepth 20000 in
theorem cw_w936 : Cond.fieldLink "ClockWiresModel" (85) "ClockWiresModel" "toldOf" "[I" ∈ cw_t := cw_in4 (List.mem_of_getElem? (i := 147) rfl) rfl
set_option maxRecDepth 20000 in
theorem cw_w937 : Cond.fieldLink "ClockWiresModel" (297) "ClockWiresModel" "whole" "I" ∈ cw_t := cw_in4 (List.mem_of_getElem? (i := 148) rfl) rfl
set_option maxRecDepth 20000 in
theorem cw_w938 : Cond.fieldLink "ClockWiresModel" (88) "ClockWiresModel" "stage" "[I" ∈ cw_t := cw_in4 (List.mem_of_getElem? (i := 149) rfl) rfl
set_option maxRecDepth 20000 in
theorem cw_w939 : Cond.fieldLink "ClockWiresModel" (91) "ClockWiresModel" "other" "[I" ∈ cw_t := cw_in4 (List.mem_of_getElem? (i := 150) rfl) rfl
set_option maxRecDepth 20000 in
theorem cw_w1035 : Cond.methodLink "ClockWiresModel" (137) ⟨"ClockWiresModel", "no", "()I"⟩ ∈ cw_t := cw_in5 (List.mem_of_getElem? (i := 6) rfl) rfl
set_option maxRecDepth 20000 in
theorem cw_w1037 : Cond.instanceMethod ⟨"ClockWiresModel", "no", "()I"⟩ ∈ cw_t := cw_in5 (List.mem_of_getElem? (i := 8) rfl) rfl
set_option maxRecDepth 20000 in
theorem cw_w1043 : Cond.methodLink "ClockWiresModel" (193) ⟨"ClockWiresModel", "isSpot", "(II)Z"⟩ ∈ cw_t := cw_in5 (List.mem_of_getElem? (i := 14) rfl) rfl
set_option maxRecDepth 20000 in
theorem cw_w1044 : Cond.static ⟨"ClockWiresModel", "isSpot", "(II)Z"⟩ ∈ cw_t := cw_in5 (List.mem_of_getElem? (i := 15) rfl) rfl
set_option maxRecDepth 20000 in
theorem cw_w1046 : Cond.methodLink "ClockWiresModel" (98) ⟨"ClockWiresModel", "in", "(III)Z"⟩ ∈ cw_t := cw_in5 (List.mem_of_getElem? (i := 17) rfl) rfl
set_option maxRecDepth 20000 in
theorem cw_w1047 : Cond.static ⟨"ClockWiresModel", "in", "(III)Z"⟩ ∈ cw_t := cw_in5 (List.mem_of_getElem? (i := 18) rfl) rfl
set_option maxRecDepth 20000 in
theorem cw_w1049 : Cond.methodLink "ClockWiresModel" (196) ⟨"ClockWiresModel", "bad", "()I"⟩ ∈ cw_t := cw_in5 (List.mem_of_getElem? (i := 20) rfl) rfl
set_option maxRecDepth 20000 in
theorem cw_w1051 : Cond.instanceMethod ⟨"ClockWiresModel", "bad", "()I"⟩ ∈ cw_t := cw_in5 (List.mem_of_getElem? (i := 22) rfl) rfl
set_option maxRecDepth 20000 in
theorem cw_w1053 : Cond.methodLink "ClockWiresModel" (199) ⟨"ClockWiresModel", "isAt", "(II)I"⟩ ∈ cw_t := cw_in5 (List.mem_of_getElem? (i := 24) rfl) rfl
set_option maxRecDepth 20000 in
theorem cw_w1055 : Cond.instanceMethod ⟨"ClockWiresModel", "isAt", "(II)I"⟩ ∈ cw_t := cw_in5 (List.mem_of_getElem? (i := 26) rfl) rfl
set_option maxRecDepth 20000 in
theorem cw_w1057 : Cond.methodLink "ClockWiresModel" (202) ⟨"ClockWiresModel", "full", "()I"⟩ ∈ cw_t := cw_in5 (List.mem_of_getElem? (i := 28) rfl) rfl
set_option maxRecDepth 20000 in
theorem cw_w1059 : Cond.instanceMethod ⟨"ClockWiresModel", "full", "()I"⟩ ∈ cw_t := cw_in5 (List.mem_of_getElem? (i := 30) rfl) rfl
set_option maxRecDepth 20000 in
theorem cw_w1061 : Cond.methodLink "ClockWiresModel" (205) ⟨"ClockWiresModel", "leavesState", "()V"⟩ ∈ cw_t := cw_in5 (List.mem_of_getElem? (i := 32) rfl) rfl
set_option maxRecDepth 20000 in
theorem cw_w1063 : Cond.instanceMethod ⟨"ClockWiresModel", "leavesState", "()V"⟩ ∈ cw_t := cw_in5 (List.mem_of_getElem? (i := 34) rfl) rfl
set_option maxRecDepth 20000 in
theorem cw_w1065 : Cond.methodLink "ClockWiresModel" (208) ⟨"ClockWiresModel", "touches", "(I)V"⟩ ∈ cw_t := cw_in5 (List.mem_of_getElem? (i := 36) rfl) rfl
set_option maxRecDepth 20000 in
theorem cw_w1067 : Cond.instanceMethod ⟨"ClockWiresModel", "touches", "(I)V"⟩ ∈ cw_t := cw_in5 (List.mem_of_getElem? (i := 38) rfl) rfl
set_option maxRecDepth 20000 in
theorem cw_w1073 : Cond.methodLink "ClockWiresModel" (211) ⟨"ClockWiresModel", "isSink", "(I)Z"⟩ ∈ cw_t := cw_in5 (List.mem_of_getElem? (i := 44) rfl) rfl
set_option maxRecDepth 20000 in
theorem cw_w1075 : Cond.instanceMethod ⟨"ClockWiresModel", "isSink", "(I)Z"⟩ ∈ cw_t := cw_in5 (List.mem_of_getElem? (i := 46) rfl) rfl
set_option maxRecDepth 20000 in
theorem cw_w1077 : Cond.methodLink "ClockWiresModel" (214) ⟨"ClockWiresModel", "apart", "(IIII)I"⟩ ∈ cw_t := cw_in5 (List.mem_of_getElem? (i := 48) rfl) rfl
set_option maxRecDepth 20000 in
theorem cw_w1078 : Cond.static ⟨"ClockWiresModel", "apart", "(IIII)I"⟩ ∈ cw_t := cw_in5 (List.mem_of_getElem? (i := 49) rfl) rfl
set_option maxRecDepth 20000 in
theorem cw_w1080 : Cond.methodLink "ClockWiresModel" (151) ⟨"ClockWiresModel", "size", "(I)I"⟩ ∈ cw_t := cw_in5 (List.mem_of_getElem? (i := 51) rfl) rfl
set_option maxRecDepth 20000 in
theorem cw_w1081 : Cond.static ⟨"ClockWiresModel", "size", "(I)I"⟩ ∈ cw_t := cw_in5 (List.mem_of_getElem? (i := 52) rfl) rfl
set_option maxRecDepth 20000 in
theorem cw_w1083 : Cond.methodLink "ClockWiresModel" (140) ⟨"ClockWiresModel", "greater", "(II)I"⟩ ∈ cw_t := cw_in5 (List.mem_of_getElem? (i := 54) rfl) rfl
set_option maxRecDepth 20000 in
theorem cw_w1084 : Cond.static ⟨"ClockWiresModel", "greater", "(II)I"⟩ ∈ cw_t := cw_in5 (List.mem_of_getElem? (i := 55) rfl) rfl
set_option maxRecDepth 20000 in
theorem cw_w1086 : Cond.constant "ClockWiresModel" (147) (65536 : Int32) ∈ cw_t := cw_in5 (List.mem_of_getElem? (i := 57) rfl) rfl
set_option maxRecDepth 20000 in
theorem cw_w1115 : Cond.methodLink "ClockWiresModel" (218) ⟨"ClockWiresModel", "isNode", "(I)Z"⟩ ∈ cw_t := cw_in5 (List.mem_of_getElem? (i := 86) rfl) rfl
set_option maxRecDepth 20000 in
theorem cw_w1117 : Cond.instanceMethod ⟨"ClockWiresModel", "isNode", "(I)Z"⟩ ∈ cw_t := cw_in5 (List.mem_of_getElem? (i := 88) rfl) rfl
set_option maxRecDepth 20000 in
theorem cw_w1119 : Cond.methodLink "ClockWiresModel" (102) ⟨"ClockWiresModel", "isTop", "(I)Z"⟩ ∈ cw_t := cw_in5 (List.mem_of_getElem? (i := 90) rfl) rfl
set_option maxRecDepth 20000 in
theorem cw_w1121 : Cond.instanceMethod ⟨"ClockWiresModel", "isTop", "(I)Z"⟩ ∈ cw_t := cw_in5 (List.mem_of_getElem? (i := 92) rfl) rfl
set_option maxRecDepth 20000 in
theorem cw_w1123 : Cond.methodLink "ClockWiresModel" (221) ⟨"ClockWiresModel", "lays", "(II)I"⟩ ∈ cw_t := cw_in5 (List.mem_of_getElem? (i := 94) rfl) rfl
set_option maxRecDepth 20000 in
theorem cw_w1125 : Cond.instanceMethod ⟨"ClockWiresModel", "lays", "(II)I"⟩ ∈ cw_t := cw_in5 (List.mem_of_getElem? (i := 96) rfl) rfl
set_option maxRecDepth 20000 in
theorem cw_w1127 : Cond.methodLink "ClockWiresModel" (106) ⟨"ClockWiresModel", "comes", "()I"⟩ ∈ cw_t := cw_in5 (List.mem_of_getElem? (i := 98) rfl) rfl
set_option maxRecDepth 20000 in
theorem cw_w1129 : Cond.instanceMethod ⟨"ClockWiresModel", "comes", "()I"⟩ ∈ cw_t := cw_in5 (List.mem_of_getElem? (i := 100) rfl) rfl
set_option maxRecDepth 20000 in
theorem cw_w1131 : Cond.methodLink "ClockWiresModel" (110) ⟨"ClockWiresModel", "replaces", "(II)V"⟩ ∈ cw_t := cw_in5 (List.mem_of_getElem? (i := 102) rfl) rfl
set_option maxRecDepth 20000 in
theorem cw_w1133 : Cond.instanceMethod ⟨"ClockWiresModel", "replaces", "(II)V"⟩ ∈ cw_t := cw_in5 (List.mem_of_getElem? (i := 104) rfl) rfl
set_option maxRecDepth 20000 in
theorem cw_w1139 : Cond.methodLink "ClockWiresModel" (227) ⟨"ClockWiresModel", "findsPair", "()I"⟩ ∈ cw_t := cw_in5 (List.mem_of_getElem? (i := 110) rfl) rfl
set_option maxRecDepth 20000 in
theorem cw_w1141 : Cond.instanceMethod ⟨"ClockWiresModel", "findsPair", "()I"⟩ ∈ cw_t := cw_in5 (List.mem_of_getElem? (i := 112) rfl) rfl
set_option maxRecDepth 20000 in
theorem cw_w1143 : Cond.methodLink "ClockWiresModel" (173) ⟨"ClockWiresModel", "tellsAll", "()V"⟩ ∈ cw_t := cw_in5 (List.mem_of_getElem? (i := 114) rfl) rfl
set_option maxRecDepth 20000 in
theorem cw_w1145 : Cond.instanceMethod ⟨"ClockWiresModel", "tellsAll", "()V"⟩ ∈ cw_t := cw_in5 (List.mem_of_getElem? (i := 116) rfl) rfl
set_option maxRecDepth 20000 in
theorem cw_w1147 : Cond.methodLink "ClockWiresModel" (167) ⟨"ClockWiresModel", "tellsSink", "(I)V"⟩ ∈ cw_t := cw_in5 (List.mem_of_getElem? (i := 118) rfl) rfl
set_option maxRecDepth 20000 in
theorem cw_w1149 : Cond.instanceMethod ⟨"ClockWiresModel", "tellsSink", "(I)V"⟩ ∈ cw_t := cw_in5 (List.mem_of_getElem? (i := 120) rfl) rfl
set_option maxRecDepth 20000 in
theorem cw_w1151 : Cond.methodLink "ClockWiresModel" (170) ⟨"ClockWiresModel", "tellsJoint", "(I)V"⟩ ∈ cw_t := cw_in5 (List.mem_of_getElem? (i := 122) rfl) rfl
set_option maxRecDepth 20000 in
theorem cw_w1153 : Cond.instanceMethod ⟨"ClockWiresModel", "tellsJoint", "(I)V"⟩ ∈ cw_t := cw_in5 (List.mem_of_getElem? (i := 124) rfl) rfl
set_option maxRecDepth 20000 in
theorem cw_w1155 : Cond.methodLink "ClockWiresModel" (164) ⟨"ClockWiresModel", "reckons", "(II)V"⟩ ∈ cw_t := cw_in5 (List.mem_of_getElem? (i := 126) rfl) rfl
set_option maxRecDepth 20000 in
theorem cw_w1157 : Cond.instanceMethod ⟨"ClockWiresModel", "reckons", "(II)V"⟩ ∈ cw_t := cw_in5 (List.mem_of_getElem? (i := 128) rfl) rfl
set_option maxRecDepth 20000 in
theorem cw_w1159 : Cond.methodLink "ClockWiresModel" (148) ⟨"ClockWiresModel", "lesser", "(II)I"⟩ ∈ cw_t := cw_in5 (List.mem_of_getElem? (i := 130) rfl) rfl
set_option maxRecDepth 20000 in
theorem cw_w1160 : Cond.static ⟨"ClockWiresModel", "lesser", "(II)I"⟩ ∈ cw_t := cw_in5 (List.mem_of_getElem? (i := 131) rfl) rfl
set_option maxRecDepth 20000 in
theorem cw_w1166 : Cond.methodLink "ClockWiresModel" (230) ⟨"ClockWiresModel", "noJoints", "()I"⟩ ∈ cw_t := cw_in5 (List.mem_of_getElem? (i := 137) rfl) rfl
set_option maxRecDepth 20000 in
theorem cw_w1168 : Cond.instanceMethod ⟨"ClockWiresModel", "noJoints", "()I"⟩ ∈ cw_t := cw_in5 (List.mem_of_getElem? (i := 139) rfl) rfl
set_option maxRecDepth 20000 in
theorem cw_w1170 : Cond.methodLink "ClockWiresModel" (114) ⟨"ClockWiresModel", "goes", "(I)V"⟩ ∈ cw_t := cw_in5 (List.mem_of_getElem? (i := 141) rfl) rfl
set_option maxRecDepth 20000 in
theorem cw_w1172 : Cond.instanceMethod ⟨"ClockWiresModel", "goes", "(I)V"⟩ ∈ cw_t := cw_in5 (List.mem_of_getElem? (i := 143) rfl) rfl
set_option maxRecDepth 20000 in
theorem cw_w1178 : Cond.methodLink "ClockWiresModel" (233) ⟨"ClockWiresModel", "takesOff", "(I)I"⟩ ∈ cw_t := cw_in5 (List.mem_of_getElem? (i := 149) rfl) rfl
set_option maxRecDepth 20000 in
theorem cw_w1180 : Cond.instanceMethod ⟨"ClockWiresModel", "takesOff", "(I)I"⟩ ∈ cw_t := cw_in5 (List.mem_of_getElem? (i := 151) rfl) rfl
set_option maxRecDepth 20000 in
theorem cw_w1186 : Cond.methodLink "ClockWiresModel" (118) ⟨"ClockWiresModel", "isWithin", "(II)Z"⟩ ∈ cw_t := cw_in5 (List.mem_of_getElem? (i := 157) rfl) rfl
set_option maxRecDepth 20000 in
theorem cw_w1188 : Cond.instanceMethod ⟨"ClockWiresModel", "isWithin", "(II)Z"⟩ ∈ cw_t := cw_in5 (List.mem_of_getElem? (i := 159) rfl) rfl
set_option maxRecDepth 20000 in
theorem cw_w1190 : Cond.methodLink "ClockWiresModel" (245) ⟨"ClockWiresModel", "bestFor", "(I)I"⟩ ∈ cw_t := cw_in5 (List.mem_of_getElem? (i := 161) rfl) rfl
set_option maxRecDepth 20000 in
theorem cw_w1192 : Cond.instanceMethod ⟨"ClockWiresModel", "bestFor", "(I)I"⟩ ∈ cw_t := cw_in5 (List.mem_of_getElem? (i := 163) rfl) rfl
set_option maxRecDepth 20000 in
theorem cw_w1194 : Cond.methodLink "ClockWiresModel" (236) ⟨"ClockWiresModel", "laysAside", "()V"⟩ ∈ cw_t := cw_in5 (List.mem_of_getElem? (i := 165) rfl) rfl
set_option maxRecDepth 20000 in
theorem cw_w1196 : Cond.instanceMethod ⟨"ClockWiresModel", "laysAside", "()V"⟩ ∈ cw_t := cw_in5 (List.mem_of_getElem? (i := 167) rfl) rfl
set_option maxRecDepth 20000 in
theorem cw_w1198 : Cond.methodLink "ClockWiresModel" (239) ⟨"ClockWiresModel", "costOfAll", "()I"⟩ ∈ cw_t := cw_in5 (List.mem_of_getElem? (i := 169) rfl) rfl
set_option maxRecDepth 20000 in
theorem cw_w1200 : Cond.instanceMethod ⟨"ClockWiresModel", "costOfAll", "()I"⟩ ∈ cw_t := cw_in5 (List.mem_of_getElem? (i := 171) rfl) rfl
set_option maxRecDepth 20000 in
theorem cw_w1202 : Cond.methodLink "ClockWiresModel" (242) ⟨"ClockWiresModel", "takesBack", "()V"⟩ ∈ cw_t := cw_in5 (List.mem_of_getElem? (i := 173) rfl) rfl
set_option maxRecDepth 20000 in
theorem cw_w1204 : Cond.instanceMethod ⟨"ClockWiresModel", "takesBack", "()V"⟩ ∈ cw_t := cw_in5 (List.mem_of_getElem? (i := 175) rfl) rfl
set_option maxRecDepth 20000 in
theorem cw_w1210 : Cond.methodLink "ClockWiresModel" (248) ⟨"ClockWiresModel", "canExchange", "(II)Z"⟩ ∈ cw_t := cw_in5 (List.mem_of_getElem? (i := 181) rfl) rfl
set_option maxRecDepth 20000 in
theorem cw_w1212 : Cond.instanceMethod ⟨"ClockWiresModel", "canExchange", "(II)Z"⟩ ∈ cw_t := cw_in5 (List.mem_of_getElem? (i := 183) rfl) rfl
set_option maxRecDepth 20000 in
theorem cw_w1214 : Cond.methodLink "ClockWiresModel" (251) ⟨"ClockWiresModel", "swaps", "(II)V"⟩ ∈ cw_t := cw_in5 (List.mem_of_getElem? (i := 185) rfl) rfl
set_option maxRecDepth 20000 in
theorem cw_w1216 : Cond.instanceMethod ⟨"ClockWiresModel", "swaps", "(II)V"⟩ ∈ cw_t := cw_in5 (List.mem_of_getElem? (i := 187) rfl) rfl
set_option maxRecDepth 20000 in
theorem cw_w1226 : Cond.methodLink "ClockWiresModel" (254) ⟨"ClockWiresModel", "about", "(II)I"⟩ ∈ cw_t := cw_in5 (List.mem_of_getElem? (i := 197) rfl) rfl
set_option maxRecDepth 20000 in
theorem cw_w1228 : Cond.instanceMethod ⟨"ClockWiresModel", "about", "(II)I"⟩ ∈ cw_t := cw_in5 (List.mem_of_getElem? (i := 199) rfl) rfl
set_option maxRecDepth 20000 in
theorem cw_w1242 : Cond.methodLink "ClockWiresModel" (180) ⟨"ClockWiresModel", "topMany", "()I"⟩ ∈ cw_t := cw_in5 (List.mem_of_getElem? (i := 213) rfl) rfl
set_option maxRecDepth 20000 in
theorem cw_w1244 : Cond.instanceMethod ⟨"ClockWiresModel", "topMany", "()I"⟩ ∈ cw_t := cw_in5 (List.mem_of_getElem? (i := 215) rfl) rfl
set_option maxRecDepth 20000 in
theorem cw_w1250 : Cond.methodLink "ClockWiresModel" (257) ⟨"ClockWiresModel", "growsBy", "(I)V"⟩ ∈ cw_t := cw_in5 (List.mem_of_getElem? (i := 221) rfl) rfl
set_option maxRecDepth 20000 in
theorem cw_w1252 : Cond.instanceMethod ⟨"ClockWiresModel", "growsBy", "(I)V"⟩ ∈ cw_t := cw_in5 (List.mem_of_getElem? (i := 223) rfl) rfl
set_option maxRecDepth 20000 in
theorem cw_w1258 : Cond.methodLink "ClockWiresModel" (260) ⟨"ClockWiresModel", "areLaid", "()Z"⟩ ∈ cw_t := cw_in5 (List.mem_of_getElem? (i := 229) rfl) rfl
set_option maxRecDepth 20000 in
theorem cw_w1260 : Cond.instanceMethod ⟨"ClockWiresModel", "areLaid", "()Z"⟩ ∈ cw_t := cw_in5 (List.mem_of_getElem? (i := 231) rfl) rfl
set_option maxRecDepth 20000 in
theorem cw_w1262 : Cond.methodLink "ClockWiresModel" (186) ⟨"ClockWiresModel", "settles", "(III)V"⟩ ∈ cw_t := cw_in5 (List.mem_of_getElem? (i := 233) rfl) rfl
set_option maxRecDepth 20000 in
theorem cw_w1264 : Cond.instanceMethod ⟨"ClockWiresModel", "settles", "(III)V"⟩ ∈ cw_t := cw_in5 (List.mem_of_getElem? (i := 235) rfl) rfl
set_option maxRecDepth 20000 in
theorem cw_w1266 : Cond.methodLink "ClockWiresModel" (176) ⟨"ClockWiresModel", "into", "(III)I"⟩ ∈ cw_t := cw_in5 (List.mem_of_getElem? (i := 237) rfl) rfl
set_option maxRecDepth 20000 in
theorem cw_w1267 : Cond.static ⟨"ClockWiresModel", "into", "(III)I"⟩ ∈ cw_t := cw_in5 (List.mem_of_getElem? (i := 238) rfl) rfl
set_option maxRecDepth 20000 in
theorem cw_w1269 : Cond.methodLink "ClockWiresModel" (264) ⟨"ClockWiresModel", "loop", "(I)I"⟩ ∈ cw_t := cw_in6 (List.mem_of_getElem? (i := 0) rfl) rfl
set_option maxRecDepth 20000 in
theorem cw_w1271 : Cond.instanceMethod ⟨"ClockWiresModel", "loop", "(I)I"⟩ ∈ cw_t := cw_in6 (List.mem_of_getElem? (i := 2) rfl) rfl
set_option maxRecDepth 20000 in
theorem cw_w1277 : Cond.methodLink "ClockWiresModel" (267) ⟨"ClockWiresModel", "arrives", "(I)I"⟩ ∈ cw_t := cw_in6 (List.mem_of_getElem? (i := 8) rfl) rfl
set_option maxRecDepth 20000 in
theorem cw_w1279 : Cond.instanceMethod ⟨"ClockWiresModel", "arrives", "(I)I"⟩ ∈ cw_t := cw_in6 (List.mem_of_getElem? (i := 10) rfl) rfl
set_option maxRecDepth 20000 in
theorem cw_w1281 : Cond.methodLink "ClockWiresModel" (190) ⟨"ClockWiresModel", "trunk", "()I"⟩ ∈ cw_t := cw_in6 (List.mem_of_getElem? (i := 12) rfl) rfl
set_option maxRecDepth 20000 in
theorem cw_w1283 : Cond.instanceMethod ⟨"ClockWiresModel", "trunk", "()I"⟩ ∈ cw_t := cw_in6 (List.mem_of_getElem? (i := 14) rfl) rfl
set_option maxRecDepth 20000 in
theorem cw_w1289 : Cond.constantLong "ClockWiresModel" (272) (2 : Int64) ∈ cw_t := cw_in6 (List.mem_of_getElem? (i := 20) rfl) rfl
set_option maxRecDepth 20000 in
theorem cw_w1290 : Cond.methodLink "ClockWiresModel" (274) ⟨"ClockWiresModel", "below", "(I)J"⟩ ∈ cw_t := cw_in6 (List.mem_of_getElem? (i := 21) rfl) rfl
set_option maxRecDepth 20000 in
theorem cw_w1292 : Cond.instanceMethod ⟨"ClockWiresModel", "below", "(I)J"⟩ ∈ cw_t := cw_in6 (List.mem_of_getElem? (i := 23) rfl) rfl
set_option maxRecDepth 20000 in
theorem cw_w1294 : Cond.constantLong "ClockWiresModel" (270) (65536 : Int64) ∈ cw_t := cw_in6 (List.mem_of_getElem? (i := 25) rfl) rfl
set_option maxRecDepth 20000 in
theorem cw_w1299 : Cond.methodLink "ClockWiresModel" (285) ⟨"ClockWiresModel", "totalBy", "(I)I"⟩ ∈ cw_t := cw_in6 (List.mem_of_getElem? (i := 30) rfl) rfl
set_option maxRecDepth 20000 in
theorem cw_w1301 : Cond.instanceMethod ⟨"ClockWiresModel", "totalBy", "(I)I"⟩ ∈ cw_t := cw_in6 (List.mem_of_getElem? (i := 32) rfl) rfl
set_option maxRecDepth 20000 in
theorem cw_w1303 : Cond.methodLink "ClockWiresModel" (278) ⟨"ClockWiresModel", "spread", "()I"⟩ ∈ cw_t := cw_in6 (List.mem_of_getElem? (i := 34) rfl) rfl
set_option maxRecDepth 20000 in
theorem cw_w1305 : Cond.instanceMethod ⟨"ClockWiresModel", "spread", "()I"⟩ ∈ cw_t := cw_in6 (List.mem_of_getElem? (i := 36) rfl) rfl
set_option maxRecDepth 20000 in
theorem cw_w1307 : Cond.methodLink "ClockWiresModel" (281) ⟨"ClockWiresModel", "loops", "(Z)I"⟩ ∈ cw_t := cw_in6 (List.mem_of_getElem? (i := 38) rfl) rfl
set_option maxRecDepth 20000 in
theorem cw_w1309 : Cond.instanceMethod ⟨"ClockWiresModel", "loops", "(Z)I"⟩ ∈ cw_t := cw_in6 (List.mem_of_getElem? (i := 40) rfl) rfl
set_option maxRecDepth 20000 in
theorem cw_w1323 : Cond.methodLink "ClockWiresModel" (313) ⟨"ClockWiresModel", "readsAll", "(Z)Z"⟩ ∈ cw_t := cw_in6 (List.mem_of_getElem? (i := 54) rfl) rfl
set_option maxRecDepth 20000 in
theorem cw_w1325 : Cond.instanceMethod ⟨"ClockWiresModel", "readsAll", "(Z)Z"⟩ ∈ cw_t := cw_in6 (List.mem_of_getElem? (i := 56) rfl) rfl
set_option maxRecDepth 20000 in
theorem cw_w1327 : Cond.methodLink "ClockWiresModel" (309) ⟨"ClockWiresModel", "reads", "(Z)Z"⟩ ∈ cw_t := cw_in6 (List.mem_of_getElem? (i := 58) rfl) rfl
set_option maxRecDepth 20000 in
theorem cw_w1329 : Cond.instanceMethod ⟨"ClockWiresModel", "reads", "(Z)Z"⟩ ∈ cw_t := cw_in6 (List.mem_of_getElem? (i := 60) rfl) rfl
set_option maxRecDepth 20000 in
theorem cw_w1331 : Cond.methodLink "ClockWiresModel" (300) ⟨"ClockWiresModel", "here", "()I"⟩ ∈ cw_t := cw_in6 (List.mem_of_getElem? (i := 62) rfl) rfl
set_option maxRecDepth 20000 in
theorem cw_w1333 : Cond.instanceMethod ⟨"ClockWiresModel", "here", "()I"⟩ ∈ cw_t := cw_in6 (List.mem_of_getElem? (i := 64) rfl) rfl
set_option maxRecDepth 20000 in
theorem cw_w1335 : Cond.methodLink "ClockWiresModel" (306) ⟨"ClockWiresModel", "tells", "(I)V"⟩ ∈ cw_t := cw_in6 (List.mem_of_getElem? (i := 66) rfl) rfl
set_option maxRecDepth 20000 in
theorem cw_w1337 : Cond.instanceMethod ⟨"ClockWiresModel", "tells", "(I)V"⟩ ∈ cw_t := cw_in6 (List.mem_of_getElem? (i := 68) rfl) rfl
set_option maxRecDepth 20000 in
theorem cw_w1343 : Cond.methodLink "ClockWiresModel" (316) ⟨"ClockWiresModel", "byteOf", "(II)I"⟩ ∈ cw_t := cw_in6 (List.mem_of_getElem? (i := 74) rfl) rfl
set_option maxRecDepth 20000 in
theorem cw_w1345 : Cond.instanceMethod ⟨"ClockWiresModel", "byteOf", "(II)I"⟩ ∈ cw_t := cw_in6 (List.mem_of_getElem? (i := 76) rfl) rfl
set_option maxRecDepth 20000 in
theorem cw_w1351 : Cond.methodLink "ClockWiresModel" (322) ⟨"ClockWiresModel", "toldBy", "(I)I"⟩ ∈ cw_t := cw_in6 (List.mem_of_getElem? (i := 82) rfl) rfl
set_option maxRecDepth 20000 in
theorem cw_w1353 : Cond.instanceMethod ⟨"ClockWiresModel", "toldBy", "(I)I"⟩ ∈ cw_t := cw_in6 (List.mem_of_getElem? (i := 84) rfl) rfl
set_option maxRecDepth 20000 in
theorem cw_w1355 : Cond.methodLink "ClockWiresModel" (319) ⟨"ClockWiresModel", "jointMany", "()I"⟩ ∈ cw_t := cw_in6 (List.mem_of_getElem? (i := 86) rfl) rfl
set_option maxRecDepth 20000 in
theorem cw_w1357 : Cond.instanceMethod ⟨"ClockWiresModel", "jointMany", "()I"⟩ ∈ cw_t := cw_in6 (List.mem_of_getElem? (i := 88) rfl) rfl
set_option maxRecDepth 20000 in
theorem cw_w1363 : Cond.constantLong "ClockWiresModel" (325) (1680 : Int64) ∈ cw_t := cw_in6 (List.mem_of_getElem? (i := 94) rfl) rfl
set_option maxRecDepth 20000 in
theorem cw_w1364 : Cond.constantLong "ClockWiresModel" (327) (31 : Int64) ∈ cw_t := cw_in6 (List.mem_of_getElem? (i := 95) rfl) rfl
set_option maxRecDepth 20000 in
theorem cw_objw : Cond.code objectInit ⟨#[0xb1]⟩ 1 none ∈ cw_t := cw_in1 (List.mem_of_getElem? (i := 20) rfl) rfl
set_option maxRecDepth 20000 in
theorem cw_mathw_max : Cond.code Lib.Math.max.name Lib.Math.max.code 2 (some .int) ∈ cw_t := cw_in2 (List.mem_of_getElem? (i := 157) rfl) rfl
set_option maxRecDepth 20000 in
theorem cw_mathw_min : Cond.code Lib.Math.min.name Lib.Math.min.code 2 (some .int) ∈ cw_t := cw_in2 (List.mem_of_getElem? (i := 142) rfl) rfl
set_option maxRecDepth 20000 in
theorem cw_mathw_abs : Cond.code Lib.Math.abs.name Lib.Math.abs.code 1 (some .int) ∈ cw_t := cw_in2 (List.mem_of_getElem? (i := 165) rfl) rfl
theorem cw_isC0 : cw_isC 0 = true := by decide +kernel
theorem cw_isN1 : cw_isN 1 = true := by decide +kernel
theorem cw_isN2 : cw_isN 2 = true := by decide +kernel
theorem cw_isC3 : cw_isC 3 = true := by decide +kernel
theorem cw_isN4 : cw_isN 4 = true := by decide +kernel
theorem cw_isN5 : cw_isN 5 = true := by decide +kernel
theorem cw_isN6 : cw_isN 6 = true := by decide +kernel
theorem cw_isN7 : cw_isN 7 = true := by decide +kernel
theorem cw_isC8 : cw_isC 8 = true := by decide +kernel
theorem cw_isN9 : cw_isN 9 = true := by decide +kernel
theorem cw_isN10 : cw_isN 10 = true := by decide +kernel
theorem cw_isC11 : cw_isC 11 = true := by decide +kernel
theorem cw_isN12 : cw_isN 12 = true := by decide +kernel
theorem cw_isN13 : cw_isN 13 = true := by decide +kernel
theorem cw_isN14 : cw_isN 14 = true := by decide +kernel
theorem cw_isN15 : cw_isN 15 = true := by decide +kernel
theorem cw_isN16 : cw_isN 16 = true := by decide +kernel
theorem cw_isN17 : cw_isN 17 = true := by decide +kernel
theorem cw_isN18 : cw_isN 18 = true := by decide +kernel
theorem cw_isC19 : cw_isC 19 = true := by decide +kernel
theorem cw_isN20 : cw_isN 20 = true := by decide +kernel
theorem cw_isN21 : cw_isN 21 = true := by decide +kernel
theorem cw_isN22 : cw_isN 22 = true := by decide +kernel
theorem cw_isN23 : cw_isN 23 = true := by decide +kernel
theorem cw_isN24 : cw_isN 24 = true := by decide +kernel
theorem cw_isC25 : cw_isC 25 = true := by decide +kernel
theorem cw_isN26 : cw_isN 26 = true := by decide +kernel
theorem cw_isN27 : cw_isN 27 = true := by decide +kernel
theorem cw_isN28 : cw_isN 28 = true := by decide +kernel
theorem cw_isN29 : cw_isN 29 = true := by decide +kernel
theorem cw_isN30 : cw_isN 30 = true := by decide +kernel
theorem cw_isN31 : cw_isN 31 = true := by decide +kernel
theorem cw_isN32 : cw_isN 32 = true := by decide +kernel
theorem cw_isN33 : cw_isN 33 = true := by decide +kernel
theorem cw_isC34 : cw_isC 34 = true := by decide +kernel
theorem cw_isN35 : cw_isN 35 = true := by decide +kernel
theorem cw_isN36 : cw_isN 36 = true := by decide +kernel
theorem cw_isN37 : cw_isN 37 = true := by decide +kernel
theorem cw_isN38 : cw_isN 38 = true := by decide +kernel
theorem cw_isN39 : cw_isN 39 = true := by decide +kernel
theorem cw_isN40 : cw_isN 40 = true := by decide +kernel
theorem cw_isN41 : cw_isN 41 = true := by decide +kernel
theorem cw_isN42 : cw_isN 42 = true := by decide +kernel
theorem cw_isN43 : cw_isN 43 = true := by decide +kernel
theorem cw_isN44 : cw_isN 44 = true := by decide +kernel
theorem cw_isN45 : cw_isN 45 = true := by decide +kernel
theorem cw_isN46 : cw_isN 46 = true := by decide +kernel
theorem cw_isN47 : cw_isN 47 = true := by decide +kernel
theorem cw_isN48 : cw_isN 48 = true := by decide +kernel
theorem cw_isN49 : cw_isN 49 = true := by decide +kernel
theorem cw_isN50 : cw_isN 50 = true := by decide +kernel
theorem cw_isN51 : cw_isN 51 = true := by decide +kernel
theorem cw_isN52 : cw_isN 52 = true := by decide +kernel
theorem cw_isN53 : cw_isN 53 = true := by decide +kernel
theorem cw_isN54 : cw_isN 54 = true := by decide +kernel
theorem cw_isN55 : cw_isN 55 = true := by decide +kernel
theorem cw_isN56 : cw_isN 56 = true := by decide +kernel
theorem cw_isN57 : cw_isN 57 = true := by decide +kernel
theorem cw_isN58 : cw_isN 58 = true := by decide +kernel
theorem cw_isN59 : cw_isN 59 = true := by decide +kernel
theorem cw_isC60 : cw_isC 60 = true := by decide +kernel
theorem cw_isN61 : cw_isN 61 = true := by decide +kernel
theorem cw_isN62 : cw_isN 62 = true := by decide +kernel
theorem cw_isN63 : cw_isN 63 = true := by decide +kernel
theorem cw_isN64 : cw_isN 64 = true := by decide +kernel
theorem cw_isN65 : cw_isN 65 = true := by decide +kernel
theorem cw_isC66 : cw_isC 66 = true := by decide +kernel
theorem cw_isN67 : cw_isN 67 = true := by decide +kernel
theorem cw_isN68 : cw_isN 68 = true := by decide +kernel
theorem cw_isN69 : cw_isN 69 = true := by decide +kernel
theorem cw_isN70 : cw_isN 70 = true := by decide +kernel
theorem cw_isN71 : cw_isN 71 = true := by decide +kernel
theorem cw_isN72 : cw_isN 72 = true := by decide +kernel
theorem cw_isN73 : cw_isN 73 = true := by decide +kernel
theorem cw_isN74 : cw_isN 74 = true := by decide +kernel
theorem cw_isN75 : cw_isN 75 = true := by decide +kernel
theorem cw_isN76 : cw_isN 76 = true := by decide +kernel
theorem cw_isN77 : cw_isN 77 = true := by decide +kernel
theorem cw_isN78 : cw_isN 78 = true := by decide +kernel
theorem cw_isN79 : cw_isN 79 = true := by decide +kernel
theorem cw_isN80 : cw_isN 80 = true := by decide +kernel
theorem cw_isN81 : cw_isN 81 = true := by decide +kernel
theorem cw_isN82 : cw_isN 82 = true := by decide +kernel
theorem cw_isN83 : cw_isN 83 = true := by decide +kernel
theorem cw_isN84 : cw_isN 84 = true := by decide +kernel
theorem cw_isN85 : cw_isN 85 = true := by decide +kernel
theorem cw_isN86 : cw_isN 86 = true := by decide +kernel
theorem cw_isN87 : cw_isN 87 = true := by decide +kernel
theorem cw_isN88 : cw_isN 88 = true := by decide +kernel
theorem cw_isN89 : cw_isN 89 = true := by decide +kernel
theorem cw_isN90 : cw_isN 90 = true := by decide +kernel
theorem cw_isN91 : cw_isN 91 = true := by decide +kernel
theorem cw_isN92 : cw_isN 92 = true := by decide +kernel
theorem cw_isN93 : cw_isN 93 = true := by decide +kernel
theorem cw_isN94 : cw_isN 94 = true := by decide +kernel
theorem cw_isN95 : cw_isN 95 = true := by decide +kernel
theorem cw_isN96 : cw_isN 96 = true := by decide +kernel
theorem cw_isN97 : cw_isN 97 = true := by decide +kernel
theorem cw_isN98 : cw_isN 98 = true := by decide +kernel
theorem cw_isN99 : cw_isN 99 = true := by decide +kernel
theorem cw_isN100 : cw_isN 100 = true := by decide +kernel
theorem cw_isN101 : cw_isN 101 = true := by decide +kernel
theorem cw_isN102 : cw_isN 102 = true := by decide +kernel
theorem cw_isN103 : cw_isN 103 = true := by decide +kernel
theorem cw_isN104 : cw_isN 104 = true := by decide +kernel
theorem cw_isN105 : cw_isN 105 = true := by decide +kernel
theorem cw_isN106 : cw_isN 106 = true := by decide +kernel
theorem cw_isN107 : cw_isN 107 = true := by decide +kernel
theorem cw_isN108 : cw_isN 108 = true := by decide +kernel
theorem cw_isN109 : cw_isN 109 = true := by decide +kernel
theorem cw_isC110 : cw_isC 110 = true := by decide +kernel
theorem cw_isN111 : cw_isN 111 = true := by decide +kernel
theorem cw_isN112 : cw_isN 112 = true := by decide +kernel
theorem cw_isN113 : cw_isN 113 = true := by decide +kernel
theorem cw_isN114 : cw_isN 114 = true := by decide +kernel
theorem cw_isN115 : cw_isN 115 = true := by decide +kernel
theorem cw_isN116 : cw_isN 116 = true := by decide +kernel
theorem cw_isN117 : cw_isN 117 = true := by decide +kernel
theorem cw_isN118 : cw_isN 118 = true := by decide +kernel
theorem cw_isN119 : cw_isN 119 = true := by decide +kernel
theorem cw_isN120 : cw_isN 120 = true := by decide +kernel
theorem cw_isN121 : cw_isN 121 = true := by decide +kernel
theorem cw_isN122 : cw_isN 122 = true := by decide +kernel
theorem cw_isN123 : cw_isN 123 = true := by decide +kernel
theorem cw_isN124 : cw_isN 124 = true := by decide +kernel
theorem cw_isN125 : cw_isN 125 = true := by decide +kernel
theorem cw_isN126 : cw_isN 126 = true := by decide +kernel
theorem cw_isN127 : cw_isN 127 = true := by decide +kernel
theorem cw_isN128 : cw_isN 128 = true := by decide +kernel
theorem cw_isN129 : cw_isN 129 = true := by decide +kernel
theorem cw_isN130 : cw_isN 130 = true := by decide +kernel
theorem cw_isN131 : cw_isN 131 = true := by decide +kernel
theorem cw_isN132 : cw_isN 132 = true := by decide +kernel
theorem cw_isN133 : cw_isN 133 = true := by decide +kernel
theorem cw_isN134 : cw_isN 134 = true := by decide +kernel
theorem cw_isN135 : cw_isN 135 = true := by decide +kernel
theorem cw_isN136 : cw_isN 136 = true := by decide +kernel
theorem cw_isN137 : cw_isN 137 = true := by decide +kernel
theorem cw_isN138 : cw_isN 138 = true := by decide +kernel
theorem cw_isN139 : cw_isN 139 = true := by decide +kernel
theorem cw_isN140 : cw_isN 140 = true := by decide +kernel
theorem cw_isN141 : cw_isN 141 = true := by decide +kernel
theorem cw_isN142 : cw_isN 142 = true := by decide +kernel
theorem cw_isN143 : cw_isN 143 = true := by decide +kernel
theorem cw_isN144 : cw_isN 144 = true := by decide +kernel
theorem cw_isN145 : cw_isN 145 = true := by decide +kernel
theorem cw_isN146 : cw_isN 146 = true := by decide +kernel
theorem cw_isN147 : cw_isN 147 = true := by decide +kernel
theorem cw_isN148 : cw_isN 148 = true := by decide +kernel
theorem cw_isN149 : cw_isN 149 = true := by decide +kernel
theorem cw_isN150 : cw_isN 150 = true := by decide +kernel
theorem cw_isN151 : cw_isN 151 = true := by decide +kernel
theorem cw_isN152 : cw_isN 152 = true := by decide +kernel
theorem cw_isN153 : cw_isN 153 = true := by decide +kernel
theorem cw_isN154 : cw_isN 154 = true := by decide +kernel
theorem cw_isN155 : cw_isN 155 = true := by decide +kernel
theorem cw_isN156 : cw_isN 156 = true := by decide +kernel
theorem cw_isN157 : cw_isN 157 = true := by decide +kernel
theorem cw_isN158 : cw_isN 158 = true := by decide +kernel
theorem cw_isN159 : cw_isN 159 = true := by decide +kernel
theorem cw_isN160 : cw_isN 160 = true := by decide +kernel
theorem cw_isN161 : cw_isN 161 = true := by decide +kernel
theorem cw_isN162 : cw_isN 162 = true := by decide +kernel
theorem cw_isN163 : cw_isN 163 = true := by decide +kernel
theorem cw_isN164 : cw_isN 164 = true := by decide +kernel
theorem cw_isN165 : cw_isN 165 = true := by decide +kernel
theorem cw_isN166 : cw_isN 166 = true := by decide +kernel
theorem cw_isN167 : cw_isN 167 = true := by decide +kernel
theorem cw_isN168 : cw_isN 168 = true := by decide +kernel
theorem cw_isN169 : cw_isN 169 = true := by decide +kernel
theorem cw_isN170 : cw_isN 170 = true := by decide +kernel
theorem cw_isN171 : cw_isN 171 = true := by decide +kernel
theorem cw_isN172 : cw_isN 172 = true := by decide +kernel
theorem cw_isN173 : cw_isN 173 = true := by decide +kernel
theorem cw_isN174 : cw_isN 174 = true := by decide +kernel
theorem cw_isN175 : cw_isN 175 = true := by decide +kernel
theorem cw_isN176 : cw_isN 176 = true := by decide +kernel
theorem cw_isN177 : cw_isN 177 = true := by decide +kernel
theorem cw_isN178 : cw_isN 178 = true := by decide +kernel
theorem cw_isN179 : cw_isN 179 = true := by decide +kernel
theorem cw_isN180 : cw_isN 180 = true := by decide +kernel
theorem cw_isN181 : cw_isN 181 = true := by decide +kernel
theorem cw_isN182 : cw_isN 182 = true := by decide +kernel
theorem cw_isN183 : cw_isN 183 = true := by decide +kernel
theorem cw_isN184 : cw_isN 184 = true := by decide +kernel
theorem cw_isN185 : cw_isN 185 = true := by decide +kernel
theorem cw_isN186 : cw_isN 186 = true := by decide +kernel
theorem cw_isN187 : cw_isN 187 = true := by decide +kernel
theorem cw_isN188 : cw_isN 188 = true := by decide +kernel
theorem cw_isN189 : cw_isN 189 = true := by decide +kernel
theorem cw_isN190 : cw_isN 190 = true := by decide +kernel
theorem cw_isN191 : cw_isN 191 = true := by decide +kernel
theorem cw_isN192 : cw_isN 192 = true := by decide +kernel
theorem cw_isN193 : cw_isN 193 = true := by decide +kernel
theorem cw_isN194 : cw_isN 194 = true := by decide +kernel
